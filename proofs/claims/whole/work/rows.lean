section
-- ===== PART A: goes FIRST, ahead of the names: the tables' words, and 'selects' of the private methods out of them =====
/-- a private method of a class that the tables say can be made, by its rows of tables_1 -/
def lw_okq (q : MethodName × Nat) : Prop := (q.1.cls ≠ "java/lang/invoke/MethodHandle" ∧ q.1.cls ≠ "java/lang/invoke/VarHandle") ∧ Cond.instantiable q.1.cls q.2 ∈ tables_1 ∧ Cond.privateMethod q.1 ∈ tables_1 ∧ Cond.instanceMethod q.1 ∈ tables_1
theorem lw_p0 : lw_okq (⟨"SolidRows$Hull", "tryFace", "(III)V"⟩, 8) := ⟨⟨by decide +kernel, by decide +kernel⟩, List.mem_of_getElem? (i := 43) (by decide +kernel), List.mem_of_getElem? (i := 211) (by decide +kernel), List.mem_of_getElem? (i := 212) (by decide +kernel)⟩
theorem lw_p1 : lw_okq (⟨"SolidRows$Hull", "isKnown", "(I)Z"⟩, 8) := ⟨⟨by decide +kernel, by decide +kernel⟩, List.mem_of_getElem? (i := 43) (by decide +kernel), List.mem_of_getElem? (i := 215) (by decide +kernel), List.mem_of_getElem? (i := 216) (by decide +kernel)⟩
theorem lw_p2 : lw_okq (⟨"SolidRows$Outline", "sidesTaken", "()I"⟩, 9) := ⟨⟨by decide +kernel, by decide +kernel⟩, List.mem_of_getElem? (i := 50) (by decide +kernel), List.mem_of_getElem? (i := 241) (by decide +kernel), List.mem_of_getElem? (i := 242) (by decide +kernel)⟩
theorem lw_p3 : lw_okq (⟨"SolidRows$Outline", "turnOutward", "(I)Z"⟩, 9) := ⟨⟨by decide +kernel, by decide +kernel⟩, List.mem_of_getElem? (i := 50) (by decide +kernel), List.mem_of_getElem? (i := 245) (by decide +kernel), List.mem_of_getElem? (i := 246) (by decide +kernel)⟩
theorem lw_p4 : lw_okq (⟨"SolidRows$Outline", "following", "(I)I"⟩, 9) := ⟨⟨by decide +kernel, by decide +kernel⟩, List.mem_of_getElem? (i := 50) (by decide +kernel), List.mem_of_getElem? (i := 265) (by decide +kernel), List.mem_of_getElem? (i := 266) (by decide +kernel)⟩
theorem lw_p5 : lw_okq (⟨"SolidRows$Hull", "settle", "()V"⟩, 8) := ⟨⟨by decide +kernel, by decide +kernel⟩, List.mem_of_getElem? (i := 43) (by decide +kernel), List.mem_of_getElem? (i := 270) (by decide +kernel), List.mem_of_getElem? (i := 271) (by decide +kernel)⟩
theorem lw_p6 : lw_okq (⟨"SolidRows$Hull", "join", "()V"⟩, 8) := ⟨⟨by decide +kernel, by decide +kernel⟩, List.mem_of_getElem? (i := 43) (by decide +kernel), List.mem_of_getElem? (i := 278) (by decide +kernel), List.mem_of_getElem? (i := 279) (by decide +kernel)⟩
theorem lw_p7 : lw_okq (⟨"SolidRows$Hull", "weigh", "()V"⟩, 8) := ⟨⟨by decide +kernel, by decide +kernel⟩, List.mem_of_getElem? (i := 43) (by decide +kernel), List.mem_of_getElem? (i := 283) (by decide +kernel), List.mem_of_getElem? (i := 284) (by decide +kernel)⟩
theorem lw_p8 : lw_okq (⟨"SolidRows$Hull", "weighOne", "(III)V"⟩, 8) := ⟨⟨by decide +kernel, by decide +kernel⟩, List.mem_of_getElem? (i := 43) (by decide +kernel), List.mem_of_getElem? (i := 287) (by decide +kernel), List.mem_of_getElem? (i := 288) (by decide +kernel)⟩
theorem lw_p9 : lw_okq (⟨"SolidRows", "forget", "()V"⟩, 5) := ⟨⟨by decide +kernel, by decide +kernel⟩, List.mem_of_getElem? (i := 12) (by decide +kernel), List.mem_of_getElem? (i := 300) (by decide +kernel), List.mem_of_getElem? (i := 301) (by decide +kernel)⟩
theorem lw_p10 : lw_okq (⟨"SolidRows", "stands", "()Z"⟩, 5) := ⟨⟨by decide +kernel, by decide +kernel⟩, List.mem_of_getElem? (i := 12) (by decide +kernel), List.mem_of_getElem? (i := 312) (by decide +kernel), List.mem_of_getElem? (i := 313) (by decide +kernel)⟩
theorem lw_p11 : lw_okq (⟨"SolidRows$Section", "mix", "(LSolidRows$Cloud;IJIJ)V"⟩, 2) := ⟨⟨by decide +kernel, by decide +kernel⟩, List.mem_of_getElem? (i := 137) (by decide +kernel), List.mem_of_getElem? (i := 389) (by decide +kernel), List.mem_of_getElem? (i := 390) (by decide +kernel)⟩
theorem lw_p12 : lw_okq (⟨"SolidRows$Section", "insert", "(JJJJ)V"⟩, 2) := ⟨⟨by decide +kernel, by decide +kernel⟩, List.mem_of_getElem? (i := 137) (by decide +kernel), List.mem_of_getElem? (i := 394) (by decide +kernel), List.mem_of_getElem? (i := 395) (by decide +kernel)⟩
theorem lw_p13 : lw_okq (⟨"SolidRows$Section", "leads", "(JJJJI)Z"⟩, 2) := ⟨⟨by decide +kernel, by decide +kernel⟩, List.mem_of_getElem? (i := 137) (by decide +kernel), List.mem_of_getElem? (i := 398) (by decide +kernel), List.mem_of_getElem? (i := 399) (by decide +kernel)⟩
theorem lw_p14 : lw_okq (⟨"SolidRows$Hull", "besideAny", "(I)I"⟩, 8) := ⟨⟨by decide +kernel, by decide +kernel⟩, List.mem_of_getElem? (i := 43) (by decide +kernel), List.mem_of_getElem? (i := 449) (by decide +kernel), List.mem_of_getElem? (i := 450) (by decide +kernel)⟩
theorem lw_p15 : lw_okq (⟨"SolidRows", "listed", "()I"⟩, 5) := ⟨⟨by decide +kernel, by decide +kernel⟩, List.mem_of_getElem? (i := 12) (by decide +kernel), List.mem_of_getElem? (i := 457) (by decide +kernel), List.mem_of_getElem? (i := 458) (by decide +kernel)⟩
def lw_privs_1 : List (MethodName × Nat) := [(⟨"SolidRows$Hull", "tryFace", "(III)V"⟩, 8), (⟨"SolidRows$Hull", "isKnown", "(I)Z"⟩, 8), (⟨"SolidRows$Outline", "sidesTaken", "()I"⟩, 9), (⟨"SolidRows$Outline", "turnOutward", "(I)Z"⟩, 9), (⟨"SolidRows$Outline", "following", "(I)I"⟩, 9), (⟨"SolidRows$Hull", "settle", "()V"⟩, 8), (⟨"SolidRows$Hull", "join", "()V"⟩, 8), (⟨"SolidRows$Hull", "weigh", "()V"⟩, 8), (⟨"SolidRows$Hull", "weighOne", "(III)V"⟩, 8), (⟨"SolidRows", "forget", "()V"⟩, 5), (⟨"SolidRows", "stands", "()Z"⟩, 5), (⟨"SolidRows$Section", "mix", "(LSolidRows$Cloud;IJIJ)V"⟩, 2), (⟨"SolidRows$Section", "insert", "(JJJJ)V"⟩, 2), (⟨"SolidRows$Section", "leads", "(JJJJI)Z"⟩, 2), (⟨"SolidRows$Hull", "besideAny", "(I)I"⟩, 8), (⟨"SolidRows", "listed", "()I"⟩, 5)]
theorem lw_r1 : ∀ q ∈ lw_privs_1, lw_okq q := List.forall_mem_cons.mpr ⟨lw_p0, List.forall_mem_cons.mpr ⟨lw_p1, List.forall_mem_cons.mpr ⟨lw_p2, List.forall_mem_cons.mpr ⟨lw_p3, List.forall_mem_cons.mpr ⟨lw_p4, List.forall_mem_cons.mpr ⟨lw_p5, List.forall_mem_cons.mpr ⟨lw_p6, List.forall_mem_cons.mpr ⟨lw_p7, List.forall_mem_cons.mpr ⟨lw_p8, List.forall_mem_cons.mpr ⟨lw_p9, List.forall_mem_cons.mpr ⟨lw_p10, List.forall_mem_cons.mpr ⟨lw_p11, List.forall_mem_cons.mpr ⟨lw_p12, List.forall_mem_cons.mpr ⟨lw_p13, List.forall_mem_cons.mpr ⟨lw_p14, List.forall_mem_cons.mpr ⟨lw_p15, fun _ h => absurd h List.not_mem_nil⟩⟩⟩⟩⟩⟩⟩⟩⟩⟩⟩⟩⟩⟩⟩⟩
theorem lw_p16 : lw_okq (⟨"SolidRows$Motions", "extend", "(II)V"⟩, 4) := ⟨⟨by decide +kernel, by decide +kernel⟩, List.mem_of_getElem? (i := 151) (by decide +kernel), List.mem_of_getElem? (i := 465) (by decide +kernel), List.mem_of_getElem? (i := 466) (by decide +kernel)⟩
theorem lw_p17 : lw_okq (⟨"SolidRows$Motions", "keep", "()V"⟩, 4) := ⟨⟨by decide +kernel, by decide +kernel⟩, List.mem_of_getElem? (i := 151) (by decide +kernel), List.mem_of_getElem? (i := 470) (by decide +kernel), List.mem_of_getElem? (i := 471) (by decide +kernel)⟩
theorem lw_p18 : lw_okq (⟨"SolidRows$Motions", "fits", "(II)Z"⟩, 4) := ⟨⟨by decide +kernel, by decide +kernel⟩, List.mem_of_getElem? (i := 151) (by decide +kernel), List.mem_of_getElem? (i := 476) (by decide +kernel), List.mem_of_getElem? (i := 477) (by decide +kernel)⟩
theorem lw_p19 : lw_okq (⟨"SolidRows", "isSymmetry", "(I)Z"⟩, 5) := ⟨⟨by decide +kernel, by decide +kernel⟩, List.mem_of_getElem? (i := 12) (by decide +kernel), List.mem_of_getElem? (i := 488) (by decide +kernel), List.mem_of_getElem? (i := 489) (by decide +kernel)⟩
theorem lw_p20 : lw_okq (⟨"SolidRows$Motions", "ringLength", "(II)I"⟩, 4) := ⟨⟨by decide +kernel, by decide +kernel⟩, List.mem_of_getElem? (i := 151) (by decide +kernel), List.mem_of_getElem? (i := 515) (by decide +kernel), List.mem_of_getElem? (i := 516) (by decide +kernel)⟩
theorem lw_p21 : lw_okq (⟨"SolidRowsModel", "noSolid", "()Z"⟩, 36) := ⟨⟨by decide +kernel, by decide +kernel⟩, List.mem_of_getElem? (i := 524) (by decide +kernel), List.mem_of_getElem? (i := 654) (by decide +kernel), List.mem_of_getElem? (i := 655) (by decide +kernel)⟩
theorem lw_p22 : lw_okq (⟨"SolidRowsModel", "build", "()V"⟩, 36) := ⟨⟨by decide +kernel, by decide +kernel⟩, List.mem_of_getElem? (i := 524) (by decide +kernel), List.mem_of_getElem? (i := 658) (by decide +kernel), List.mem_of_getElem? (i := 659) (by decide +kernel)⟩
theorem lw_p23 : lw_okq (⟨"SolidRowsModel", "tryPlane", "(III)V"⟩, 36) := ⟨⟨by decide +kernel, by decide +kernel⟩, List.mem_of_getElem? (i := 524) (by decide +kernel), List.mem_of_getElem? (i := 662) (by decide +kernel), List.mem_of_getElem? (i := 663) (by decide +kernel)⟩
theorem lw_p24 : lw_okq (⟨"SolidRowsModel", "cross", "(III)V"⟩, 36) := ⟨⟨by decide +kernel, by decide +kernel⟩, List.mem_of_getElem? (i := 524) (by decide +kernel), List.mem_of_getElem? (i := 666) (by decide +kernel), List.mem_of_getElem? (i := 667) (by decide +kernel)⟩
theorem lw_p25 : lw_okq (⟨"SolidRowsModel", "height", "(I)I"⟩, 36) := ⟨⟨by decide +kernel, by decide +kernel⟩, List.mem_of_getElem? (i := 524) (by decide +kernel), List.mem_of_getElem? (i := 670) (by decide +kernel), List.mem_of_getElem? (i := 671) (by decide +kernel)⟩
theorem lw_p26 : lw_okq (⟨"SolidRowsModel", "facesOf", "(I)I"⟩, 36) := ⟨⟨by decide +kernel, by decide +kernel⟩, List.mem_of_getElem? (i := 524) (by decide +kernel), List.mem_of_getElem? (i := 677) (by decide +kernel), List.mem_of_getElem? (i := 678) (by decide +kernel)⟩
theorem lw_p27 : lw_okq (⟨"SolidRowsModel", "layRound", "(I)V"⟩, 36) := ⟨⟨by decide +kernel, by decide +kernel⟩, List.mem_of_getElem? (i := 524) (by decide +kernel), List.mem_of_getElem? (i := 681) (by decide +kernel), List.mem_of_getElem? (i := 682) (by decide +kernel)⟩
theorem lw_p28 : lw_okq (⟨"SolidRowsModel", "isNext", "(III)Z"⟩, 36) := ⟨⟨by decide +kernel, by decide +kernel⟩, List.mem_of_getElem? (i := 524) (by decide +kernel), List.mem_of_getElem? (i := 685) (by decide +kernel), List.mem_of_getElem? (i := 686) (by decide +kernel)⟩
theorem lw_p29 : lw_okq (⟨"SolidRowsModel", "isBefore", "(II)Z"⟩, 36) := ⟨⟨by decide +kernel, by decide +kernel⟩, List.mem_of_getElem? (i := 524) (by decide +kernel), List.mem_of_getElem? (i := 689) (by decide +kernel), List.mem_of_getElem? (i := 690) (by decide +kernel)⟩
theorem lw_p30 : lw_okq (⟨"SolidRowsModel", "isEdge", "(II)Z"⟩, 36) := ⟨⟨by decide +kernel, by decide +kernel⟩, List.mem_of_getElem? (i := 524) (by decide +kernel), List.mem_of_getElem? (i := 701) (by decide +kernel), List.mem_of_getElem? (i := 702) (by decide +kernel)⟩
theorem lw_p31 : lw_okq (⟨"SolidRowsModel", "isCorner", "(I)Z"⟩, 36) := ⟨⟨by decide +kernel, by decide +kernel⟩, List.mem_of_getElem? (i := 524) (by decide +kernel), List.mem_of_getElem? (i := 705) (by decide +kernel), List.mem_of_getElem? (i := 706) (by decide +kernel)⟩
def lw_privs_2 : List (MethodName × Nat) := [(⟨"SolidRows$Motions", "extend", "(II)V"⟩, 4), (⟨"SolidRows$Motions", "keep", "()V"⟩, 4), (⟨"SolidRows$Motions", "fits", "(II)Z"⟩, 4), (⟨"SolidRows", "isSymmetry", "(I)Z"⟩, 5), (⟨"SolidRows$Motions", "ringLength", "(II)I"⟩, 4), (⟨"SolidRowsModel", "noSolid", "()Z"⟩, 36), (⟨"SolidRowsModel", "build", "()V"⟩, 36), (⟨"SolidRowsModel", "tryPlane", "(III)V"⟩, 36), (⟨"SolidRowsModel", "cross", "(III)V"⟩, 36), (⟨"SolidRowsModel", "height", "(I)I"⟩, 36), (⟨"SolidRowsModel", "facesOf", "(I)I"⟩, 36), (⟨"SolidRowsModel", "layRound", "(I)V"⟩, 36), (⟨"SolidRowsModel", "isNext", "(III)Z"⟩, 36), (⟨"SolidRowsModel", "isBefore", "(II)Z"⟩, 36), (⟨"SolidRowsModel", "isEdge", "(II)Z"⟩, 36), (⟨"SolidRowsModel", "isCorner", "(I)Z"⟩, 36)]
theorem lw_r2 : ∀ q ∈ lw_privs_2, lw_okq q := List.forall_mem_cons.mpr ⟨lw_p16, List.forall_mem_cons.mpr ⟨lw_p17, List.forall_mem_cons.mpr ⟨lw_p18, List.forall_mem_cons.mpr ⟨lw_p19, List.forall_mem_cons.mpr ⟨lw_p20, List.forall_mem_cons.mpr ⟨lw_p21, List.forall_mem_cons.mpr ⟨lw_p22, List.forall_mem_cons.mpr ⟨lw_p23, List.forall_mem_cons.mpr ⟨lw_p24, List.forall_mem_cons.mpr ⟨lw_p25, List.forall_mem_cons.mpr ⟨lw_p26, List.forall_mem_cons.mpr ⟨lw_p27, List.forall_mem_cons.mpr ⟨lw_p28, List.forall_mem_cons.mpr ⟨lw_p29, List.forall_mem_cons.mpr ⟨lw_p30, List.forall_mem_cons.mpr ⟨lw_p31, fun _ h => absurd h List.not_mem_nil⟩⟩⟩⟩⟩⟩⟩⟩⟩⟩⟩⟩⟩⟩⟩⟩
theorem lw_p32 : lw_okq (⟨"SolidRowsModel", "weigh", "()V"⟩, 36) := ⟨⟨by decide +kernel, by decide +kernel⟩, List.mem_of_getElem? (i := 524) (by decide +kernel), List.mem_of_getElem? (i := 730) (by decide +kernel), List.mem_of_getElem? (i := 731) (by decide +kernel)⟩
theorem lw_p33 : lw_okq (⟨"SolidRowsModel", "tetrahedron", "(III)V"⟩, 36) := ⟨⟨by decide +kernel, by decide +kernel⟩, List.mem_of_getElem? (i := 524) (by decide +kernel), List.mem_of_getElem? (i := 734) (by decide +kernel), List.mem_of_getElem? (i := 735) (by decide +kernel)⟩
theorem lw_p34 : lw_okq (⟨"SolidRowsModel", "lies", "(IIIII)J"⟩, 36) := ⟨⟨by decide +kernel, by decide +kernel⟩, List.mem_of_getElem? (i := 524) (by decide +kernel), List.mem_of_getElem? (i := 760) (by decide +kernel), List.mem_of_getElem? (i := 761) (by decide +kernel)⟩
theorem lw_p35 : lw_okq (⟨"SolidRowsModel", "addCut", "(JJJJ)V"⟩, 36) := ⟨⟨by decide +kernel, by decide +kernel⟩, List.mem_of_getElem? (i := 524) (by decide +kernel), List.mem_of_getElem? (i := 764) (by decide +kernel), List.mem_of_getElem? (i := 765) (by decide +kernel)⟩
theorem lw_p36 : lw_okq (⟨"SolidRowsModel", "compare", "(II)I"⟩, 36) := ⟨⟨by decide +kernel, by decide +kernel⟩, List.mem_of_getElem? (i := 524) (by decide +kernel), List.mem_of_getElem? (i := 768) (by decide +kernel), List.mem_of_getElem? (i := 769) (by decide +kernel)⟩
theorem lw_p37 : lw_okq (⟨"SolidRowsModel", "swap", "([JII)V"⟩, 36) := ⟨⟨by decide +kernel, by decide +kernel⟩, List.mem_of_getElem? (i := 524) (by decide +kernel), List.mem_of_getElem? (i := 772) (by decide +kernel), List.mem_of_getElem? (i := 773) (by decide +kernel)⟩
theorem lw_p38 : lw_okq (⟨"SolidRowsModel", "stands", "(I)Z"⟩, 36) := ⟨⟨by decide +kernel, by decide +kernel⟩, List.mem_of_getElem? (i := 524) (by decide +kernel), List.mem_of_getElem? (i := 784) (by decide +kernel), List.mem_of_getElem? (i := 785) (by decide +kernel)⟩
theorem lw_p39 : lw_okq (⟨"SolidRowsModel", "isSame", "(II)Z"⟩, 36) := ⟨⟨by decide +kernel, by decide +kernel⟩, List.mem_of_getElem? (i := 524) (by decide +kernel), List.mem_of_getElem? (i := 788) (by decide +kernel), List.mem_of_getElem? (i := 789) (by decide +kernel)⟩
theorem lw_p40 : lw_okq (⟨"SolidRowsModel", "isBetween", "(III)Z"⟩, 36) := ⟨⟨by decide +kernel, by decide +kernel⟩, List.mem_of_getElem? (i := 524) (by decide +kernel), List.mem_of_getElem? (i := 792) (by decide +kernel), List.mem_of_getElem? (i := 793) (by decide +kernel)⟩
theorem lw_p41 : lw_okq (⟨"SolidRowsModel", "side", "(III)J"⟩, 36) := ⟨⟨by decide +kernel, by decide +kernel⟩, List.mem_of_getElem? (i := 524) (by decide +kernel), List.mem_of_getElem? (i := 796) (by decide +kernel), List.mem_of_getElem? (i := 797) (by decide +kernel)⟩
theorem lw_p42 : lw_okq (⟨"SolidRowsModel", "isInTriangle", "(IIII)Z"⟩, 36) := ⟨⟨by decide +kernel, by decide +kernel⟩, List.mem_of_getElem? (i := 524) (by decide +kernel), List.mem_of_getElem? (i := 800) (by decide +kernel), List.mem_of_getElem? (i := 801) (by decide +kernel)⟩
theorem lw_p43 : lw_okq (⟨"SolidRowsModel", "buildTurns", "()V"⟩, 36) := ⟨⟨by decide +kernel, by decide +kernel⟩, List.mem_of_getElem? (i := 524) (by decide +kernel), List.mem_of_getElem? (i := 816) (by decide +kernel), List.mem_of_getElem? (i := 817) (by decide +kernel)⟩
theorem lw_p44 : lw_okq (⟨"SolidRowsModel", "findBase", "()V"⟩, 36) := ⟨⟨by decide +kernel, by decide +kernel⟩, List.mem_of_getElem? (i := 524) (by decide +kernel), List.mem_of_getElem? (i := 820) (by decide +kernel), List.mem_of_getElem? (i := 821) (by decide +kernel)⟩
theorem lw_p45 : lw_okq (⟨"SolidRowsModel", "sense", "(IIII)I"⟩, 36) := ⟨⟨by decide +kernel, by decide +kernel⟩, List.mem_of_getElem? (i := 524) (by decide +kernel), List.mem_of_getElem? (i := 824) (by decide +kernel), List.mem_of_getElem? (i := 825) (by decide +kernel)⟩
theorem lw_p46 : lw_okq (⟨"SolidRowsModel", "tryGoals", "()V"⟩, 36) := ⟨⟨by decide +kernel, by decide +kernel⟩, List.mem_of_getElem? (i := 524) (by decide +kernel), List.mem_of_getElem? (i := 828) (by decide +kernel), List.mem_of_getElem? (i := 829) (by decide +kernel)⟩
theorem lw_p47 : lw_okq (⟨"SolidRowsModel", "fits", "(I)Z"⟩, 36) := ⟨⟨by decide +kernel, by decide +kernel⟩, List.mem_of_getElem? (i := 524) (by decide +kernel), List.mem_of_getElem? (i := 832) (by decide +kernel), List.mem_of_getElem? (i := 833) (by decide +kernel)⟩
def lw_privs_3 : List (MethodName × Nat) := [(⟨"SolidRowsModel", "weigh", "()V"⟩, 36), (⟨"SolidRowsModel", "tetrahedron", "(III)V"⟩, 36), (⟨"SolidRowsModel", "lies", "(IIIII)J"⟩, 36), (⟨"SolidRowsModel", "addCut", "(JJJJ)V"⟩, 36), (⟨"SolidRowsModel", "compare", "(II)I"⟩, 36), (⟨"SolidRowsModel", "swap", "([JII)V"⟩, 36), (⟨"SolidRowsModel", "stands", "(I)Z"⟩, 36), (⟨"SolidRowsModel", "isSame", "(II)Z"⟩, 36), (⟨"SolidRowsModel", "isBetween", "(III)Z"⟩, 36), (⟨"SolidRowsModel", "side", "(III)J"⟩, 36), (⟨"SolidRowsModel", "isInTriangle", "(IIII)Z"⟩, 36), (⟨"SolidRowsModel", "buildTurns", "()V"⟩, 36), (⟨"SolidRowsModel", "findBase", "()V"⟩, 36), (⟨"SolidRowsModel", "sense", "(IIII)I"⟩, 36), (⟨"SolidRowsModel", "tryGoals", "()V"⟩, 36), (⟨"SolidRowsModel", "fits", "(I)Z"⟩, 36)]
theorem lw_r3 : ∀ q ∈ lw_privs_3, lw_okq q := List.forall_mem_cons.mpr ⟨lw_p32, List.forall_mem_cons.mpr ⟨lw_p33, List.forall_mem_cons.mpr ⟨lw_p34, List.forall_mem_cons.mpr ⟨lw_p35, List.forall_mem_cons.mpr ⟨lw_p36, List.forall_mem_cons.mpr ⟨lw_p37, List.forall_mem_cons.mpr ⟨lw_p38, List.forall_mem_cons.mpr ⟨lw_p39, List.forall_mem_cons.mpr ⟨lw_p40, List.forall_mem_cons.mpr ⟨lw_p41, List.forall_mem_cons.mpr ⟨lw_p42, List.forall_mem_cons.mpr ⟨lw_p43, List.forall_mem_cons.mpr ⟨lw_p44, List.forall_mem_cons.mpr ⟨lw_p45, List.forall_mem_cons.mpr ⟨lw_p46, List.forall_mem_cons.mpr ⟨lw_p47, fun _ h => absurd h List.not_mem_nil⟩⟩⟩⟩⟩⟩⟩⟩⟩⟩⟩⟩⟩⟩⟩⟩
theorem lw_p48 : lw_okq (⟨"SolidRowsModel", "apart", "(II)I"⟩, 36) := ⟨⟨by decide +kernel, by decide +kernel⟩, List.mem_of_getElem? (i := 524) (by decide +kernel), List.mem_of_getElem? (i := 836) (by decide +kernel), List.mem_of_getElem? (i := 837) (by decide +kernel)⟩
theorem lw_p49 : lw_okq (⟨"SolidRowsModel", "addTurn", "()V"⟩, 36) := ⟨⟨by decide +kernel, by decide +kernel⟩, List.mem_of_getElem? (i := 524) (by decide +kernel), List.mem_of_getElem? (i := 840) (by decide +kernel), List.mem_of_getElem? (i := 841) (by decide +kernel)⟩
theorem lw_p50 : lw_okq (⟨"SolidRowsModel", "imageOf", "(I)I"⟩, 36) := ⟨⟨by decide +kernel, by decide +kernel⟩, List.mem_of_getElem? (i := 524) (by decide +kernel), List.mem_of_getElem? (i := 844) (by decide +kernel), List.mem_of_getElem? (i := 845) (by decide +kernel)⟩
theorem lw_p51 : lw_okq (⟨"SolidRowsModel", "isEarlier", "(II)Z"⟩, 36) := ⟨⟨by decide +kernel, by decide +kernel⟩, List.mem_of_getElem? (i := 524) (by decide +kernel), List.mem_of_getElem? (i := 848) (by decide +kernel), List.mem_of_getElem? (i := 849) (by decide +kernel)⟩
theorem lw_p52 : lw_okq (⟨"SolidRowsModel", "noTurn", "(I)Z"⟩, 36) := ⟨⟨by decide +kernel, by decide +kernel⟩, List.mem_of_getElem? (i := 524) (by decide +kernel), List.mem_of_getElem? (i := 856) (by decide +kernel), List.mem_of_getElem? (i := 857) (by decide +kernel)⟩
theorem lw_p53 : lw_okq (⟨"SolidRowsModel", "isTaken", "(IIIIII)Z"⟩, 36) := ⟨⟨by decide +kernel, by decide +kernel⟩, List.mem_of_getElem? (i := 524) (by decide +kernel), List.mem_of_getElem? (i := 872) (by decide +kernel), List.mem_of_getElem? (i := 873) (by decide +kernel)⟩
theorem lw_p54 : lw_okq (⟨"SolidRowsModel", "imageBits", "(II)I"⟩, 36) := ⟨⟨by decide +kernel, by decide +kernel⟩, List.mem_of_getElem? (i := 524) (by decide +kernel), List.mem_of_getElem? (i := 876) (by decide +kernel), List.mem_of_getElem? (i := 877) (by decide +kernel)⟩
def lw_privs_4 : List (MethodName × Nat) := [(⟨"SolidRowsModel", "apart", "(II)I"⟩, 36), (⟨"SolidRowsModel", "addTurn", "()V"⟩, 36), (⟨"SolidRowsModel", "imageOf", "(I)I"⟩, 36), (⟨"SolidRowsModel", "isEarlier", "(II)Z"⟩, 36), (⟨"SolidRowsModel", "noTurn", "(I)Z"⟩, 36), (⟨"SolidRowsModel", "isTaken", "(IIIIII)Z"⟩, 36), (⟨"SolidRowsModel", "imageBits", "(II)I"⟩, 36)]
theorem lw_r4 : ∀ q ∈ lw_privs_4, lw_okq q := List.forall_mem_cons.mpr ⟨lw_p48, List.forall_mem_cons.mpr ⟨lw_p49, List.forall_mem_cons.mpr ⟨lw_p50, List.forall_mem_cons.mpr ⟨lw_p51, List.forall_mem_cons.mpr ⟨lw_p52, List.forall_mem_cons.mpr ⟨lw_p53, List.forall_mem_cons.mpr ⟨lw_p54, fun _ h => absurd h List.not_mem_nil⟩⟩⟩⟩⟩⟩⟩
def lw_privs : List (MethodName × Nat) := lw_privs_1 ++ (lw_privs_2 ++ (lw_privs_3 ++ (lw_privs_4)))
def lw_tbl : List Cond := k2_sels lw_privs ++ tables_1
theorem lw_privs_ok : ∀ q ∈ lw_privs, lw_okq q := by
  show ∀ q ∈ lw_privs_1 ++ (lw_privs_2 ++ (lw_privs_3 ++ (lw_privs_4))), lw_okq q
  exact List.forall_mem_append.mpr ⟨lw_r1, List.forall_mem_append.mpr ⟨lw_r2, List.forall_mem_append.mpr ⟨lw_r3, lw_r4⟩⟩⟩
end
section
-- printed: names, fields
def RX0 : String := "SolidRows$Cloud"
def TX0 : u_T := fun k => match k with
  | 0 => ("SolidRows$Cloud", "count", "I", false)
  | 1 => ("SolidRows$Cloud", "xs", "[I", true)
  | 2 => ("SolidRows$Cloud", "ys", "[I", true)
  | _ => ("SolidRows$Cloud", "zs", "[I", true)
def tyX0 : Nat → FieldType := fun k => match k with
  | 0 => .int
  | 1 => .array .int
  | 2 => .array .int
  | _ => .array .int
theorem nmX0 : ∀ a, a < 4 → ∀ b, b < 4 → a ≠ b → (TX0 a).2.1 ≠ (TX0 b).2.1 := by decide +kernel
theorem tyX0_ok : ∀ k, k < 4 → parseFieldDescriptor (TX0 k).2.2.1 = some (tyX0 k) := by decide +kernel
abbrev cX0_init : ByteArray := prog_2_method_1_code
def yX0_init : MethodName := ⟨RX0, "<init>", "()V"⟩
abbrev cX0_has : ByteArray := prog_2_method_2_code
def yX0_has : MethodName := ⟨RX0, "has", "(III)Z"⟩
abbrev cX0_add : ByteArray := prog_2_method_3_code
def yX0_add : MethodName := ⟨RX0, "add", "(III)V"⟩
abbrev cX0_number : ByteArray := prog_2_method_4_code
def yX0_number : MethodName := ⟨RX0, "number", "(II)I"⟩
abbrev cX0_sum : ByteArray := prog_2_method_5_code
def yX0_sum : MethodName := ⟨RX0, "sum", "(IJJJ)J"⟩
abbrev cX0_swing : ByteArray := prog_2_method_6_code
def yX0_swing : MethodName := ⟨RX0, "swing", "(IIIJJJ)J"⟩
abbrev cX0_spread : ByteArray := prog_2_method_7_code
def yX0_spread : MethodName := ⟨RX0, "spread", "(IIJJJ)J"⟩
abbrev cX0_distance : ByteArray := prog_2_method_8_code
def yX0_distance : MethodName := ⟨RX0, "distance", "(II)I"⟩
abbrev cX0_box : ByteArray := prog_2_method_9_code
def yX0_box : MethodName := ⟨RX0, "box", "(IIII)J"⟩
def RX1 : String := "SolidRows$Hull"
def TX1 : u_T := fun k => match k with
  | 0 => ("SolidRows$Hull", "cloud", "LSolidRows$Cloud;", true)
  | 1 => ("SolidRows$Hull", "rounds", "[LSolidRows$Outline;", true)
  | 2 => ("SolidRows$Hull", "faceCount", "I", false)
  | 3 => ("SolidRows$Hull", "edgeCount", "I", false)
  | 4 => ("SolidRows$Hull", "cornerBits", "I", false)
  | 5 => ("SolidRows$Hull", "beside", "[I", true)
  | 6 => ("SolidRows$Hull", "sixfold", "J", false)
  | _ => ("SolidRows$Hull", "moments", "[J", true)
def tyX1 : Nat → FieldType := fun k => match k with
  | 0 => .object "SolidRows$Cloud"
  | 1 => .array (.object "SolidRows$Outline")
  | 2 => .int
  | 3 => .int
  | 4 => .int
  | 5 => .array .int
  | 6 => .long
  | _ => .array .long
theorem nmX1 : ∀ a, a < 8 → ∀ b, b < 8 → a ≠ b → (TX1 a).2.1 ≠ (TX1 b).2.1 := by decide +kernel
theorem tyX1_ok : ∀ k, k < 8 → parseFieldDescriptor (TX1 k).2.2.1 = some (tyX1 k) := by decide +kernel
abbrev cX1_init : ByteArray := prog_3_method_1_code
def yX1_init : MethodName := ⟨RX1, "<init>", "(LSolidRows$Cloud;)V"⟩
abbrev cX1_hasFace : ByteArray := prog_3_method_2_code
def yX1_hasFace : MethodName := ⟨RX1, "hasFace", "(I)Z"⟩
abbrev cX1_isCorner : ByteArray := prog_3_method_3_code
def yX1_isCorner : MethodName := ⟨RX1, "isCorner", "(I)Z"⟩
abbrev cX1_build : ByteArray := prog_3_method_4_code
def yX1_build : MethodName := ⟨RX1, "build", "()V"⟩
abbrev cX1_tryFace : ByteArray := prog_3_method_5_code
def yX1_tryFace : MethodName := ⟨RX1, "tryFace", "(III)V"⟩
abbrev cX1_isKnown : ByteArray := prog_3_method_6_code
def yX1_isKnown : MethodName := ⟨RX1, "isKnown", "(I)Z"⟩
abbrev cX1_settle : ByteArray := prog_3_method_7_code
def yX1_settle : MethodName := ⟨RX1, "settle", "()V"⟩
abbrev cX1_join : ByteArray := prog_3_method_8_code
def yX1_join : MethodName := ⟨RX1, "join", "()V"⟩
abbrev cX1_weigh : ByteArray := prog_3_method_9_code
def yX1_weigh : MethodName := ⟨RX1, "weigh", "()V"⟩
abbrev cX1_weighOne : ByteArray := prog_3_method_10_code
def yX1_weighOne : MethodName := ⟨RX1, "weighOne", "(III)V"⟩
abbrev cX1_place : ByteArray := prog_3_method_11_code
def yX1_place : MethodName := ⟨RX1, "place", "(JJJJ)I"⟩
abbrev cX1_greatest : ByteArray := prog_3_method_12_code
def yX1_greatest : MethodName := ⟨RX1, "greatest", "(JJJ)J"⟩
abbrev cX1_cornersAt : ByteArray := prog_3_method_13_code
def yX1_cornersAt : MethodName := ⟨RX1, "cornersAt", "(JJJJ)I"⟩
abbrev cX1_steps : ByteArray := prog_3_method_14_code
def yX1_steps : MethodName := ⟨RX1, "steps", "(II)I"⟩
abbrev cX1_besideAny : ByteArray := prog_3_method_15_code
def yX1_besideAny : MethodName := ⟨RX1, "besideAny", "(I)I"⟩
def RX2 : String := "SolidRows$Motions"
def TX2 : u_T := fun k => match k with
  | 0 => ("SolidRows$Motions", "hull", "LSolidRows$Hull;", true)
  | 1 => ("SolidRows$Motions", "count", "I", false)
  | 2 => ("SolidRows$Motions", "images", "[I", true)
  | _ => ("SolidRows$Motions", "draft", "[I", true)
def tyX2 : Nat → FieldType := fun k => match k with
  | 0 => .object "SolidRows$Hull"
  | 1 => .int
  | 2 => .array .int
  | _ => .array .int
theorem nmX2 : ∀ a, a < 4 → ∀ b, b < 4 → a ≠ b → (TX2 a).2.1 ≠ (TX2 b).2.1 := by decide +kernel
theorem tyX2_ok : ∀ k, k < 4 → parseFieldDescriptor (TX2 k).2.2.1 = some (tyX2 k) := by decide +kernel
abbrev cX2_init : ByteArray := prog_4_method_1_code
def yX2_init : MethodName := ⟨RX2, "<init>", "(LSolidRows$Hull;)V"⟩
abbrev cX2_image : ByteArray := prog_4_method_2_code
def yX2_image : MethodName := ⟨RX2, "image", "(II)I"⟩
abbrev cX2_list : ByteArray := prog_4_method_3_code
def yX2_list : MethodName := ⟨RX2, "list", "()V"⟩
abbrev cX2_extend : ByteArray := prog_4_method_4_code
def yX2_extend : MethodName := ⟨RX2, "extend", "(II)V"⟩
abbrev cX2_fits : ByteArray := prog_4_method_5_code
def yX2_fits : MethodName := ⟨RX2, "fits", "(II)Z"⟩
abbrev cX2_keep : ByteArray := prog_4_method_6_code
def yX2_keep : MethodName := ⟨RX2, "keep", "()V"⟩
abbrev cX2_keepsHands : ByteArray := prog_4_method_7_code
def yX2_keepsHands : MethodName := ⟨RX2, "keepsHands", "(I)Z"⟩
abbrev cX2_period : ByteArray := prog_4_method_8_code
def yX2_period : MethodName := ⟨RX2, "period", "(I)I"⟩
abbrev cX2_ringLength : ByteArray := prog_4_method_9_code
def yX2_ringLength : MethodName := ⟨RX2, "ringLength", "(II)I"⟩
def RX3 : String := "SolidRows$Outline"
def TX3 : u_T := fun k => match k with
  | 0 => ("SolidRows$Outline", "cloud", "LSolidRows$Cloud;", true)
  | 1 => ("SolidRows$Outline", "a", "J", false)
  | 2 => ("SolidRows$Outline", "b", "J", false)
  | 3 => ("SolidRows$Outline", "c", "J", false)
  | 4 => ("SolidRows$Outline", "level", "J", false)
  | 5 => ("SolidRows$Outline", "seen", "I", false)
  | 6 => ("SolidRows$Outline", "met", "I", false)
  | 7 => ("SolidRows$Outline", "length", "I", false)
  | _ => ("SolidRows$Outline", "row", "[I", true)
def tyX3 : Nat → FieldType := fun k => match k with
  | 0 => .object "SolidRows$Cloud"
  | 1 => .long
  | 2 => .long
  | 3 => .long
  | 4 => .long
  | 5 => .int
  | 6 => .int
  | 7 => .int
  | _ => .array .int
theorem nmX3 : ∀ a, a < 9 → ∀ b, b < 9 → a ≠ b → (TX3 a).2.1 ≠ (TX3 b).2.1 := by decide +kernel
theorem tyX3_ok : ∀ k, k < 9 → parseFieldDescriptor (TX3 k).2.2.1 = some (tyX3 k) := by decide +kernel
abbrev cX3_init : ByteArray := prog_5_method_1_code
def yX3_init : MethodName := ⟨RX3, "<init>", "(LSolidRows$Cloud;)V"⟩
abbrev cX3_look : ByteArray := prog_5_method_2_code
def yX3_look : MethodName := ⟨RX3, "look", "(JJJI)V"⟩
abbrev cX3_face : ByteArray := prog_5_method_3_code
def yX3_face : MethodName := ⟨RX3, "face", "(III)Z"⟩
abbrev cX3_sidesTaken : ByteArray := prog_5_method_4_code
def yX3_sidesTaken : MethodName := ⟨RX3, "sidesTaken", "()I"⟩
abbrev cX3_turnOutward : ByteArray := prog_5_method_5_code
def yX3_turnOutward : MethodName := ⟨RX3, "turnOutward", "(I)Z"⟩
abbrev cX3_rim : ByteArray := prog_5_method_6_code
def yX3_rim : MethodName := ⟨RX3, "rim", "()I"⟩
abbrev cX3_trace : ByteArray := prog_5_method_7_code
def yX3_trace : MethodName := ⟨RX3, "trace", "(I)V"⟩
abbrev cX3_following : ByteArray := prog_5_method_8_code
def yX3_following : MethodName := ⟨RX3, "following", "(I)I"⟩
abbrev cX3_leads : ByteArray := prog_5_method_9_code
def yX3_leads : MethodName := ⟨RX3, "leads", "(LSolidRows$Outline;)Z"⟩
def RX4 : String := "SolidRows$Section"
def TX4 : u_T := fun k => match k with
  | 0 => ("SolidRows$Section", "count", "I", false)
  | _ => ("SolidRows$Section", "numbers", "[J", true)
def tyX4 : Nat → FieldType := fun k => match k with
  | 0 => .int
  | _ => .array .long
theorem nmX4 : ∀ a, a < 2 → ∀ b, b < 2 → a ≠ b → (TX4 a).2.1 ≠ (TX4 b).2.1 := by decide +kernel
theorem tyX4_ok : ∀ k, k < 2 → parseFieldDescriptor (TX4 k).2.2.1 = some (tyX4 k) := by decide +kernel
abbrev cX4_init : ByteArray := prog_6_method_1_code
def yX4_init : MethodName := ⟨RX4, "<init>", "()V"⟩
abbrev cX4_number : ByteArray := prog_6_method_2_code
def yX4_number : MethodName := ⟨RX4, "number", "(II)J"⟩
abbrev cX4_slice : ByteArray := prog_6_method_3_code
def yX4_slice : MethodName := ⟨RX4, "slice", "(LSolidRows$Hull;JJJJ)V"⟩
abbrev cX4_mix : ByteArray := prog_6_method_4_code
def yX4_mix : MethodName := ⟨RX4, "mix", "(LSolidRows$Cloud;IJIJ)V"⟩
abbrev cX4_insert : ByteArray := prog_6_method_5_code
def yX4_insert : MethodName := ⟨RX4, "insert", "(JJJJ)V"⟩
abbrev cX4_leads : ByteArray := prog_6_method_6_code
def yX4_leads : MethodName := ⟨RX4, "leads", "(JJJJI)Z"⟩
def RX5 : String := "SolidRows"
def TX5 : u_T := fun k => match k with
  | 0 => ("SolidRows", "cloud", "LSolidRows$Cloud;", true)
  | 1 => ("SolidRows", "hull", "LSolidRows$Hull;", true)
  | 2 => ("SolidRows", "section", "LSolidRows$Section;", true)
  | 3 => ("SolidRows", "motions", "LSolidRows$Motions;", true)
  | _ => ("SolidRows", "shade", "LSolidRows$Outline;", true)
def tyX5 : Nat → FieldType := fun k => match k with
  | 0 => .object "SolidRows$Cloud"
  | 1 => .object "SolidRows$Hull"
  | 2 => .object "SolidRows$Section"
  | 3 => .object "SolidRows$Motions"
  | _ => .object "SolidRows$Outline"
theorem nmX5 : ∀ a, a < 5 → ∀ b, b < 5 → a ≠ b → (TX5 a).2.1 ≠ (TX5 b).2.1 := by decide +kernel
theorem tyX5_ok : ∀ k, k < 5 → parseFieldDescriptor (TX5 k).2.2.1 = some (tyX5 k) := by decide +kernel
abbrev cX5_init : ByteArray := prog_1_method_1_code
def yX5_init : MethodName := ⟨RX5, "<init>", "()V"⟩
abbrev cX5_point : ByteArray := prog_1_method_2_code
def yX5_point : MethodName := ⟨RX5, "point", "(III)I"⟩
abbrev cX5_clear : ByteArray := prog_1_method_3_code
def yX5_clear : MethodName := ⟨RX5, "clear", "()I"⟩
abbrev cX5_flat : ByteArray := prog_1_method_4_code
def yX5_flat : MethodName := ⟨RX5, "flat", "()Z"⟩
abbrev cX5_corners : ByteArray := prog_1_method_5_code
def yX5_corners : MethodName := ⟨RX5, "corners", "()I"⟩
abbrev cX5_edges : ByteArray := prog_1_method_6_code
def yX5_edges : MethodName := ⟨RX5, "edges", "()I"⟩
abbrev cX5_faces : ByteArray := prog_1_method_7_code
def yX5_faces : MethodName := ⟨RX5, "faces", "()I"⟩
abbrev cX5_size : ByteArray := prog_1_method_8_code
def yX5_size : MethodName := ⟨RX5, "size", "(I)I"⟩
abbrev cX5_at : ByteArray := prog_1_method_9_code
def yX5_at : MethodName := ⟨RX5, "at", "(II)I"⟩
abbrev cX5_normal : ByteArray := prog_1_method_10_code
def yX5_normal : MethodName := ⟨RX5, "normal", "(II)J"⟩
abbrev cX5_volume : ByteArray := prog_1_method_11_code
def yX5_volume : MethodName := ⟨RX5, "volume", "()J"⟩
abbrev cX5_middle : ByteArray := prog_1_method_12_code
def yX5_middle : MethodName := ⟨RX5, "middle", "(II)J"⟩
abbrev cX5_where : ByteArray := prog_1_method_13_code
def yX5_where : MethodName := ⟨RX5, "where", "(IIII)I"⟩
abbrev cX5_cut : ByteArray := prog_1_method_14_code
def yX5_cut : MethodName := ⟨RX5, "cut", "(IIII)I"⟩
abbrev cX5_cutAt : ByteArray := prog_1_method_15_code
def yX5_cutAt : MethodName := ⟨RX5, "cutAt", "(III)J"⟩
abbrev cX5_shadow : ByteArray := prog_1_method_16_code
def yX5_shadow : MethodName := ⟨RX5, "shadow", "(III)I"⟩
abbrev cX5_far : ByteArray := prog_1_method_17_code
def yX5_far : MethodName := ⟨RX5, "far", "(IIII)J"⟩
abbrev cX5_way : ByteArray := prog_1_method_18_code
def yX5_way : MethodName := ⟨RX5, "way", "(II)I"⟩
abbrev cX5_symmetries : ByteArray := prog_1_method_19_code
def yX5_symmetries : MethodName := ⟨RX5, "symmetries", "()I"⟩
abbrev cX5_symmetry : ByteArray := prog_1_method_20_code
def yX5_symmetry : MethodName := ⟨RX5, "symmetry", "(II)I"⟩
abbrev cX5_turn : ByteArray := prog_1_method_21_code
def yX5_turn : MethodName := ⟨RX5, "turn", "(I)I"⟩
abbrev cX5_order : ByteArray := prog_1_method_22_code
def yX5_order : MethodName := ⟨RX5, "order", "(I)I"⟩
abbrev cX5_regular : ByteArray := prog_1_method_23_code
def yX5_regular : MethodName := ⟨RX5, "regular", "()I"⟩
abbrev cX5_forget : ByteArray := prog_1_method_24_code
def yX5_forget : MethodName := ⟨RX5, "forget", "()V"⟩
abbrev cX5_stands : ByteArray := prog_1_method_25_code
def yX5_stands : MethodName := ⟨RX5, "stands", "()Z"⟩
abbrev cX5_listed : ByteArray := prog_1_method_26_code
def yX5_listed : MethodName := ⟨RX5, "listed", "()I"⟩
abbrev cX5_isSymmetry : ByteArray := prog_1_method_27_code
def yX5_isSymmetry : MethodName := ⟨RX5, "isSymmetry", "(I)Z"⟩
abbrev cX5_within : ByteArray := prog_1_method_28_code
def yX5_within : MethodName := ⟨RX5, "within", "(II)Z"⟩
abbrev cX5_isAxis : ByteArray := prog_1_method_29_code
def yX5_isAxis : MethodName := ⟨RX5, "isAxis", "(I)Z"⟩
abbrev cX5_isPart : ByteArray := prog_1_method_30_code
def yX5_isPart : MethodName := ⟨RX5, "isPart", "(I)Z"⟩
abbrev cX5_isPoint : ByteArray := prog_1_method_31_code
def yX5_isPoint : MethodName := ⟨RX5, "isPoint", "(I)Z"⟩
abbrev cX5_isDirection : ByteArray := prog_1_method_32_code
def yX5_isDirection : MethodName := ⟨RX5, "isDirection", "(III)Z"⟩
abbrev cX5_fraction : ByteArray := prog_1_method_33_code
def yX5_fraction : MethodName := ⟨RX5, "fraction", "(JJI)J"⟩
abbrev cX5_divisor : ByteArray := prog_1_method_34_code
def yX5_divisor : MethodName := ⟨RX5, "divisor", "(JJ)J"⟩
def RX6 : String := "SolidRowsModel"
def TX6 : u_T := fun k => match k with
  | 0 => ("SolidRowsModel", "points", "I", false)
  | 1 => ("SolidRowsModel", "px", "[I", true)
  | 2 => ("SolidRowsModel", "py", "[I", true)
  | 3 => ("SolidRowsModel", "pz", "[I", true)
  | 4 => ("SolidRowsModel", "built", "Z", false)
  | 5 => ("SolidRowsModel", "turnsBuilt", "Z", false)
  | 6 => ("SolidRowsModel", "isFlat", "Z", false)
  | 7 => ("SolidRowsModel", "corners", "I", false)
  | 8 => ("SolidRowsModel", "faces", "I", false)
  | 9 => ("SolidRowsModel", "faceBits", "[I", true)
  | 10 => ("SolidRowsModel", "faceSize", "[I", true)
  | 11 => ("SolidRowsModel", "faceRow", "[I", true)
  | 12 => ("SolidRowsModel", "nx", "[I", true)
  | 13 => ("SolidRowsModel", "ny", "[I", true)
  | 14 => ("SolidRowsModel", "nz", "[I", true)
  | 15 => ("SolidRowsModel", "level", "[I", true)
  | 16 => ("SolidRowsModel", "ax", "I", false)
  | 17 => ("SolidRowsModel", "ay", "I", false)
  | 18 => ("SolidRowsModel", "az", "I", false)
  | 19 => ("SolidRowsModel", "faceAt", "[I", true)
  | 20 => ("SolidRowsModel", "six", "J", false)
  | 21 => ("SolidRowsModel", "sumX", "J", false)
  | 22 => ("SolidRowsModel", "sumY", "J", false)
  | 23 => ("SolidRowsModel", "sumZ", "J", false)
  | 24 => ("SolidRowsModel", "cutMany", "I", false)
  | 25 => ("SolidRowsModel", "cutX", "[J", true)
  | 26 => ("SolidRowsModel", "cutY", "[J", true)
  | 27 => ("SolidRowsModel", "cutZ", "[J", true)
  | 28 => ("SolidRowsModel", "cutDown", "[J", true)
  | 29 => ("SolidRowsModel", "su", "[J", true)
  | 30 => ("SolidRowsModel", "sv", "[J", true)
  | 31 => ("SolidRowsModel", "turns", "I", false)
  | 32 => ("SolidRowsModel", "image", "[I", true)
  | 33 => ("SolidRowsModel", "rank", "[I", true)
  | 34 => ("SolidRowsModel", "base", "[I", true)
  | _ => ("SolidRowsModel", "goal", "[I", true)
def tyX6 : Nat → FieldType := fun k => match k with
  | 0 => .int
  | 1 => .array .int
  | 2 => .array .int
  | 3 => .array .int
  | 4 => .boolean
  | 5 => .boolean
  | 6 => .boolean
  | 7 => .int
  | 8 => .int
  | 9 => .array .int
  | 10 => .array .int
  | 11 => .array .int
  | 12 => .array .int
  | 13 => .array .int
  | 14 => .array .int
  | 15 => .array .int
  | 16 => .int
  | 17 => .int
  | 18 => .int
  | 19 => .array .int
  | 20 => .long
  | 21 => .long
  | 22 => .long
  | 23 => .long
  | 24 => .int
  | 25 => .array .long
  | 26 => .array .long
  | 27 => .array .long
  | 28 => .array .long
  | 29 => .array .long
  | 30 => .array .long
  | 31 => .int
  | 32 => .array .int
  | 33 => .array .int
  | 34 => .array .int
  | _ => .array .int
theorem nmX6 : ∀ a, a < 36 → ∀ b, b < 36 → a ≠ b → (TX6 a).2.1 ≠ (TX6 b).2.1 := by decide +kernel
theorem tyX6_ok : ∀ k, k < 36 → parseFieldDescriptor (TX6 k).2.2.1 = some (tyX6 k) := by decide +kernel
abbrev cX6_init : ByteArray := prog_8_method_1_code
def yX6_init : MethodName := ⟨RX6, "<init>", "()V"⟩
abbrev cX6_in : ByteArray := prog_8_method_2_code
def yX6_in : MethodName := ⟨RX6, "in", "(III)Z"⟩
abbrev cX6_point : ByteArray := prog_8_method_3_code
def yX6_point : MethodName := ⟨RX6, "point", "(III)I"⟩
abbrev cX6_clear : ByteArray := prog_8_method_4_code
def yX6_clear : MethodName := ⟨RX6, "clear", "()I"⟩
abbrev cX6_cross : ByteArray := prog_8_method_5_code
def yX6_cross : MethodName := ⟨RX6, "cross", "(III)V"⟩
abbrev cX6_height : ByteArray := prog_8_method_6_code
def yX6_height : MethodName := ⟨RX6, "height", "(I)I"⟩
abbrev cX6_divisor : ByteArray := prog_8_method_7_code
def yX6_divisor : MethodName := ⟨RX6, "divisor", "(II)I"⟩
abbrev cX6_tryPlane : ByteArray := prog_8_method_8_code
def yX6_tryPlane : MethodName := ⟨RX6, "tryPlane", "(III)V"⟩
abbrev cX6_facesOf : ByteArray := prog_8_method_9_code
def yX6_facesOf : MethodName := ⟨RX6, "facesOf", "(I)I"⟩
abbrev cX6_isNext : ByteArray := prog_8_method_10_code
def yX6_isNext : MethodName := ⟨RX6, "isNext", "(III)Z"⟩
abbrev cX6_layRound : ByteArray := prog_8_method_11_code
def yX6_layRound : MethodName := ⟨RX6, "layRound", "(I)V"⟩
abbrev cX6_isBefore : ByteArray := prog_8_method_12_code
def yX6_isBefore : MethodName := ⟨RX6, "isBefore", "(II)Z"⟩
abbrev cX6_build : ByteArray := prog_8_method_13_code
def yX6_build : MethodName := ⟨RX6, "build", "()V"⟩
abbrev cX6_noSolid : ByteArray := prog_8_method_14_code
def yX6_noSolid : MethodName := ⟨RX6, "noSolid", "()Z"⟩
abbrev cX6_flat : ByteArray := prog_8_method_15_code
def yX6_flat : MethodName := ⟨RX6, "flat", "()Z"⟩
abbrev cX6_isCorner : ByteArray := prog_8_method_16_code
def yX6_isCorner : MethodName := ⟨RX6, "isCorner", "(I)Z"⟩
abbrev cX6_isEdge : ByteArray := prog_8_method_17_code
def yX6_isEdge : MethodName := ⟨RX6, "isEdge", "(II)Z"⟩
abbrev cX6_corners : ByteArray := prog_8_method_18_code
def yX6_corners : MethodName := ⟨RX6, "corners", "()I"⟩
abbrev cX6_edges : ByteArray := prog_8_method_19_code
def yX6_edges : MethodName := ⟨RX6, "edges", "()I"⟩
abbrev cX6_faces : ByteArray := prog_8_method_20_code
def yX6_faces : MethodName := ⟨RX6, "faces", "()I"⟩
abbrev cX6_size : ByteArray := prog_8_method_21_code
def yX6_size : MethodName := ⟨RX6, "size", "(I)I"⟩
abbrev cX6_at : ByteArray := prog_8_method_22_code
def yX6_at : MethodName := ⟨RX6, "at", "(II)I"⟩
abbrev cX6_normal : ByteArray := prog_8_method_23_code
def yX6_normal : MethodName := ⟨RX6, "normal", "(II)J"⟩
abbrev cX6_tetrahedron : ByteArray := prog_8_method_24_code
def yX6_tetrahedron : MethodName := ⟨RX6, "tetrahedron", "(III)V"⟩
abbrev cX6_weigh : ByteArray := prog_8_method_25_code
def yX6_weigh : MethodName := ⟨RX6, "weigh", "()V"⟩
abbrev cX6_volume : ByteArray := prog_8_method_26_code
def yX6_volume : MethodName := ⟨RX6, "volume", "()J"⟩
abbrev cX6_part : ByteArray := prog_8_method_27_code
def yX6_part : MethodName := ⟨RX6, "part", "(JJI)J"⟩
abbrev cX6_middle : ByteArray := prog_8_method_28_code
def yX6_middle : MethodName := ⟨RX6, "middle", "(II)J"⟩
abbrev cX6_where : ByteArray := prog_8_method_29_code
def yX6_where : MethodName := ⟨RX6, "where", "(IIII)I"⟩
abbrev cX6_isDirection : ByteArray := prog_8_method_30_code
def yX6_isDirection : MethodName := ⟨RX6, "isDirection", "(III)Z"⟩
abbrev cX6_lies : ByteArray := prog_8_method_31_code
def yX6_lies : MethodName := ⟨RX6, "lies", "(IIIII)J"⟩
abbrev cX6_compare : ByteArray := prog_8_method_32_code
def yX6_compare : MethodName := ⟨RX6, "compare", "(II)I"⟩
abbrev cX6_swap : ByteArray := prog_8_method_33_code
def yX6_swap : MethodName := ⟨RX6, "swap", "([JII)V"⟩
abbrev cX6_addCut : ByteArray := prog_8_method_34_code
def yX6_addCut : MethodName := ⟨RX6, "addCut", "(JJJJ)V"⟩
abbrev cX6_cut : ByteArray := prog_8_method_35_code
def yX6_cut : MethodName := ⟨RX6, "cut", "(IIII)I"⟩
abbrev cX6_cutAt : ByteArray := prog_8_method_36_code
def yX6_cutAt : MethodName := ⟨RX6, "cutAt", "(III)J"⟩
abbrev cX6_side : ByteArray := prog_8_method_37_code
def yX6_side : MethodName := ⟨RX6, "side", "(III)J"⟩
abbrev cX6_isSame : ByteArray := prog_8_method_38_code
def yX6_isSame : MethodName := ⟨RX6, "isSame", "(II)Z"⟩
abbrev cX6_isBetween : ByteArray := prog_8_method_39_code
def yX6_isBetween : MethodName := ⟨RX6, "isBetween", "(III)Z"⟩
abbrev cX6_isInTriangle : ByteArray := prog_8_method_40_code
def yX6_isInTriangle : MethodName := ⟨RX6, "isInTriangle", "(IIII)Z"⟩
abbrev cX6_stands : ByteArray := prog_8_method_41_code
def yX6_stands : MethodName := ⟨RX6, "stands", "(I)Z"⟩
abbrev cX6_shadow : ByteArray := prog_8_method_42_code
def yX6_shadow : MethodName := ⟨RX6, "shadow", "(III)I"⟩
abbrev cX6_far : ByteArray := prog_8_method_43_code
def yX6_far : MethodName := ⟨RX6, "far", "(IIII)J"⟩
abbrev cX6_way : ByteArray := prog_8_method_44_code
def yX6_way : MethodName := ⟨RX6, "way", "(II)I"⟩
abbrev cX6_apart : ByteArray := prog_8_method_45_code
def yX6_apart : MethodName := ⟨RX6, "apart", "(II)I"⟩
abbrev cX6_sense : ByteArray := prog_8_method_46_code
def yX6_sense : MethodName := ⟨RX6, "sense", "(IIII)I"⟩
abbrev cX6_findBase : ByteArray := prog_8_method_47_code
def yX6_findBase : MethodName := ⟨RX6, "findBase", "()V"⟩
abbrev cX6_fits : ByteArray := prog_8_method_48_code
def yX6_fits : MethodName := ⟨RX6, "fits", "(I)Z"⟩
abbrev cX6_imageOf : ByteArray := prog_8_method_49_code
def yX6_imageOf : MethodName := ⟨RX6, "imageOf", "(I)I"⟩
abbrev cX6_addTurn : ByteArray := prog_8_method_50_code
def yX6_addTurn : MethodName := ⟨RX6, "addTurn", "()V"⟩
abbrev cX6_tryGoals : ByteArray := prog_8_method_51_code
def yX6_tryGoals : MethodName := ⟨RX6, "tryGoals", "()V"⟩
abbrev cX6_isEarlier : ByteArray := prog_8_method_52_code
def yX6_isEarlier : MethodName := ⟨RX6, "isEarlier", "(II)Z"⟩
abbrev cX6_buildTurns : ByteArray := prog_8_method_53_code
def yX6_buildTurns : MethodName := ⟨RX6, "buildTurns", "()V"⟩
abbrev cX6_symmetries : ByteArray := prog_8_method_54_code
def yX6_symmetries : MethodName := ⟨RX6, "symmetries", "()I"⟩
abbrev cX6_noTurn : ByteArray := prog_8_method_55_code
def yX6_noTurn : MethodName := ⟨RX6, "noTurn", "(I)Z"⟩
abbrev cX6_symmetry : ByteArray := prog_8_method_56_code
def yX6_symmetry : MethodName := ⟨RX6, "symmetry", "(II)I"⟩
abbrev cX6_turn : ByteArray := prog_8_method_57_code
def yX6_turn : MethodName := ⟨RX6, "turn", "(I)I"⟩
abbrev cX6_order : ByteArray := prog_8_method_58_code
def yX6_order : MethodName := ⟨RX6, "order", "(I)I"⟩
abbrev cX6_imageBits : ByteArray := prog_8_method_59_code
def yX6_imageBits : MethodName := ⟨RX6, "imageBits", "(II)I"⟩
abbrev cX6_isTaken : ByteArray := prog_8_method_60_code
def yX6_isTaken : MethodName := ⟨RX6, "isTaken", "(IIIIII)Z"⟩
abbrev cX6_regular : ByteArray := prog_8_method_61_code
def yX6_regular : MethodName := ⟨RX6, "regular", "()I"⟩
def RJ6 : String := "java/lang/Integer"
def TJ6 : u_T := fun k => match k with
  | _ => ("", "", "", false)
def tyJ6 : Nat → FieldType := fun k => match k with
  | _ => .int
theorem nmJ6 : ∀ a, a < 0 → ∀ b, b < 0 → a ≠ b → (TJ6 a).2.1 ≠ (TJ6 b).2.1 := by decide +kernel
theorem tyJ6_ok : ∀ k, k < 0 → parseFieldDescriptor (TJ6 k).2.2.1 = some (tyJ6 k) := by decide +kernel
abbrev cJ6_numberOfTrailingZeros_0f7a4 : ByteArray := prog_9_method_48_code
def yJ6_numberOfTrailingZeros_0f7a4 : MethodName := ⟨RJ6, "numberOfTrailingZeros", "(I)I"⟩
def RJ9 : String := "java/lang/Math"
def TJ9 : u_T := fun k => match k with
  | _ => ("", "", "", false)
def tyJ9 : Nat → FieldType := fun k => match k with
  | _ => .int
theorem nmJ9 : ∀ a, a < 0 → ∀ b, b < 0 → a ≠ b → (TJ9 a).2.1 ≠ (TJ9 b).2.1 := by decide +kernel
theorem tyJ9_ok : ∀ k, k < 0 → parseFieldDescriptor (TJ9 k).2.2.1 = some (tyJ9 k) := by decide +kernel
abbrev cJ9_abs_067f4 : ByteArray := prog_10_method_61_code
def yJ9_abs_067f4 : MethodName := ⟨RJ9, "abs", "(J)J"⟩
abbrev cJ9_max_f86c9 : ByteArray := prog_10_method_66_code
def yJ9_max_f86c9 : MethodName := ⟨RJ9, "max", "(JJ)J"⟩
def RJ10 : String := "java/lang/System"
def TJ10 : u_T := fun k => match k with
  | _ => ("", "", "", false)
def tyJ10 : Nat → FieldType := fun k => match k with
  | _ => .int
theorem nmJ10 : ∀ a, a < 0 → ∀ b, b < 0 → a ≠ b → (TJ10 a).2.1 ≠ (TJ10 b).2.1 := by decide +kernel
theorem tyJ10_ok : ∀ k, k < 0 → parseFieldDescriptor (TJ10 k).2.2.1 = some (tyJ10 k) := by decide +kernel
def RL : String := "SolidRowsLaw"
def yL_law : MethodName := ⟨RL, "law", "([I)Z"⟩
end
section
abbrev xI : Type := Instr × Nat × Int × Nat × Nat
/-- a method: its class, its name, its bytes, its locals, what it returns; then its code by place -/
abbrev xH : Type := Nat × MethodName × ByteArray × Nat × Option FieldType × Nat × Nat
abbrev xM : Type := xH × List (Option xI)
abbrev xcl : List vw_C := [(RX0, TX0, 4), (RX1, TX1, 8), (RX2, TX2, 4), (RX3, TX3, 9), (RX4, TX4, 2), (RX5, TX5, 5), (RX6, TX6, 36)]
def xown : List String := [RX0, RX1, RX2, RX3, RX4, RX5, RX6, RJ6, RJ9]
def xhX0_init : xH := (0, yX0_init, cX0_init, 1, none, 2, 0)
def xhX0_has : xH := (0, yX0_has, cX0_has, 5, (some .boolean), 1, 3)
def xhX5_isPoint : xH := (5, yX5_isPoint, cX5_isPoint, 1, (some .boolean), 0, 1)
def xhX0_add : xH := (0, yX0_add, cX0_add, 4, none, 1, 3)
def xhX0_number : xH := (0, yX0_number, cX0_number, 3, (some .int), 1, 2)
def xhX0_sum : xH := (0, yX0_sum, cX0_sum, 8, (some .long), 1, 4)
def xhX0_swing : xH := (0, yX0_swing, cX0_swing, 22, (some .long), 1, 6)
def xhX0_spread : xH := (0, yX0_spread, cX0_spread, 21, (some .long), 1, 5)
def xhX0_distance : xH := (0, yX0_distance, cX0_distance, 6, (some .int), 1, 2)
def xhX0_box : xH := (0, yX0_box, cX0_box, 5, (some .long), 1, 4)
def xhX3_init : xH := (3, yX3_init, cX3_init, 2, none, 2, 1)
def xhX1_init : xH := (1, yX1_init, cX1_init, 3, none, 2, 1)
def xhX1_hasFace : xH := (1, yX1_hasFace, cX1_hasFace, 2, (some .boolean), 1, 1)
def xhX1_isCorner : xH := (1, yX1_isCorner, cX1_isCorner, 2, (some .boolean), 1, 1)
def xhX1_isKnown : xH := (1, yX1_isKnown, cX1_isKnown, 3, (some .boolean), 1, 1)
def xhX5_divisor : xH := (5, yX5_divisor, cX5_divisor, 11, (some .long), 0, 2)
def xhX3_look : xH := (3, yX3_look, cX3_look, 8, none, 1, 4)
def xhX3_sidesTaken : xH := (3, yX3_sidesTaken, cX3_sidesTaken, 5, (some .int), 1, 0)
def xhX3_turnOutward : xH := (3, yX3_turnOutward, cX3_turnOutward, 2, (some .boolean), 1, 1)
def xhX3_face : xH := (3, yX3_face, cX3_face, 12, (some .boolean), 1, 3)
def xhJ6_numberOfTrailingZeros_0f7a4 : xH := (7, yJ6_numberOfTrailingZeros_0f7a4, cJ6_numberOfTrailingZeros_0f7a4, 2, (some .int), 0, 1)
def xhX3_rim : xH := (3, yX3_rim, cX3_rim, 8, (some .int), 1, 0)
def xhX3_following : xH := (3, yX3_following, cX3_following, 10, (some .int), 1, 1)
def xhX3_trace : xH := (3, yX3_trace, cX3_trace, 4, none, 1, 1)
def xhX3_leads : xH := (3, yX3_leads, cX3_leads, 3, (some .boolean), 1, 1)
def xhX1_settle : xH := (1, yX1_settle, cX1_settle, 3, none, 1, 0)
def xhX1_tryFace : xH := (1, yX1_tryFace, cX1_tryFace, 5, none, 1, 3)
def xhX1_join : xH := (1, yX1_join, cX1_join, 7, none, 1, 0)
def xhX1_weighOne : xH := (1, yX1_weighOne, cX1_weighOne, 8, none, 1, 3)
def xhX1_weigh : xH := (1, yX1_weigh, cX1_weigh, 4, none, 1, 0)
def xhX1_build : xH := (1, yX1_build, cX1_build, 4, none, 1, 0)
def xhX1_place : xH := (1, yX1_place, cX1_place, 14, (some .int), 1, 4)
def xhX1_greatest : xH := (1, yX1_greatest, cX1_greatest, 10, (some .long), 1, 3)
def xhX1_cornersAt : xH := (1, yX1_cornersAt, cX1_cornersAt, 11, (some .int), 1, 4)
def xhX1_besideAny : xH := (1, yX1_besideAny, cX1_besideAny, 4, (some .int), 1, 1)
def xhX1_steps : xH := (1, yX1_steps, cX1_steps, 5, (some .int), 1, 2)
def xhX2_init : xH := (2, yX2_init, cX2_init, 2, none, 2, 1)
def xhX2_image : xH := (2, yX2_image, cX2_image, 3, (some .int), 1, 2)
def xhX2_keep : xH := (2, yX2_keep, cX2_keep, 1, none, 1, 0)
def xhX2_fits : xH := (2, yX2_fits, cX2_fits, 4, (some .boolean), 1, 2)
def xhX2_extend : xH := (2, yX2_extend, cX2_extend, 4, none, 1, 2)
def xhX2_list : xH := (2, yX2_list, cX2_list, 1, none, 1, 0)
def xhX2_keepsHands : xH := (2, yX2_keepsHands, cX2_keepsHands, 9, (some .boolean), 1, 1)
def xhX2_ringLength : xH := (2, yX2_ringLength, cX2_ringLength, 5, (some .int), 1, 2)
def xhX2_period : xH := (2, yX2_period, cX2_period, 9, (some .int), 1, 1)
def xhX4_init : xH := (4, yX4_init, cX4_init, 1, none, 2, 0)
def xhX4_number : xH := (4, yX4_number, cX4_number, 3, (some .long), 1, 2)
def xhX4_leads : xH := (4, yX4_leads, cX4_leads, 18, (some .boolean), 1, 5)
def xhX4_insert : xH := (4, yX4_insert, cX4_insert, 10, none, 1, 4)
def xhX4_mix : xH := (4, yX4_mix, cX4_mix, 8, none, 1, 5)
def xhX4_slice : xH := (4, yX4_slice, cX4_slice, 17, none, 1, 5)
def xhX5_init : xH := (5, yX5_init, cX5_init, 1, none, 2, 0)
def xhX5_within : xH := (5, yX5_within, cX5_within, 2, (some .boolean), 0, 2)
def xhX5_forget : xH := (5, yX5_forget, cX5_forget, 1, none, 1, 0)
def xhX5_point : xH := (5, yX5_point, cX5_point, 4, (some .int), 1, 3)
def xhX5_clear : xH := (5, yX5_clear, cX5_clear, 2, (some .int), 1, 0)
def xhX5_stands : xH := (5, yX5_stands, cX5_stands, 1, (some .boolean), 1, 0)
def xhX5_flat : xH := (5, yX5_flat, cX5_flat, 1, (some .boolean), 1, 0)
def xhX5_corners : xH := (5, yX5_corners, cX5_corners, 1, (some .int), 1, 0)
def xhX5_edges : xH := (5, yX5_edges, cX5_edges, 1, (some .int), 1, 0)
def xhX5_faces : xH := (5, yX5_faces, cX5_faces, 1, (some .int), 1, 0)
def xhX5_size : xH := (5, yX5_size, cX5_size, 2, (some .int), 1, 1)
def xhX5_at : xH := (5, yX5_at, cX5_at, 3, (some .int), 1, 2)
def xhX5_normal : xH := (5, yX5_normal, cX5_normal, 4, (some .long), 1, 2)
def xhX5_volume : xH := (5, yX5_volume, cX5_volume, 1, (some .long), 1, 0)
def xhX5_isAxis : xH := (5, yX5_isAxis, cX5_isAxis, 1, (some .boolean), 0, 1)
def xhX5_isPart : xH := (5, yX5_isPart, cX5_isPart, 1, (some .boolean), 0, 1)
def xhX5_fraction : xH := (5, yX5_fraction, cX5_fraction, 7, (some .long), 0, 3)
def xhX5_middle : xH := (5, yX5_middle, cX5_middle, 3, (some .long), 1, 2)
def xhX5_where : xH := (5, yX5_where, cX5_where, 5, (some .int), 1, 4)
def xhX5_isDirection : xH := (5, yX5_isDirection, cX5_isDirection, 4, (some .boolean), 0, 3)
def xhX5_cut : xH := (5, yX5_cut, cX5_cut, 5, (some .int), 1, 4)
def xhX5_cutAt : xH := (5, yX5_cutAt, cX5_cutAt, 4, (some .long), 1, 3)
def xhX5_shadow : xH := (5, yX5_shadow, cX5_shadow, 4, (some .int), 1, 3)
def xhX5_far : xH := (5, yX5_far, cX5_far, 7, (some .long), 1, 4)
def xhX5_way : xH := (5, yX5_way, cX5_way, 3, (some .int), 1, 2)
def xhX5_listed : xH := (5, yX5_listed, cX5_listed, 1, (some .int), 1, 0)
def xhX5_symmetries : xH := (5, yX5_symmetries, cX5_symmetries, 1, (some .int), 1, 0)
def xhX5_isSymmetry : xH := (5, yX5_isSymmetry, cX5_isSymmetry, 2, (some .boolean), 1, 1)
def xhX5_symmetry : xH := (5, yX5_symmetry, cX5_symmetry, 3, (some .int), 1, 2)
def xhX5_turn : xH := (5, yX5_turn, cX5_turn, 2, (some .int), 1, 1)
def xhX5_order : xH := (5, yX5_order, cX5_order, 2, (some .int), 1, 1)
def xhX5_regular : xH := (5, yX5_regular, cX5_regular, 1, (some .int), 1, 0)
def xhX6_init : xH := (6, yX6_init, cX6_init, 1, none, 2, 0)
def xhX6_in : xH := (6, yX6_in, cX6_in, 3, (some .boolean), 0, 3)
def xhX6_point : xH := (6, yX6_point, cX6_point, 5, (some .int), 1, 3)
def xhX6_clear : xH := (6, yX6_clear, cX6_clear, 2, (some .int), 1, 0)
def xhX6_cross : xH := (6, yX6_cross, cX6_cross, 10, none, 1, 3)
def xhX6_height : xH := (6, yX6_height, cX6_height, 2, (some .int), 1, 1)
def xhX6_divisor : xH := (6, yX6_divisor, cX6_divisor, 5, (some .int), 0, 2)
def xhX6_tryPlane : xH := (6, yX6_tryPlane, cX6_tryPlane, 10, none, 1, 3)
def xhX6_facesOf : xH := (6, yX6_facesOf, cX6_facesOf, 4, (some .int), 1, 1)
def xhX6_isNext : xH := (6, yX6_isNext, cX6_isNext, 5, (some .boolean), 1, 3)
def xhX6_layRound : xH := (6, yX6_layRound, cX6_layRound, 8, none, 1, 1)
def xhX6_isBefore : xH := (6, yX6_isBefore, cX6_isBefore, 4, (some .boolean), 1, 2)
def xhX6_build : xH := (6, yX6_build, cX6_build, 4, none, 1, 0)
def xhX6_noSolid : xH := (6, yX6_noSolid, cX6_noSolid, 1, (some .boolean), 1, 0)
def xhX6_flat : xH := (6, yX6_flat, cX6_flat, 1, (some .boolean), 1, 0)
def xhX6_isCorner : xH := (6, yX6_isCorner, cX6_isCorner, 2, (some .boolean), 1, 1)
def xhX6_isEdge : xH := (6, yX6_isEdge, cX6_isEdge, 3, (some .boolean), 1, 2)
def xhX6_corners : xH := (6, yX6_corners, cX6_corners, 1, (some .int), 1, 0)
def xhX6_edges : xH := (6, yX6_edges, cX6_edges, 4, (some .int), 1, 0)
def xhX6_faces : xH := (6, yX6_faces, cX6_faces, 1, (some .int), 1, 0)
def xhX6_size : xH := (6, yX6_size, cX6_size, 2, (some .int), 1, 1)
def xhX6_at : xH := (6, yX6_at, cX6_at, 3, (some .int), 1, 2)
def xhX6_normal : xH := (6, yX6_normal, cX6_normal, 4, (some .long), 1, 2)
def xhX6_tetrahedron : xH := (6, yX6_tetrahedron, cX6_tetrahedron, 6, none, 1, 3)
def xhX6_weigh : xH := (6, yX6_weigh, cX6_weigh, 3, none, 1, 0)
def xhX6_volume : xH := (6, yX6_volume, cX6_volume, 1, (some .long), 1, 0)
def xhX6_part : xH := (6, yX6_part, cX6_part, 11, (some .long), 0, 3)
def xhX6_middle : xH := (6, yX6_middle, cX6_middle, 3, (some .long), 1, 2)
def xhX6_where : xH := (6, yX6_where, cX6_where, 9, (some .int), 1, 4)
def xhX6_isDirection : xH := (6, yX6_isDirection, cX6_isDirection, 3, (some .boolean), 0, 3)
def xhX6_lies : xH := (6, yX6_lies, cX6_lies, 6, (some .long), 1, 5)
def xhX6_compare : xH := (6, yX6_compare, cX6_compare, 5, (some .int), 1, 2)
def xhX6_swap : xH := (6, yX6_swap, cX6_swap, 6, none, 1, 3)
def xhX6_addCut : xH := (6, yX6_addCut, cX6_addCut, 12, none, 1, 4)
def xhX6_cut : xH := (6, yX6_cut, cX6_cut, 11, (some .int), 1, 4)
def xhX6_cutAt : xH := (6, yX6_cutAt, cX6_cutAt, 4, (some .long), 1, 3)
def xhX6_side : xH := (6, yX6_side, cX6_side, 4, (some .long), 1, 3)
def xhX6_isSame : xH := (6, yX6_isSame, cX6_isSame, 3, (some .boolean), 1, 2)
def xhX6_isBetween : xH := (6, yX6_isBetween, cX6_isBetween, 6, (some .boolean), 1, 3)
def xhX6_isInTriangle : xH := (6, yX6_isInTriangle, cX6_isInTriangle, 11, (some .boolean), 1, 4)
def xhX6_stands : xH := (6, yX6_stands, cX6_stands, 5, (some .boolean), 1, 1)
def xhX6_shadow : xH := (6, yX6_shadow, cX6_shadow, 6, (some .int), 1, 3)
def xhX6_far : xH := (6, yX6_far, cX6_far, 11, (some .long), 1, 4)
def xhX6_way : xH := (6, yX6_way, cX6_way, 8, (some .int), 1, 2)
def xhX6_apart : xH := (6, yX6_apart, cX6_apart, 6, (some .int), 1, 2)
def xhX6_sense : xH := (6, yX6_sense, cX6_sense, 5, (some .int), 1, 4)
def xhX6_findBase : xH := (6, yX6_findBase, cX6_findBase, 5, none, 1, 0)
def xhX6_fits : xH := (6, yX6_fits, cX6_fits, 3, (some .boolean), 1, 1)
def xhX6_imageOf : xH := (6, yX6_imageOf, cX6_imageOf, 5, (some .int), 1, 1)
def xhX6_addTurn : xH := (6, yX6_addTurn, cX6_addTurn, 4, none, 1, 0)
def xhX6_tryGoals : xH := (6, yX6_tryGoals, cX6_tryGoals, 2, none, 1, 0)
def xhX6_isEarlier : xH := (6, yX6_isEarlier, cX6_isEarlier, 4, (some .boolean), 1, 2)
def xhX6_buildTurns : xH := (6, yX6_buildTurns, cX6_buildTurns, 4, none, 1, 0)
def xhX6_symmetries : xH := (6, yX6_symmetries, cX6_symmetries, 1, (some .int), 1, 0)
def xhX6_noTurn : xH := (6, yX6_noTurn, cX6_noTurn, 2, (some .boolean), 1, 1)
def xhX6_symmetry : xH := (6, yX6_symmetry, cX6_symmetry, 3, (some .int), 1, 2)
def xhX6_turn : xH := (6, yX6_turn, cX6_turn, 5, (some .int), 1, 1)
def xhX6_order : xH := (6, yX6_order, cX6_order, 8, (some .int), 1, 1)
def xhX6_imageBits : xH := (6, yX6_imageBits, cX6_imageBits, 5, (some .int), 1, 2)
def xhX6_isTaken : xH := (6, yX6_isTaken, cX6_isTaken, 8, (some .boolean), 1, 6)
def xhX6_regular : xH := (6, yX6_regular, cX6_regular, 7, (some .int), 1, 0)
def xhJ9_abs_067f4 : xH := (8, yJ9_abs_067f4, cJ9_abs_067f4, 2, (some .long), 0, 1)
def xhJ9_max_f86c9 : xH := (8, yJ9_max_f86c9, cJ9_max_f86c9, 4, (some .long), 0, 2)
def xHs : List xH := [xhX0_init, xhX0_has, xhX5_isPoint, xhX0_add, xhX0_number, xhX0_sum, xhX0_swing, xhX0_spread, xhX0_distance, xhX0_box, xhX3_init, xhX1_init, xhX1_hasFace, xhX1_isCorner, xhX1_isKnown, xhX5_divisor, xhX3_look, xhX3_sidesTaken, xhX3_turnOutward, xhX3_face, xhJ6_numberOfTrailingZeros_0f7a4, xhX3_rim, xhX3_following, xhX3_trace, xhX3_leads, xhX1_settle, xhX1_tryFace, xhX1_join, xhX1_weighOne, xhX1_weigh, xhX1_build, xhX1_place, xhX1_greatest, xhX1_cornersAt, xhX1_besideAny, xhX1_steps, xhX2_init, xhX2_image, xhX2_keep, xhX2_fits, xhX2_extend, xhX2_list, xhX2_keepsHands, xhX2_ringLength, xhX2_period, xhX4_init, xhX4_number, xhX4_leads, xhX4_insert, xhX4_mix, xhX4_slice, xhX5_init, xhX5_within, xhX5_forget, xhX5_point, xhX5_clear, xhX5_stands, xhX5_flat, xhX5_corners, xhX5_edges, xhX5_faces, xhX5_size, xhX5_at, xhX5_normal, xhX5_volume, xhX5_isAxis, xhX5_isPart, xhX5_fraction, xhX5_middle, xhX5_where, xhX5_isDirection, xhX5_cut, xhX5_cutAt, xhX5_shadow, xhX5_far, xhX5_way, xhX5_listed, xhX5_symmetries, xhX5_isSymmetry, xhX5_symmetry, xhX5_turn, xhX5_order, xhX5_regular, xhX6_init, xhX6_in, xhX6_point, xhX6_clear, xhX6_cross, xhX6_height, xhX6_divisor, xhX6_tryPlane, xhX6_facesOf, xhX6_isNext, xhX6_layRound, xhX6_isBefore, xhX6_build, xhX6_noSolid, xhX6_flat, xhX6_isCorner, xhX6_isEdge, xhX6_corners, xhX6_edges, xhX6_faces, xhX6_size, xhX6_at, xhX6_normal, xhX6_tetrahedron, xhX6_weigh, xhX6_volume, xhX6_part, xhX6_middle, xhX6_where, xhX6_isDirection, xhX6_lies, xhX6_compare, xhX6_swap, xhX6_addCut, xhX6_cut, xhX6_cutAt, xhX6_side, xhX6_isSame, xhX6_isBetween, xhX6_isInTriangle, xhX6_stands, xhX6_shadow, xhX6_far, xhX6_way, xhX6_apart, xhX6_sense, xhX6_findBase, xhX6_fits, xhX6_imageOf, xhX6_addTurn, xhX6_tryGoals, xhX6_isEarlier, xhX6_buildTurns, xhX6_symmetries, xhX6_noTurn, xhX6_symmetry, xhX6_turn, xhX6_order, xhX6_imageBits, xhX6_isTaken, xhX6_regular, xhJ9_abs_067f4, xhJ9_max_f86c9]
/-- the links to a nest mate that is private -/
def xNs : List (String × Nat × MethodName) := [(RX5, 11, yX0_init), (RX5, 27, yX4_init), (RX0, 25, yX5_isPoint), (RX1, 36, yX5_isPoint), (RX2, 22, yX5_isPoint), (RX2, 93, yX5_divisor), (RX3, 39, yX5_divisor)]
def xkX0_init : List (Option xI) := [some (.aload_n 0, 1, 0, 0, 0), some (.invokespecial 3, 4, 1, 1000, 79), none, none, some (.aload_n 0, 5, 0, 0, 0), some (.bipush 14, 7, 14, 0, 0), none, some (.newarray .int, 9, 0, 0, 0), none, some (.putfield 9, 12, 0, 1, 84), none, none, some (.aload_n 0, 13, 0, 0, 0), some (.bipush 14, 15, 14, 0, 0), none, some (.newarray .int, 17, 0, 0, 0), none, some (.putfield 15, 20, 0, 2, 85), none, none, some (.aload_n 0, 21, 0, 0, 0), some (.bipush 14, 23, 14, 0, 0), none, some (.newarray .int, 25, 0, 0, 0), none, some (.putfield 18, 28, 0, 3, 86), none, none, some (.return_, 29, 0, 0, 0)]
def xmX0_init : xM := (xhX0_init, xkX0_init)
def xkX0_has : List (Option xI) := [some (.iconst 0, 1, 0, 0, 0), some (.istore 4, 3, 0, 4, 0), none, some (.iload 4, 5, 0, 4, 0), none, some (.aload_n 0, 6, 0, 0, 0), some (.getfield 21, 9, 0, 0, 80), none, none, some (.if_icmp .ge 51, 12, 0, 60, 0), none, none, some (.iload 4, 14, 0, 4, 0), none, some (.bipush 14, 16, 14, 0, 0), none, some (.if_icmp .ge 44, 19, 0, 60, 0), none, none, some (.aload_n 0, 20, 0, 0, 0), some (.getfield 9, 23, 0, 1, 84), none, none, some (.iload 4, 25, 0, 4, 0), none, some (.iaload, 26, 0, 0, 0), some (.iload_n 1, 27, 0, 1, 0), some (.if_icmp .ne 27, 30, 0, 54, 0), none, none, some (.aload_n 0, 31, 0, 0, 0), some (.getfield 15, 34, 0, 2, 85), none, none, some (.iload 4, 36, 0, 4, 0), none, some (.iaload, 37, 0, 0, 0), some (.iload_n 2, 38, 0, 2, 0), some (.if_icmp .ne 16, 41, 0, 54, 0), none, none, some (.aload_n 0, 42, 0, 0, 0), some (.getfield 18, 45, 0, 3, 86), none, none, some (.iload 4, 47, 0, 4, 0), none, some (.iaload, 48, 0, 0, 0), some (.iload_n 3, 49, 0, 3, 0), some (.if_icmp .ne 5, 52, 0, 54, 0), none, none, some (.iconst 1, 53, 1, 0, 0), some (.ireturn, 54, 0, 0, 0), some (.iinc 4 1, 57, 0, 4, 0), none, none, some (.goto (-54), 60, 0, 3, 0), none, none, some (.iconst 0, 61, 0, 0, 0), some (.ireturn, 62, 0, 0, 0)]
def xmX0_has : xM := (xhX0_has, xkX0_has)
def xkX5_isPoint : List (Option xI) := [some (.iload_n 0, 1, 0, 0, 0), some (.ifCond .lt 13, 4, 0, 14, 0), none, none, some (.iload_n 0, 5, 0, 0, 0), some (.bipush 14, 7, 14, 0, 0), none, some (.if_icmp .ge 7, 10, 0, 14, 0), none, none, some (.iconst 1, 11, 1, 0, 0), some (.goto 4, 14, 0, 15, 0), none, none, some (.iconst 0, 15, 0, 0, 0), some (.ireturn, 16, 0, 0, 0)]
def xmX5_isPoint : xM := (xhX5_isPoint, xkX5_isPoint)
def xkX0_add : List (Option xI) := [some (.aload_n 0, 1, 0, 0, 0), some (.getfield 21, 4, 0, 0, 80), none, none, some (.invokestatic 25, 7, 1, 2, 0), none, none, some (.ifCond .ne 4, 10, 0, 11, 0), none, none, some (.return_, 11, 0, 0, 0), some (.aload_n 0, 12, 0, 0, 0), some (.getfield 9, 15, 0, 1, 84), none, none, some (.aload_n 0, 16, 0, 0, 0), some (.getfield 21, 19, 0, 0, 80), none, none, some (.iload_n 1, 20, 0, 1, 0), some (.iastore, 21, 0, 0, 0), some (.aload_n 0, 22, 0, 0, 0), some (.getfield 15, 25, 0, 2, 85), none, none, some (.aload_n 0, 26, 0, 0, 0), some (.getfield 21, 29, 0, 0, 80), none, none, some (.iload_n 2, 30, 0, 2, 0), some (.iastore, 31, 0, 0, 0), some (.aload_n 0, 32, 0, 0, 0), some (.getfield 18, 35, 0, 3, 86), none, none, some (.aload_n 0, 36, 0, 0, 0), some (.getfield 21, 39, 0, 0, 80), none, none, some (.iload_n 3, 40, 0, 3, 0), some (.iastore, 41, 0, 0, 0), some (.aload_n 0, 42, 0, 0, 0), some (.dup, 43, 0, 0, 0), some (.getfield 21, 46, 0, 0, 80), none, none, some (.iconst 1, 47, 1, 0, 0), some (.iadd, 48, 0, 0, 0), some (.putfield 21, 51, 0, 0, 80), none, none, some (.return_, 52, 0, 0, 0)]
def xmX0_add : xM := (xhX0_add, xkX0_add)
def xkX0_number : List (Option xI) := [some (.iload_n 1, 1, 0, 1, 0), some (.invokestatic 25, 4, 1, 2, 0), none, none, some (.ifCond .ne 5, 7, 0, 9, 0), none, none, some (.iconst 0, 8, 0, 0, 0), some (.ireturn, 9, 0, 0, 0), some (.iload_n 2, 10, 0, 2, 0), some (.ifCond .ne 12, 13, 0, 22, 0), none, none, some (.aload_n 0, 14, 0, 0, 0), some (.getfield 9, 17, 0, 1, 84), none, none, some (.iload_n 1, 18, 0, 1, 0), some (.iaload, 19, 0, 0, 0), some (.goto 23, 22, 0, 42, 0), none, none, some (.iload_n 2, 23, 0, 2, 0), some (.iconst 1, 24, 1, 0, 0), some (.if_icmp .ne 12, 27, 0, 36, 0), none, none, some (.aload_n 0, 28, 0, 0, 0), some (.getfield 15, 31, 0, 2, 85), none, none, some (.iload_n 1, 32, 0, 1, 0), some (.iaload, 33, 0, 0, 0), some (.goto 9, 36, 0, 42, 0), none, none, some (.aload_n 0, 37, 0, 0, 0), some (.getfield 18, 40, 0, 3, 86), none, none, some (.iload_n 1, 41, 0, 1, 0), some (.iaload, 42, 0, 0, 0), some (.ireturn, 43, 0, 0, 0)]
def xmX0_number : xM := (xhX0_number, xkX0_number)
def xkX0_sum : List (Option xI) := [some (.iload_n 1, 1, 0, 1, 0), some (.invokestatic 25, 4, 1, 2, 0), none, none, some (.ifCond .eq 37, 7, 0, 41, 0), none, none, some (.lload_n 2, 8, 0, 2, 0), some (.aload_n 0, 9, 0, 0, 0), some (.getfield 9, 12, 0, 1, 84), none, none, some (.iload_n 1, 13, 0, 1, 0), some (.iaload, 14, 0, 0, 0), some (.i2l, 15, 0, 0, 0), some (.lmul, 16, 0, 0, 0), some (.lload 4, 18, 0, 4, 0), none, some (.aload_n 0, 19, 0, 0, 0), some (.getfield 15, 22, 0, 2, 85), none, none, some (.iload_n 1, 23, 0, 1, 0), some (.iaload, 24, 0, 0, 0), some (.i2l, 25, 0, 0, 0), some (.lmul, 26, 0, 0, 0), some (.ladd, 27, 0, 0, 0), some (.lload 6, 29, 0, 6, 0), none, some (.aload_n 0, 30, 0, 0, 0), some (.getfield 18, 33, 0, 3, 86), none, none, some (.iload_n 1, 34, 0, 1, 0), some (.iaload, 35, 0, 0, 0), some (.i2l, 36, 0, 0, 0), some (.lmul, 37, 0, 0, 0), some (.ladd, 38, 0, 0, 0), some (.goto 4, 41, 0, 42, 0), none, none, some (.lconst 0, 42, 0, 0, 0), some (.lreturn, 43, 0, 0, 0)]
def xmX0_sum : xM := (xhX0_sum, xkX0_sum)
def xkX0_swing : List (Option xI) := [some (.iload_n 1, 1, 0, 1, 0), some (.invokestatic 25, 4, 1, 2, 0), none, none, some (.ifCond .eq 17, 7, 0, 21, 0), none, none, some (.iload_n 2, 8, 0, 2, 0), some (.invokestatic 25, 11, 1, 2, 0), none, none, some (.ifCond .eq 10, 14, 0, 21, 0), none, none, some (.iload_n 3, 15, 0, 3, 0), some (.invokestatic 25, 18, 1, 2, 0), none, none, some (.ifCond .ne 5, 21, 0, 23, 0), none, none, some (.lconst 0, 22, 0, 0, 0), some (.lreturn, 23, 0, 0, 0), some (.aload_n 0, 24, 0, 0, 0), some (.getfield 9, 27, 0, 1, 84), none, none, some (.iload_n 2, 28, 0, 2, 0), some (.iaload, 29, 0, 0, 0), some (.aload_n 0, 30, 0, 0, 0), some (.getfield 9, 33, 0, 1, 84), none, none, some (.iload_n 1, 34, 0, 1, 0), some (.iaload, 35, 0, 0, 0), some (.isub, 36, 0, 0, 0), some (.i2l, 37, 0, 0, 0), some (.lstore 10, 39, 0, 10, 0), none, some (.aload_n 0, 40, 0, 0, 0), some (.getfield 15, 43, 0, 2, 85), none, none, some (.iload_n 2, 44, 0, 2, 0), some (.iaload, 45, 0, 0, 0), some (.aload_n 0, 46, 0, 0, 0), some (.getfield 15, 49, 0, 2, 85), none, none, some (.iload_n 1, 50, 0, 1, 0), some (.iaload, 51, 0, 0, 0), some (.isub, 52, 0, 0, 0), some (.i2l, 53, 0, 0, 0), some (.lstore 12, 55, 0, 12, 0), none, some (.aload_n 0, 56, 0, 0, 0), some (.getfield 18, 59, 0, 3, 86), none, none, some (.iload_n 2, 60, 0, 2, 0), some (.iaload, 61, 0, 0, 0), some (.aload_n 0, 62, 0, 0, 0), some (.getfield 18, 65, 0, 3, 86), none, none, some (.iload_n 1, 66, 0, 1, 0), some (.iaload, 67, 0, 0, 0), some (.isub, 68, 0, 0, 0), some (.i2l, 69, 0, 0, 0), some (.lstore 14, 71, 0, 14, 0), none, some (.aload_n 0, 72, 0, 0, 0), some (.getfield 9, 75, 0, 1, 84), none, none, some (.iload_n 3, 76, 0, 3, 0), some (.iaload, 77, 0, 0, 0), some (.aload_n 0, 78, 0, 0, 0), some (.getfield 9, 81, 0, 1, 84), none, none, some (.iload_n 1, 82, 0, 1, 0), some (.iaload, 83, 0, 0, 0), some (.isub, 84, 0, 0, 0), some (.i2l, 85, 0, 0, 0), some (.lstore 16, 87, 0, 16, 0), none, some (.aload_n 0, 88, 0, 0, 0), some (.getfield 15, 91, 0, 2, 85), none, none, some (.iload_n 3, 92, 0, 3, 0), some (.iaload, 93, 0, 0, 0), some (.aload_n 0, 94, 0, 0, 0), some (.getfield 15, 97, 0, 2, 85), none, none, some (.iload_n 1, 98, 0, 1, 0), some (.iaload, 99, 0, 0, 0), some (.isub, 100, 0, 0, 0), some (.i2l, 101, 0, 0, 0), some (.lstore 18, 103, 0, 18, 0), none, some (.aload_n 0, 104, 0, 0, 0), some (.getfield 18, 107, 0, 3, 86), none, none, some (.iload_n 3, 108, 0, 3, 0), some (.iaload, 109, 0, 0, 0), some (.aload_n 0, 110, 0, 0, 0), some (.getfield 18, 113, 0, 3, 86), none, none, some (.iload_n 1, 114, 0, 1, 0), some (.iaload, 115, 0, 0, 0), some (.isub, 116, 0, 0, 0), some (.i2l, 117, 0, 0, 0), some (.lstore 20, 119, 0, 20, 0), none, some (.lload 4, 121, 0, 4, 0), none, some (.lload 12, 123, 0, 12, 0), none, some (.lload 20, 125, 0, 20, 0), none, some (.lmul, 126, 0, 0, 0), some (.lload 14, 128, 0, 14, 0), none, some (.lload 18, 130, 0, 18, 0), none, some (.lmul, 131, 0, 0, 0), some (.lsub, 132, 0, 0, 0), some (.lmul, 133, 0, 0, 0), some (.lload 6, 135, 0, 6, 0), none, some (.lload 14, 137, 0, 14, 0), none, some (.lload 16, 139, 0, 16, 0), none, some (.lmul, 140, 0, 0, 0), some (.lload 10, 142, 0, 10, 0), none, some (.lload 20, 144, 0, 20, 0), none, some (.lmul, 145, 0, 0, 0), some (.lsub, 146, 0, 0, 0), some (.lmul, 147, 0, 0, 0), some (.ladd, 148, 0, 0, 0), some (.lload 8, 150, 0, 8, 0), none, some (.lload 10, 152, 0, 10, 0), none, some (.lload 18, 154, 0, 18, 0), none, some (.lmul, 155, 0, 0, 0), some (.lload 12, 157, 0, 12, 0), none, some (.lload 16, 159, 0, 16, 0), none, some (.lmul, 160, 0, 0, 0), some (.lsub, 161, 0, 0, 0), some (.lmul, 162, 0, 0, 0), some (.ladd, 163, 0, 0, 0), some (.lreturn, 164, 0, 0, 0)]
def xmX0_swing : xM := (xhX0_swing, xkX0_swing)
def xkX0_spread : List (Option xI) := [some (.iload_n 1, 1, 0, 1, 0), some (.invokestatic 25, 4, 1, 2, 0), none, none, some (.ifCond .eq 10, 7, 0, 14, 0), none, none, some (.iload_n 2, 8, 0, 2, 0), some (.invokestatic 25, 11, 1, 2, 0), none, none, some (.ifCond .ne 5, 14, 0, 16, 0), none, none, some (.lconst 0, 15, 0, 0, 0), some (.lreturn, 16, 0, 0, 0), some (.aload_n 0, 17, 0, 0, 0), some (.getfield 9, 20, 0, 1, 84), none, none, some (.iload_n 2, 21, 0, 2, 0), some (.iaload, 22, 0, 0, 0), some (.aload_n 0, 23, 0, 0, 0), some (.getfield 9, 26, 0, 1, 84), none, none, some (.iload_n 1, 27, 0, 1, 0), some (.iaload, 28, 0, 0, 0), some (.isub, 29, 0, 0, 0), some (.i2l, 30, 0, 0, 0), some (.lstore 9, 32, 0, 9, 0), none, some (.aload_n 0, 33, 0, 0, 0), some (.getfield 15, 36, 0, 2, 85), none, none, some (.iload_n 2, 37, 0, 2, 0), some (.iaload, 38, 0, 0, 0), some (.aload_n 0, 39, 0, 0, 0), some (.getfield 15, 42, 0, 2, 85), none, none, some (.iload_n 1, 43, 0, 1, 0), some (.iaload, 44, 0, 0, 0), some (.isub, 45, 0, 0, 0), some (.i2l, 46, 0, 0, 0), some (.lstore 11, 48, 0, 11, 0), none, some (.aload_n 0, 49, 0, 0, 0), some (.getfield 18, 52, 0, 3, 86), none, none, some (.iload_n 2, 53, 0, 2, 0), some (.iaload, 54, 0, 0, 0), some (.aload_n 0, 55, 0, 0, 0), some (.getfield 18, 58, 0, 3, 86), none, none, some (.iload_n 1, 59, 0, 1, 0), some (.iaload, 60, 0, 0, 0), some (.isub, 61, 0, 0, 0), some (.i2l, 62, 0, 0, 0), some (.lstore 13, 64, 0, 13, 0), none, some (.lload 11, 66, 0, 11, 0), none, some (.lload 7, 68, 0, 7, 0), none, some (.lmul, 69, 0, 0, 0), some (.lload 13, 71, 0, 13, 0), none, some (.lload 5, 73, 0, 5, 0), none, some (.lmul, 74, 0, 0, 0), some (.lsub, 75, 0, 0, 0), some (.lstore 15, 77, 0, 15, 0), none, some (.lload 13, 79, 0, 13, 0), none, some (.lload_n 3, 80, 0, 3, 0), some (.lmul, 81, 0, 0, 0), some (.lload 9, 83, 0, 9, 0), none, some (.lload 7, 85, 0, 7, 0), none, some (.lmul, 86, 0, 0, 0), some (.lsub, 87, 0, 0, 0), some (.lstore 17, 89, 0, 17, 0), none, some (.lload 9, 91, 0, 9, 0), none, some (.lload 5, 93, 0, 5, 0), none, some (.lmul, 94, 0, 0, 0), some (.lload 11, 96, 0, 11, 0), none, some (.lload_n 3, 97, 0, 3, 0), some (.lmul, 98, 0, 0, 0), some (.lsub, 99, 0, 0, 0), some (.lstore 19, 101, 0, 19, 0), none, some (.lload 15, 103, 0, 15, 0), none, some (.lload 15, 105, 0, 15, 0), none, some (.lmul, 106, 0, 0, 0), some (.lload 17, 108, 0, 17, 0), none, some (.lload 17, 110, 0, 17, 0), none, some (.lmul, 111, 0, 0, 0), some (.ladd, 112, 0, 0, 0), some (.lload 19, 114, 0, 19, 0), none, some (.lload 19, 116, 0, 19, 0), none, some (.lmul, 117, 0, 0, 0), some (.ladd, 118, 0, 0, 0), some (.lreturn, 119, 0, 0, 0)]
def xmX0_spread : xM := (xhX0_spread, xkX0_spread)
def xkX0_distance : List (Option xI) := [some (.iload_n 1, 1, 0, 1, 0), some (.invokestatic 25, 4, 1, 2, 0), none, none, some (.ifCond .eq 10, 7, 0, 14, 0), none, none, some (.iload_n 2, 8, 0, 2, 0), some (.invokestatic 25, 11, 1, 2, 0), none, none, some (.ifCond .ne 5, 14, 0, 16, 0), none, none, some (.iconst 0, 15, 0, 0, 0), some (.ireturn, 16, 0, 0, 0), some (.aload_n 0, 17, 0, 0, 0), some (.getfield 9, 20, 0, 1, 84), none, none, some (.iload_n 2, 21, 0, 2, 0), some (.iaload, 22, 0, 0, 0), some (.aload_n 0, 23, 0, 0, 0), some (.getfield 9, 26, 0, 1, 84), none, none, some (.iload_n 1, 27, 0, 1, 0), some (.iaload, 28, 0, 0, 0), some (.isub, 29, 0, 0, 0), some (.istore_n 3, 30, 0, 3, 0), some (.aload_n 0, 31, 0, 0, 0), some (.getfield 15, 34, 0, 2, 85), none, none, some (.iload_n 2, 35, 0, 2, 0), some (.iaload, 36, 0, 0, 0), some (.aload_n 0, 37, 0, 0, 0), some (.getfield 15, 40, 0, 2, 85), none, none, some (.iload_n 1, 41, 0, 1, 0), some (.iaload, 42, 0, 0, 0), some (.isub, 43, 0, 0, 0), some (.istore 4, 45, 0, 4, 0), none, some (.aload_n 0, 46, 0, 0, 0), some (.getfield 18, 49, 0, 3, 86), none, none, some (.iload_n 2, 50, 0, 2, 0), some (.iaload, 51, 0, 0, 0), some (.aload_n 0, 52, 0, 0, 0), some (.getfield 18, 55, 0, 3, 86), none, none, some (.iload_n 1, 56, 0, 1, 0), some (.iaload, 57, 0, 0, 0), some (.isub, 58, 0, 0, 0), some (.istore 5, 60, 0, 5, 0), none, some (.iload_n 3, 61, 0, 3, 0), some (.iload_n 3, 62, 0, 3, 0), some (.imul, 63, 0, 0, 0), some (.iload 4, 65, 0, 4, 0), none, some (.iload 4, 67, 0, 4, 0), none, some (.imul, 68, 0, 0, 0), some (.iadd, 69, 0, 0, 0), some (.iload 5, 71, 0, 5, 0), none, some (.iload 5, 73, 0, 5, 0), none, some (.imul, 74, 0, 0, 0), some (.iadd, 75, 0, 0, 0), some (.ireturn, 76, 0, 0, 0)]
def xmX0_distance : xM := (xhX0_distance, xkX0_distance)
def xkX0_box : List (Option xI) := [some (.iload_n 1, 1, 0, 1, 0), some (.invokestatic 25, 4, 1, 2, 0), none, none, some (.ifCond .eq 11, 7, 0, 15, 0), none, none, some (.iload 4, 9, 0, 4, 0), none, some (.invokestatic 25, 12, 1, 2, 0), none, none, some (.ifCond .ne 5, 15, 0, 17, 0), none, none, some (.lconst 0, 16, 0, 0, 0), some (.lreturn, 17, 0, 0, 0), some (.aload_n 0, 18, 0, 0, 0), some (.iload_n 1, 19, 0, 1, 0), some (.iload_n 2, 20, 0, 2, 0), some (.iload_n 3, 21, 0, 3, 0), some (.aload_n 0, 22, 0, 0, 0), some (.getfield 9, 25, 0, 1, 84), none, none, some (.iload 4, 27, 0, 4, 0), none, some (.iaload, 28, 0, 0, 0), some (.aload_n 0, 29, 0, 0, 0), some (.getfield 9, 32, 0, 1, 84), none, none, some (.iload_n 1, 33, 0, 1, 0), some (.iaload, 34, 0, 0, 0), some (.isub, 35, 0, 0, 0), some (.i2l, 36, 0, 0, 0), some (.aload_n 0, 37, 0, 0, 0), some (.getfield 15, 40, 0, 2, 85), none, none, some (.iload 4, 42, 0, 4, 0), none, some (.iaload, 43, 0, 0, 0), some (.aload_n 0, 44, 0, 0, 0), some (.getfield 15, 47, 0, 2, 85), none, none, some (.iload_n 1, 48, 0, 1, 0), some (.iaload, 49, 0, 0, 0), some (.isub, 50, 0, 0, 0), some (.i2l, 51, 0, 0, 0), some (.aload_n 0, 52, 0, 0, 0), some (.getfield 18, 55, 0, 3, 86), none, none, some (.iload 4, 57, 0, 4, 0), none, some (.iaload, 58, 0, 0, 0), some (.aload_n 0, 59, 0, 0, 0), some (.getfield 18, 62, 0, 3, 86), none, none, some (.iload_n 1, 63, 0, 1, 0), some (.iaload, 64, 0, 0, 0), some (.isub, 65, 0, 0, 0), some (.i2l, 66, 0, 0, 0), some (.invokevirtual 29, 69, 7, 6, 349), none, none, some (.lreturn, 70, 0, 0, 0)]
def xmX0_box : xM := (xhX0_box, xkX0_box)
def xkX3_init : List (Option xI) := [some (.aload_n 0, 1, 0, 0, 0), some (.invokespecial 3, 4, 1, 1000, 109), none, none, some (.aload_n 0, 5, 0, 0, 0), some (.bipush 14, 7, 14, 0, 0), none, some (.newarray .int, 9, 0, 0, 0), none, some (.putfield 9, 12, 3, 8, 131), none, none, some (.aload_n 0, 13, 0, 0, 0), some (.aload_n 1, 14, 0, 1, 0), some (.putfield 15, 17, 3, 0, 110), none, none, some (.return_, 18, 0, 0, 0)]
def xmX3_init : xM := (xhX3_init, xkX3_init)
def xkX1_init : List (Option xI) := [some (.aload_n 0, 1, 0, 0, 0), some (.invokespecial 3, 4, 1, 1000, 102), none, none, some (.aload_n 0, 5, 0, 0, 0), some (.bipush 24, 7, 24, 0, 0), none, some (.anewarray 9, 10, 0, 0, 103), none, none, some (.putfield 11, 13, 1, 1, 158), none, none, some (.aload_n 0, 14, 0, 0, 0), some (.bipush 14, 16, 14, 0, 0), none, some (.newarray .int, 18, 0, 0, 0), none, some (.putfield 17, 21, 1, 5, 168), none, none, some (.aload_n 0, 22, 0, 0, 0), some (.iconst 3, 23, 3, 0, 0), some (.newarray .long, 25, 0, 0, 0), none, some (.putfield 21, 28, 1, 7, 172), none, none, some (.aload_n 0, 29, 0, 0, 0), some (.aload_n 1, 30, 0, 1, 0), some (.putfield 25, 33, 1, 0, 155), none, none, some (.iconst 0, 34, 0, 0, 0), some (.istore_n 2, 35, 0, 2, 0), some (.iload_n 2, 36, 0, 2, 0), some (.bipush 24, 38, 24, 0, 0), none, some (.if_icmp .ge 23, 41, 0, 61, 0), none, none, some (.aload_n 0, 42, 0, 0, 0), some (.getfield 11, 45, 1, 1, 158), none, none, some (.iload_n 2, 46, 0, 2, 0), some (.new 9, 49, 3, 0, 103), none, none, some (.dup, 50, 0, 0, 0), some (.aload_n 1, 51, 0, 1, 0), some (.invokespecial 29, 54, 2, 10, 106), none, none, some (.aastore, 55, 0, 0, 0), some (.iinc 2 1, 58, 0, 2, 0), none, none, some (.goto (-23), 61, 0, 35, 0), none, none, some (.return_, 62, 0, 0, 0)]
def xmX1_init : xM := (xhX1_init, xkX1_init)
def xkX1_hasFace : List (Option xI) := [some (.iload_n 1, 1, 0, 1, 0), some (.ifCond .lt 21, 4, 0, 22, 0), none, none, some (.iload_n 1, 5, 0, 1, 0), some (.aload_n 0, 6, 0, 0, 0), some (.getfield 32, 9, 1, 2, 161), none, none, some (.if_icmp .ge 13, 12, 0, 22, 0), none, none, some (.iload_n 1, 13, 0, 1, 0), some (.bipush 24, 15, 24, 0, 0), none, some (.if_icmp .ge 7, 18, 0, 22, 0), none, none, some (.iconst 1, 19, 1, 0, 0), some (.goto 4, 22, 0, 23, 0), none, none, some (.iconst 0, 23, 0, 0, 0), some (.ireturn, 24, 0, 0, 0)]
def xmX1_hasFace : xM := (xhX1_hasFace, xkX1_hasFace)
def xkX1_isCorner : List (Option xI) := [some (.iload_n 1, 1, 0, 1, 0), some (.invokestatic 36, 4, 1, 2, 0), none, none, some (.ifCond .eq 18, 7, 0, 22, 0), none, none, some (.aload_n 0, 8, 0, 0, 0), some (.getfield 40, 11, 1, 4, 165), none, none, some (.iload_n 1, 12, 0, 1, 0), some (.ishr, 13, 0, 0, 0), some (.iconst 1, 14, 1, 0, 0), some (.iand, 15, 0, 0, 0), some (.ifCond .eq 7, 18, 0, 22, 0), none, none, some (.iconst 1, 19, 1, 0, 0), some (.goto 4, 22, 0, 23, 0), none, none, some (.iconst 0, 23, 0, 0, 0), some (.ireturn, 24, 0, 0, 0)]
def xmX1_isCorner : xM := (xhX1_isCorner, xkX1_isCorner)
def xkX1_isKnown : List (Option xI) := [some (.iconst 0, 1, 0, 0, 0), some (.istore_n 2, 2, 0, 2, 0), some (.iload_n 2, 3, 0, 2, 0), some (.aload_n 0, 4, 0, 0, 0), some (.getfield 32, 7, 1, 2, 161), none, none, some (.if_icmp .ge 32, 10, 0, 39, 0), none, none, some (.iload_n 2, 11, 0, 2, 0), some (.bipush 24, 13, 24, 0, 0), none, some (.if_icmp .ge 26, 16, 0, 39, 0), none, none, some (.aload_n 0, 17, 0, 0, 0), some (.getfield 11, 20, 1, 1, 158), none, none, some (.iload_n 2, 21, 0, 2, 0), some (.aaload, 22, 0, 0, 0), some (.getfield 85, 25, 3, 5, 124), none, none, some (.iload_n 1, 26, 0, 1, 0), some (.iand, 27, 0, 0, 0), some (.iload_n 1, 28, 0, 1, 0), some (.if_icmp .ne 5, 31, 0, 33, 0), none, none, some (.iconst 1, 32, 1, 0, 0), some (.ireturn, 33, 0, 0, 0), some (.iinc 2 1, 36, 0, 2, 0), none, none, some (.goto (-34), 39, 0, 2, 0), none, none, some (.iconst 0, 40, 0, 0, 0), some (.ireturn, 41, 0, 0, 0)]
def xmX1_isKnown : xM := (xhX1_isKnown, xkX1_isKnown)
def xkX5_divisor : List (Option xI) := [some (.lload_n 0, 1, 0, 0, 0), some (.invokestatic 199, 4, 1, 144, 284), none, none, some (.lstore 4, 6, 0, 4, 0), none, some (.lload_n 2, 7, 0, 2, 0), some (.invokestatic 199, 10, 1, 144, 284), none, none, some (.lstore 6, 12, 0, 6, 0), none, some (.iconst 0, 13, 0, 0, 0), some (.istore 8, 15, 0, 8, 0), none, some (.iload 8, 17, 0, 8, 0), none, some (.sipush 128, 20, 128, 0, 0), none, none, some (.if_icmp .ge 31, 23, 0, 51, 0), none, none, some (.lload 6, 25, 0, 6, 0), none, some (.lconst 0, 26, 0, 0, 0), some (.lcmp, 27, 0, 0, 0), some (.ifCond .eq 24, 30, 0, 51, 0), none, none, some (.lload 4, 32, 0, 4, 0), none, some (.lload 6, 34, 0, 6, 0), none, some (.lrem, 35, 0, 0, 0), some (.lstore 9, 37, 0, 9, 0), none, some (.lload 6, 39, 0, 6, 0), none, some (.lstore 4, 41, 0, 4, 0), none, some (.lload 9, 43, 0, 9, 0), none, some (.lstore 6, 45, 0, 6, 0), none, some (.iinc 8 1, 48, 0, 8, 0), none, none, some (.goto (-33), 51, 0, 15, 0), none, none, some (.lload 4, 53, 0, 4, 0), none, some (.lreturn, 54, 0, 0, 0)]
def xmX5_divisor : xM := (xhX5_divisor, xkX5_divisor)
def xkX3_look : List (Option xI) := [some (.aload_n 0, 1, 0, 0, 0), some (.lload_n 1, 2, 0, 1, 0), some (.putfield 19, 5, 3, 1, 111), none, none, some (.aload_n 0, 6, 0, 0, 0), some (.lload_n 3, 7, 0, 3, 0), some (.putfield 23, 10, 3, 2, 114), none, none, some (.aload_n 0, 11, 0, 0, 0), some (.lload 5, 13, 0, 5, 0), none, some (.putfield 26, 16, 3, 3, 117), none, none, some (.aload_n 0, 17, 0, 0, 0), some (.iload 7, 19, 0, 7, 0), none, some (.putfield 29, 22, 3, 5, 123), none, none, some (.return_, 23, 0, 0, 0)]
def xmX3_look : xM := (xhX3_look, xkX3_look)
def xkX3_sidesTaken : List (Option xI) := [some (.iconst 0, 1, 0, 0, 0), some (.istore_n 1, 2, 0, 1, 0), some (.iconst 0, 3, 0, 0, 0), some (.istore_n 2, 4, 0, 2, 0), some (.iload_n 2, 5, 0, 2, 0), some (.aload_n 0, 6, 0, 0, 0), some (.getfield 15, 9, 3, 0, 110), none, none, some (.getfield 62, 12, 0, 0, 82), none, none, some (.if_icmp .ge 75, 15, 0, 87, 0), none, none, some (.iload_n 1, 16, 0, 1, 0), some (.iconst 3, 17, 3, 0, 0), some (.if_icmp .eq 70, 20, 0, 87, 0), none, none, some (.aload_n 0, 21, 0, 0, 0), some (.getfield 15, 24, 3, 0, 110), none, none, some (.iload_n 2, 25, 0, 2, 0), some (.aload_n 0, 26, 0, 0, 0), some (.getfield 19, 29, 3, 1, 111), none, none, some (.aload_n 0, 30, 0, 0, 0), some (.getfield 23, 33, 3, 2, 114), none, none, some (.aload_n 0, 34, 0, 0, 0), some (.getfield 26, 37, 3, 3, 117), none, none, some (.invokevirtual 47, 40, 5, 5, 291), none, none, some (.aload_n 0, 41, 0, 0, 0), some (.getfield 51, 44, 3, 4, 120), none, none, some (.lsub, 45, 0, 0, 0), some (.lstore_n 3, 46, 0, 3, 0), some (.lload_n 3, 47, 0, 3, 0), some (.lconst 0, 48, 0, 0, 0), some (.lcmp, 49, 0, 0, 0), some (.ifCond .ne 18, 52, 0, 67, 0), none, none, some (.aload_n 0, 53, 0, 0, 0), some (.dup, 54, 0, 0, 0), some (.getfield 29, 57, 3, 5, 123), none, none, some (.iconst 1, 58, 1, 0, 0), some (.iload_n 2, 59, 0, 2, 0), some (.ishl, 60, 0, 0, 0), some (.ior, 61, 0, 0, 0), some (.putfield 29, 64, 3, 5, 123), none, none, some (.goto 17, 67, 0, 81, 0), none, none, some (.iload_n 1, 68, 0, 1, 0), some (.lload_n 3, 69, 0, 3, 0), some (.lconst 0, 70, 0, 0, 0), some (.lcmp, 71, 0, 0, 0), some (.ifCond .ge 7, 74, 0, 78, 0), none, none, some (.iconst 1, 75, 1, 0, 0), some (.goto 4, 78, 0, 79, 0), none, none, some (.iconst 2, 79, 2, 0, 0), some (.ior, 80, 0, 0, 0), some (.istore_n 1, 81, 0, 1, 0), some (.iinc 2 1, 84, 0, 2, 0), none, none, some (.goto (-80), 87, 0, 4, 0), none, none, some (.iload_n 1, 88, 0, 1, 0), some (.ireturn, 89, 0, 0, 0)]
def xmX3_sidesTaken : xM := (xhX3_sidesTaken, xkX3_sidesTaken)
def xkX3_turnOutward : List (Option xI) := [some (.iload_n 1, 1, 0, 1, 0), some (.iconst 2, 2, 2, 0, 0), some (.if_icmp .ne 35, 5, 0, 37, 0), none, none, some (.aload_n 0, 6, 0, 0, 0), some (.aload_n 0, 7, 0, 0, 0), some (.getfield 19, 10, 3, 1, 111), none, none, some (.lneg, 11, 0, 0, 0), some (.aload_n 0, 12, 0, 0, 0), some (.getfield 23, 15, 3, 2, 114), none, none, some (.lneg, 16, 0, 0, 0), some (.aload_n 0, 17, 0, 0, 0), some (.getfield 26, 20, 3, 3, 117), none, none, some (.lneg, 21, 0, 0, 0), some (.aload_n 0, 22, 0, 0, 0), some (.getfield 29, 25, 3, 5, 123), none, none, some (.invokevirtual 43, 28, 5, 16, 287), none, none, some (.aload_n 0, 29, 0, 0, 0), some (.aload_n 0, 30, 0, 0, 0), some (.getfield 51, 33, 3, 4, 120), none, none, some (.lneg, 34, 0, 0, 0), some (.putfield 51, 37, 3, 4, 120), none, none, some (.iload_n 1, 38, 0, 1, 0), some (.iconst 1, 39, 1, 0, 0), some (.if_icmp .eq 8, 42, 0, 47, 0), none, none, some (.iload_n 1, 43, 0, 1, 0), some (.iconst 2, 44, 2, 0, 0), some (.if_icmp .ne 7, 47, 0, 51, 0), none, none, some (.iconst 1, 48, 1, 0, 0), some (.goto 4, 51, 0, 52, 0), none, none, some (.iconst 0, 52, 0, 0, 0), some (.ireturn, 53, 0, 0, 0)]
def xmX3_turnOutward : xM := (xhX3_turnOutward, xkX3_turnOutward)
def xkX3_face : List (Option xI) := [some (.aload_n 0, 1, 0, 0, 0), some (.getfield 15, 4, 3, 0, 110), none, none, some (.iload_n 1, 5, 0, 1, 0), some (.iload_n 2, 6, 0, 2, 0), some (.iload_n 3, 7, 0, 3, 0), some (.lconst 1, 8, 1, 0, 0), some (.lconst 0, 9, 0, 0, 0), some (.lconst 0, 10, 0, 0, 0), some (.invokevirtual 33, 13, 7, 6, 277), none, none, some (.lstore 4, 15, 0, 4, 0), none, some (.aload_n 0, 16, 0, 0, 0), some (.getfield 15, 19, 3, 0, 110), none, none, some (.iload_n 1, 20, 0, 1, 0), some (.iload_n 2, 21, 0, 2, 0), some (.iload_n 3, 22, 0, 3, 0), some (.lconst 0, 23, 0, 0, 0), some (.lconst 1, 24, 1, 0, 0), some (.lconst 0, 25, 0, 0, 0), some (.invokevirtual 33, 28, 7, 6, 277), none, none, some (.lstore 6, 30, 0, 6, 0), none, some (.aload_n 0, 31, 0, 0, 0), some (.getfield 15, 34, 3, 0, 110), none, none, some (.iload_n 1, 35, 0, 1, 0), some (.iload_n 2, 36, 0, 2, 0), some (.iload_n 3, 37, 0, 3, 0), some (.lconst 0, 38, 0, 0, 0), some (.lconst 0, 39, 0, 0, 0), some (.lconst 1, 40, 1, 0, 0), some (.invokevirtual 33, 43, 7, 6, 277), none, none, some (.lstore 8, 45, 0, 8, 0), none, some (.lload 4, 47, 0, 4, 0), none, some (.lload 6, 49, 0, 6, 0), none, some (.invokestatic 39, 52, 2, 15, 0), none, none, some (.lload 8, 54, 0, 8, 0), none, some (.invokestatic 39, 57, 2, 15, 0), none, none, some (.lstore 10, 59, 0, 10, 0), none, some (.lload 10, 61, 0, 10, 0), none, some (.lconst 0, 62, 0, 0, 0), some (.lcmp, 63, 0, 0, 0), some (.ifCond .ne 5, 66, 0, 68, 0), none, none, some (.iconst 0, 67, 0, 0, 0), some (.ireturn, 68, 0, 0, 0), some (.aload_n 0, 69, 0, 0, 0), some (.lload 4, 71, 0, 4, 0), none, some (.lload 10, 73, 0, 10, 0), none, some (.ldiv, 74, 0, 0, 0), some (.lload 6, 76, 0, 6, 0), none, some (.lload 10, 78, 0, 10, 0), none, some (.ldiv, 79, 0, 0, 0), some (.lload 8, 81, 0, 8, 0), none, some (.lload 10, 83, 0, 10, 0), none, some (.ldiv, 84, 0, 0, 0), some (.iconst 0, 85, 0, 0, 0), some (.invokevirtual 43, 88, 5, 16, 287), none, none, some (.aload_n 0, 89, 0, 0, 0), some (.aload_n 0, 90, 0, 0, 0), some (.getfield 15, 93, 3, 0, 110), none, none, some (.iload_n 1, 94, 0, 1, 0), some (.aload_n 0, 95, 0, 0, 0), some (.getfield 19, 98, 3, 1, 111), none, none, some (.aload_n 0, 99, 0, 0, 0), some (.getfield 23, 102, 3, 2, 114), none, none, some (.aload_n 0, 103, 0, 0, 0), some (.getfield 26, 106, 3, 3, 117), none, none, some (.invokevirtual 47, 109, 5, 5, 291), none, none, some (.putfield 51, 112, 3, 4, 120), none, none, some (.aload_n 0, 113, 0, 0, 0), some (.aload_n 0, 114, 0, 0, 0), some (.invokevirtual 54, 117, 1, 17, 295), none, none, some (.invokevirtual 58, 120, 2, 18, 299), none, none, some (.ireturn, 121, 0, 0, 0)]
def xmX3_face : xM := (xhX3_face, xkX3_face)
def xkJ6_numberOfTrailingZeros_0f7a4 : List (Option xI) := [some (.iload_n 0, 1, 0, 0, 0), some (.iconst (-1), 2, (-1), 0, 0), some (.ixor, 3, 0, 0, 0), some (.iload_n 0, 4, 0, 0, 0), some (.iconst 1, 5, 1, 0, 0), some (.isub, 6, 0, 0, 0), some (.iand, 7, 0, 0, 0), some (.istore_n 0, 8, 0, 0, 0), some (.iload_n 0, 9, 0, 0, 0), some (.ifCond .gt 8, 12, 0, 17, 0), none, none, some (.iload_n 0, 13, 0, 0, 0), some (.bipush 32, 15, 32, 0, 0), none, some (.iand, 16, 0, 0, 0), some (.ireturn, 17, 0, 0, 0), some (.iconst 1, 18, 1, 0, 0), some (.istore_n 1, 19, 0, 1, 0), some (.iload_n 0, 20, 0, 0, 0), some (.ldc_w 264, 23, 65536, 0, 310), none, none, some (.if_icmp .le 11, 26, 0, 34, 0), none, none, some (.iinc 1 16, 29, 0, 1, 0), none, none, some (.iload_n 0, 30, 0, 0, 0), some (.bipush 16, 32, 16, 0, 0), none, some (.iushr, 33, 0, 0, 0), some (.istore_n 0, 34, 0, 0, 0), some (.iload_n 0, 35, 0, 0, 0), some (.sipush 256, 38, 256, 0, 0), none, none, some (.if_icmp .le 11, 41, 0, 49, 0), none, none, some (.iinc 1 8, 44, 0, 1, 0), none, none, some (.iload_n 0, 45, 0, 0, 0), some (.bipush 8, 47, 8, 0, 0), none, some (.iushr, 48, 0, 0, 0), some (.istore_n 0, 49, 0, 0, 0), some (.iload_n 0, 50, 0, 0, 0), some (.bipush 16, 52, 16, 0, 0), none, some (.if_icmp .le 10, 55, 0, 62, 0), none, none, some (.iinc 1 4, 58, 0, 1, 0), none, none, some (.iload_n 0, 59, 0, 0, 0), some (.iconst 4, 60, 4, 0, 0), some (.iushr, 61, 0, 0, 0), some (.istore_n 0, 62, 0, 0, 0), some (.iload_n 0, 63, 0, 0, 0), some (.iconst 4, 64, 4, 0, 0), some (.if_icmp .le 10, 67, 0, 74, 0), none, none, some (.iinc 1 2, 70, 0, 1, 0), none, none, some (.iload_n 0, 71, 0, 0, 0), some (.iconst 2, 72, 2, 0, 0), some (.iushr, 73, 0, 0, 0), some (.istore_n 0, 74, 0, 0, 0), some (.iload_n 1, 75, 0, 1, 0), some (.iload_n 0, 76, 0, 0, 0), some (.iconst 1, 77, 1, 0, 0), some (.iushr, 78, 0, 0, 0), some (.iadd, 79, 0, 0, 0), some (.ireturn, 80, 0, 0, 0)]
def xmJ6_numberOfTrailingZeros_0f7a4 : xM := (xhJ6_numberOfTrailingZeros_0f7a4, xkJ6_numberOfTrailingZeros_0f7a4)
def xkX3_rim : List (Option xI) := [some (.aload_n 0, 1, 0, 0, 0), some (.getfield 29, 4, 3, 5, 123), none, none, some (.invokestatic 65, 7, 1, 20, 307), none, none, some (.istore_n 1, 8, 0, 1, 0), some (.iload_n 1, 9, 0, 1, 0), some (.istore_n 2, 10, 0, 2, 0), some (.lconst 0, 11, 0, 0, 0), some (.lstore_n 3, 12, 0, 3, 0), some (.iconst 0, 13, 0, 0, 0), some (.istore 5, 15, 0, 5, 0), none, some (.iload 5, 17, 0, 5, 0), none, some (.bipush 14, 19, 14, 0, 0), none, some (.if_icmp .ge 58, 22, 0, 77, 0), none, none, some (.aload_n 0, 23, 0, 0, 0), some (.getfield 15, 26, 3, 0, 110), none, none, some (.iload_n 1, 27, 0, 1, 0), some (.iload 5, 29, 0, 5, 0), none, some (.aload_n 0, 30, 0, 0, 0), some (.getfield 19, 33, 3, 1, 111), none, none, some (.aload_n 0, 34, 0, 0, 0), some (.getfield 23, 37, 3, 2, 114), none, none, some (.aload_n 0, 38, 0, 0, 0), some (.getfield 26, 41, 3, 3, 117), none, none, some (.invokevirtual 71, 44, 6, 7, 311), none, none, some (.lstore 6, 46, 0, 6, 0), none, some (.aload_n 0, 47, 0, 0, 0), some (.getfield 29, 50, 3, 5, 123), none, none, some (.iload 5, 52, 0, 5, 0), none, some (.ishr, 53, 0, 0, 0), some (.iconst 1, 54, 1, 0, 0), some (.iand, 55, 0, 0, 0), some (.ifCond .eq 16, 58, 0, 71, 0), none, none, some (.lload 6, 60, 0, 6, 0), none, some (.lload_n 3, 61, 0, 3, 0), some (.lcmp, 62, 0, 0, 0), some (.ifCond .le 9, 65, 0, 71, 0), none, none, some (.iload 5, 67, 0, 5, 0), none, some (.istore_n 2, 68, 0, 2, 0), some (.lload 6, 70, 0, 6, 0), none, some (.lstore_n 3, 71, 0, 3, 0), some (.iinc 5 1, 74, 0, 5, 0), none, none, some (.goto (-59), 77, 0, 15, 0), none, none, some (.iload_n 2, 78, 0, 2, 0), some (.ireturn, 79, 0, 0, 0)]
def xmX3_rim : xM := (xhX3_rim, xkX3_rim)
def xkX3_following : List (Option xI) := [some (.iload_n 1, 1, 0, 1, 0), some (.istore_n 2, 2, 0, 2, 0), some (.lconst 0, 3, 0, 0, 0), some (.lstore_n 3, 4, 0, 3, 0), some (.iconst 0, 5, 0, 0, 0), some (.istore 5, 7, 0, 5, 0), none, some (.iload 5, 9, 0, 5, 0), none, some (.bipush 14, 11, 14, 0, 0), none, some (.if_icmp .ge 113, 14, 0, 124, 0), none, none, some (.aload_n 0, 15, 0, 0, 0), some (.getfield 15, 18, 3, 0, 110), none, none, some (.iload_n 1, 19, 0, 1, 0), some (.iload 5, 21, 0, 5, 0), none, some (.aload_n 0, 22, 0, 0, 0), some (.getfield 19, 25, 3, 1, 111), none, none, some (.aload_n 0, 26, 0, 0, 0), some (.getfield 23, 29, 3, 2, 114), none, none, some (.aload_n 0, 30, 0, 0, 0), some (.getfield 26, 33, 3, 3, 117), none, none, some (.invokevirtual 71, 36, 6, 7, 311), none, none, some (.lstore 6, 38, 0, 6, 0), none, some (.aload_n 0, 39, 0, 0, 0), some (.getfield 29, 42, 3, 5, 123), none, none, some (.iload 5, 44, 0, 5, 0), none, some (.ishr, 45, 0, 0, 0), some (.iconst 1, 46, 1, 0, 0), some (.iand, 47, 0, 0, 0), some (.ifCond .eq 71, 50, 0, 118, 0), none, none, some (.lload 6, 52, 0, 6, 0), none, some (.lconst 0, 53, 0, 0, 0), some (.lcmp, 54, 0, 0, 0), some (.ifCond .ne 6, 57, 0, 60, 0), none, none, some (.goto 61, 60, 0, 118, 0), none, none, some (.aload_n 0, 61, 0, 0, 0), some (.getfield 15, 64, 3, 0, 110), none, none, some (.iload_n 1, 65, 0, 1, 0), some (.iload_n 2, 66, 0, 2, 0), some (.iload 5, 68, 0, 5, 0), none, some (.aload_n 0, 69, 0, 0, 0), some (.getfield 19, 72, 3, 1, 111), none, none, some (.aload_n 0, 73, 0, 0, 0), some (.getfield 23, 76, 3, 2, 114), none, none, some (.aload_n 0, 77, 0, 0, 0), some (.getfield 26, 80, 3, 3, 117), none, none, some (.invokevirtual 33, 83, 7, 6, 277), none, none, some (.lstore 8, 85, 0, 8, 0), none, some (.lload_n 3, 86, 0, 3, 0), some (.lconst 0, 87, 0, 0, 0), some (.lcmp, 88, 0, 0, 0), some (.ifCond .eq 24, 91, 0, 112, 0), none, none, some (.lload 8, 93, 0, 8, 0), none, some (.lconst 0, 94, 0, 0, 0), some (.lcmp, 95, 0, 0, 0), some (.ifCond .lt 17, 98, 0, 112, 0), none, none, some (.lload 8, 100, 0, 8, 0), none, some (.lconst 0, 101, 0, 0, 0), some (.lcmp, 102, 0, 0, 0), some (.ifCond .ne 16, 105, 0, 118, 0), none, none, some (.lload 6, 107, 0, 6, 0), none, some (.lload_n 3, 108, 0, 3, 0), some (.lcmp, 109, 0, 0, 0), some (.ifCond .le 9, 112, 0, 118, 0), none, none, some (.iload 5, 114, 0, 5, 0), none, some (.istore_n 2, 115, 0, 2, 0), some (.lload 6, 117, 0, 6, 0), none, some (.lstore_n 3, 118, 0, 3, 0), some (.iinc 5 1, 121, 0, 5, 0), none, none, some (.goto (-114), 124, 0, 7, 0), none, none, some (.iload_n 2, 125, 0, 2, 0), some (.ireturn, 126, 0, 0, 0)]
def xmX3_following : xM := (xhX3_following, xkX3_following)
def xkX3_trace : List (Option xI) := [some (.aload_n 0, 1, 0, 0, 0), some (.iconst 0, 2, 0, 0, 0), some (.putfield 75, 5, 3, 7, 128), none, none, some (.aload_n 0, 6, 0, 0, 0), some (.iconst 0, 7, 0, 0, 0), some (.putfield 78, 10, 3, 6, 127), none, none, some (.iload_n 1, 11, 0, 1, 0), some (.istore_n 2, 12, 0, 2, 0), some (.iconst 0, 13, 0, 0, 0), some (.istore_n 3, 14, 0, 3, 0), some (.iload_n 3, 15, 0, 3, 0), some (.bipush 14, 17, 14, 0, 0), none, some (.if_icmp .ge 68, 20, 0, 85, 0), none, none, some (.aload_n 0, 21, 0, 0, 0), some (.getfield 9, 24, 3, 8, 131), none, none, some (.iload_n 3, 25, 0, 3, 0), some (.iload_n 2, 26, 0, 2, 0), some (.iastore, 27, 0, 0, 0), some (.aload_n 0, 28, 0, 0, 0), some (.dup, 29, 0, 0, 0), some (.getfield 78, 32, 3, 6, 127), none, none, some (.iconst 1, 33, 1, 0, 0), some (.iload_n 2, 34, 0, 2, 0), some (.ishl, 35, 0, 0, 0), some (.ior, 36, 0, 0, 0), some (.putfield 78, 39, 3, 6, 127), none, none, some (.aload_n 0, 40, 0, 0, 0), some (.iload_n 3, 41, 0, 3, 0), some (.iconst 1, 42, 1, 0, 0), some (.iadd, 43, 0, 0, 0), some (.putfield 75, 46, 3, 7, 128), none, none, some (.aload_n 0, 47, 0, 0, 0), some (.iload_n 2, 48, 0, 2, 0), some (.invokevirtual 81, 51, 2, 22, 319), none, none, some (.istore_n 2, 52, 0, 2, 0), some (.aload_n 0, 53, 0, 0, 0), some (.getfield 15, 56, 3, 0, 110), none, none, some (.iload_n 1, 57, 0, 1, 0), some (.iload_n 2, 58, 0, 2, 0), some (.aload_n 0, 59, 0, 0, 0), some (.getfield 19, 62, 3, 1, 111), none, none, some (.aload_n 0, 63, 0, 0, 0), some (.getfield 23, 66, 3, 2, 114), none, none, some (.aload_n 0, 67, 0, 0, 0), some (.getfield 26, 70, 3, 3, 117), none, none, some (.invokevirtual 71, 73, 6, 7, 311), none, none, some (.lconst 0, 74, 0, 0, 0), some (.lcmp, 75, 0, 0, 0), some (.ifCond .ne 4, 78, 0, 79, 0), none, none, some (.return_, 79, 0, 0, 0), some (.iinc 3 1, 82, 0, 3, 0), none, none, some (.goto (-68), 85, 0, 14, 0), none, none, some (.return_, 86, 0, 0, 0)]
def xmX3_trace : xM := (xhX3_trace, xkX3_trace)
def xkX3_leads : List (Option xI) := [some (.iconst 0, 1, 0, 0, 0), some (.istore_n 2, 2, 0, 2, 0), some (.iload_n 2, 3, 0, 2, 0), some (.aload_n 0, 4, 0, 0, 0), some (.getfield 75, 7, 3, 7, 128), none, none, some (.if_icmp .ge 59, 10, 0, 66, 0), none, none, some (.iload_n 2, 11, 0, 2, 0), some (.aload_n 1, 12, 0, 1, 0), some (.getfield 75, 15, 3, 7, 128), none, none, some (.if_icmp .ge 51, 18, 0, 66, 0), none, none, some (.iload_n 2, 19, 0, 2, 0), some (.bipush 14, 21, 14, 0, 0), none, some (.if_icmp .ge 45, 24, 0, 66, 0), none, none, some (.aload_n 0, 25, 0, 0, 0), some (.getfield 9, 28, 3, 8, 131), none, none, some (.iload_n 2, 29, 0, 2, 0), some (.iaload, 30, 0, 0, 0), some (.aload_n 1, 31, 0, 1, 0), some (.getfield 9, 34, 3, 8, 131), none, none, some (.iload_n 2, 35, 0, 2, 0), some (.iaload, 36, 0, 0, 0), some (.if_icmp .eq 24, 39, 0, 60, 0), none, none, some (.aload_n 0, 40, 0, 0, 0), some (.getfield 9, 43, 3, 8, 131), none, none, some (.iload_n 2, 44, 0, 2, 0), some (.iaload, 45, 0, 0, 0), some (.aload_n 1, 46, 0, 1, 0), some (.getfield 9, 49, 3, 8, 131), none, none, some (.iload_n 2, 50, 0, 2, 0), some (.iaload, 51, 0, 0, 0), some (.if_icmp .ge 7, 54, 0, 58, 0), none, none, some (.iconst 1, 55, 1, 0, 0), some (.goto 4, 58, 0, 59, 0), none, none, some (.iconst 0, 59, 0, 0, 0), some (.ireturn, 60, 0, 0, 0), some (.iinc 2 1, 63, 0, 2, 0), none, none, some (.goto (-61), 66, 0, 2, 0), none, none, some (.aload_n 0, 67, 0, 0, 0), some (.getfield 75, 70, 3, 7, 128), none, none, some (.aload_n 1, 71, 0, 1, 0), some (.getfield 75, 74, 3, 7, 128), none, none, some (.if_icmp .ge 7, 77, 0, 81, 0), none, none, some (.iconst 1, 78, 1, 0, 0), some (.goto 4, 81, 0, 82, 0), none, none, some (.iconst 0, 82, 0, 0, 0), some (.ireturn, 83, 0, 0, 0)]
def xmX3_leads : xM := (xhX3_leads, xkX3_leads)
def xkX1_settle : List (Option xI) := [some (.aload_n 0, 1, 0, 0, 0), some (.getfield 32, 4, 1, 2, 161), none, none, some (.iconst 1, 5, 1, 0, 0), some (.isub, 6, 0, 0, 0), some (.istore_n 1, 7, 0, 1, 0), some (.iload_n 1, 8, 0, 1, 0), some (.ifCond .le 61, 11, 0, 69, 0), none, none, some (.iload_n 1, 12, 0, 1, 0), some (.bipush 24, 14, 24, 0, 0), none, some (.if_icmp .ge 55, 17, 0, 69, 0), none, none, some (.aload_n 0, 18, 0, 0, 0), some (.getfield 11, 21, 1, 1, 158), none, none, some (.iload_n 1, 22, 0, 1, 0), some (.aaload, 23, 0, 0, 0), some (.astore_n 2, 24, 0, 2, 0), some (.aload_n 2, 25, 0, 2, 0), some (.aload_n 0, 26, 0, 0, 0), some (.getfield 11, 29, 1, 1, 158), none, none, some (.iload_n 1, 30, 0, 1, 0), some (.iconst 1, 31, 1, 0, 0), some (.isub, 32, 0, 0, 0), some (.aaload, 33, 0, 0, 0), some (.invokevirtual 88, 36, 2, 24, 328), none, none, some (.ifCond .ne 4, 39, 0, 40, 0), none, none, some (.return_, 40, 0, 0, 0), some (.aload_n 0, 41, 0, 0, 0), some (.getfield 11, 44, 1, 1, 158), none, none, some (.iload_n 1, 45, 0, 1, 0), some (.aload_n 0, 46, 0, 0, 0), some (.getfield 11, 49, 1, 1, 158), none, none, some (.iload_n 1, 50, 0, 1, 0), some (.iconst 1, 51, 1, 0, 0), some (.isub, 52, 0, 0, 0), some (.aaload, 53, 0, 0, 0), some (.aastore, 54, 0, 0, 0), some (.aload_n 0, 55, 0, 0, 0), some (.getfield 11, 58, 1, 1, 158), none, none, some (.iload_n 1, 59, 0, 1, 0), some (.iconst 1, 60, 1, 0, 0), some (.isub, 61, 0, 0, 0), some (.aload_n 2, 62, 0, 2, 0), some (.aastore, 63, 0, 0, 0), some (.iinc 1 (-1), 66, 0, 1, 0), none, none, some (.goto (-59), 69, 0, 7, 0), none, none, some (.return_, 70, 0, 0, 0)]
def xmX1_settle : xM := (xhX1_settle, xkX1_settle)
def xkX1_tryFace : List (Option xI) := [some (.aload_n 0, 1, 0, 0, 0), some (.getfield 32, 4, 1, 2, 161), none, none, some (.bipush 24, 6, 24, 0, 0), none, some (.if_icmp .ge 21, 9, 0, 27, 0), none, none, some (.aload_n 0, 10, 0, 0, 0), some (.iconst 1, 11, 1, 0, 0), some (.iload_n 1, 12, 0, 1, 0), some (.ishl, 13, 0, 0, 0), some (.iconst 1, 14, 1, 0, 0), some (.iload_n 2, 15, 0, 2, 0), some (.ishl, 16, 0, 0, 0), some (.ior, 17, 0, 0, 0), some (.iconst 1, 18, 1, 0, 0), some (.iload_n 3, 19, 0, 3, 0), some (.ishl, 20, 0, 0, 0), some (.ior, 21, 0, 0, 0), some (.invokevirtual 58, 24, 2, 14, 269), none, none, some (.ifCond .eq 4, 27, 0, 28, 0), none, none, some (.return_, 28, 0, 0, 0), some (.aload_n 0, 29, 0, 0, 0), some (.getfield 11, 32, 1, 1, 158), none, none, some (.aload_n 0, 33, 0, 0, 0), some (.getfield 32, 36, 1, 2, 161), none, none, some (.aaload, 37, 0, 0, 0), some (.astore 4, 39, 0, 4, 0), none, some (.aload 4, 41, 0, 4, 0), none, some (.iload_n 1, 42, 0, 1, 0), some (.iload_n 2, 43, 0, 2, 0), some (.iload_n 3, 44, 0, 3, 0), some (.invokevirtual 61, 47, 4, 19, 273), none, none, some (.ifCond .eq 40, 50, 0, 87, 0), none, none, some (.aload 4, 52, 0, 4, 0), none, some (.aload 4, 54, 0, 4, 0), none, some (.invokevirtual 65, 57, 1, 21, 303), none, none, some (.invokevirtual 69, 60, 2, 23, 315), none, none, some (.aload 4, 62, 0, 4, 0), none, some (.aload 4, 64, 0, 4, 0), none, some (.getfield 73, 67, 3, 6, 126), none, none, some (.invokestatic 76, 70, 1, 20, 323), none, none, some (.invokevirtual 69, 73, 2, 23, 315), none, none, some (.aload_n 0, 74, 0, 0, 0), some (.dup, 75, 0, 0, 0), some (.getfield 32, 78, 1, 2, 161), none, none, some (.iconst 1, 79, 1, 0, 0), some (.iadd, 80, 0, 0, 0), some (.putfield 32, 83, 1, 2, 161), none, none, some (.aload_n 0, 84, 0, 0, 0), some (.invokevirtual 82, 87, 1, 25, 324), none, none, some (.return_, 88, 0, 0, 0)]
def xmX1_tryFace : xM := (xhX1_tryFace, xkX1_tryFace)
def xkX1_join : List (Option xI) := [some (.iconst 0, 1, 0, 0, 0), some (.istore_n 1, 2, 0, 1, 0), some (.iload_n 1, 3, 0, 1, 0), some (.bipush 14, 5, 14, 0, 0), none, some (.if_icmp .ge 16, 8, 0, 21, 0), none, none, some (.aload_n 0, 9, 0, 0, 0), some (.getfield 17, 12, 1, 5, 168), none, none, some (.iload_n 1, 13, 0, 1, 0), some (.iconst 0, 14, 0, 0, 0), some (.iastore, 15, 0, 0, 0), some (.iinc 1 1, 18, 0, 1, 0), none, none, some (.goto (-16), 21, 0, 2, 0), none, none, some (.aload_n 0, 22, 0, 0, 0), some (.iconst 0, 23, 0, 0, 0), some (.putfield 40, 26, 1, 4, 165), none, none, some (.iconst 0, 27, 0, 0, 0), some (.istore_n 1, 28, 0, 1, 0), some (.iconst 0, 29, 0, 0, 0), some (.istore_n 2, 30, 0, 2, 0), some (.iload_n 2, 31, 0, 2, 0), some (.aload_n 0, 32, 0, 0, 0), some (.getfield 32, 35, 1, 2, 161), none, none, some (.if_icmp .ge 133, 38, 0, 168, 0), none, none, some (.iload_n 2, 39, 0, 2, 0), some (.bipush 24, 41, 24, 0, 0), none, some (.if_icmp .ge 127, 44, 0, 168, 0), none, none, some (.aload_n 0, 45, 0, 0, 0), some (.getfield 11, 48, 1, 1, 158), none, none, some (.iload_n 2, 49, 0, 2, 0), some (.aaload, 50, 0, 0, 0), some (.astore_n 3, 51, 0, 3, 0), some (.aload_n 0, 52, 0, 0, 0), some (.dup, 53, 0, 0, 0), some (.getfield 40, 56, 1, 4, 165), none, none, some (.aload_n 3, 57, 0, 3, 0), some (.getfield 73, 60, 3, 6, 126), none, none, some (.ior, 61, 0, 0, 0), some (.putfield 40, 64, 1, 4, 165), none, none, some (.iload_n 1, 65, 0, 1, 0), some (.aload_n 3, 66, 0, 3, 0), some (.getfield 92, 69, 3, 7, 130), none, none, some (.iadd, 70, 0, 0, 0), some (.istore_n 1, 71, 0, 1, 0), some (.iconst 0, 72, 0, 0, 0), some (.istore 4, 74, 0, 4, 0), none, some (.iload 4, 76, 0, 4, 0), none, some (.aload_n 3, 77, 0, 3, 0), some (.getfield 92, 80, 3, 7, 130), none, none, some (.if_icmp .ge 82, 83, 0, 162, 0), none, none, some (.iload 4, 85, 0, 4, 0), none, some (.bipush 14, 87, 14, 0, 0), none, some (.if_icmp .ge 75, 90, 0, 162, 0), none, none, some (.aload_n 3, 91, 0, 3, 0), some (.getfield 95, 94, 3, 8, 133), none, none, some (.iload 4, 96, 0, 4, 0), none, some (.iaload, 97, 0, 0, 0), some (.istore 5, 99, 0, 5, 0), none, some (.aload_n 3, 100, 0, 3, 0), some (.getfield 95, 103, 3, 8, 133), none, none, some (.iload 4, 105, 0, 4, 0), none, some (.iconst 1, 106, 1, 0, 0), some (.iadd, 107, 0, 0, 0), some (.aload_n 3, 108, 0, 3, 0), some (.getfield 92, 111, 3, 7, 130), none, none, some (.if_icmp .ge 19, 114, 0, 130, 0), none, none, some (.iload 4, 116, 0, 4, 0), none, some (.iconst 1, 117, 1, 0, 0), some (.iadd, 118, 0, 0, 0), some (.bipush 14, 120, 14, 0, 0), none, some (.if_icmp .ge 10, 123, 0, 130, 0), none, none, some (.iload 4, 125, 0, 4, 0), none, some (.iconst 1, 126, 1, 0, 0), some (.iadd, 127, 0, 0, 0), some (.goto 4, 130, 0, 131, 0), none, none, some (.iconst 0, 131, 0, 0, 0), some (.iaload, 132, 0, 0, 0), some (.istore 6, 134, 0, 6, 0), none, some (.iload 5, 136, 0, 5, 0), none, some (.invokestatic 36, 139, 1, 2, 0), none, none, some (.ifCond .eq 17, 142, 0, 156, 0), none, none, some (.aload_n 0, 143, 0, 0, 0), some (.getfield 17, 146, 1, 5, 168), none, none, some (.iload 5, 148, 0, 5, 0), none, some (.dup2, 149, 0, 0, 0), some (.iaload, 150, 0, 0, 0), some (.iconst 1, 151, 1, 0, 0), some (.iload 6, 153, 0, 6, 0), none, some (.ishl, 154, 0, 0, 0), some (.ior, 155, 0, 0, 0), some (.iastore, 156, 0, 0, 0), some (.iinc 4 1, 159, 0, 4, 0), none, none, some (.goto (-85), 162, 0, 74, 0), none, none, some (.iinc 2 1, 165, 0, 2, 0), none, none, some (.goto (-135), 168, 0, 30, 0), none, none, some (.aload_n 0, 169, 0, 0, 0), some (.iload_n 1, 170, 0, 1, 0), some (.iconst 2, 171, 2, 0, 0), some (.idiv, 172, 0, 0, 0), some (.putfield 98, 175, 1, 3, 164), none, none, some (.return_, 176, 0, 0, 0)]
def xmX1_join : xM := (xhX1_join, xkX1_join)
def xkX1_weighOne : List (Option xI) := [some (.aload_n 0, 1, 0, 0, 0), some (.getfield 25, 4, 1, 0, 155), none, none, some (.iload_n 1, 5, 0, 1, 0), some (.iload_n 2, 6, 0, 2, 0), some (.iload_n 3, 7, 0, 3, 0), some (.iconst 0, 8, 0, 0, 0), some (.invokevirtual 108, 11, 5, 9, 345), none, none, some (.lneg, 12, 0, 0, 0), some (.lstore 4, 14, 0, 4, 0), none, some (.aload_n 0, 15, 0, 0, 0), some (.dup, 16, 0, 0, 0), some (.getfield 101, 19, 1, 6, 170), none, none, some (.lload 4, 21, 0, 4, 0), none, some (.ladd, 22, 0, 0, 0), some (.putfield 101, 25, 1, 6, 170), none, none, some (.iconst 0, 26, 0, 0, 0), some (.istore 6, 28, 0, 6, 0), none, some (.iload 6, 30, 0, 6, 0), none, some (.iconst 3, 31, 3, 0, 0), some (.if_icmp .ge 70, 34, 0, 101, 0), none, none, some (.aload_n 0, 35, 0, 0, 0), some (.getfield 25, 38, 1, 0, 155), none, none, some (.iload_n 1, 39, 0, 1, 0), some (.iload 6, 41, 0, 6, 0), none, some (.invokevirtual 112, 44, 3, 4, 350), none, none, some (.aload_n 0, 45, 0, 0, 0), some (.getfield 25, 48, 1, 0, 155), none, none, some (.iload_n 2, 49, 0, 2, 0), some (.iload 6, 51, 0, 6, 0), none, some (.invokevirtual 112, 54, 3, 4, 350), none, none, some (.iadd, 55, 0, 0, 0), some (.aload_n 0, 56, 0, 0, 0), some (.getfield 25, 59, 1, 0, 155), none, none, some (.iload_n 3, 60, 0, 3, 0), some (.iload 6, 62, 0, 6, 0), none, some (.invokevirtual 112, 65, 3, 4, 350), none, none, some (.iadd, 66, 0, 0, 0), some (.istore 7, 68, 0, 7, 0), none, some (.aload_n 0, 69, 0, 0, 0), some (.getfield 21, 72, 1, 7, 172), none, none, some (.iload 6, 74, 0, 6, 0), none, some (.dup2, 75, 0, 0, 0), some (.laload, 76, 0, 0, 0), some (.lload 4, 78, 0, 4, 0), none, some (.iload 7, 80, 0, 7, 0), none, some (.aload_n 0, 81, 0, 0, 0), some (.getfield 25, 84, 1, 0, 155), none, none, some (.iconst 0, 85, 0, 0, 0), some (.iload 6, 87, 0, 6, 0), none, some (.invokevirtual 112, 90, 3, 4, 350), none, none, some (.iadd, 91, 0, 0, 0), some (.i2l, 92, 0, 0, 0), some (.lmul, 93, 0, 0, 0), some (.ladd, 94, 0, 0, 0), some (.lastore, 95, 0, 0, 0), some (.iinc 6 1, 98, 0, 6, 0), none, none, some (.goto (-70), 101, 0, 28, 0), none, none, some (.return_, 102, 0, 0, 0)]
def xmX1_weighOne : xM := (xhX1_weighOne, xkX1_weighOne)
def xkX1_weigh : List (Option xI) := [some (.aload_n 0, 1, 0, 0, 0), some (.lconst 0, 2, 0, 0, 0), some (.putfield 101, 5, 1, 6, 170), none, none, some (.aload_n 0, 6, 0, 0, 0), some (.getfield 21, 9, 1, 7, 172), none, none, some (.iconst 0, 10, 0, 0, 0), some (.lconst 0, 11, 0, 0, 0), some (.lastore, 12, 0, 0, 0), some (.aload_n 0, 13, 0, 0, 0), some (.getfield 21, 16, 1, 7, 172), none, none, some (.iconst 1, 17, 1, 0, 0), some (.lconst 0, 18, 0, 0, 0), some (.lastore, 19, 0, 0, 0), some (.aload_n 0, 20, 0, 0, 0), some (.getfield 21, 23, 1, 7, 172), none, none, some (.iconst 2, 24, 2, 0, 0), some (.lconst 0, 25, 0, 0, 0), some (.lastore, 26, 0, 0, 0), some (.iconst 0, 27, 0, 0, 0), some (.istore_n 1, 28, 0, 1, 0), some (.iload_n 1, 29, 0, 1, 0), some (.aload_n 0, 30, 0, 0, 0), some (.getfield 32, 33, 1, 2, 161), none, none, some (.if_icmp .ge 68, 36, 0, 101, 0), none, none, some (.iload_n 1, 37, 0, 1, 0), some (.bipush 24, 39, 24, 0, 0), none, some (.if_icmp .ge 62, 42, 0, 101, 0), none, none, some (.aload_n 0, 43, 0, 0, 0), some (.getfield 11, 46, 1, 1, 158), none, none, some (.iload_n 1, 47, 0, 1, 0), some (.aaload, 48, 0, 0, 0), some (.astore_n 2, 49, 0, 2, 0), some (.iconst 2, 50, 2, 0, 0), some (.istore_n 3, 51, 0, 3, 0), some (.iload_n 3, 52, 0, 3, 0), some (.aload_n 2, 53, 0, 2, 0), some (.getfield 92, 56, 3, 7, 130), none, none, some (.if_icmp .ge 39, 59, 0, 95, 0), none, none, some (.iload_n 3, 60, 0, 3, 0), some (.bipush 14, 62, 14, 0, 0), none, some (.if_icmp .ge 33, 65, 0, 95, 0), none, none, some (.aload_n 0, 66, 0, 0, 0), some (.aload_n 2, 67, 0, 2, 0), some (.getfield 95, 70, 3, 8, 133), none, none, some (.iconst 0, 71, 0, 0, 0), some (.iaload, 72, 0, 0, 0), some (.aload_n 2, 73, 0, 2, 0), some (.getfield 95, 76, 3, 8, 133), none, none, some (.iload_n 3, 77, 0, 3, 0), some (.iconst 1, 78, 1, 0, 0), some (.isub, 79, 0, 0, 0), some (.iaload, 80, 0, 0, 0), some (.aload_n 2, 81, 0, 2, 0), some (.getfield 95, 84, 3, 8, 133), none, none, some (.iload_n 3, 85, 0, 3, 0), some (.iaload, 86, 0, 0, 0), some (.invokevirtual 105, 89, 4, 28, 341), none, none, some (.iinc 3 1, 92, 0, 3, 0), none, none, some (.goto (-41), 95, 0, 51, 0), none, none, some (.iinc 1 1, 98, 0, 1, 0), none, none, some (.goto (-70), 101, 0, 28, 0), none, none, some (.return_, 102, 0, 0, 0)]
def xmX1_weigh : xM := (xhX1_weigh, xkX1_weigh)
def xkX1_build : List (Option xI) := [some (.aload_n 0, 1, 0, 0, 0), some (.iconst 0, 2, 0, 0, 0), some (.putfield 32, 5, 1, 2, 161), none, none, some (.iconst 2, 6, 2, 0, 0), some (.istore_n 1, 7, 0, 1, 0), some (.iload_n 1, 8, 0, 1, 0), some (.aload_n 0, 9, 0, 0, 0), some (.getfield 25, 12, 1, 0, 155), none, none, some (.getfield 43, 15, 0, 0, 83), none, none, some (.if_icmp .ge 42, 18, 0, 57, 0), none, none, some (.iconst 1, 19, 1, 0, 0), some (.istore_n 2, 20, 0, 2, 0), some (.iload_n 2, 21, 0, 2, 0), some (.iload_n 1, 22, 0, 1, 0), some (.if_icmp .ge 29, 25, 0, 51, 0), none, none, some (.iconst 0, 26, 0, 0, 0), some (.istore_n 3, 27, 0, 3, 0), some (.iload_n 3, 28, 0, 3, 0), some (.iload_n 2, 29, 0, 2, 0), some (.if_icmp .ge 16, 32, 0, 45, 0), none, none, some (.aload_n 0, 33, 0, 0, 0), some (.iload_n 3, 34, 0, 3, 0), some (.iload_n 2, 35, 0, 2, 0), some (.iload_n 1, 36, 0, 1, 0), some (.invokevirtual 48, 39, 4, 26, 265), none, none, some (.iinc 3 1, 42, 0, 3, 0), none, none, some (.goto (-15), 45, 0, 27, 0), none, none, some (.iinc 2 1, 48, 0, 2, 0), none, none, some (.goto (-28), 51, 0, 20, 0), none, none, some (.iinc 1 1, 54, 0, 1, 0), none, none, some (.goto (-47), 57, 0, 7, 0), none, none, some (.aload_n 0, 58, 0, 0, 0), some (.invokevirtual 52, 61, 1, 27, 332), none, none, some (.aload_n 0, 62, 0, 0, 0), some (.invokevirtual 55, 65, 1, 29, 337), none, none, some (.return_, 66, 0, 0, 0)]
def xmX1_build : xM := (xhX1_build, xkX1_build)
def xkX1_place : List (Option xI) := [some (.iconst 2, 1, 2, 0, 0), some (.istore 9, 3, 0, 9, 0), none, some (.iconst 0, 4, 0, 0, 0), some (.istore 10, 6, 0, 10, 0), none, some (.iload 10, 8, 0, 10, 0), none, some (.aload_n 0, 9, 0, 0, 0), some (.getfield 32, 12, 1, 2, 161), none, none, some (.if_icmp .ge 79, 15, 0, 91, 0), none, none, some (.iload 10, 17, 0, 10, 0), none, some (.bipush 24, 19, 24, 0, 0), none, some (.if_icmp .ge 72, 22, 0, 91, 0), none, none, some (.aload_n 0, 23, 0, 0, 0), some (.getfield 11, 26, 1, 1, 158), none, none, some (.iload 10, 28, 0, 10, 0), none, some (.aaload, 29, 0, 0, 0), some (.astore 11, 31, 0, 11, 0), none, some (.aload 11, 33, 0, 11, 0), none, some (.getfield 116, 36, 3, 1, 113), none, none, some (.lload_n 1, 37, 0, 1, 0), some (.lmul, 38, 0, 0, 0), some (.aload 11, 40, 0, 11, 0), none, some (.getfield 119, 43, 3, 2, 116), none, none, some (.lload_n 3, 44, 0, 3, 0), some (.lmul, 45, 0, 0, 0), some (.ladd, 46, 0, 0, 0), some (.aload 11, 48, 0, 11, 0), none, some (.getfield 122, 51, 3, 3, 119), none, none, some (.lload 5, 53, 0, 5, 0), none, some (.lmul, 54, 0, 0, 0), some (.ladd, 55, 0, 0, 0), some (.aload 11, 57, 0, 11, 0), none, some (.getfield 125, 60, 3, 4, 122), none, none, some (.lload 7, 62, 0, 7, 0), none, some (.lmul, 63, 0, 0, 0), some (.lsub, 64, 0, 0, 0), some (.lstore 12, 66, 0, 12, 0), none, some (.lload 12, 68, 0, 12, 0), none, some (.lconst 0, 69, 0, 0, 0), some (.lcmp, 70, 0, 0, 0), some (.ifCond .le 5, 73, 0, 75, 0), none, none, some (.iconst 0, 74, 0, 0, 0), some (.ireturn, 75, 0, 0, 0), some (.lload 12, 77, 0, 12, 0), none, some (.lconst 0, 78, 0, 0, 0), some (.lcmp, 79, 0, 0, 0), some (.ifCond .ne 6, 82, 0, 85, 0), none, none, some (.iconst 1, 83, 1, 0, 0), some (.istore 9, 85, 0, 9, 0), none, some (.iinc 10 1, 88, 0, 10, 0), none, none, some (.goto (-82), 91, 0, 6, 0), none, none, some (.iload 9, 93, 0, 9, 0), none, some (.ireturn, 94, 0, 0, 0)]
def xmX1_place : xM := (xhX1_place, xkX1_place)
def xkX1_greatest : List (Option xI) := [some (.ldc2_w 128, 3, (-1000000000000), 0, 484), none, none, some (.lstore 7, 5, 0, 7, 0), none, some (.iconst 0, 6, 0, 0, 0), some (.istore 9, 8, 0, 9, 0), none, some (.iload 9, 10, 0, 9, 0), none, some (.bipush 14, 12, 14, 0, 0), none, some (.if_icmp .ge 38, 15, 0, 50, 0), none, none, some (.aload_n 0, 16, 0, 0, 0), some (.iload 9, 18, 0, 9, 0), none, some (.invokevirtual 130, 21, 2, 13, 485), none, none, some (.ifCond .eq 23, 24, 0, 44, 0), none, none, some (.lload 7, 26, 0, 7, 0), none, some (.aload_n 0, 27, 0, 0, 0), some (.getfield 25, 30, 1, 0, 155), none, none, some (.iload 9, 32, 0, 9, 0), none, some (.lload_n 1, 33, 0, 1, 0), some (.lload_n 3, 34, 0, 3, 0), some (.lload 5, 36, 0, 5, 0), none, some (.invokevirtual 133, 39, 5, 5, 486), none, none, some (.invokestatic 137, 42, 2, 145, 487), none, none, some (.lstore 7, 44, 0, 7, 0), none, some (.iinc 9 1, 47, 0, 9, 0), none, none, some (.goto (-39), 50, 0, 8, 0), none, none, some (.lload 7, 52, 0, 7, 0), none, some (.lreturn, 53, 0, 0, 0)]
def xmX1_greatest : xM := (xhX1_greatest, xkX1_greatest)
def xkX1_cornersAt : List (Option xI) := [some (.iconst 0, 1, 0, 0, 0), some (.istore 9, 3, 0, 9, 0), none, some (.iconst 0, 4, 0, 0, 0), some (.istore 10, 6, 0, 10, 0), none, some (.iload 10, 8, 0, 10, 0), none, some (.bipush 14, 10, 14, 0, 0), none, some (.if_icmp .ge 46, 13, 0, 56, 0), none, none, some (.aload_n 0, 14, 0, 0, 0), some (.iload 10, 16, 0, 10, 0), none, some (.invokevirtual 130, 19, 2, 13, 485), none, none, some (.ifCond .eq 31, 22, 0, 50, 0), none, none, some (.aload_n 0, 23, 0, 0, 0), some (.getfield 25, 26, 1, 0, 155), none, none, some (.iload 10, 28, 0, 10, 0), none, some (.lload_n 1, 29, 0, 1, 0), some (.lload_n 3, 30, 0, 3, 0), some (.lload 5, 32, 0, 5, 0), none, some (.invokevirtual 133, 35, 5, 5, 486), none, none, some (.lload 7, 37, 0, 7, 0), none, some (.lcmp, 38, 0, 0, 0), some (.ifCond .ne 12, 41, 0, 50, 0), none, none, some (.iload 9, 43, 0, 9, 0), none, some (.iconst 1, 44, 1, 0, 0), some (.iload 10, 46, 0, 10, 0), none, some (.ishl, 47, 0, 0, 0), some (.ior, 48, 0, 0, 0), some (.istore 9, 50, 0, 9, 0), none, some (.iinc 10 1, 53, 0, 10, 0), none, none, some (.goto (-47), 56, 0, 6, 0), none, none, some (.iload 9, 58, 0, 9, 0), none, some (.ireturn, 59, 0, 0, 0)]
def xmX1_cornersAt : xM := (xhX1_cornersAt, xkX1_cornersAt)
def xkX1_besideAny : List (Option xI) := [some (.iconst 0, 1, 0, 0, 0), some (.istore_n 2, 2, 0, 2, 0), some (.iconst 0, 3, 0, 0, 0), some (.istore_n 3, 4, 0, 3, 0), some (.iload_n 3, 5, 0, 3, 0), some (.bipush 14, 7, 14, 0, 0), none, some (.if_icmp .ge 26, 10, 0, 33, 0), none, none, some (.iload_n 1, 11, 0, 1, 0), some (.iload_n 3, 12, 0, 3, 0), some (.ishr, 13, 0, 0, 0), some (.iconst 1, 14, 1, 0, 0), some (.iand, 15, 0, 0, 0), some (.ifCond .eq 12, 18, 0, 27, 0), none, none, some (.iload_n 2, 19, 0, 2, 0), some (.aload_n 0, 20, 0, 0, 0), some (.getfield 17, 23, 1, 5, 168), none, none, some (.iload_n 3, 24, 0, 3, 0), some (.iaload, 25, 0, 0, 0), some (.ior, 26, 0, 0, 0), some (.istore_n 2, 27, 0, 2, 0), some (.iinc 3 1, 30, 0, 3, 0), none, none, some (.goto (-26), 33, 0, 4, 0), none, none, some (.iload_n 2, 34, 0, 2, 0), some (.ireturn, 35, 0, 0, 0)]
def xmX1_besideAny : xM := (xhX1_besideAny, xkX1_besideAny)
def xkX1_steps : List (Option xI) := [some (.iconst 1, 1, 1, 0, 0), some (.iload_n 1, 2, 0, 1, 0), some (.ishl, 3, 0, 0, 0), some (.istore_n 3, 4, 0, 3, 0), some (.iconst 0, 5, 0, 0, 0), some (.istore 4, 7, 0, 4, 0), none, some (.iload 4, 9, 0, 4, 0), none, some (.bipush 14, 11, 14, 0, 0), none, some (.if_icmp .ge 28, 14, 0, 39, 0), none, none, some (.iload_n 3, 15, 0, 3, 0), some (.iload_n 2, 16, 0, 2, 0), some (.ishr, 17, 0, 0, 0), some (.iconst 1, 18, 1, 0, 0), some (.iand, 19, 0, 0, 0), some (.ifCond .eq 6, 22, 0, 25, 0), none, none, some (.iload 4, 24, 0, 4, 0), none, some (.ireturn, 25, 0, 0, 0), some (.iload_n 3, 26, 0, 3, 0), some (.aload_n 0, 27, 0, 0, 0), some (.iload_n 3, 28, 0, 3, 0), some (.invokevirtual 143, 31, 2, 34, 503), none, none, some (.ior, 32, 0, 0, 0), some (.istore_n 3, 33, 0, 3, 0), some (.iinc 4 1, 36, 0, 4, 0), none, none, some (.goto (-29), 39, 0, 7, 0), none, none, some (.iconst (-1), 40, (-1), 0, 0), some (.ireturn, 41, 0, 0, 0)]
def xmX1_steps : xM := (xhX1_steps, xkX1_steps)
def xkX2_init : List (Option xI) := [some (.aload_n 0, 1, 0, 0, 0), some (.invokespecial 3, 4, 1, 1000, 210), none, none, some (.aload_n 0, 5, 0, 0, 0), some (.sipush 672, 8, 672, 0, 0), none, none, some (.newarray .int, 10, 0, 0, 0), none, some (.putfield 9, 13, 2, 2, 214), none, none, some (.aload_n 0, 14, 0, 0, 0), some (.bipush 14, 16, 14, 0, 0), none, some (.newarray .int, 18, 0, 0, 0), none, some (.putfield 15, 21, 2, 3, 215), none, none, some (.aload_n 0, 22, 0, 0, 0), some (.aload_n 1, 23, 0, 1, 0), some (.putfield 18, 26, 2, 0, 211), none, none, some (.return_, 27, 0, 0, 0)]
def xmX2_init : xM := (xhX2_init, xkX2_init)
def xkX2_image : List (Option xI) := [some (.iload_n 1, 1, 0, 1, 0), some (.ifCond .lt 30, 4, 0, 31, 0), none, none, some (.iload_n 1, 5, 0, 1, 0), some (.bipush 48, 7, 48, 0, 0), none, some (.if_icmp .ge 24, 10, 0, 31, 0), none, none, some (.iload_n 2, 11, 0, 2, 0), some (.invokestatic 22, 14, 1, 2, 0), none, none, some (.ifCond .eq 17, 17, 0, 31, 0), none, none, some (.aload_n 0, 18, 0, 0, 0), some (.getfield 9, 21, 2, 2, 214), none, none, some (.bipush 14, 23, 14, 0, 0), none, some (.iload_n 1, 24, 0, 1, 0), some (.imul, 25, 0, 0, 0), some (.iload_n 2, 26, 0, 2, 0), some (.iadd, 27, 0, 0, 0), some (.iaload, 28, 0, 0, 0), some (.goto 4, 31, 0, 32, 0), none, none, some (.iconst 0, 32, 0, 0, 0), some (.ireturn, 33, 0, 0, 0)]
def xmX2_image : xM := (xhX2_image, xkX2_image)
def xkX2_keep : List (Option xI) := [some (.aload_n 0, 1, 0, 0, 0), some (.getfield 26, 4, 2, 1, 212), none, none, some (.ifCond .lt 43, 7, 0, 47, 0), none, none, some (.aload_n 0, 8, 0, 0, 0), some (.getfield 26, 11, 2, 1, 212), none, none, some (.bipush 48, 13, 48, 0, 0), none, some (.if_icmp .ge 34, 16, 0, 47, 0), none, none, some (.aload_n 0, 17, 0, 0, 0), some (.getfield 15, 20, 2, 3, 215), none, none, some (.iconst 0, 21, 0, 0, 0), some (.aload_n 0, 22, 0, 0, 0), some (.getfield 9, 25, 2, 2, 214), none, none, some (.bipush 14, 27, 14, 0, 0), none, some (.aload_n 0, 28, 0, 0, 0), some (.getfield 26, 31, 2, 1, 212), none, none, some (.imul, 32, 0, 0, 0), some (.bipush 14, 34, 14, 0, 0), none, some (.invokestatic 59, 37, 5, 1001, 528), none, none, some (.aload_n 0, 38, 0, 0, 0), some (.dup, 39, 0, 0, 0), some (.getfield 26, 42, 2, 1, 212), none, none, some (.iconst 1, 43, 1, 0, 0), some (.iadd, 44, 0, 0, 0), some (.putfield 26, 47, 2, 1, 212), none, none, some (.return_, 48, 0, 0, 0)]
def xmX2_keep : xM := (xhX2_keep, xkX2_keep)
def xkX2_fits : List (Option xI) := [some (.iconst 0, 1, 0, 0, 0), some (.istore_n 3, 2, 0, 3, 0), some (.iload_n 3, 3, 0, 3, 0), some (.iload_n 1, 4, 0, 1, 0), some (.if_icmp .ge 60, 7, 0, 64, 0), none, none, some (.iload_n 3, 8, 0, 3, 0), some (.bipush 14, 10, 14, 0, 0), none, some (.if_icmp .ge 54, 13, 0, 64, 0), none, none, some (.aload_n 0, 14, 0, 0, 0), some (.getfield 18, 17, 2, 0, 211), none, none, some (.iload_n 3, 18, 0, 3, 0), some (.invokevirtual 42, 21, 2, 13, 529), none, none, some (.ifCond .eq 37, 24, 0, 58, 0), none, none, some (.aload_n 0, 25, 0, 0, 0), some (.getfield 18, 28, 2, 0, 211), none, none, some (.getfield 49, 31, 1, 0, 157), none, none, some (.iload_n 3, 32, 0, 3, 0), some (.iload_n 1, 33, 0, 1, 0), some (.invokevirtual 53, 36, 3, 8, 534), none, none, some (.aload_n 0, 37, 0, 0, 0), some (.getfield 18, 40, 2, 0, 211), none, none, some (.getfield 49, 43, 1, 0, 157), none, none, some (.aload_n 0, 44, 0, 0, 0), some (.getfield 15, 47, 2, 3, 215), none, none, some (.iload_n 3, 48, 0, 3, 0), some (.iaload, 49, 0, 0, 0), some (.iload_n 2, 50, 0, 2, 0), some (.invokevirtual 53, 53, 3, 8, 534), none, none, some (.if_icmp .eq 5, 56, 0, 58, 0), none, none, some (.iconst 0, 57, 0, 0, 0), some (.ireturn, 58, 0, 0, 0), some (.iinc 3 1, 61, 0, 3, 0), none, none, some (.goto (-59), 64, 0, 2, 0), none, none, some (.iconst 1, 65, 1, 0, 0), some (.ireturn, 66, 0, 0, 0)]
def xmX2_fits : xM := (xhX2_fits, xkX2_fits)
def xkX2_extend : List (Option xI) := [some (.iload_n 1, 1, 0, 1, 0), some (.invokestatic 22, 4, 1, 2, 0), none, none, some (.ifCond .ne 8, 7, 0, 12, 0), none, none, some (.aload_n 0, 8, 0, 0, 0), some (.invokevirtual 39, 11, 1, 38, 524), none, none, some (.return_, 12, 0, 0, 0), some (.aload_n 0, 13, 0, 0, 0), some (.getfield 18, 16, 2, 0, 211), none, none, some (.iload_n 1, 17, 0, 1, 0), some (.invokevirtual 42, 20, 2, 13, 529), none, none, some (.ifCond .ne 12, 23, 0, 32, 0), none, none, some (.aload_n 0, 24, 0, 0, 0), some (.iload_n 1, 25, 0, 1, 0), some (.iconst 1, 26, 1, 0, 0), some (.iadd, 27, 0, 0, 0), some (.iload_n 2, 28, 0, 2, 0), some (.invokevirtual 35, 31, 3, 40, 519), none, none, some (.return_, 32, 0, 0, 0), some (.iconst 0, 33, 0, 0, 0), some (.istore_n 3, 34, 0, 3, 0), some (.iload_n 3, 35, 0, 3, 0), some (.bipush 14, 37, 14, 0, 0), none, some (.if_icmp .ge 47, 40, 0, 84, 0), none, none, some (.iload_n 2, 41, 0, 2, 0), some (.iload_n 3, 42, 0, 3, 0), some (.ishr, 43, 0, 0, 0), some (.iconst 1, 44, 1, 0, 0), some (.iand, 45, 0, 0, 0), some (.ifCond .eq 33, 48, 0, 78, 0), none, none, some (.aload_n 0, 49, 0, 0, 0), some (.iload_n 1, 50, 0, 1, 0), some (.iload_n 3, 51, 0, 3, 0), some (.invokevirtual 45, 54, 3, 39, 530), none, none, some (.ifCond .eq 24, 57, 0, 78, 0), none, none, some (.aload_n 0, 58, 0, 0, 0), some (.getfield 15, 61, 2, 3, 215), none, none, some (.iload_n 1, 62, 0, 1, 0), some (.iload_n 3, 63, 0, 3, 0), some (.iastore, 64, 0, 0, 0), some (.aload_n 0, 65, 0, 0, 0), some (.iload_n 1, 66, 0, 1, 0), some (.iconst 1, 67, 1, 0, 0), some (.iadd, 68, 0, 0, 0), some (.iload_n 2, 69, 0, 2, 0), some (.iconst 1, 70, 1, 0, 0), some (.iload_n 3, 71, 0, 3, 0), some (.ishl, 72, 0, 0, 0), some (.iconst (-1), 73, (-1), 0, 0), some (.ixor, 74, 0, 0, 0), some (.iand, 75, 0, 0, 0), some (.invokevirtual 35, 78, 3, 40, 519), none, none, some (.iinc 3 1, 81, 0, 3, 0), none, none, some (.goto (-47), 84, 0, 34, 0), none, none, some (.return_, 85, 0, 0, 0)]
def xmX2_extend : xM := (xhX2_extend, xkX2_extend)
def xkX2_list : List (Option xI) := [some (.aload_n 0, 1, 0, 0, 0), some (.iconst 0, 2, 0, 0, 0), some (.putfield 26, 5, 2, 1, 212), none, none, some (.aload_n 0, 6, 0, 0, 0), some (.iconst 0, 7, 0, 0, 0), some (.aload_n 0, 8, 0, 0, 0), some (.getfield 18, 11, 2, 0, 211), none, none, some (.getfield 30, 14, 1, 4, 166), none, none, some (.invokevirtual 35, 17, 3, 40, 519), none, none, some (.return_, 18, 0, 0, 0)]
def xmX2_list : xM := (xhX2_list, xkX2_list)
def xkX2_keepsHands : List (Option xI) := [some (.aload_n 0, 1, 0, 0, 0), some (.getfield 18, 4, 2, 0, 211), none, none, some (.getfield 65, 7, 1, 1, 159), none, none, some (.iconst 0, 8, 0, 0, 0), some (.aaload, 9, 0, 0, 0), some (.astore_n 2, 10, 0, 2, 0), some (.aload_n 2, 11, 0, 2, 0), some (.getfield 69, 14, 3, 8, 132), none, none, some (.iconst 0, 15, 0, 0, 0), some (.iaload, 16, 0, 0, 0), some (.istore_n 3, 17, 0, 3, 0), some (.aload_n 2, 18, 0, 2, 0), some (.getfield 69, 21, 3, 8, 132), none, none, some (.iconst 1, 22, 1, 0, 0), some (.iaload, 23, 0, 0, 0), some (.istore 4, 25, 0, 4, 0), none, some (.aload_n 2, 26, 0, 2, 0), some (.getfield 69, 29, 3, 8, 132), none, none, some (.iconst 2, 30, 2, 0, 0), some (.iaload, 31, 0, 0, 0), some (.istore 5, 33, 0, 5, 0), none, some (.aload_n 0, 34, 0, 0, 0), some (.getfield 18, 37, 2, 0, 211), none, none, some (.getfield 30, 40, 1, 4, 166), none, none, some (.aload_n 2, 41, 0, 2, 0), some (.getfield 74, 44, 3, 5, 125), none, none, some (.iconst (-1), 45, (-1), 0, 0), some (.ixor, 46, 0, 0, 0), some (.iand, 47, 0, 0, 0), some (.invokestatic 77, 50, 1, 20, 558), none, none, some (.istore 6, 52, 0, 6, 0), none, some (.aload_n 0, 53, 0, 0, 0), some (.getfield 18, 56, 2, 0, 211), none, none, some (.getfield 49, 59, 1, 0, 157), none, none, some (.iload_n 3, 60, 0, 3, 0), some (.iload 4, 62, 0, 4, 0), none, some (.iload 5, 64, 0, 5, 0), none, some (.iload 6, 66, 0, 6, 0), none, some (.invokevirtual 83, 69, 5, 9, 559), none, none, some (.lstore 7, 71, 0, 7, 0), none, some (.lload 7, 73, 0, 7, 0), none, some (.aload_n 0, 74, 0, 0, 0), some (.getfield 18, 77, 2, 0, 211), none, none, some (.getfield 49, 80, 1, 0, 157), none, none, some (.aload_n 0, 81, 0, 0, 0), some (.iload_n 1, 82, 0, 1, 0), some (.iload_n 3, 83, 0, 3, 0), some (.invokevirtual 87, 86, 3, 37, 560), none, none, some (.aload_n 0, 87, 0, 0, 0), some (.iload_n 1, 88, 0, 1, 0), some (.iload 4, 90, 0, 4, 0), none, some (.invokevirtual 87, 93, 3, 37, 560), none, none, some (.aload_n 0, 94, 0, 0, 0), some (.iload_n 1, 95, 0, 1, 0), some (.iload 5, 97, 0, 5, 0), none, some (.invokevirtual 87, 100, 3, 37, 560), none, none, some (.aload_n 0, 101, 0, 0, 0), some (.iload_n 1, 102, 0, 1, 0), some (.iload 6, 104, 0, 6, 0), none, some (.invokevirtual 87, 107, 3, 37, 560), none, none, some (.invokevirtual 83, 110, 5, 9, 559), none, none, some (.lcmp, 111, 0, 0, 0), some (.ifCond .ne 7, 114, 0, 118, 0), none, none, some (.iconst 1, 115, 1, 0, 0), some (.goto 4, 118, 0, 119, 0), none, none, some (.iconst 0, 119, 0, 0, 0), some (.ireturn, 120, 0, 0, 0)]
def xmX2_keepsHands : xM := (xhX2_keepsHands, xkX2_keepsHands)
def xkX2_ringLength : List (Option xI) := [some (.aload_n 0, 1, 0, 0, 0), some (.iload_n 1, 2, 0, 1, 0), some (.iload_n 2, 3, 0, 2, 0), some (.invokevirtual 87, 6, 3, 37, 560), none, none, some (.istore_n 3, 7, 0, 3, 0), some (.iconst 1, 8, 1, 0, 0), some (.istore 4, 10, 0, 4, 0), none, some (.iload_n 3, 11, 0, 3, 0), some (.iload_n 2, 12, 0, 2, 0), some (.if_icmp .eq 23, 15, 0, 35, 0), none, none, some (.iload 4, 17, 0, 4, 0), none, some (.bipush 14, 19, 14, 0, 0), none, some (.if_icmp .ge 16, 22, 0, 35, 0), none, none, some (.aload_n 0, 23, 0, 0, 0), some (.iload_n 1, 24, 0, 1, 0), some (.iload_n 3, 25, 0, 3, 0), some (.invokevirtual 87, 28, 3, 37, 560), none, none, some (.istore_n 3, 29, 0, 3, 0), some (.iinc 4 1, 32, 0, 4, 0), none, none, some (.goto (-22), 35, 0, 10, 0), none, none, some (.iload 4, 37, 0, 4, 0), none, some (.ireturn, 38, 0, 0, 0)]
def xmX2_ringLength : xM := (xhX2_ringLength, xkX2_ringLength)
def xkX2_period : List (Option xI) := [some (.lconst 1, 1, 1, 0, 0), some (.lstore_n 2, 2, 0, 2, 0), some (.iconst 0, 3, 0, 0, 0), some (.istore 4, 5, 0, 4, 0), none, some (.iload 4, 7, 0, 4, 0), none, some (.bipush 14, 9, 14, 0, 0), none, some (.if_icmp .ge 62, 12, 0, 71, 0), none, none, some (.aload_n 0, 13, 0, 0, 0), some (.getfield 18, 16, 2, 0, 211), none, none, some (.iload 4, 18, 0, 4, 0), none, some (.invokevirtual 42, 21, 2, 13, 529), none, none, some (.ifCond .eq 14, 24, 0, 35, 0), none, none, some (.aload_n 0, 25, 0, 0, 0), some (.iload_n 1, 26, 0, 1, 0), some (.iload 4, 28, 0, 4, 0), none, some (.invokevirtual 90, 31, 3, 43, 569), none, none, some (.i2l, 32, 0, 0, 0), some (.goto 4, 35, 0, 36, 0), none, none, some (.lconst 1, 36, 1, 0, 0), some (.lstore 5, 38, 0, 5, 0), none, some (.lload_n 2, 39, 0, 2, 0), some (.lload 5, 41, 0, 5, 0), none, some (.invokestatic 93, 44, 2, 15, 0), none, none, some (.lstore 7, 46, 0, 7, 0), none, some (.lload 7, 48, 0, 7, 0), none, some (.lconst 0, 49, 0, 0, 0), some (.lcmp, 50, 0, 0, 0), some (.ifCond .ne 7, 53, 0, 57, 0), none, none, some (.lload_n 2, 54, 0, 2, 0), some (.goto 10, 57, 0, 64, 0), none, none, some (.lload_n 2, 58, 0, 2, 0), some (.lload 7, 60, 0, 7, 0), none, some (.ldiv, 61, 0, 0, 0), some (.lload 5, 63, 0, 5, 0), none, some (.lmul, 64, 0, 0, 0), some (.lstore_n 2, 65, 0, 2, 0), some (.iinc 4 1, 68, 0, 4, 0), none, none, some (.goto (-63), 71, 0, 5, 0), none, none, some (.lload_n 2, 72, 0, 2, 0), some (.l2i, 73, 0, 0, 0), some (.ireturn, 74, 0, 0, 0)]
def xmX2_period : xM := (xhX2_period, xkX2_period)
def xkX4_init : List (Option xI) := [some (.aload_n 0, 1, 0, 0, 0), some (.invokespecial 3, 4, 1, 1000, 196), none, none, some (.aload_n 0, 5, 0, 0, 0), some (.bipush 96, 7, 96, 0, 0), none, some (.newarray .long, 9, 0, 0, 0), none, some (.putfield 11, 12, 4, 1, 199), none, none, some (.return_, 13, 0, 0, 0)]
def xmX4_init : xM := (xhX4_init, xkX4_init)
def xkX4_number : List (Option xI) := [some (.iload_n 1, 1, 0, 1, 0), some (.ifCond .lt 31, 4, 0, 32, 0), none, none, some (.iload_n 1, 5, 0, 1, 0), some (.bipush 24, 7, 24, 0, 0), none, some (.if_icmp .ge 25, 10, 0, 32, 0), none, none, some (.iload_n 2, 11, 0, 2, 0), some (.ifCond .lt 21, 14, 0, 32, 0), none, none, some (.iload_n 2, 15, 0, 2, 0), some (.iconst 4, 16, 4, 0, 0), some (.if_icmp .ge 16, 19, 0, 32, 0), none, none, some (.aload_n 0, 20, 0, 0, 0), some (.getfield 11, 23, 4, 1, 199), none, none, some (.iconst 4, 24, 4, 0, 0), some (.iload_n 1, 25, 0, 1, 0), some (.imul, 26, 0, 0, 0), some (.iload_n 2, 27, 0, 2, 0), some (.iadd, 28, 0, 0, 0), some (.laload, 29, 0, 0, 0), some (.goto 4, 32, 0, 33, 0), none, none, some (.lconst 0, 33, 0, 0, 0), some (.lreturn, 34, 0, 0, 0)]
def xmX4_number : xM := (xhX4_number, xkX4_number)
def xkX4_leads : List (Option xI) := [some (.aload_n 0, 1, 0, 0, 0), some (.iload 9, 3, 0, 9, 0), none, some (.iconst 3, 4, 3, 0, 0), some (.invokevirtual 67, 7, 3, 46, 456), none, none, some (.lstore 10, 9, 0, 10, 0), none, some (.lload_n 1, 10, 0, 1, 0), some (.lload 10, 12, 0, 10, 0), none, some (.lmul, 13, 0, 0, 0), some (.aload_n 0, 14, 0, 0, 0), some (.iload 9, 16, 0, 9, 0), none, some (.iconst 0, 17, 0, 0, 0), some (.invokevirtual 67, 20, 3, 46, 456), none, none, some (.lload 7, 22, 0, 7, 0), none, some (.lmul, 23, 0, 0, 0), some (.lsub, 24, 0, 0, 0), some (.lstore 12, 26, 0, 12, 0), none, some (.lload_n 3, 27, 0, 3, 0), some (.lload 10, 29, 0, 10, 0), none, some (.lmul, 30, 0, 0, 0), some (.aload_n 0, 31, 0, 0, 0), some (.iload 9, 33, 0, 9, 0), none, some (.iconst 1, 34, 1, 0, 0), some (.invokevirtual 67, 37, 3, 46, 456), none, none, some (.lload 7, 39, 0, 7, 0), none, some (.lmul, 40, 0, 0, 0), some (.lsub, 41, 0, 0, 0), some (.lstore 14, 43, 0, 14, 0), none, some (.lload 5, 45, 0, 5, 0), none, some (.lload 10, 47, 0, 10, 0), none, some (.lmul, 48, 0, 0, 0), some (.aload_n 0, 49, 0, 0, 0), some (.iload 9, 51, 0, 9, 0), none, some (.iconst 2, 52, 2, 0, 0), some (.invokevirtual 67, 55, 3, 46, 456), none, none, some (.lload 7, 57, 0, 7, 0), none, some (.lmul, 58, 0, 0, 0), some (.lsub, 59, 0, 0, 0), some (.lstore 16, 61, 0, 16, 0), none, some (.lload 12, 63, 0, 12, 0), none, some (.lconst 0, 64, 0, 0, 0), some (.lcmp, 65, 0, 0, 0), some (.ifCond .lt 31, 68, 0, 96, 0), none, none, some (.lload 12, 70, 0, 12, 0), none, some (.lconst 0, 71, 0, 0, 0), some (.lcmp, 72, 0, 0, 0), some (.ifCond .ne 28, 75, 0, 100, 0), none, none, some (.lload 14, 77, 0, 14, 0), none, some (.lconst 0, 78, 0, 0, 0), some (.lcmp, 79, 0, 0, 0), some (.ifCond .lt 17, 82, 0, 96, 0), none, none, some (.lload 14, 84, 0, 14, 0), none, some (.lconst 0, 85, 0, 0, 0), some (.lcmp, 86, 0, 0, 0), some (.ifCond .ne 14, 89, 0, 100, 0), none, none, some (.lload 16, 91, 0, 16, 0), none, some (.lconst 0, 92, 0, 0, 0), some (.lcmp, 93, 0, 0, 0), some (.ifCond .ge 7, 96, 0, 100, 0), none, none, some (.iconst 1, 97, 1, 0, 0), some (.goto 4, 100, 0, 101, 0), none, none, some (.iconst 0, 101, 0, 0, 0), some (.ireturn, 102, 0, 0, 0)]
def xmX4_leads : xM := (xhX4_leads, xkX4_leads)
def xkX4_insert : List (Option xI) := [some (.aload_n 0, 1, 0, 0, 0), some (.getfield 15, 4, 4, 0, 197), none, none, some (.ifCond .lt 12, 7, 0, 16, 0), none, none, some (.aload_n 0, 8, 0, 0, 0), some (.getfield 15, 11, 4, 0, 197), none, none, some (.bipush 24, 13, 24, 0, 0), none, some (.if_icmp .lt 4, 16, 0, 17, 0), none, none, some (.return_, 17, 0, 0, 0), some (.aload_n 0, 18, 0, 0, 0), some (.getfield 15, 21, 4, 0, 197), none, none, some (.istore 9, 23, 0, 9, 0), none, some (.iload 9, 25, 0, 9, 0), none, some (.ifCond .le 48, 28, 0, 73, 0), none, none, some (.aload_n 0, 29, 0, 0, 0), some (.lload_n 1, 30, 0, 1, 0), some (.lload_n 3, 31, 0, 3, 0), some (.lload 5, 33, 0, 5, 0), none, some (.lload 7, 35, 0, 7, 0), none, some (.iload 9, 37, 0, 9, 0), none, some (.iconst 1, 38, 1, 0, 0), some (.isub, 39, 0, 0, 0), some (.invokevirtual 57, 42, 6, 47, 452), none, none, some (.ifCond .eq 31, 45, 0, 73, 0), none, none, some (.aload_n 0, 46, 0, 0, 0), some (.getfield 11, 49, 4, 1, 199), none, none, some (.iconst 4, 50, 4, 0, 0), some (.iload 9, 52, 0, 9, 0), none, some (.iconst 1, 53, 1, 0, 0), some (.isub, 54, 0, 0, 0), some (.imul, 55, 0, 0, 0), some (.aload_n 0, 56, 0, 0, 0), some (.getfield 11, 59, 4, 1, 199), none, none, some (.iconst 4, 60, 4, 0, 0), some (.iload 9, 62, 0, 9, 0), none, some (.imul, 63, 0, 0, 0), some (.iconst 4, 64, 4, 0, 0), some (.invokestatic 61, 67, 5, 1001, 460), none, none, some (.iinc 9 (-1), 70, 0, 9, 0), none, none, some (.goto (-47), 73, 0, 23, 0), none, none, some (.aload_n 0, 74, 0, 0, 0), some (.getfield 11, 77, 4, 1, 199), none, none, some (.iconst 4, 78, 4, 0, 0), some (.iload 9, 80, 0, 9, 0), none, some (.imul, 81, 0, 0, 0), some (.lload_n 1, 82, 0, 1, 0), some (.lastore, 83, 0, 0, 0), some (.aload_n 0, 84, 0, 0, 0), some (.getfield 11, 87, 4, 1, 199), none, none, some (.iconst 4, 88, 4, 0, 0), some (.iload 9, 90, 0, 9, 0), none, some (.imul, 91, 0, 0, 0), some (.iconst 1, 92, 1, 0, 0), some (.iadd, 93, 0, 0, 0), some (.lload_n 3, 94, 0, 3, 0), some (.lastore, 95, 0, 0, 0), some (.aload_n 0, 96, 0, 0, 0), some (.getfield 11, 99, 4, 1, 199), none, none, some (.iconst 4, 100, 4, 0, 0), some (.iload 9, 102, 0, 9, 0), none, some (.imul, 103, 0, 0, 0), some (.iconst 2, 104, 2, 0, 0), some (.iadd, 105, 0, 0, 0), some (.lload 5, 107, 0, 5, 0), none, some (.lastore, 108, 0, 0, 0), some (.aload_n 0, 109, 0, 0, 0), some (.getfield 11, 112, 4, 1, 199), none, none, some (.iconst 4, 113, 4, 0, 0), some (.iload 9, 115, 0, 9, 0), none, some (.imul, 116, 0, 0, 0), some (.iconst 3, 117, 3, 0, 0), some (.iadd, 118, 0, 0, 0), some (.lload 7, 120, 0, 7, 0), none, some (.lastore, 121, 0, 0, 0), some (.aload_n 0, 122, 0, 0, 0), some (.dup, 123, 0, 0, 0), some (.getfield 15, 126, 4, 0, 197), none, none, some (.iconst 1, 127, 1, 0, 0), some (.iadd, 128, 0, 0, 0), some (.putfield 15, 131, 4, 0, 197), none, none, some (.return_, 132, 0, 0, 0)]
def xmX4_insert : xM := (xhX4_insert, xkX4_insert)
def xkX4_mix : List (Option xI) := [some (.aload_n 0, 1, 0, 0, 0), some (.lload_n 3, 2, 0, 3, 0), some (.aload_n 1, 3, 0, 1, 0), some (.iload_n 2, 4, 0, 2, 0), some (.iconst 0, 5, 0, 0, 0), some (.invokevirtual 49, 8, 3, 4, 447), none, none, some (.i2l, 9, 0, 0, 0), some (.lmul, 10, 0, 0, 0), some (.lload 6, 12, 0, 6, 0), none, some (.aload_n 1, 13, 0, 1, 0), some (.iload 5, 15, 0, 5, 0), none, some (.iconst 0, 16, 0, 0, 0), some (.invokevirtual 49, 19, 3, 4, 447), none, none, some (.i2l, 20, 0, 0, 0), some (.lmul, 21, 0, 0, 0), some (.ladd, 22, 0, 0, 0), some (.lload_n 3, 23, 0, 3, 0), some (.aload_n 1, 24, 0, 1, 0), some (.iload_n 2, 25, 0, 2, 0), some (.iconst 1, 26, 1, 0, 0), some (.invokevirtual 49, 29, 3, 4, 447), none, none, some (.i2l, 30, 0, 0, 0), some (.lmul, 31, 0, 0, 0), some (.lload 6, 33, 0, 6, 0), none, some (.aload_n 1, 34, 0, 1, 0), some (.iload 5, 36, 0, 5, 0), none, some (.iconst 1, 37, 1, 0, 0), some (.invokevirtual 49, 40, 3, 4, 447), none, none, some (.i2l, 41, 0, 0, 0), some (.lmul, 42, 0, 0, 0), some (.ladd, 43, 0, 0, 0), some (.lload_n 3, 44, 0, 3, 0), some (.aload_n 1, 45, 0, 1, 0), some (.iload_n 2, 46, 0, 2, 0), some (.iconst 2, 47, 2, 0, 0), some (.invokevirtual 49, 50, 3, 4, 447), none, none, some (.i2l, 51, 0, 0, 0), some (.lmul, 52, 0, 0, 0), some (.lload 6, 54, 0, 6, 0), none, some (.aload_n 1, 55, 0, 1, 0), some (.iload 5, 57, 0, 5, 0), none, some (.iconst 2, 58, 2, 0, 0), some (.invokevirtual 49, 61, 3, 4, 447), none, none, some (.i2l, 62, 0, 0, 0), some (.lmul, 63, 0, 0, 0), some (.ladd, 64, 0, 0, 0), some (.lload_n 3, 65, 0, 3, 0), some (.lload 6, 67, 0, 6, 0), none, some (.ladd, 68, 0, 0, 0), some (.invokevirtual 53, 71, 5, 48, 448), none, none, some (.return_, 72, 0, 0, 0)]
def xmX4_mix : xM := (xhX4_mix, xkX4_mix)
def xkX4_slice : List (Option xI) := [some (.aload_n 0, 1, 0, 0, 0), some (.iconst 0, 2, 0, 0, 0), some (.putfield 15, 5, 4, 0, 197), none, none, some (.iconst 0, 6, 0, 0, 0), some (.istore 10, 8, 0, 10, 0), none, some (.iload 10, 10, 0, 10, 0), none, some (.bipush 14, 12, 14, 0, 0), none, some (.if_icmp .ge 173, 15, 0, 185, 0), none, none, some (.aload_n 1, 16, 0, 1, 0), some (.iload 10, 18, 0, 10, 0), none, some (.invokevirtual 19, 21, 2, 13, 438), none, none, some (.ifCond .ne 6, 24, 0, 27, 0), none, none, some (.goto 155, 27, 0, 179, 0), none, none, some (.aload_n 1, 28, 0, 1, 0), some (.getfield 25, 31, 1, 0, 156), none, none, some (.iload 10, 33, 0, 10, 0), none, some (.lload_n 2, 34, 0, 2, 0), some (.lload 4, 36, 0, 4, 0), none, some (.lload 6, 38, 0, 6, 0), none, some (.invokevirtual 29, 41, 5, 5, 442), none, none, some (.lload 8, 43, 0, 8, 0), none, some (.lsub, 44, 0, 0, 0), some (.lstore 11, 46, 0, 11, 0), none, some (.lload 11, 48, 0, 11, 0), none, some (.lconst 0, 49, 0, 0, 0), some (.lcmp, 50, 0, 0, 0), some (.ifCond .ne 17, 53, 0, 67, 0), none, none, some (.aload_n 0, 54, 0, 0, 0), some (.aload_n 1, 55, 0, 1, 0), some (.getfield 25, 58, 1, 0, 156), none, none, some (.iload 10, 60, 0, 10, 0), none, some (.lconst 1, 61, 1, 0, 0), some (.iload 10, 63, 0, 10, 0), none, some (.lconst 0, 64, 0, 0, 0), some (.invokevirtual 35, 67, 6, 49, 443), none, none, some (.iconst 0, 68, 0, 0, 0), some (.istore 13, 70, 0, 13, 0), none, some (.iload 13, 72, 0, 13, 0), none, some (.iload 10, 74, 0, 10, 0), none, some (.if_icmp .ge 105, 77, 0, 179, 0), none, none, some (.aload_n 1, 78, 0, 1, 0), some (.getfield 25, 81, 1, 0, 156), none, none, some (.iload 13, 83, 0, 13, 0), none, some (.lload_n 2, 84, 0, 2, 0), some (.lload 4, 86, 0, 4, 0), none, some (.lload 6, 88, 0, 6, 0), none, some (.invokevirtual 29, 91, 5, 5, 442), none, none, some (.lload 8, 93, 0, 8, 0), none, some (.lsub, 94, 0, 0, 0), some (.lstore 14, 96, 0, 14, 0), none, some (.lload 11, 98, 0, 11, 0), none, some (.lconst 0, 99, 0, 0, 0), some (.lcmp, 100, 0, 0, 0), some (.ifCond .ge 10, 103, 0, 110, 0), none, none, some (.lload 14, 105, 0, 14, 0), none, some (.lconst 0, 106, 0, 0, 0), some (.lcmp, 107, 0, 0, 0), some (.ifCond .gt 17, 110, 0, 124, 0), none, none, some (.lload 11, 112, 0, 11, 0), none, some (.lconst 0, 113, 0, 0, 0), some (.lcmp, 114, 0, 0, 0), some (.ifCond .le 14, 117, 0, 128, 0), none, none, some (.lload 14, 119, 0, 14, 0), none, some (.lconst 0, 120, 0, 0, 0), some (.lcmp, 121, 0, 0, 0), some (.ifCond .ge 7, 124, 0, 128, 0), none, none, some (.iconst 1, 125, 1, 0, 0), some (.goto 4, 128, 0, 129, 0), none, none, some (.iconst 0, 129, 0, 0, 0), some (.istore 16, 131, 0, 16, 0), none, some (.iload 16, 133, 0, 16, 0), none, some (.ifCond .eq 40, 136, 0, 173, 0), none, none, some (.aload_n 1, 137, 0, 1, 0), some (.getfield 39, 140, 1, 5, 169), none, none, some (.iload 10, 142, 0, 10, 0), none, some (.iaload, 143, 0, 0, 0), some (.iload 13, 145, 0, 13, 0), none, some (.ishr, 146, 0, 0, 0), some (.iconst 1, 147, 1, 0, 0), some (.iand, 148, 0, 0, 0), some (.ifCond .eq 25, 151, 0, 173, 0), none, none, some (.aload_n 0, 152, 0, 0, 0), some (.aload_n 1, 153, 0, 1, 0), some (.getfield 25, 156, 1, 0, 156), none, none, some (.iload 10, 158, 0, 10, 0), none, some (.lload 14, 160, 0, 14, 0), none, some (.invokestatic 43, 163, 1, 144, 463), none, none, some (.iload 13, 165, 0, 13, 0), none, some (.lload 11, 167, 0, 11, 0), none, some (.invokestatic 43, 170, 1, 144, 463), none, none, some (.invokevirtual 35, 173, 6, 49, 443), none, none, some (.iinc 13 1, 176, 0, 13, 0), none, none, some (.goto (-106), 179, 0, 70, 0), none, none, some (.iinc 10 1, 182, 0, 10, 0), none, none, some (.goto (-174), 185, 0, 8, 0), none, none, some (.return_, 186, 0, 0, 0)]
def xmX4_slice : xM := (xhX4_slice, xkX4_slice)
def xkX5_init : List (Option xI) := [some (.aload_n 0, 1, 0, 0, 0), some (.invokespecial 3, 4, 1, 1000, 71), none, none, some (.aload_n 0, 5, 0, 0, 0), some (.new 9, 8, 0, 0, 74), none, none, some (.dup, 9, 0, 0, 0), some (.invokespecial 11, 12, 1, 0, 0), none, none, some (.putfield 12, 15, 5, 0, 227), none, none, some (.aload_n 0, 16, 0, 0, 0), some (.new 16, 19, 1, 0, 97), none, none, some (.dup, 20, 0, 0, 0), some (.aload_n 0, 21, 0, 0, 0), some (.getfield 12, 24, 5, 0, 227), none, none, some (.invokespecial 18, 27, 2, 11, 99), none, none, some (.putfield 21, 30, 5, 1, 228), none, none, some (.aload_n 0, 31, 0, 0, 0), some (.new 25, 34, 4, 0, 191), none, none, some (.dup, 35, 0, 0, 0), some (.invokespecial 27, 38, 1, 45, 0), none, none, some (.putfield 28, 41, 5, 2, 229), none, none, some (.aload_n 0, 42, 0, 0, 0), some (.new 32, 45, 2, 0, 205), none, none, some (.dup, 46, 0, 0, 0), some (.aload_n 0, 47, 0, 0, 0), some (.getfield 21, 50, 5, 1, 228), none, none, some (.invokespecial 34, 53, 2, 36, 207), none, none, some (.putfield 37, 56, 5, 3, 230), none, none, some (.aload_n 0, 57, 0, 0, 0), some (.new 41, 60, 3, 0, 225), none, none, some (.dup, 61, 0, 0, 0), some (.aload_n 0, 62, 0, 0, 0), some (.getfield 12, 65, 5, 0, 227), none, none, some (.invokespecial 43, 68, 2, 10, 226), none, none, some (.putfield 44, 71, 5, 4, 231), none, none, some (.return_, 72, 0, 0, 0)]
def xmX5_init : xM := (xhX5_init, xkX5_init)
def xkX5_within : List (Option xI) := [some (.iload_n 0, 1, 0, 0, 0), some (.iload_n 1, 2, 0, 1, 0), some (.ineg, 3, 0, 0, 0), some (.if_icmp .lt 12, 6, 0, 15, 0), none, none, some (.iload_n 0, 7, 0, 0, 0), some (.iload_n 1, 8, 0, 1, 0), some (.if_icmp .gt 7, 11, 0, 15, 0), none, none, some (.iconst 1, 12, 1, 0, 0), some (.goto 4, 15, 0, 16, 0), none, none, some (.iconst 0, 16, 0, 0, 0), some (.ireturn, 17, 0, 0, 0)]
def xmX5_within : xM := (xhX5_within, xkX5_within)
def xkX5_forget : List (Option xI) := [some (.aload_n 0, 1, 0, 0, 0), some (.getfield 37, 4, 5, 3, 230), none, none, some (.iconst 0, 5, 0, 0, 0), some (.putfield 191, 8, 2, 1, 213), none, none, some (.aload_n 0, 9, 0, 0, 0), some (.getfield 28, 12, 5, 2, 229), none, none, some (.iconst 0, 13, 0, 0, 0), some (.putfield 144, 16, 4, 0, 198), none, none, some (.return_, 17, 0, 0, 0)]
def xmX5_forget : xM := (xhX5_forget, xkX5_forget)
def xkX5_point : List (Option xI) := [some (.iload_n 1, 1, 0, 1, 0), some (.bipush 20, 3, 20, 0, 0), none, some (.invokestatic 48, 6, 2, 52, 247), none, none, some (.ifCond .eq 21, 9, 0, 27, 0), none, none, some (.iload_n 2, 10, 0, 2, 0), some (.bipush 20, 12, 20, 0, 0), none, some (.invokestatic 48, 15, 2, 52, 247), none, none, some (.ifCond .eq 12, 18, 0, 27, 0), none, none, some (.iload_n 3, 19, 0, 3, 0), some (.bipush 20, 21, 20, 0, 0), none, some (.invokestatic 48, 24, 2, 52, 247), none, none, some (.ifCond .ne 6, 27, 0, 30, 0), none, none, some (.bipush (-2), 29, (-2), 0, 0), none, some (.ireturn, 30, 0, 0, 0), some (.aload_n 0, 31, 0, 0, 0), some (.getfield 12, 34, 5, 0, 227), none, none, some (.iload_n 1, 35, 0, 1, 0), some (.iload_n 2, 36, 0, 2, 0), some (.iload_n 3, 37, 0, 3, 0), some (.invokevirtual 52, 40, 4, 1, 250), none, none, some (.ifCond .eq 6, 43, 0, 46, 0), none, none, some (.bipush (-3), 45, (-3), 0, 0), none, some (.ireturn, 46, 0, 0, 0), some (.aload_n 0, 47, 0, 0, 0), some (.getfield 12, 50, 5, 0, 227), none, none, some (.getfield 56, 53, 0, 0, 81), none, none, some (.bipush 14, 55, 14, 0, 0), none, some (.if_icmp .lt 6, 58, 0, 61, 0), none, none, some (.bipush (-4), 60, (-4), 0, 0), none, some (.ireturn, 61, 0, 0, 0), some (.aload_n 0, 62, 0, 0, 0), some (.getfield 12, 65, 5, 0, 227), none, none, some (.iload_n 1, 66, 0, 1, 0), some (.iload_n 2, 67, 0, 2, 0), some (.iload_n 3, 68, 0, 3, 0), some (.invokevirtual 60, 71, 4, 3, 254), none, none, some (.aload_n 0, 72, 0, 0, 0), some (.getfield 21, 75, 5, 1, 228), none, none, some (.invokevirtual 64, 78, 1, 30, 261), none, none, some (.aload_n 0, 79, 0, 0, 0), some (.invokevirtual 67, 82, 1, 53, 354), none, none, some (.aload_n 0, 83, 0, 0, 0), some (.getfield 12, 86, 5, 0, 227), none, none, some (.getfield 56, 89, 0, 0, 81), none, none, some (.iconst 1, 90, 1, 0, 0), some (.isub, 91, 0, 0, 0), some (.ireturn, 92, 0, 0, 0)]
def xmX5_point : xM := (xhX5_point, xkX5_point)
def xkX5_clear : List (Option xI) := [some (.aload_n 0, 1, 0, 0, 0), some (.getfield 12, 4, 5, 0, 227), none, none, some (.getfield 56, 7, 0, 0, 81), none, none, some (.istore_n 1, 8, 0, 1, 0), some (.aload_n 0, 9, 0, 0, 0), some (.getfield 12, 12, 5, 0, 227), none, none, some (.iconst 0, 13, 0, 0, 0), some (.putfield 56, 16, 0, 0, 81), none, none, some (.aload_n 0, 17, 0, 0, 0), some (.getfield 21, 20, 5, 1, 228), none, none, some (.invokevirtual 64, 23, 1, 30, 261), none, none, some (.aload_n 0, 24, 0, 0, 0), some (.invokevirtual 67, 27, 1, 53, 354), none, none, some (.iload_n 1, 28, 0, 1, 0), some (.ireturn, 29, 0, 0, 0)]
def xmX5_clear : xM := (xhX5_clear, xkX5_clear)
def xkX5_stands : List (Option xI) := [some (.aload_n 0, 1, 0, 0, 0), some (.getfield 21, 4, 5, 1, 228), none, none, some (.getfield 80, 7, 1, 2, 162), none, none, some (.ifCond .le 7, 10, 0, 14, 0), none, none, some (.iconst 1, 11, 1, 0, 0), some (.goto 4, 14, 0, 15, 0), none, none, some (.iconst 0, 15, 0, 0, 0), some (.ireturn, 16, 0, 0, 0)]
def xmX5_stands : xM := (xhX5_stands, xkX5_stands)
def xkX5_flat : List (Option xI) := [some (.aload_n 0, 1, 0, 0, 0), some (.invokevirtual 70, 4, 1, 56, 366), none, none, some (.ifCond .ne 7, 7, 0, 11, 0), none, none, some (.iconst 1, 8, 1, 0, 0), some (.goto 4, 11, 0, 12, 0), none, none, some (.iconst 0, 12, 0, 0, 0), some (.ireturn, 13, 0, 0, 0)]
def xmX5_flat : xM := (xhX5_flat, xkX5_flat)
def xkX5_corners : List (Option xI) := [some (.aload_n 0, 1, 0, 0, 0), some (.invokevirtual 70, 4, 1, 56, 366), none, none, some (.ifCond .eq 13, 7, 0, 17, 0), none, none, some (.aload_n 0, 8, 0, 0, 0), some (.getfield 21, 11, 5, 1, 228), none, none, some (.getfield 74, 14, 1, 4, 167), none, none, some (.goto 5, 17, 0, 19, 0), none, none, some (.bipush (-3), 19, (-3), 0, 0), none, some (.ireturn, 20, 0, 0, 0)]
def xmX5_corners : xM := (xhX5_corners, xkX5_corners)
def xkX5_edges : List (Option xI) := [some (.aload_n 0, 1, 0, 0, 0), some (.invokevirtual 70, 4, 1, 56, 366), none, none, some (.ifCond .eq 13, 7, 0, 17, 0), none, none, some (.aload_n 0, 8, 0, 0, 0), some (.getfield 21, 11, 5, 1, 228), none, none, some (.getfield 77, 14, 1, 3, 163), none, none, some (.goto 5, 17, 0, 19, 0), none, none, some (.bipush (-3), 19, (-3), 0, 0), none, some (.ireturn, 20, 0, 0, 0)]
def xmX5_edges : xM := (xhX5_edges, xkX5_edges)
def xkX5_faces : List (Option xI) := [some (.aload_n 0, 1, 0, 0, 0), some (.invokevirtual 70, 4, 1, 56, 366), none, none, some (.ifCond .eq 13, 7, 0, 17, 0), none, none, some (.aload_n 0, 8, 0, 0, 0), some (.getfield 21, 11, 5, 1, 228), none, none, some (.getfield 80, 14, 1, 2, 162), none, none, some (.goto 5, 17, 0, 19, 0), none, none, some (.bipush (-3), 19, (-3), 0, 0), none, some (.ireturn, 20, 0, 0, 0)]
def xmX5_faces : xM := (xhX5_faces, xkX5_faces)
def xkX5_size : List (Option xI) := [some (.aload_n 0, 1, 0, 0, 0), some (.invokevirtual 70, 4, 1, 56, 366), none, none, some (.ifCond .ne 6, 7, 0, 10, 0), none, none, some (.bipush (-3), 9, (-3), 0, 0), none, some (.ireturn, 10, 0, 0, 0), some (.aload_n 0, 11, 0, 0, 0), some (.getfield 21, 14, 5, 1, 228), none, none, some (.iload_n 1, 15, 0, 1, 0), some (.invokevirtual 83, 18, 2, 12, 386), none, none, some (.ifCond .eq 18, 21, 0, 36, 0), none, none, some (.aload_n 0, 22, 0, 0, 0), some (.getfield 21, 25, 5, 1, 228), none, none, some (.getfield 87, 28, 1, 1, 160), none, none, some (.iload_n 1, 29, 0, 1, 0), some (.aaload, 30, 0, 0, 0), some (.getfield 91, 33, 3, 7, 129), none, none, some (.goto 4, 36, 0, 37, 0), none, none, some (.iconst (-1), 37, (-1), 0, 0), some (.ireturn, 38, 0, 0, 0)]
def xmX5_size : xM := (xhX5_size, xkX5_size)
def xkX5_at : List (Option xI) := [some (.aload_n 0, 1, 0, 0, 0), some (.invokevirtual 70, 4, 1, 56, 366), none, none, some (.ifCond .ne 6, 7, 0, 10, 0), none, none, some (.bipush (-3), 9, (-3), 0, 0), none, some (.ireturn, 10, 0, 0, 0), some (.aload_n 0, 11, 0, 0, 0), some (.getfield 21, 14, 5, 1, 228), none, none, some (.iload_n 1, 15, 0, 1, 0), some (.invokevirtual 83, 18, 2, 12, 386), none, none, some (.ifCond .eq 23, 21, 0, 41, 0), none, none, some (.iload_n 2, 22, 0, 2, 0), some (.ifCond .lt 19, 25, 0, 41, 0), none, none, some (.iload_n 2, 26, 0, 2, 0), some (.aload_n 0, 27, 0, 0, 0), some (.getfield 21, 30, 5, 1, 228), none, none, some (.getfield 87, 33, 1, 1, 160), none, none, some (.iload_n 1, 34, 0, 1, 0), some (.aaload, 35, 0, 0, 0), some (.getfield 91, 38, 3, 7, 129), none, none, some (.if_icmp .lt 5, 41, 0, 43, 0), none, none, some (.iconst (-1), 42, (-1), 0, 0), some (.ireturn, 43, 0, 0, 0), some (.aload_n 0, 44, 0, 0, 0), some (.getfield 21, 47, 5, 1, 228), none, none, some (.getfield 87, 50, 1, 1, 160), none, none, some (.iload_n 1, 51, 0, 1, 0), some (.aaload, 52, 0, 0, 0), some (.getfield 94, 55, 3, 8, 134), none, none, some (.iload_n 2, 56, 0, 2, 0), some (.iaload, 57, 0, 0, 0), some (.ireturn, 58, 0, 0, 0)]
def xmX5_at : xM := (xhX5_at, xkX5_at)
def xkX5_normal : List (Option xI) := [some (.aload_n 0, 1, 0, 0, 0), some (.invokevirtual 70, 4, 1, 56, 366), none, none, some (.ifCond .eq 14, 7, 0, 18, 0), none, none, some (.aload_n 0, 8, 0, 0, 0), some (.getfield 21, 11, 5, 1, 228), none, none, some (.iload_n 1, 12, 0, 1, 0), some (.invokevirtual 83, 15, 2, 12, 386), none, none, some (.ifCond .ne 7, 18, 0, 22, 0), none, none, some (.ldc2_w 98, 21, (-1000000000000), 0, 398), none, none, some (.lreturn, 22, 0, 0, 0), some (.aload_n 0, 23, 0, 0, 0), some (.getfield 21, 26, 5, 1, 228), none, none, some (.getfield 87, 29, 1, 1, 160), none, none, some (.iload_n 1, 30, 0, 1, 0), some (.aaload, 31, 0, 0, 0), some (.astore_n 3, 32, 0, 3, 0), some (.iload_n 2, 33, 0, 2, 0), some (.tableswitch 51 0 3 #[31, 36, 41, 46], 64, 0, 0, 0), none, none, none, none, none, none, none, none, none, none, none, none, none, none, none, none, none, none, none, none, none, none, none, none, none, none, none, none, none, none, some (.aload_n 3, 65, 0, 3, 0), some (.getfield 100, 68, 3, 1, 112), none, none, some (.lreturn, 69, 0, 0, 0), some (.aload_n 3, 70, 0, 3, 0), some (.getfield 104, 73, 3, 2, 115), none, none, some (.lreturn, 74, 0, 0, 0), some (.aload_n 3, 75, 0, 3, 0), some (.getfield 107, 78, 3, 3, 118), none, none, some (.lreturn, 79, 0, 0, 0), some (.aload_n 3, 80, 0, 3, 0), some (.getfield 110, 83, 3, 4, 121), none, none, some (.lreturn, 84, 0, 0, 0), some (.ldc2_w 98, 87, (-1000000000000), 0, 398), none, none, some (.lreturn, 88, 0, 0, 0)]
def xmX5_normal : xM := (xhX5_normal, xkX5_normal)
def xkX5_volume : List (Option xI) := [some (.aload_n 0, 1, 0, 0, 0), some (.invokevirtual 70, 4, 1, 56, 366), none, none, some (.ifCond .eq 13, 7, 0, 17, 0), none, none, some (.aload_n 0, 8, 0, 0, 0), some (.getfield 21, 11, 5, 1, 228), none, none, some (.getfield 113, 14, 1, 6, 171), none, none, some (.goto 6, 17, 0, 20, 0), none, none, some (.ldc2_w 98, 20, (-1000000000000), 0, 398), none, none, some (.lreturn, 21, 0, 0, 0)]
def xmX5_volume : xM := (xhX5_volume, xkX5_volume)
def xkX5_isAxis : List (Option xI) := [some (.iload_n 0, 1, 0, 0, 0), some (.ifCond .lt 12, 4, 0, 13, 0), none, none, some (.iload_n 0, 5, 0, 0, 0), some (.iconst 2, 6, 2, 0, 0), some (.if_icmp .gt 7, 9, 0, 13, 0), none, none, some (.iconst 1, 10, 1, 0, 0), some (.goto 4, 13, 0, 14, 0), none, none, some (.iconst 0, 14, 0, 0, 0), some (.ireturn, 15, 0, 0, 0)]
def xmX5_isAxis : xM := (xhX5_isAxis, xkX5_isAxis)
def xkX5_isPart : List (Option xI) := [some (.iload_n 0, 1, 0, 0, 0), some (.ifCond .eq 8, 4, 0, 9, 0), none, none, some (.iload_n 0, 5, 0, 0, 0), some (.iconst 1, 6, 1, 0, 0), some (.if_icmp .ne 7, 9, 0, 13, 0), none, none, some (.iconst 1, 10, 1, 0, 0), some (.goto 4, 13, 0, 14, 0), none, none, some (.iconst 0, 14, 0, 0, 0), some (.ireturn, 15, 0, 0, 0)]
def xmX5_isPart : xM := (xhX5_isPart, xkX5_isPart)
def xkX5_fraction : List (Option xI) := [some (.lload_n 0, 1, 0, 0, 0), some (.lload_n 2, 2, 0, 2, 0), some (.invokestatic 195, 5, 2, 15, 417), none, none, some (.lstore 5, 7, 0, 5, 0), none, some (.lload 5, 9, 0, 5, 0), none, some (.lconst 0, 10, 0, 0, 0), some (.lcmp, 11, 0, 0, 0), some (.ifCond .ne 7, 14, 0, 18, 0), none, none, some (.ldc2_w 98, 17, (-1000000000000), 0, 398), none, none, some (.lreturn, 18, 0, 0, 0), some (.iload 4, 20, 0, 4, 0), none, some (.ifCond .ne 7, 23, 0, 27, 0), none, none, some (.lload_n 0, 24, 0, 0, 0), some (.goto 4, 27, 0, 28, 0), none, none, some (.lload_n 2, 28, 0, 2, 0), some (.lload 5, 30, 0, 5, 0), none, some (.ldiv, 31, 0, 0, 0), some (.lreturn, 32, 0, 0, 0)]
def xmX5_fraction : xM := (xhX5_fraction, xkX5_fraction)
def xkX5_middle : List (Option xI) := [some (.aload_n 0, 1, 0, 0, 0), some (.invokevirtual 70, 4, 1, 56, 366), none, none, some (.ifCond .eq 17, 7, 0, 21, 0), none, none, some (.iload_n 1, 8, 0, 1, 0), some (.invokestatic 116, 11, 1, 65, 407), none, none, some (.ifCond .eq 10, 14, 0, 21, 0), none, none, some (.iload_n 2, 15, 0, 2, 0), some (.invokestatic 119, 18, 1, 66, 410), none, none, some (.ifCond .ne 7, 21, 0, 25, 0), none, none, some (.ldc2_w 98, 24, (-1000000000000), 0, 398), none, none, some (.lreturn, 25, 0, 0, 0), some (.aload_n 0, 26, 0, 0, 0), some (.getfield 21, 29, 5, 1, 228), none, none, some (.getfield 122, 32, 1, 7, 173), none, none, some (.iload_n 1, 33, 0, 1, 0), some (.laload, 34, 0, 0, 0), some (.ldc2_w 126, 37, 4, 0, 413), none, none, some (.aload_n 0, 38, 0, 0, 0), some (.getfield 21, 41, 5, 1, 228), none, none, some (.getfield 113, 44, 1, 6, 171), none, none, some (.lmul, 45, 0, 0, 0), some (.iload_n 2, 46, 0, 2, 0), some (.invokestatic 128, 49, 3, 67, 414), none, none, some (.lreturn, 50, 0, 0, 0)]
def xmX5_middle : xM := (xhX5_middle, xkX5_middle)
def xkX5_where : List (Option xI) := [some (.aload_n 0, 1, 0, 0, 0), some (.invokevirtual 70, 4, 1, 56, 366), none, none, some (.ifCond .ne 6, 7, 0, 10, 0), none, none, some (.bipush (-3), 9, (-3), 0, 0), none, some (.ireturn, 10, 0, 0, 0), some (.iload 4, 12, 0, 4, 0), none, some (.iconst 1, 13, 1, 0, 0), some (.if_icmp .lt 11, 16, 0, 24, 0), none, none, some (.iload 4, 18, 0, 4, 0), none, some (.sipush 1000, 21, 1000, 0, 0), none, none, some (.if_icmp .le 6, 24, 0, 27, 0), none, none, some (.bipush (-2), 26, (-2), 0, 0), none, some (.ireturn, 27, 0, 0, 0), some (.iload_n 1, 28, 0, 1, 0), some (.ldc 132, 30, 100000, 0, 422), none, some (.invokestatic 48, 33, 2, 52, 247), none, none, some (.ifCond .eq 21, 36, 0, 54, 0), none, none, some (.iload_n 2, 37, 0, 2, 0), some (.ldc 132, 39, 100000, 0, 422), none, some (.invokestatic 48, 42, 2, 52, 247), none, none, some (.ifCond .eq 12, 45, 0, 54, 0), none, none, some (.iload_n 3, 46, 0, 3, 0), some (.ldc 132, 48, 100000, 0, 422), none, some (.invokestatic 48, 51, 2, 52, 247), none, none, some (.ifCond .ne 6, 54, 0, 57, 0), none, none, some (.bipush (-2), 56, (-2), 0, 0), none, some (.ireturn, 57, 0, 0, 0), some (.aload_n 0, 58, 0, 0, 0), some (.getfield 21, 61, 5, 1, 228), none, none, some (.iload_n 1, 62, 0, 1, 0), some (.i2l, 63, 0, 0, 0), some (.iload_n 2, 64, 0, 2, 0), some (.i2l, 65, 0, 0, 0), some (.iload_n 3, 66, 0, 3, 0), some (.i2l, 67, 0, 0, 0), some (.iload 4, 69, 0, 4, 0), none, some (.i2l, 70, 0, 0, 0), some (.invokevirtual 133, 73, 5, 31, 423), none, none, some (.ireturn, 74, 0, 0, 0)]
def xmX5_where : xM := (xhX5_where, xkX5_where)
def xkX5_isDirection : List (Option xI) := [some (.iload_n 0, 1, 0, 0, 0), some (.ifCond .ne 11, 4, 0, 12, 0), none, none, some (.iload_n 1, 5, 0, 1, 0), some (.ifCond .ne 7, 8, 0, 12, 0), none, none, some (.iload_n 2, 9, 0, 2, 0), some (.ifCond .eq 7, 12, 0, 16, 0), none, none, some (.iconst 1, 13, 1, 0, 0), some (.goto 4, 16, 0, 17, 0), none, none, some (.iconst 0, 17, 0, 0, 0), some (.istore_n 3, 18, 0, 3, 0), some (.iload_n 3, 19, 0, 3, 0), some (.ifCond .eq 34, 22, 0, 53, 0), none, none, some (.iload_n 0, 23, 0, 0, 0), some (.bipush 20, 25, 20, 0, 0), none, some (.invokestatic 48, 28, 2, 52, 247), none, none, some (.ifCond .eq 25, 31, 0, 53, 0), none, none, some (.iload_n 1, 32, 0, 1, 0), some (.bipush 20, 34, 20, 0, 0), none, some (.invokestatic 48, 37, 2, 52, 247), none, none, some (.ifCond .eq 16, 40, 0, 53, 0), none, none, some (.iload_n 2, 41, 0, 2, 0), some (.bipush 20, 43, 20, 0, 0), none, some (.invokestatic 48, 46, 2, 52, 247), none, none, some (.ifCond .eq 7, 49, 0, 53, 0), none, none, some (.iconst 1, 50, 1, 0, 0), some (.goto 4, 53, 0, 54, 0), none, none, some (.iconst 0, 54, 0, 0, 0), some (.ireturn, 55, 0, 0, 0)]
def xmX5_isDirection : xM := (xhX5_isDirection, xkX5_isDirection)
def xkX5_cut : List (Option xI) := [some (.aload_n 0, 1, 0, 0, 0), some (.invokevirtual 70, 4, 1, 56, 366), none, none, some (.ifCond .ne 6, 7, 0, 10, 0), none, none, some (.bipush (-3), 9, (-3), 0, 0), none, some (.ireturn, 10, 0, 0, 0), some (.iload_n 1, 11, 0, 1, 0), some (.iload_n 2, 12, 0, 2, 0), some (.iload_n 3, 13, 0, 3, 0), some (.invokestatic 137, 16, 3, 70, 431), none, none, some (.ifCond .eq 14, 19, 0, 30, 0), none, none, some (.iload 4, 21, 0, 4, 0), none, some (.sipush 2000, 24, 2000, 0, 0), none, none, some (.invokestatic 48, 27, 2, 52, 247), none, none, some (.ifCond .ne 6, 30, 0, 33, 0), none, none, some (.bipush (-2), 32, (-2), 0, 0), none, some (.ireturn, 33, 0, 0, 0), some (.aload_n 0, 34, 0, 0, 0), some (.getfield 28, 37, 5, 2, 229), none, none, some (.aload_n 0, 38, 0, 0, 0), some (.getfield 21, 41, 5, 1, 228), none, none, some (.iload_n 1, 42, 0, 1, 0), some (.i2l, 43, 0, 0, 0), some (.iload_n 2, 44, 0, 2, 0), some (.i2l, 45, 0, 0, 0), some (.iload_n 3, 46, 0, 3, 0), some (.i2l, 47, 0, 0, 0), some (.iload 4, 49, 0, 4, 0), none, some (.i2l, 50, 0, 0, 0), some (.invokevirtual 140, 53, 6, 50, 434), none, none, some (.aload_n 0, 54, 0, 0, 0), some (.getfield 28, 57, 5, 2, 229), none, none, some (.getfield 144, 60, 4, 0, 198), none, none, some (.ireturn, 61, 0, 0, 0)]
def xmX5_cut : xM := (xhX5_cut, xkX5_cut)
def xkX5_cutAt : List (Option xI) := [some (.iload_n 1, 1, 0, 1, 0), some (.ifCond .lt 28, 4, 0, 29, 0), none, none, some (.iload_n 1, 5, 0, 1, 0), some (.aload_n 0, 6, 0, 0, 0), some (.getfield 28, 9, 5, 2, 229), none, none, some (.getfield 144, 12, 4, 0, 198), none, none, some (.if_icmp .ge 17, 15, 0, 29, 0), none, none, some (.iload_n 2, 16, 0, 2, 0), some (.invokestatic 116, 19, 1, 65, 407), none, none, some (.ifCond .eq 10, 22, 0, 29, 0), none, none, some (.iload_n 3, 23, 0, 3, 0), some (.invokestatic 119, 26, 1, 66, 410), none, none, some (.ifCond .ne 7, 29, 0, 33, 0), none, none, some (.ldc2_w 98, 32, (-1000000000000), 0, 398), none, none, some (.lreturn, 33, 0, 0, 0), some (.aload_n 0, 34, 0, 0, 0), some (.getfield 28, 37, 5, 2, 229), none, none, some (.iload_n 1, 38, 0, 1, 0), some (.iload_n 2, 39, 0, 2, 0), some (.invokevirtual 145, 42, 3, 46, 468), none, none, some (.aload_n 0, 43, 0, 0, 0), some (.getfield 28, 46, 5, 2, 229), none, none, some (.iload_n 1, 47, 0, 1, 0), some (.iconst 3, 48, 3, 0, 0), some (.invokevirtual 145, 51, 3, 46, 468), none, none, some (.iload_n 3, 52, 0, 3, 0), some (.invokestatic 128, 55, 3, 67, 414), none, none, some (.lreturn, 56, 0, 0, 0)]
def xmX5_cutAt : xM := (xhX5_cutAt, xkX5_cutAt)
def xkX5_shadow : List (Option xI) := [some (.aload_n 0, 1, 0, 0, 0), some (.invokevirtual 70, 4, 1, 56, 366), none, none, some (.ifCond .ne 6, 7, 0, 10, 0), none, none, some (.bipush (-3), 9, (-3), 0, 0), none, some (.ireturn, 10, 0, 0, 0), some (.iload_n 1, 11, 0, 1, 0), some (.iload_n 2, 12, 0, 2, 0), some (.iload_n 3, 13, 0, 3, 0), some (.invokestatic 137, 16, 3, 70, 431), none, none, some (.ifCond .ne 6, 19, 0, 22, 0), none, none, some (.bipush (-2), 21, (-2), 0, 0), none, some (.ireturn, 22, 0, 0, 0), some (.aload_n 0, 23, 0, 0, 0), some (.getfield 44, 26, 5, 4, 231), none, none, some (.iload_n 1, 27, 0, 1, 0), some (.i2l, 28, 0, 0, 0), some (.iload_n 2, 29, 0, 2, 0), some (.i2l, 30, 0, 0, 0), some (.iload_n 3, 31, 0, 3, 0), some (.i2l, 32, 0, 0, 0), some (.aload_n 0, 33, 0, 0, 0), some (.getfield 21, 36, 5, 1, 228), none, none, some (.getfield 74, 39, 1, 4, 167), none, none, some (.invokevirtual 149, 42, 5, 16, 473), none, none, some (.aload_n 0, 43, 0, 0, 0), some (.getfield 44, 46, 5, 4, 231), none, none, some (.aload_n 0, 47, 0, 0, 0), some (.getfield 44, 50, 5, 4, 231), none, none, some (.invokevirtual 153, 53, 1, 21, 474), none, none, some (.invokevirtual 157, 56, 2, 23, 475), none, none, some (.aload_n 0, 57, 0, 0, 0), some (.getfield 44, 60, 5, 4, 231), none, none, some (.getfield 91, 63, 3, 7, 129), none, none, some (.ireturn, 64, 0, 0, 0)]
def xmX5_shadow : xM := (xhX5_shadow, xkX5_shadow)
def xkX5_far : List (Option xI) := [some (.aload_n 0, 1, 0, 0, 0), some (.invokevirtual 70, 4, 1, 56, 366), none, none, some (.ifCond .eq 23, 7, 0, 27, 0), none, none, some (.iload_n 1, 8, 0, 1, 0), some (.iload_n 2, 9, 0, 2, 0), some (.iload_n 3, 10, 0, 3, 0), some (.invokestatic 137, 13, 3, 70, 431), none, none, some (.ifCond .eq 14, 16, 0, 27, 0), none, none, some (.iload 4, 18, 0, 4, 0), none, some (.ifCond .lt 9, 21, 0, 27, 0), none, none, some (.iload 4, 23, 0, 4, 0), none, some (.iconst 1, 24, 1, 0, 0), some (.if_icmp .le 7, 27, 0, 31, 0), none, none, some (.ldc2_w 98, 30, (-1000000000000), 0, 398), none, none, some (.lreturn, 31, 0, 0, 0), some (.aload_n 0, 32, 0, 0, 0), some (.getfield 21, 35, 5, 1, 228), none, none, some (.iload_n 1, 36, 0, 1, 0), some (.i2l, 37, 0, 0, 0), some (.iload_n 2, 38, 0, 2, 0), some (.i2l, 39, 0, 0, 0), some (.iload_n 3, 40, 0, 3, 0), some (.i2l, 41, 0, 0, 0), some (.invokevirtual 161, 44, 4, 32, 480), none, none, some (.lstore 5, 46, 0, 5, 0), none, some (.iload 4, 48, 0, 4, 0), none, some (.ifCond .ne 8, 51, 0, 56, 0), none, none, some (.lload 5, 53, 0, 5, 0), none, some (.goto 19, 56, 0, 72, 0), none, none, some (.aload_n 0, 57, 0, 0, 0), some (.getfield 21, 60, 5, 1, 228), none, none, some (.iload_n 1, 61, 0, 1, 0), some (.i2l, 62, 0, 0, 0), some (.iload_n 2, 63, 0, 2, 0), some (.i2l, 64, 0, 0, 0), some (.iload_n 3, 65, 0, 3, 0), some (.i2l, 66, 0, 0, 0), some (.lload 5, 68, 0, 5, 0), none, some (.invokevirtual 165, 71, 5, 33, 490), none, none, some (.i2l, 72, 0, 0, 0), some (.lreturn, 73, 0, 0, 0)]
def xmX5_far : xM := (xhX5_far, xkX5_far)
def xkX5_way : List (Option xI) := [some (.aload_n 0, 1, 0, 0, 0), some (.invokevirtual 70, 4, 1, 56, 366), none, none, some (.ifCond .ne 6, 7, 0, 10, 0), none, none, some (.bipush (-3), 9, (-3), 0, 0), none, some (.ireturn, 10, 0, 0, 0), some (.aload_n 0, 11, 0, 0, 0), some (.getfield 21, 14, 5, 1, 228), none, none, some (.iload_n 1, 15, 0, 1, 0), some (.invokevirtual 168, 18, 2, 13, 498), none, none, some (.ifCond .eq 26, 21, 0, 44, 0), none, none, some (.aload_n 0, 22, 0, 0, 0), some (.getfield 21, 25, 5, 1, 228), none, none, some (.iload_n 2, 26, 0, 2, 0), some (.invokevirtual 168, 29, 2, 13, 498), none, none, some (.ifCond .eq 15, 32, 0, 44, 0), none, none, some (.aload_n 0, 33, 0, 0, 0), some (.getfield 21, 36, 5, 1, 228), none, none, some (.iload_n 1, 37, 0, 1, 0), some (.iload_n 2, 38, 0, 2, 0), some (.invokevirtual 171, 41, 3, 35, 499), none, none, some (.goto 4, 44, 0, 45, 0), none, none, some (.iconst (-1), 45, (-1), 0, 0), some (.ireturn, 46, 0, 0, 0)]
def xmX5_way : xM := (xhX5_way, xkX5_way)
def xkX5_listed : List (Option xI) := [some (.aload_n 0, 1, 0, 0, 0), some (.getfield 37, 4, 5, 3, 230), none, none, some (.getfield 191, 7, 2, 1, 213), none, none, some (.ifCond .ne 10, 10, 0, 17, 0), none, none, some (.aload_n 0, 11, 0, 0, 0), some (.getfield 37, 14, 5, 3, 230), none, none, some (.invokevirtual 192, 17, 1, 41, 515), none, none, some (.aload_n 0, 18, 0, 0, 0), some (.getfield 37, 21, 5, 3, 230), none, none, some (.getfield 191, 24, 2, 1, 213), none, none, some (.ireturn, 25, 0, 0, 0)]
def xmX5_listed : xM := (xhX5_listed, xkX5_listed)
def xkX5_symmetries : List (Option xI) := [some (.aload_n 0, 1, 0, 0, 0), some (.invokevirtual 70, 4, 1, 56, 366), none, none, some (.ifCond .eq 10, 7, 0, 14, 0), none, none, some (.aload_n 0, 8, 0, 0, 0), some (.invokevirtual 175, 11, 1, 76, 511), none, none, some (.goto 5, 14, 0, 16, 0), none, none, some (.bipush (-3), 16, (-3), 0, 0), none, some (.ireturn, 17, 0, 0, 0)]
def xmX5_symmetries : xM := (xhX5_symmetries, xkX5_symmetries)
def xkX5_isSymmetry : List (Option xI) := [some (.iload_n 1, 1, 0, 1, 0), some (.ifCond .lt 15, 4, 0, 16, 0), none, none, some (.iload_n 1, 5, 0, 1, 0), some (.aload_n 0, 6, 0, 0, 0), some (.invokevirtual 175, 9, 1, 76, 511), none, none, some (.if_icmp .ge 7, 12, 0, 16, 0), none, none, some (.iconst 1, 13, 1, 0, 0), some (.goto 4, 16, 0, 17, 0), none, none, some (.iconst 0, 17, 0, 0, 0), some (.ireturn, 18, 0, 0, 0)]
def xmX5_isSymmetry : xM := (xhX5_isSymmetry, xkX5_isSymmetry)
def xkX5_symmetry : List (Option xI) := [some (.aload_n 0, 1, 0, 0, 0), some (.invokevirtual 70, 4, 1, 56, 366), none, none, some (.ifCond .ne 6, 7, 0, 10, 0), none, none, some (.bipush (-3), 9, (-3), 0, 0), none, some (.ireturn, 10, 0, 0, 0), some (.aload_n 0, 11, 0, 0, 0), some (.iload_n 1, 12, 0, 1, 0), some (.invokevirtual 178, 15, 2, 78, 542), none, none, some (.ifCond .eq 26, 18, 0, 41, 0), none, none, some (.aload_n 0, 19, 0, 0, 0), some (.getfield 21, 22, 5, 1, 228), none, none, some (.iload_n 2, 23, 0, 2, 0), some (.invokevirtual 168, 26, 2, 13, 498), none, none, some (.ifCond .eq 15, 29, 0, 41, 0), none, none, some (.aload_n 0, 30, 0, 0, 0), some (.getfield 37, 33, 5, 3, 230), none, none, some (.iload_n 1, 34, 0, 1, 0), some (.iload_n 2, 35, 0, 2, 0), some (.invokevirtual 181, 38, 3, 37, 546), none, none, some (.goto 4, 41, 0, 42, 0), none, none, some (.iconst (-1), 42, (-1), 0, 0), some (.ireturn, 43, 0, 0, 0)]
def xmX5_symmetry : xM := (xhX5_symmetry, xkX5_symmetry)
def xkX5_turn : List (Option xI) := [some (.aload_n 0, 1, 0, 0, 0), some (.invokevirtual 70, 4, 1, 56, 366), none, none, some (.ifCond .ne 6, 7, 0, 10, 0), none, none, some (.bipush (-3), 9, (-3), 0, 0), none, some (.ireturn, 10, 0, 0, 0), some (.aload_n 0, 11, 0, 0, 0), some (.iload_n 1, 12, 0, 1, 0), some (.invokevirtual 178, 15, 2, 78, 542), none, none, some (.ifCond .ne 5, 18, 0, 20, 0), none, none, some (.iconst (-1), 19, (-1), 0, 0), some (.ireturn, 20, 0, 0, 0), some (.aload_n 0, 21, 0, 0, 0), some (.getfield 37, 24, 5, 3, 230), none, none, some (.iload_n 1, 25, 0, 1, 0), some (.invokevirtual 184, 28, 2, 42, 554), none, none, some (.ifCond .eq 7, 31, 0, 35, 0), none, none, some (.iconst 1, 32, 1, 0, 0), some (.goto 4, 35, 0, 36, 0), none, none, some (.iconst 0, 36, 0, 0, 0), some (.ireturn, 37, 0, 0, 0)]
def xmX5_turn : xM := (xhX5_turn, xkX5_turn)
def xkX5_order : List (Option xI) := [some (.aload_n 0, 1, 0, 0, 0), some (.invokevirtual 70, 4, 1, 56, 366), none, none, some (.ifCond .ne 6, 7, 0, 10, 0), none, none, some (.bipush (-3), 9, (-3), 0, 0), none, some (.ireturn, 10, 0, 0, 0), some (.aload_n 0, 11, 0, 0, 0), some (.iload_n 1, 12, 0, 1, 0), some (.invokevirtual 178, 15, 2, 78, 542), none, none, some (.ifCond .eq 14, 18, 0, 29, 0), none, none, some (.aload_n 0, 19, 0, 0, 0), some (.getfield 37, 22, 5, 3, 230), none, none, some (.iload_n 1, 23, 0, 1, 0), some (.invokevirtual 187, 26, 2, 44, 565), none, none, some (.goto 4, 29, 0, 30, 0), none, none, some (.iconst (-1), 30, (-1), 0, 0), some (.ireturn, 31, 0, 0, 0)]
def xmX5_order : xM := (xhX5_order, xkX5_order)
def xkX5_regular : List (Option xI) := [some (.aload_n 0, 1, 0, 0, 0), some (.invokevirtual 70, 4, 1, 56, 366), none, none, some (.ifCond .ne 6, 7, 0, 10, 0), none, none, some (.bipush (-3), 9, (-3), 0, 0), none, some (.ireturn, 10, 0, 0, 0), some (.aload_n 0, 11, 0, 0, 0), some (.invokevirtual 175, 14, 1, 76, 511), none, none, some (.iconst 4, 15, 4, 0, 0), some (.aload_n 0, 16, 0, 0, 0), some (.getfield 21, 19, 5, 1, 228), none, none, some (.getfield 77, 22, 1, 3, 163), none, none, some (.imul, 23, 0, 0, 0), some (.if_icmp .ne 7, 26, 0, 30, 0), none, none, some (.iconst 1, 27, 1, 0, 0), some (.goto 4, 30, 0, 31, 0), none, none, some (.iconst 0, 31, 0, 0, 0), some (.ireturn, 32, 0, 0, 0)]
def xmX5_regular : xM := (xhX5_regular, xkX5_regular)
def xkX6_init : List (Option xI) := [some (.aload_n 0, 1, 0, 0, 0), some (.invokespecial 1, 4, 1, 1000, 583), none, none, some (.aload_n 0, 5, 0, 0, 0), some (.bipush 14, 7, 14, 0, 0), none, some (.newarray .int, 9, 0, 0, 0), none, some (.putfield 7, 12, 6, 1, 585), none, none, some (.aload_n 0, 13, 0, 0, 0), some (.bipush 14, 15, 14, 0, 0), none, some (.newarray .int, 17, 0, 0, 0), none, some (.putfield 13, 20, 6, 2, 586), none, none, some (.aload_n 0, 21, 0, 0, 0), some (.bipush 14, 23, 14, 0, 0), none, some (.newarray .int, 25, 0, 0, 0), none, some (.putfield 16, 28, 6, 3, 587), none, none, some (.aload_n 0, 29, 0, 0, 0), some (.bipush 24, 31, 24, 0, 0), none, some (.newarray .int, 33, 0, 0, 0), none, some (.putfield 19, 36, 6, 9, 593), none, none, some (.aload_n 0, 37, 0, 0, 0), some (.bipush 24, 39, 24, 0, 0), none, some (.newarray .int, 41, 0, 0, 0), none, some (.putfield 22, 44, 6, 10, 594), none, none, some (.aload_n 0, 45, 0, 0, 0), some (.sipush 336, 48, 336, 0, 0), none, none, some (.newarray .int, 50, 0, 0, 0), none, some (.putfield 25, 53, 6, 11, 595), none, none, some (.aload_n 0, 54, 0, 0, 0), some (.bipush 24, 56, 24, 0, 0), none, some (.newarray .int, 58, 0, 0, 0), none, some (.putfield 28, 61, 6, 12, 596), none, none, some (.aload_n 0, 62, 0, 0, 0), some (.bipush 24, 64, 24, 0, 0), none, some (.newarray .int, 66, 0, 0, 0), none, some (.putfield 31, 69, 6, 13, 597), none, none, some (.aload_n 0, 70, 0, 0, 0), some (.bipush 24, 72, 24, 0, 0), none, some (.newarray .int, 74, 0, 0, 0), none, some (.putfield 34, 77, 6, 14, 598), none, none, some (.aload_n 0, 78, 0, 0, 0), some (.bipush 24, 80, 24, 0, 0), none, some (.newarray .int, 82, 0, 0, 0), none, some (.putfield 37, 85, 6, 15, 599), none, none, some (.aload_n 0, 86, 0, 0, 0), some (.bipush 24, 88, 24, 0, 0), none, some (.newarray .int, 90, 0, 0, 0), none, some (.putfield 40, 93, 6, 19, 603), none, none, some (.aload_n 0, 94, 0, 0, 0), some (.iconst (-1), 95, (-1), 0, 0), some (.putfield 43, 98, 6, 24, 608), none, none, some (.aload_n 0, 99, 0, 0, 0), some (.bipush 64, 101, 64, 0, 0), none, some (.newarray .long, 103, 0, 0, 0), none, some (.putfield 47, 106, 6, 25, 609), none, none, some (.aload_n 0, 107, 0, 0, 0), some (.bipush 64, 109, 64, 0, 0), none, some (.newarray .long, 111, 0, 0, 0), none, some (.putfield 51, 114, 6, 26, 610), none, none, some (.aload_n 0, 115, 0, 0, 0), some (.bipush 64, 117, 64, 0, 0), none, some (.newarray .long, 119, 0, 0, 0), none, some (.putfield 54, 122, 6, 27, 611), none, none, some (.aload_n 0, 123, 0, 0, 0), some (.bipush 64, 125, 64, 0, 0), none, some (.newarray .long, 127, 0, 0, 0), none, some (.putfield 57, 130, 6, 28, 612), none, none, some (.aload_n 0, 131, 0, 0, 0), some (.bipush 14, 133, 14, 0, 0), none, some (.newarray .long, 135, 0, 0, 0), none, some (.putfield 60, 138, 6, 29, 613), none, none, some (.aload_n 0, 139, 0, 0, 0), some (.bipush 14, 141, 14, 0, 0), none, some (.newarray .long, 143, 0, 0, 0), none, some (.putfield 63, 146, 6, 30, 614), none, none, some (.aload_n 0, 147, 0, 0, 0), some (.sipush 896, 150, 896, 0, 0), none, none, some (.newarray .int, 152, 0, 0, 0), none, some (.putfield 66, 155, 6, 32, 616), none, none, some (.aload_n 0, 156, 0, 0, 0), some (.bipush 64, 158, 64, 0, 0), none, some (.newarray .int, 160, 0, 0, 0), none, some (.putfield 69, 163, 6, 33, 617), none, none, some (.aload_n 0, 164, 0, 0, 0), some (.iconst 4, 165, 4, 0, 0), some (.newarray .int, 167, 0, 0, 0), none, some (.putfield 72, 170, 6, 34, 618), none, none, some (.aload_n 0, 171, 0, 0, 0), some (.iconst 4, 172, 4, 0, 0), some (.newarray .int, 174, 0, 0, 0), none, some (.putfield 75, 177, 6, 35, 619), none, none, some (.return_, 178, 0, 0, 0)]
def xmX6_init : xM := (xhX6_init, xkX6_init)
def xkX6_in : List (Option xI) := [some (.iload_n 0, 1, 0, 0, 0), some (.iload_n 1, 2, 0, 1, 0), some (.if_icmp .lt 12, 5, 0, 14, 0), none, none, some (.iload_n 0, 6, 0, 0, 0), some (.iload_n 2, 7, 0, 2, 0), some (.if_icmp .gt 7, 10, 0, 14, 0), none, none, some (.iconst 1, 11, 1, 0, 0), some (.goto 4, 14, 0, 15, 0), none, none, some (.iconst 0, 15, 0, 0, 0), some (.ireturn, 16, 0, 0, 0)]
def xmX6_in : xM := (xhX6_in, xkX6_in)
def xkX6_point : List (Option xI) := [some (.iload_n 1, 1, 0, 1, 0), some (.bipush (-20), 3, (-20), 0, 0), none, some (.bipush 20, 5, 20, 0, 0), none, some (.invokestatic 78, 8, 3, 84, 697), none, none, some (.ifCond .eq 25, 11, 0, 33, 0), none, none, some (.iload_n 2, 12, 0, 2, 0), some (.bipush (-20), 14, (-20), 0, 0), none, some (.bipush 20, 16, 20, 0, 0), none, some (.invokestatic 78, 19, 3, 84, 697), none, none, some (.ifCond .eq 14, 22, 0, 33, 0), none, none, some (.iload_n 3, 23, 0, 3, 0), some (.bipush (-20), 25, (-20), 0, 0), none, some (.bipush 20, 27, 20, 0, 0), none, some (.invokestatic 78, 30, 3, 84, 697), none, none, some (.ifCond .ne 6, 33, 0, 36, 0), none, none, some (.bipush (-2), 35, (-2), 0, 0), none, some (.ireturn, 36, 0, 0, 0), some (.iconst 0, 37, 0, 0, 0), some (.istore 4, 39, 0, 4, 0), none, some (.iload 4, 41, 0, 4, 0), none, some (.aload_n 0, 42, 0, 0, 0), some (.getfield 82, 45, 6, 0, 584), none, none, some (.if_icmp .ge 45, 48, 0, 90, 0), none, none, some (.aload_n 0, 49, 0, 0, 0), some (.getfield 7, 52, 6, 1, 585), none, none, some (.iload 4, 54, 0, 4, 0), none, some (.iaload, 55, 0, 0, 0), some (.iload_n 1, 56, 0, 1, 0), some (.if_icmp .ne 28, 59, 0, 84, 0), none, none, some (.aload_n 0, 60, 0, 0, 0), some (.getfield 13, 63, 6, 2, 586), none, none, some (.iload 4, 65, 0, 4, 0), none, some (.iaload, 66, 0, 0, 0), some (.iload_n 2, 67, 0, 2, 0), some (.if_icmp .ne 17, 70, 0, 84, 0), none, none, some (.aload_n 0, 71, 0, 0, 0), some (.getfield 16, 74, 6, 3, 587), none, none, some (.iload 4, 76, 0, 4, 0), none, some (.iaload, 77, 0, 0, 0), some (.iload_n 3, 78, 0, 3, 0), some (.if_icmp .ne 6, 81, 0, 84, 0), none, none, some (.bipush (-3), 83, (-3), 0, 0), none, some (.ireturn, 84, 0, 0, 0), some (.iinc 4 1, 87, 0, 4, 0), none, none, some (.goto (-48), 90, 0, 39, 0), none, none, some (.aload_n 0, 91, 0, 0, 0), some (.getfield 82, 94, 6, 0, 584), none, none, some (.bipush 14, 96, 14, 0, 0), none, some (.if_icmp .ne 6, 99, 0, 102, 0), none, none, some (.bipush (-4), 101, (-4), 0, 0), none, some (.ireturn, 102, 0, 0, 0), some (.aload_n 0, 103, 0, 0, 0), some (.getfield 7, 106, 6, 1, 585), none, none, some (.aload_n 0, 107, 0, 0, 0), some (.getfield 82, 110, 6, 0, 584), none, none, some (.iload_n 1, 111, 0, 1, 0), some (.iastore, 112, 0, 0, 0), some (.aload_n 0, 113, 0, 0, 0), some (.getfield 13, 116, 6, 2, 586), none, none, some (.aload_n 0, 117, 0, 0, 0), some (.getfield 82, 120, 6, 0, 584), none, none, some (.iload_n 2, 121, 0, 2, 0), some (.iastore, 122, 0, 0, 0), some (.aload_n 0, 123, 0, 0, 0), some (.getfield 16, 126, 6, 3, 587), none, none, some (.aload_n 0, 127, 0, 0, 0), some (.getfield 82, 130, 6, 0, 584), none, none, some (.iload_n 3, 131, 0, 3, 0), some (.iastore, 132, 0, 0, 0), some (.aload_n 0, 133, 0, 0, 0), some (.dup, 134, 0, 0, 0), some (.getfield 82, 137, 6, 0, 584), none, none, some (.iconst 1, 138, 1, 0, 0), some (.iadd, 139, 0, 0, 0), some (.putfield 82, 142, 6, 0, 584), none, none, some (.aload_n 0, 143, 0, 0, 0), some (.iconst 0, 144, 0, 0, 0), some (.putfield 85, 147, 6, 4, 588), none, none, some (.aload_n 0, 148, 0, 0, 0), some (.iconst (-1), 149, (-1), 0, 0), some (.putfield 43, 152, 6, 24, 608), none, none, some (.aload_n 0, 153, 0, 0, 0), some (.getfield 82, 156, 6, 0, 584), none, none, some (.iconst 1, 157, 1, 0, 0), some (.isub, 158, 0, 0, 0), some (.ireturn, 159, 0, 0, 0)]
def xmX6_point : xM := (xhX6_point, xkX6_point)
def xkX6_clear : List (Option xI) := [some (.aload_n 0, 1, 0, 0, 0), some (.getfield 82, 4, 6, 0, 584), none, none, some (.istore_n 1, 5, 0, 1, 0), some (.aload_n 0, 6, 0, 0, 0), some (.iconst 0, 7, 0, 0, 0), some (.putfield 82, 10, 6, 0, 584), none, none, some (.aload_n 0, 11, 0, 0, 0), some (.iconst 0, 12, 0, 0, 0), some (.putfield 85, 15, 6, 4, 588), none, none, some (.aload_n 0, 16, 0, 0, 0), some (.iconst (-1), 17, (-1), 0, 0), some (.putfield 43, 20, 6, 24, 608), none, none, some (.iload_n 1, 21, 0, 1, 0), some (.ireturn, 22, 0, 0, 0)]
def xmX6_clear : xM := (xhX6_clear, xkX6_clear)
def xkX6_cross : List (Option xI) := [some (.aload_n 0, 1, 0, 0, 0), some (.getfield 7, 4, 6, 1, 585), none, none, some (.iload_n 2, 5, 0, 2, 0), some (.iaload, 6, 0, 0, 0), some (.aload_n 0, 7, 0, 0, 0), some (.getfield 7, 10, 6, 1, 585), none, none, some (.iload_n 1, 11, 0, 1, 0), some (.iaload, 12, 0, 0, 0), some (.isub, 13, 0, 0, 0), some (.istore 4, 15, 0, 4, 0), none, some (.aload_n 0, 16, 0, 0, 0), some (.getfield 13, 19, 6, 2, 586), none, none, some (.iload_n 2, 20, 0, 2, 0), some (.iaload, 21, 0, 0, 0), some (.aload_n 0, 22, 0, 0, 0), some (.getfield 13, 25, 6, 2, 586), none, none, some (.iload_n 1, 26, 0, 1, 0), some (.iaload, 27, 0, 0, 0), some (.isub, 28, 0, 0, 0), some (.istore 5, 30, 0, 5, 0), none, some (.aload_n 0, 31, 0, 0, 0), some (.getfield 16, 34, 6, 3, 587), none, none, some (.iload_n 2, 35, 0, 2, 0), some (.iaload, 36, 0, 0, 0), some (.aload_n 0, 37, 0, 0, 0), some (.getfield 16, 40, 6, 3, 587), none, none, some (.iload_n 1, 41, 0, 1, 0), some (.iaload, 42, 0, 0, 0), some (.isub, 43, 0, 0, 0), some (.istore 6, 45, 0, 6, 0), none, some (.aload_n 0, 46, 0, 0, 0), some (.getfield 7, 49, 6, 1, 585), none, none, some (.iload_n 3, 50, 0, 3, 0), some (.iaload, 51, 0, 0, 0), some (.aload_n 0, 52, 0, 0, 0), some (.getfield 7, 55, 6, 1, 585), none, none, some (.iload_n 1, 56, 0, 1, 0), some (.iaload, 57, 0, 0, 0), some (.isub, 58, 0, 0, 0), some (.istore 7, 60, 0, 7, 0), none, some (.aload_n 0, 61, 0, 0, 0), some (.getfield 13, 64, 6, 2, 586), none, none, some (.iload_n 3, 65, 0, 3, 0), some (.iaload, 66, 0, 0, 0), some (.aload_n 0, 67, 0, 0, 0), some (.getfield 13, 70, 6, 2, 586), none, none, some (.iload_n 1, 71, 0, 1, 0), some (.iaload, 72, 0, 0, 0), some (.isub, 73, 0, 0, 0), some (.istore 8, 75, 0, 8, 0), none, some (.aload_n 0, 76, 0, 0, 0), some (.getfield 16, 79, 6, 3, 587), none, none, some (.iload_n 3, 80, 0, 3, 0), some (.iaload, 81, 0, 0, 0), some (.aload_n 0, 82, 0, 0, 0), some (.getfield 16, 85, 6, 3, 587), none, none, some (.iload_n 1, 86, 0, 1, 0), some (.iaload, 87, 0, 0, 0), some (.isub, 88, 0, 0, 0), some (.istore 9, 90, 0, 9, 0), none, some (.aload_n 0, 91, 0, 0, 0), some (.iload 5, 93, 0, 5, 0), none, some (.iload 9, 95, 0, 9, 0), none, some (.imul, 96, 0, 0, 0), some (.iload 6, 98, 0, 6, 0), none, some (.iload 8, 100, 0, 8, 0), none, some (.imul, 101, 0, 0, 0), some (.isub, 102, 0, 0, 0), some (.putfield 89, 105, 6, 16, 600), none, none, some (.aload_n 0, 106, 0, 0, 0), some (.iload 6, 108, 0, 6, 0), none, some (.iload 7, 110, 0, 7, 0), none, some (.imul, 111, 0, 0, 0), some (.iload 4, 113, 0, 4, 0), none, some (.iload 9, 115, 0, 9, 0), none, some (.imul, 116, 0, 0, 0), some (.isub, 117, 0, 0, 0), some (.putfield 92, 120, 6, 17, 601), none, none, some (.aload_n 0, 121, 0, 0, 0), some (.iload 4, 123, 0, 4, 0), none, some (.iload 8, 125, 0, 8, 0), none, some (.imul, 126, 0, 0, 0), some (.iload 5, 128, 0, 5, 0), none, some (.iload 7, 130, 0, 7, 0), none, some (.imul, 131, 0, 0, 0), some (.isub, 132, 0, 0, 0), some (.putfield 95, 135, 6, 18, 602), none, none, some (.return_, 136, 0, 0, 0)]
def xmX6_cross : xM := (xhX6_cross, xkX6_cross)
def xkX6_height : List (Option xI) := [some (.aload_n 0, 1, 0, 0, 0), some (.getfield 89, 4, 6, 16, 600), none, none, some (.aload_n 0, 5, 0, 0, 0), some (.getfield 7, 8, 6, 1, 585), none, none, some (.iload_n 1, 9, 0, 1, 0), some (.iaload, 10, 0, 0, 0), some (.imul, 11, 0, 0, 0), some (.aload_n 0, 12, 0, 0, 0), some (.getfield 92, 15, 6, 17, 601), none, none, some (.aload_n 0, 16, 0, 0, 0), some (.getfield 13, 19, 6, 2, 586), none, none, some (.iload_n 1, 20, 0, 1, 0), some (.iaload, 21, 0, 0, 0), some (.imul, 22, 0, 0, 0), some (.iadd, 23, 0, 0, 0), some (.aload_n 0, 24, 0, 0, 0), some (.getfield 95, 27, 6, 18, 602), none, none, some (.aload_n 0, 28, 0, 0, 0), some (.getfield 16, 31, 6, 3, 587), none, none, some (.iload_n 1, 32, 0, 1, 0), some (.iaload, 33, 0, 0, 0), some (.imul, 34, 0, 0, 0), some (.iadd, 35, 0, 0, 0), some (.ireturn, 36, 0, 0, 0)]
def xmX6_height : xM := (xhX6_height, xkX6_height)
def xkX6_divisor : List (Option xI) := [some (.iload_n 0, 1, 0, 0, 0), some (.ifCond .ge 8, 4, 0, 9, 0), none, none, some (.iload_n 0, 5, 0, 0, 0), some (.ineg, 6, 0, 0, 0), some (.goto 4, 9, 0, 10, 0), none, none, some (.iload_n 0, 10, 0, 0, 0), some (.istore_n 2, 11, 0, 2, 0), some (.iload_n 1, 12, 0, 1, 0), some (.ifCond .ge 8, 15, 0, 20, 0), none, none, some (.iload_n 1, 16, 0, 1, 0), some (.ineg, 17, 0, 0, 0), some (.goto 4, 20, 0, 21, 0), none, none, some (.iload_n 1, 21, 0, 1, 0), some (.istore_n 3, 22, 0, 3, 0), some (.iload_n 3, 23, 0, 3, 0), some (.ifCond .eq 16, 26, 0, 39, 0), none, none, some (.iload_n 2, 27, 0, 2, 0), some (.iload_n 3, 28, 0, 3, 0), some (.irem, 29, 0, 0, 0), some (.istore 4, 31, 0, 4, 0), none, some (.iload_n 3, 32, 0, 3, 0), some (.istore_n 2, 33, 0, 2, 0), some (.iload 4, 35, 0, 4, 0), none, some (.istore_n 3, 36, 0, 3, 0), some (.goto (-14), 39, 0, 22, 0), none, none, some (.iload_n 2, 40, 0, 2, 0), some (.ireturn, 41, 0, 0, 0)]
def xmX6_divisor : xM := (xhX6_divisor, xkX6_divisor)
def xkX6_tryPlane : List (Option xI) := [some (.aload_n 0, 1, 0, 0, 0), some (.iload_n 1, 2, 0, 1, 0), some (.iload_n 2, 3, 0, 2, 0), some (.iload_n 3, 4, 0, 3, 0), some (.invokevirtual 98, 7, 4, 87, 720), none, none, some (.aload_n 0, 8, 0, 0, 0), some (.getfield 89, 11, 6, 16, 600), none, none, some (.ifCond .ne 18, 14, 0, 29, 0), none, none, some (.aload_n 0, 15, 0, 0, 0), some (.getfield 92, 18, 6, 17, 601), none, none, some (.ifCond .ne 11, 21, 0, 29, 0), none, none, some (.aload_n 0, 22, 0, 0, 0), some (.getfield 95, 25, 6, 18, 602), none, none, some (.ifCond .ne 4, 28, 0, 29, 0), none, none, some (.return_, 29, 0, 0, 0), some (.aload_n 0, 30, 0, 0, 0), some (.iload_n 1, 31, 0, 1, 0), some (.invokevirtual 102, 34, 2, 88, 724), none, none, some (.istore 4, 36, 0, 4, 0), none, some (.iconst 0, 37, 0, 0, 0), some (.istore 5, 39, 0, 5, 0), none, some (.iconst 0, 40, 0, 0, 0), some (.istore 6, 42, 0, 6, 0), none, some (.iconst 0, 43, 0, 0, 0), some (.istore 7, 45, 0, 7, 0), none, some (.iconst 0, 46, 0, 0, 0), some (.istore 8, 48, 0, 8, 0), none, some (.iload 8, 50, 0, 8, 0), none, some (.aload_n 0, 51, 0, 0, 0), some (.getfield 82, 54, 6, 0, 584), none, none, some (.if_icmp .ge 75, 57, 0, 129, 0), none, none, some (.aload_n 0, 58, 0, 0, 0), some (.iload 8, 60, 0, 8, 0), none, some (.invokevirtual 102, 63, 2, 88, 724), none, none, some (.istore 9, 65, 0, 9, 0), none, some (.iload 5, 67, 0, 5, 0), none, some (.iload 9, 69, 0, 9, 0), none, some (.iload 4, 71, 0, 4, 0), none, some (.if_icmp .ne 10, 74, 0, 81, 0), none, none, some (.iconst 1, 75, 1, 0, 0), some (.iload 8, 77, 0, 8, 0), none, some (.ishl, 78, 0, 0, 0), some (.goto 4, 81, 0, 82, 0), none, none, some (.iconst 0, 82, 0, 0, 0), some (.ior, 83, 0, 0, 0), some (.istore 5, 85, 0, 5, 0), none, some (.iload 6, 87, 0, 6, 0), none, some (.ifCond .ne 10, 90, 0, 97, 0), none, none, some (.iload 9, 92, 0, 9, 0), none, some (.iload 4, 94, 0, 4, 0), none, some (.if_icmp .le 7, 97, 0, 101, 0), none, none, some (.iconst 1, 98, 1, 0, 0), some (.goto 4, 101, 0, 102, 0), none, none, some (.iconst 0, 102, 0, 0, 0), some (.istore 6, 104, 0, 6, 0), none, some (.iload 7, 106, 0, 7, 0), none, some (.ifCond .ne 10, 109, 0, 116, 0), none, none, some (.iload 9, 111, 0, 9, 0), none, some (.iload 4, 113, 0, 4, 0), none, some (.if_icmp .ge 7, 116, 0, 120, 0), none, none, some (.iconst 1, 117, 1, 0, 0), some (.goto 4, 120, 0, 121, 0), none, none, some (.iconst 0, 121, 0, 0, 0), some (.istore 7, 123, 0, 7, 0), none, some (.iinc 8 1, 126, 0, 8, 0), none, none, some (.goto (-78), 129, 0, 48, 0), none, none, some (.aload_n 0, 130, 0, 0, 0), some (.aload_n 0, 131, 0, 0, 0), some (.getfield 106, 134, 6, 6, 590), none, none, some (.ifCond .eq 17, 137, 0, 151, 0), none, none, some (.iload 6, 139, 0, 6, 0), none, some (.ifCond .ne 12, 142, 0, 151, 0), none, none, some (.iload 7, 144, 0, 7, 0), none, some (.ifCond .ne 7, 147, 0, 151, 0), none, none, some (.iconst 1, 148, 1, 0, 0), some (.goto 4, 151, 0, 152, 0), none, none, some (.iconst 0, 152, 0, 0, 0), some (.putfield 106, 155, 6, 6, 590), none, none, some (.iload 6, 157, 0, 6, 0), none, some (.iload 7, 159, 0, 7, 0), none, some (.if_icmp .ne 4, 162, 0, 163, 0), none, none, some (.return_, 163, 0, 0, 0), some (.iconst 0, 164, 0, 0, 0), some (.istore 8, 166, 0, 8, 0), none, some (.iload 8, 168, 0, 8, 0), none, some (.aload_n 0, 169, 0, 0, 0), some (.getfield 109, 172, 6, 8, 592), none, none, some (.if_icmp .ge 22, 175, 0, 194, 0), none, none, some (.aload_n 0, 176, 0, 0, 0), some (.getfield 19, 179, 6, 9, 593), none, none, some (.iload 8, 181, 0, 8, 0), none, some (.iaload, 182, 0, 0, 0), some (.iload 5, 184, 0, 5, 0), none, some (.if_icmp .ne 4, 187, 0, 188, 0), none, none, some (.return_, 188, 0, 0, 0), some (.iinc 8 1, 191, 0, 8, 0), none, none, some (.goto (-25), 194, 0, 166, 0), none, none, some (.aload_n 0, 195, 0, 0, 0), some (.getfield 89, 198, 6, 16, 600), none, none, some (.aload_n 0, 199, 0, 0, 0), some (.getfield 92, 202, 6, 17, 601), none, none, some (.invokestatic 112, 205, 2, 89, 728), none, none, some (.aload_n 0, 206, 0, 0, 0), some (.getfield 95, 209, 6, 18, 602), none, none, some (.invokestatic 112, 212, 2, 89, 728), none, none, some (.istore 8, 214, 0, 8, 0), none, some (.iload 6, 216, 0, 6, 0), none, some (.ifCond .eq 9, 219, 0, 225, 0), none, none, some (.iload 8, 221, 0, 8, 0), none, some (.ineg, 222, 0, 0, 0), some (.goto 5, 225, 0, 227, 0), none, none, some (.iload 8, 227, 0, 8, 0), none, some (.istore 8, 229, 0, 8, 0), none, some (.aload_n 0, 230, 0, 0, 0), some (.getfield 19, 233, 6, 9, 593), none, none, some (.aload_n 0, 234, 0, 0, 0), some (.getfield 109, 237, 6, 8, 592), none, none, some (.iload 5, 239, 0, 5, 0), none, some (.iastore, 240, 0, 0, 0), some (.aload_n 0, 241, 0, 0, 0), some (.getfield 28, 244, 6, 12, 596), none, none, some (.aload_n 0, 245, 0, 0, 0), some (.getfield 109, 248, 6, 8, 592), none, none, some (.aload_n 0, 249, 0, 0, 0), some (.getfield 89, 252, 6, 16, 600), none, none, some (.iload 8, 254, 0, 8, 0), none, some (.idiv, 255, 0, 0, 0), some (.iastore, 256, 0, 0, 0), some (.aload_n 0, 257, 0, 0, 0), some (.getfield 31, 260, 6, 13, 597), none, none, some (.aload_n 0, 261, 0, 0, 0), some (.getfield 109, 264, 6, 8, 592), none, none, some (.aload_n 0, 265, 0, 0, 0), some (.getfield 92, 268, 6, 17, 601), none, none, some (.iload 8, 270, 0, 8, 0), none, some (.idiv, 271, 0, 0, 0), some (.iastore, 272, 0, 0, 0), some (.aload_n 0, 273, 0, 0, 0), some (.getfield 34, 276, 6, 14, 598), none, none, some (.aload_n 0, 277, 0, 0, 0), some (.getfield 109, 280, 6, 8, 592), none, none, some (.aload_n 0, 281, 0, 0, 0), some (.getfield 95, 284, 6, 18, 602), none, none, some (.iload 8, 286, 0, 8, 0), none, some (.idiv, 287, 0, 0, 0), some (.iastore, 288, 0, 0, 0), some (.aload_n 0, 289, 0, 0, 0), some (.getfield 37, 292, 6, 15, 599), none, none, some (.aload_n 0, 293, 0, 0, 0), some (.getfield 109, 296, 6, 8, 592), none, none, some (.iload 4, 298, 0, 4, 0), none, some (.iload 8, 300, 0, 8, 0), none, some (.idiv, 301, 0, 0, 0), some (.iastore, 302, 0, 0, 0), some (.aload_n 0, 303, 0, 0, 0), some (.dup, 304, 0, 0, 0), some (.getfield 109, 307, 6, 8, 592), none, none, some (.iconst 1, 308, 1, 0, 0), some (.iadd, 309, 0, 0, 0), some (.putfield 109, 312, 6, 8, 592), none, none, some (.return_, 313, 0, 0, 0)]
def xmX6_tryPlane : xM := (xhX6_tryPlane, xkX6_tryPlane)
def xkX6_facesOf : List (Option xI) := [some (.iconst 0, 1, 0, 0, 0), some (.istore_n 2, 2, 0, 2, 0), some (.iconst 0, 3, 0, 0, 0), some (.istore_n 3, 4, 0, 3, 0), some (.iload_n 3, 5, 0, 3, 0), some (.aload_n 0, 6, 0, 0, 0), some (.getfield 109, 9, 6, 8, 592), none, none, some (.if_icmp .ge 29, 12, 0, 38, 0), none, none, some (.iload_n 2, 13, 0, 2, 0), some (.aload_n 0, 14, 0, 0, 0), some (.getfield 19, 17, 6, 9, 593), none, none, some (.iload_n 3, 18, 0, 3, 0), some (.iaload, 19, 0, 0, 0), some (.iload_n 1, 20, 0, 1, 0), some (.iand, 21, 0, 0, 0), some (.iload_n 1, 22, 0, 1, 0), some (.if_icmp .ne 7, 25, 0, 29, 0), none, none, some (.iconst 1, 26, 1, 0, 0), some (.goto 4, 29, 0, 30, 0), none, none, some (.iconst 0, 30, 0, 0, 0), some (.iadd, 31, 0, 0, 0), some (.istore_n 2, 32, 0, 2, 0), some (.iinc 3 1, 35, 0, 3, 0), none, none, some (.goto (-31), 38, 0, 4, 0), none, none, some (.iload_n 2, 39, 0, 2, 0), some (.ireturn, 40, 0, 0, 0)]
def xmX6_facesOf : xM := (xhX6_facesOf, xkX6_facesOf)
def xkX6_isNext : List (Option xI) := [some (.iconst 0, 1, 0, 0, 0), some (.istore 4, 3, 0, 4, 0), none, some (.iload 4, 5, 0, 4, 0), none, some (.aload_n 0, 6, 0, 0, 0), some (.getfield 82, 9, 6, 0, 584), none, none, some (.if_icmp .ge 91, 12, 0, 100, 0), none, none, some (.iload 4, 14, 0, 4, 0), none, some (.iload_n 2, 15, 0, 2, 0), some (.if_icmp .eq 79, 18, 0, 94, 0), none, none, some (.iload 4, 20, 0, 4, 0), none, some (.iload_n 3, 21, 0, 3, 0), some (.if_icmp .eq 73, 24, 0, 94, 0), none, none, some (.aload_n 0, 25, 0, 0, 0), some (.getfield 19, 28, 6, 9, 593), none, none, some (.iload_n 1, 29, 0, 1, 0), some (.iaload, 30, 0, 0, 0), some (.aload_n 0, 31, 0, 0, 0), some (.getfield 116, 34, 6, 7, 591), none, none, some (.iand, 35, 0, 0, 0), some (.iconst 1, 36, 1, 0, 0), some (.iload 4, 38, 0, 4, 0), none, some (.ishl, 39, 0, 0, 0), some (.iand, 40, 0, 0, 0), some (.ifCond .ne 6, 43, 0, 46, 0), none, none, some (.goto 51, 46, 0, 94, 0), none, none, some (.aload_n 0, 47, 0, 0, 0), some (.iload_n 2, 48, 0, 2, 0), some (.iload_n 3, 49, 0, 3, 0), some (.iload 4, 51, 0, 4, 0), none, some (.invokevirtual 98, 54, 4, 87, 720), none, none, some (.aload_n 0, 55, 0, 0, 0), some (.getfield 89, 58, 6, 16, 600), none, none, some (.aload_n 0, 59, 0, 0, 0), some (.getfield 28, 62, 6, 12, 596), none, none, some (.iload_n 1, 63, 0, 1, 0), some (.iaload, 64, 0, 0, 0), some (.imul, 65, 0, 0, 0), some (.aload_n 0, 66, 0, 0, 0), some (.getfield 92, 69, 6, 17, 601), none, none, some (.aload_n 0, 70, 0, 0, 0), some (.getfield 31, 73, 6, 13, 597), none, none, some (.iload_n 1, 74, 0, 1, 0), some (.iaload, 75, 0, 0, 0), some (.imul, 76, 0, 0, 0), some (.iadd, 77, 0, 0, 0), some (.aload_n 0, 78, 0, 0, 0), some (.getfield 95, 81, 6, 18, 602), none, none, some (.aload_n 0, 82, 0, 0, 0), some (.getfield 34, 85, 6, 14, 598), none, none, some (.iload_n 1, 86, 0, 1, 0), some (.iaload, 87, 0, 0, 0), some (.imul, 88, 0, 0, 0), some (.iadd, 89, 0, 0, 0), some (.ifCond .gt 5, 92, 0, 94, 0), none, none, some (.iconst 0, 93, 0, 0, 0), some (.ireturn, 94, 0, 0, 0), some (.iinc 4 1, 97, 0, 4, 0), none, none, some (.goto (-94), 100, 0, 3, 0), none, none, some (.iconst 1, 101, 1, 0, 0), some (.ireturn, 102, 0, 0, 0)]
def xmX6_isNext : xM := (xhX6_isNext, xkX6_isNext)
def xkX6_layRound : List (Option xI) := [some (.aload_n 0, 1, 0, 0, 0), some (.getfield 19, 4, 6, 9, 593), none, none, some (.iload_n 1, 5, 0, 1, 0), some (.iaload, 6, 0, 0, 0), some (.aload_n 0, 7, 0, 0, 0), some (.getfield 116, 10, 6, 7, 591), none, none, some (.iand, 11, 0, 0, 0), some (.istore_n 2, 12, 0, 2, 0), some (.iconst 0, 13, 0, 0, 0), some (.istore_n 3, 14, 0, 3, 0), some (.iload_n 2, 15, 0, 2, 0), some (.iload_n 3, 16, 0, 3, 0), some (.ishr, 17, 0, 0, 0), some (.iconst 1, 18, 1, 0, 0), some (.iand, 19, 0, 0, 0), some (.ifCond .ne 9, 22, 0, 28, 0), none, none, some (.iinc 3 1, 25, 0, 3, 0), none, none, some (.goto (-11), 28, 0, 14, 0), none, none, some (.iload_n 3, 29, 0, 3, 0), some (.istore 4, 31, 0, 4, 0), none, some (.iconst 0, 32, 0, 0, 0), some (.istore 5, 34, 0, 5, 0), none, some (.aload_n 0, 35, 0, 0, 0), some (.getfield 25, 38, 6, 11, 595), none, none, some (.bipush 14, 40, 14, 0, 0), none, some (.iload_n 1, 41, 0, 1, 0), some (.imul, 42, 0, 0, 0), some (.iload 5, 44, 0, 5, 0), none, some (.iadd, 45, 0, 0, 0), some (.iload 4, 47, 0, 4, 0), none, some (.iastore, 48, 0, 0, 0), some (.iinc 5 1, 51, 0, 5, 0), none, none, some (.iconst (-1), 52, (-1), 0, 0), some (.istore 6, 54, 0, 6, 0), none, some (.iconst 0, 55, 0, 0, 0), some (.istore 7, 57, 0, 7, 0), none, some (.iload 7, 59, 0, 7, 0), none, some (.aload_n 0, 60, 0, 0, 0), some (.getfield 82, 63, 6, 0, 584), none, none, some (.if_icmp .ge 42, 66, 0, 105, 0), none, none, some (.iload 7, 68, 0, 7, 0), none, some (.iload 4, 70, 0, 4, 0), none, some (.if_icmp .eq 29, 73, 0, 99, 0), none, none, some (.iload_n 2, 74, 0, 2, 0), some (.iload 7, 76, 0, 7, 0), none, some (.ishr, 77, 0, 0, 0), some (.iconst 1, 78, 1, 0, 0), some (.iand, 79, 0, 0, 0), some (.iconst 1, 80, 1, 0, 0), some (.if_icmp .ne 19, 83, 0, 99, 0), none, none, some (.aload_n 0, 84, 0, 0, 0), some (.iload_n 1, 85, 0, 1, 0), some (.iload 4, 87, 0, 4, 0), none, some (.iload 7, 89, 0, 7, 0), none, some (.invokevirtual 119, 92, 4, 92, 739), none, none, some (.ifCond .eq 7, 95, 0, 99, 0), none, none, some (.iload 7, 97, 0, 7, 0), none, some (.istore 6, 99, 0, 6, 0), none, some (.iinc 7 1, 102, 0, 7, 0), none, none, some (.goto (-45), 105, 0, 57, 0), none, none, some (.iload 6, 107, 0, 6, 0), none, some (.istore 4, 109, 0, 4, 0), none, some (.iload 4, 111, 0, 4, 0), none, some (.iload_n 3, 112, 0, 3, 0), some (.if_icmp .ne (-78), 115, 0, 34, 0), none, none, some (.aload_n 0, 116, 0, 0, 0), some (.getfield 22, 119, 6, 10, 594), none, none, some (.iload_n 1, 120, 0, 1, 0), some (.iload 5, 122, 0, 5, 0), none, some (.iastore, 123, 0, 0, 0), some (.return_, 124, 0, 0, 0)]
def xmX6_layRound : xM := (xhX6_layRound, xkX6_layRound)
def xkX6_isBefore : List (Option xI) := [some (.iconst 0, 1, 0, 0, 0), some (.istore_n 3, 2, 0, 3, 0), some (.iload_n 3, 3, 0, 3, 0), some (.iconst 3, 4, 3, 0, 0), some (.if_icmp .ge 65, 7, 0, 69, 0), none, none, some (.aload_n 0, 8, 0, 0, 0), some (.getfield 25, 11, 6, 11, 595), none, none, some (.bipush 14, 13, 14, 0, 0), none, some (.iload_n 1, 14, 0, 1, 0), some (.imul, 15, 0, 0, 0), some (.iload_n 3, 16, 0, 3, 0), some (.iadd, 17, 0, 0, 0), some (.iaload, 18, 0, 0, 0), some (.aload_n 0, 19, 0, 0, 0), some (.getfield 25, 22, 6, 11, 595), none, none, some (.bipush 14, 24, 14, 0, 0), none, some (.iload_n 2, 25, 0, 2, 0), some (.imul, 26, 0, 0, 0), some (.iload_n 3, 27, 0, 3, 0), some (.iadd, 28, 0, 0, 0), some (.iaload, 29, 0, 0, 0), some (.if_icmp .eq 34, 32, 0, 63, 0), none, none, some (.aload_n 0, 33, 0, 0, 0), some (.getfield 25, 36, 6, 11, 595), none, none, some (.bipush 14, 38, 14, 0, 0), none, some (.iload_n 1, 39, 0, 1, 0), some (.imul, 40, 0, 0, 0), some (.iload_n 3, 41, 0, 3, 0), some (.iadd, 42, 0, 0, 0), some (.iaload, 43, 0, 0, 0), some (.aload_n 0, 44, 0, 0, 0), some (.getfield 25, 47, 6, 11, 595), none, none, some (.bipush 14, 49, 14, 0, 0), none, some (.iload_n 2, 50, 0, 2, 0), some (.imul, 51, 0, 0, 0), some (.iload_n 3, 52, 0, 3, 0), some (.iadd, 53, 0, 0, 0), some (.iaload, 54, 0, 0, 0), some (.if_icmp .ge 7, 57, 0, 61, 0), none, none, some (.iconst 1, 58, 1, 0, 0), some (.goto 4, 61, 0, 62, 0), none, none, some (.iconst 0, 62, 0, 0, 0), some (.ireturn, 63, 0, 0, 0), some (.iinc 3 1, 66, 0, 3, 0), none, none, some (.goto (-64), 69, 0, 2, 0), none, none, some (.iconst 0, 70, 0, 0, 0), some (.ireturn, 71, 0, 0, 0)]
def xmX6_isBefore : xM := (xhX6_isBefore, xkX6_isBefore)
def xkX6_build : List (Option xI) := [some (.aload_n 0, 1, 0, 0, 0), some (.getfield 85, 4, 6, 4, 588), none, none, some (.ifCond .eq 4, 7, 0, 8, 0), none, none, some (.return_, 8, 0, 0, 0), some (.aload_n 0, 9, 0, 0, 0), some (.iconst 1, 10, 1, 0, 0), some (.putfield 85, 13, 6, 4, 588), none, none, some (.aload_n 0, 14, 0, 0, 0), some (.iconst 0, 15, 0, 0, 0), some (.putfield 122, 18, 6, 5, 589), none, none, some (.aload_n 0, 19, 0, 0, 0), some (.iconst 1, 20, 1, 0, 0), some (.putfield 106, 23, 6, 6, 590), none, none, some (.aload_n 0, 24, 0, 0, 0), some (.iconst 0, 25, 0, 0, 0), some (.putfield 116, 28, 6, 7, 591), none, none, some (.aload_n 0, 29, 0, 0, 0), some (.iconst 0, 30, 0, 0, 0), some (.putfield 109, 33, 6, 8, 592), none, none, some (.iconst 0, 34, 0, 0, 0), some (.istore_n 1, 35, 0, 1, 0), some (.iload_n 1, 36, 0, 1, 0), some (.aload_n 0, 37, 0, 0, 0), some (.getfield 82, 40, 6, 0, 584), none, none, some (.if_icmp .ge 52, 43, 0, 92, 0), none, none, some (.iload_n 1, 44, 0, 1, 0), some (.iconst 1, 45, 1, 0, 0), some (.iadd, 46, 0, 0, 0), some (.istore_n 2, 47, 0, 2, 0), some (.iload_n 2, 48, 0, 2, 0), some (.aload_n 0, 49, 0, 0, 0), some (.getfield 82, 52, 6, 0, 584), none, none, some (.if_icmp .ge 34, 55, 0, 86, 0), none, none, some (.iload_n 2, 56, 0, 2, 0), some (.iconst 1, 57, 1, 0, 0), some (.iadd, 58, 0, 0, 0), some (.istore_n 3, 59, 0, 3, 0), some (.iload_n 3, 60, 0, 3, 0), some (.aload_n 0, 61, 0, 0, 0), some (.getfield 82, 64, 6, 0, 584), none, none, some (.if_icmp .ge 16, 67, 0, 80, 0), none, none, some (.aload_n 0, 68, 0, 0, 0), some (.iload_n 1, 69, 0, 1, 0), some (.iload_n 2, 70, 0, 2, 0), some (.iload_n 3, 71, 0, 3, 0), some (.invokevirtual 125, 74, 4, 90, 716), none, none, some (.iinc 3 1, 77, 0, 3, 0), none, none, some (.goto (-18), 80, 0, 59, 0), none, none, some (.iinc 2 1, 83, 0, 2, 0), none, none, some (.goto (-36), 86, 0, 47, 0), none, none, some (.iinc 1 1, 89, 0, 1, 0), none, none, some (.goto (-54), 92, 0, 35, 0), none, none, some (.aload_n 0, 93, 0, 0, 0), some (.getfield 106, 96, 6, 6, 590), none, none, some (.ifCond .eq 4, 99, 0, 100, 0), none, none, some (.return_, 100, 0, 0, 0), some (.iconst 0, 101, 0, 0, 0), some (.istore_n 1, 102, 0, 1, 0), some (.iload_n 1, 103, 0, 1, 0), some (.aload_n 0, 104, 0, 0, 0), some (.getfield 82, 107, 6, 0, 584), none, none, some (.if_icmp .ge 36, 110, 0, 143, 0), none, none, some (.aload_n 0, 111, 0, 0, 0), some (.dup, 112, 0, 0, 0), some (.getfield 116, 115, 6, 7, 591), none, none, some (.aload_n 0, 116, 0, 0, 0), some (.iconst 1, 117, 1, 0, 0), some (.iload_n 1, 118, 0, 1, 0), some (.ishl, 119, 0, 0, 0), some (.invokevirtual 128, 122, 2, 91, 731), none, none, some (.iconst 2, 123, 2, 0, 0), some (.if_icmp .le 9, 126, 0, 132, 0), none, none, some (.iconst 1, 127, 1, 0, 0), some (.iload_n 1, 128, 0, 1, 0), some (.ishl, 129, 0, 0, 0), some (.goto 4, 132, 0, 133, 0), none, none, some (.iconst 0, 133, 0, 0, 0), some (.ior, 134, 0, 0, 0), some (.putfield 116, 137, 6, 7, 591), none, none, some (.iinc 1 1, 140, 0, 1, 0), none, none, some (.goto (-38), 143, 0, 102, 0), none, none, some (.iconst 0, 144, 0, 0, 0), some (.istore_n 1, 145, 0, 1, 0), some (.iload_n 1, 146, 0, 1, 0), some (.aload_n 0, 147, 0, 0, 0), some (.getfield 109, 150, 6, 8, 592), none, none, some (.if_icmp .ge 14, 153, 0, 164, 0), none, none, some (.aload_n 0, 154, 0, 0, 0), some (.iload_n 1, 155, 0, 1, 0), some (.invokevirtual 131, 158, 2, 93, 735), none, none, some (.iinc 1 1, 161, 0, 1, 0), none, none, some (.goto (-16), 164, 0, 145, 0), none, none, some (.iconst 0, 165, 0, 0, 0), some (.istore_n 1, 166, 0, 1, 0), some (.iload_n 1, 167, 0, 1, 0), some (.aload_n 0, 168, 0, 0, 0), some (.getfield 109, 171, 6, 8, 592), none, none, some (.if_icmp .ge 51, 174, 0, 222, 0), none, none, some (.iconst 0, 175, 0, 0, 0), some (.istore_n 2, 176, 0, 2, 0), some (.iconst 0, 177, 0, 0, 0), some (.istore_n 3, 178, 0, 3, 0), some (.iload_n 3, 179, 0, 3, 0), some (.aload_n 0, 180, 0, 0, 0), some (.getfield 109, 183, 6, 8, 592), none, none, some (.if_icmp .ge 26, 186, 0, 209, 0), none, none, some (.iload_n 2, 187, 0, 2, 0), some (.aload_n 0, 188, 0, 0, 0), some (.iload_n 3, 189, 0, 3, 0), some (.iload_n 1, 190, 0, 1, 0), some (.invokevirtual 135, 193, 3, 94, 743), none, none, some (.ifCond .eq 7, 196, 0, 200, 0), none, none, some (.iconst 1, 197, 1, 0, 0), some (.goto 4, 200, 0, 201, 0), none, none, some (.iconst 0, 201, 0, 0, 0), some (.iadd, 202, 0, 0, 0), some (.istore_n 2, 203, 0, 2, 0), some (.iinc 3 1, 206, 0, 3, 0), none, none, some (.goto (-28), 209, 0, 178, 0), none, none, some (.aload_n 0, 210, 0, 0, 0), some (.getfield 40, 213, 6, 19, 603), none, none, some (.iload_n 2, 214, 0, 2, 0), some (.iload_n 1, 215, 0, 1, 0), some (.iastore, 216, 0, 0, 0), some (.iinc 1 1, 219, 0, 1, 0), none, none, some (.goto (-53), 222, 0, 166, 0), none, none, some (.return_, 223, 0, 0, 0)]
def xmX6_build : xM := (xhX6_build, xkX6_build)
def xkX6_noSolid : List (Option xI) := [some (.aload_n 0, 1, 0, 0, 0), some (.invokevirtual 139, 4, 1, 95, 712), none, none, some (.aload_n 0, 5, 0, 0, 0), some (.getfield 106, 8, 6, 6, 590), none, none, some (.ireturn, 9, 0, 0, 0)]
def xmX6_noSolid : xM := (xhX6_noSolid, xkX6_noSolid)
def xkX6_flat : List (Option xI) := [some (.aload_n 0, 1, 0, 0, 0), some (.invokevirtual 142, 4, 1, 96, 708), none, none, some (.ireturn, 5, 0, 0, 0)]
def xmX6_flat : xM := (xhX6_flat, xkX6_flat)
def xkX6_isCorner : List (Option xI) := [some (.iload_n 1, 1, 0, 1, 0), some (.iconst 0, 2, 0, 0, 0), some (.aload_n 0, 3, 0, 0, 0), some (.getfield 82, 6, 6, 0, 584), none, none, some (.iconst 1, 7, 1, 0, 0), some (.isub, 8, 0, 0, 0), some (.invokestatic 78, 11, 3, 84, 697), none, none, some (.ifCond .eq 19, 14, 0, 30, 0), none, none, some (.aload_n 0, 15, 0, 0, 0), some (.getfield 116, 18, 6, 7, 591), none, none, some (.iload_n 1, 19, 0, 1, 0), some (.ishr, 20, 0, 0, 0), some (.iconst 1, 21, 1, 0, 0), some (.iand, 22, 0, 0, 0), some (.iconst 1, 23, 1, 0, 0), some (.if_icmp .ne 7, 26, 0, 30, 0), none, none, some (.iconst 1, 27, 1, 0, 0), some (.goto 4, 30, 0, 31, 0), none, none, some (.iconst 0, 31, 0, 0, 0), some (.ireturn, 32, 0, 0, 0)]
def xmX6_isCorner : xM := (xhX6_isCorner, xkX6_isCorner)
def xkX6_isEdge : List (Option xI) := [some (.iload_n 1, 1, 0, 1, 0), some (.iload_n 2, 2, 0, 2, 0), some (.if_icmp .eq 38, 5, 0, 40, 0), none, none, some (.aload_n 0, 6, 0, 0, 0), some (.iload_n 1, 7, 0, 1, 0), some (.invokevirtual 146, 10, 2, 98, 759), none, none, some (.ifCond .eq 30, 13, 0, 40, 0), none, none, some (.aload_n 0, 14, 0, 0, 0), some (.iload_n 2, 15, 0, 2, 0), some (.invokevirtual 146, 18, 2, 98, 759), none, none, some (.ifCond .eq 22, 21, 0, 40, 0), none, none, some (.aload_n 0, 22, 0, 0, 0), some (.iconst 1, 23, 1, 0, 0), some (.iload_n 1, 24, 0, 1, 0), some (.ishl, 25, 0, 0, 0), some (.iconst 1, 26, 1, 0, 0), some (.iload_n 2, 27, 0, 2, 0), some (.ishl, 28, 0, 0, 0), some (.ior, 29, 0, 0, 0), some (.invokevirtual 128, 32, 2, 91, 731), none, none, some (.iconst 1, 33, 1, 0, 0), some (.if_icmp .le 7, 36, 0, 40, 0), none, none, some (.iconst 1, 37, 1, 0, 0), some (.goto 4, 40, 0, 41, 0), none, none, some (.iconst 0, 41, 0, 0, 0), some (.ireturn, 42, 0, 0, 0)]
def xmX6_isEdge : xM := (xhX6_isEdge, xkX6_isEdge)
def xkX6_corners : List (Option xI) := [some (.aload_n 0, 1, 0, 0, 0), some (.invokevirtual 142, 4, 1, 96, 708), none, none, some (.ifCond .eq 8, 7, 0, 12, 0), none, none, some (.bipush (-3), 9, (-3), 0, 0), none, some (.goto 7, 12, 0, 16, 0), none, none, some (.aload_n 0, 13, 0, 0, 0), some (.getfield 116, 16, 6, 7, 591), none, none, some (.ireturn, 17, 0, 0, 0)]
def xmX6_corners : xM := (xhX6_corners, xkX6_corners)
def xkX6_edges : List (Option xI) := [some (.aload_n 0, 1, 0, 0, 0), some (.invokevirtual 142, 4, 1, 96, 708), none, none, some (.ifCond .eq 6, 7, 0, 10, 0), none, none, some (.bipush (-3), 9, (-3), 0, 0), none, some (.ireturn, 10, 0, 0, 0), some (.iconst 0, 11, 0, 0, 0), some (.istore_n 1, 12, 0, 1, 0), some (.iconst 0, 13, 0, 0, 0), some (.istore_n 2, 14, 0, 2, 0), some (.iload_n 2, 15, 0, 2, 0), some (.aload_n 0, 16, 0, 0, 0), some (.getfield 82, 19, 6, 0, 584), none, none, some (.if_icmp .ge 39, 22, 0, 58, 0), none, none, some (.iconst 0, 23, 0, 0, 0), some (.istore_n 3, 24, 0, 3, 0), some (.iload_n 3, 25, 0, 3, 0), some (.iload_n 2, 26, 0, 2, 0), some (.if_icmp .ge 26, 29, 0, 52, 0), none, none, some (.iload_n 1, 30, 0, 1, 0), some (.aload_n 0, 31, 0, 0, 0), some (.iload_n 2, 32, 0, 2, 0), some (.iload_n 3, 33, 0, 3, 0), some (.invokevirtual 150, 36, 3, 99, 755), none, none, some (.ifCond .eq 7, 39, 0, 43, 0), none, none, some (.iconst 1, 40, 1, 0, 0), some (.goto 4, 43, 0, 44, 0), none, none, some (.iconst 0, 44, 0, 0, 0), some (.iadd, 45, 0, 0, 0), some (.istore_n 1, 46, 0, 1, 0), some (.iinc 3 1, 49, 0, 3, 0), none, none, some (.goto (-25), 52, 0, 24, 0), none, none, some (.iinc 2 1, 55, 0, 2, 0), none, none, some (.goto (-41), 58, 0, 14, 0), none, none, some (.iload_n 1, 59, 0, 1, 0), some (.ireturn, 60, 0, 0, 0)]
def xmX6_edges : xM := (xhX6_edges, xkX6_edges)
def xkX6_faces : List (Option xI) := [some (.aload_n 0, 1, 0, 0, 0), some (.invokevirtual 142, 4, 1, 96, 708), none, none, some (.ifCond .eq 8, 7, 0, 12, 0), none, none, some (.bipush (-3), 9, (-3), 0, 0), none, some (.goto 7, 12, 0, 16, 0), none, none, some (.aload_n 0, 13, 0, 0, 0), some (.getfield 109, 16, 6, 8, 592), none, none, some (.ireturn, 17, 0, 0, 0)]
def xmX6_faces : xM := (xhX6_faces, xkX6_faces)
def xkX6_size : List (Option xI) := [some (.aload_n 0, 1, 0, 0, 0), some (.invokevirtual 142, 4, 1, 96, 708), none, none, some (.ifCond .eq 8, 7, 0, 12, 0), none, none, some (.bipush (-3), 9, (-3), 0, 0), none, some (.goto 32, 12, 0, 41, 0), none, none, some (.iload_n 1, 13, 0, 1, 0), some (.iconst 0, 14, 0, 0, 0), some (.aload_n 0, 15, 0, 0, 0), some (.getfield 109, 18, 6, 8, 592), none, none, some (.iconst 1, 19, 1, 0, 0), some (.isub, 20, 0, 0, 0), some (.invokestatic 78, 23, 3, 84, 697), none, none, some (.ifCond .eq 17, 26, 0, 40, 0), none, none, some (.aload_n 0, 27, 0, 0, 0), some (.getfield 22, 30, 6, 10, 594), none, none, some (.aload_n 0, 31, 0, 0, 0), some (.getfield 40, 34, 6, 19, 603), none, none, some (.iload_n 1, 35, 0, 1, 0), some (.iaload, 36, 0, 0, 0), some (.iaload, 37, 0, 0, 0), some (.goto 4, 40, 0, 41, 0), none, none, some (.iconst (-1), 41, (-1), 0, 0), some (.ireturn, 42, 0, 0, 0)]
def xmX6_size : xM := (xhX6_size, xkX6_size)
def xkX6_at : List (Option xI) := [some (.aload_n 0, 1, 0, 0, 0), some (.invokevirtual 142, 4, 1, 96, 708), none, none, some (.ifCond .eq 6, 7, 0, 10, 0), none, none, some (.bipush (-3), 9, (-3), 0, 0), none, some (.ireturn, 10, 0, 0, 0), some (.iload_n 1, 11, 0, 1, 0), some (.iconst 0, 12, 0, 0, 0), some (.aload_n 0, 13, 0, 0, 0), some (.getfield 109, 16, 6, 8, 592), none, none, some (.iconst 1, 17, 1, 0, 0), some (.isub, 18, 0, 0, 0), some (.invokestatic 78, 21, 3, 84, 697), none, none, some (.ifCond .eq 43, 24, 0, 64, 0), none, none, some (.iload_n 2, 25, 0, 2, 0), some (.iconst 0, 26, 0, 0, 0), some (.aload_n 0, 27, 0, 0, 0), some (.getfield 22, 30, 6, 10, 594), none, none, some (.aload_n 0, 31, 0, 0, 0), some (.getfield 40, 34, 6, 19, 603), none, none, some (.iload_n 1, 35, 0, 1, 0), some (.iaload, 36, 0, 0, 0), some (.iaload, 37, 0, 0, 0), some (.iconst 1, 38, 1, 0, 0), some (.isub, 39, 0, 0, 0), some (.invokestatic 78, 42, 3, 84, 697), none, none, some (.ifCond .eq 22, 45, 0, 64, 0), none, none, some (.aload_n 0, 46, 0, 0, 0), some (.getfield 25, 49, 6, 11, 595), none, none, some (.bipush 14, 51, 14, 0, 0), none, some (.aload_n 0, 52, 0, 0, 0), some (.getfield 40, 55, 6, 19, 603), none, none, some (.iload_n 1, 56, 0, 1, 0), some (.iaload, 57, 0, 0, 0), some (.imul, 58, 0, 0, 0), some (.iload_n 2, 59, 0, 2, 0), some (.iadd, 60, 0, 0, 0), some (.iaload, 61, 0, 0, 0), some (.goto 4, 64, 0, 65, 0), none, none, some (.iconst (-1), 65, (-1), 0, 0), some (.ireturn, 66, 0, 0, 0)]
def xmX6_at : xM := (xhX6_at, xkX6_at)
def xkX6_normal : List (Option xI) := [some (.aload_n 0, 1, 0, 0, 0), some (.invokevirtual 142, 4, 1, 96, 708), none, none, some (.ifCond .ne 26, 7, 0, 30, 0), none, none, some (.iload_n 1, 8, 0, 1, 0), some (.iconst 0, 9, 0, 0, 0), some (.aload_n 0, 10, 0, 0, 0), some (.getfield 109, 13, 6, 8, 592), none, none, some (.iconst 1, 14, 1, 0, 0), some (.isub, 15, 0, 0, 0), some (.invokestatic 78, 18, 3, 84, 697), none, none, some (.ifCond .eq 12, 21, 0, 30, 0), none, none, some (.iload_n 2, 22, 0, 2, 0), some (.iconst 0, 23, 0, 0, 0), some (.iconst 3, 24, 3, 0, 0), some (.invokestatic 78, 27, 3, 84, 697), none, none, some (.ifCond .ne 7, 30, 0, 34, 0), none, none, some (.ldc2_w 153, 33, (-1000000000000), 0, 779), none, none, some (.lreturn, 34, 0, 0, 0), some (.aload_n 0, 35, 0, 0, 0), some (.getfield 40, 38, 6, 19, 603), none, none, some (.iload_n 1, 39, 0, 1, 0), some (.iaload, 40, 0, 0, 0), some (.istore_n 3, 41, 0, 3, 0), some (.iload_n 2, 42, 0, 2, 0), some (.ifCond .ne 13, 45, 0, 55, 0), none, none, some (.aload_n 0, 46, 0, 0, 0), some (.getfield 28, 49, 6, 12, 596), none, none, some (.iload_n 3, 50, 0, 3, 0), some (.iaload, 51, 0, 0, 0), some (.i2l, 52, 0, 0, 0), some (.goto 40, 55, 0, 92, 0), none, none, some (.iload_n 2, 56, 0, 2, 0), some (.iconst 1, 57, 1, 0, 0), some (.if_icmp .ne 13, 60, 0, 70, 0), none, none, some (.aload_n 0, 61, 0, 0, 0), some (.getfield 31, 64, 6, 13, 597), none, none, some (.iload_n 3, 65, 0, 3, 0), some (.iaload, 66, 0, 0, 0), some (.i2l, 67, 0, 0, 0), some (.goto 25, 70, 0, 92, 0), none, none, some (.iload_n 2, 71, 0, 2, 0), some (.iconst 2, 72, 2, 0, 0), some (.if_icmp .ne 13, 75, 0, 85, 0), none, none, some (.aload_n 0, 76, 0, 0, 0), some (.getfield 34, 79, 6, 14, 598), none, none, some (.iload_n 3, 80, 0, 3, 0), some (.iaload, 81, 0, 0, 0), some (.i2l, 82, 0, 0, 0), some (.goto 10, 85, 0, 92, 0), none, none, some (.aload_n 0, 86, 0, 0, 0), some (.getfield 37, 89, 6, 15, 599), none, none, some (.iload_n 3, 90, 0, 3, 0), some (.iaload, 91, 0, 0, 0), some (.i2l, 92, 0, 0, 0), some (.lreturn, 93, 0, 0, 0)]
def xmX6_normal : xM := (xhX6_normal, xkX6_normal)
def xkX6_tetrahedron : List (Option xI) := [some (.aload_n 0, 1, 0, 0, 0), some (.iload_n 1, 2, 0, 1, 0), some (.iload_n 2, 3, 0, 2, 0), some (.iload_n 3, 4, 0, 3, 0), some (.invokevirtual 98, 7, 4, 87, 720), none, none, some (.aload_n 0, 8, 0, 0, 0), some (.iload_n 1, 9, 0, 1, 0), some (.invokevirtual 102, 12, 2, 88, 724), none, none, some (.aload_n 0, 13, 0, 0, 0), some (.iconst 0, 14, 0, 0, 0), some (.invokevirtual 102, 17, 2, 88, 724), none, none, some (.isub, 18, 0, 0, 0), some (.i2l, 19, 0, 0, 0), some (.lstore 4, 21, 0, 4, 0), none, some (.aload_n 0, 22, 0, 0, 0), some (.dup, 23, 0, 0, 0), some (.getfield 155, 26, 6, 20, 604), none, none, some (.lload 4, 28, 0, 4, 0), none, some (.ladd, 29, 0, 0, 0), some (.putfield 155, 32, 6, 20, 604), none, none, some (.aload_n 0, 33, 0, 0, 0), some (.dup, 34, 0, 0, 0), some (.getfield 159, 37, 6, 21, 605), none, none, some (.lload 4, 39, 0, 4, 0), none, some (.aload_n 0, 40, 0, 0, 0), some (.getfield 7, 43, 6, 1, 585), none, none, some (.iconst 0, 44, 0, 0, 0), some (.iaload, 45, 0, 0, 0), some (.aload_n 0, 46, 0, 0, 0), some (.getfield 7, 49, 6, 1, 585), none, none, some (.iload_n 1, 50, 0, 1, 0), some (.iaload, 51, 0, 0, 0), some (.iadd, 52, 0, 0, 0), some (.aload_n 0, 53, 0, 0, 0), some (.getfield 7, 56, 6, 1, 585), none, none, some (.iload_n 2, 57, 0, 2, 0), some (.iaload, 58, 0, 0, 0), some (.iadd, 59, 0, 0, 0), some (.aload_n 0, 60, 0, 0, 0), some (.getfield 7, 63, 6, 1, 585), none, none, some (.iload_n 3, 64, 0, 3, 0), some (.iaload, 65, 0, 0, 0), some (.iadd, 66, 0, 0, 0), some (.i2l, 67, 0, 0, 0), some (.lmul, 68, 0, 0, 0), some (.ladd, 69, 0, 0, 0), some (.putfield 159, 72, 6, 21, 605), none, none, some (.aload_n 0, 73, 0, 0, 0), some (.dup, 74, 0, 0, 0), some (.getfield 162, 77, 6, 22, 606), none, none, some (.lload 4, 79, 0, 4, 0), none, some (.aload_n 0, 80, 0, 0, 0), some (.getfield 13, 83, 6, 2, 586), none, none, some (.iconst 0, 84, 0, 0, 0), some (.iaload, 85, 0, 0, 0), some (.aload_n 0, 86, 0, 0, 0), some (.getfield 13, 89, 6, 2, 586), none, none, some (.iload_n 1, 90, 0, 1, 0), some (.iaload, 91, 0, 0, 0), some (.iadd, 92, 0, 0, 0), some (.aload_n 0, 93, 0, 0, 0), some (.getfield 13, 96, 6, 2, 586), none, none, some (.iload_n 2, 97, 0, 2, 0), some (.iaload, 98, 0, 0, 0), some (.iadd, 99, 0, 0, 0), some (.aload_n 0, 100, 0, 0, 0), some (.getfield 13, 103, 6, 2, 586), none, none, some (.iload_n 3, 104, 0, 3, 0), some (.iaload, 105, 0, 0, 0), some (.iadd, 106, 0, 0, 0), some (.i2l, 107, 0, 0, 0), some (.lmul, 108, 0, 0, 0), some (.ladd, 109, 0, 0, 0), some (.putfield 162, 112, 6, 22, 606), none, none, some (.aload_n 0, 113, 0, 0, 0), some (.dup, 114, 0, 0, 0), some (.getfield 165, 117, 6, 23, 607), none, none, some (.lload 4, 119, 0, 4, 0), none, some (.aload_n 0, 120, 0, 0, 0), some (.getfield 16, 123, 6, 3, 587), none, none, some (.iconst 0, 124, 0, 0, 0), some (.iaload, 125, 0, 0, 0), some (.aload_n 0, 126, 0, 0, 0), some (.getfield 16, 129, 6, 3, 587), none, none, some (.iload_n 1, 130, 0, 1, 0), some (.iaload, 131, 0, 0, 0), some (.iadd, 132, 0, 0, 0), some (.aload_n 0, 133, 0, 0, 0), some (.getfield 16, 136, 6, 3, 587), none, none, some (.iload_n 2, 137, 0, 2, 0), some (.iaload, 138, 0, 0, 0), some (.iadd, 139, 0, 0, 0), some (.aload_n 0, 140, 0, 0, 0), some (.getfield 16, 143, 6, 3, 587), none, none, some (.iload_n 3, 144, 0, 3, 0), some (.iaload, 145, 0, 0, 0), some (.iadd, 146, 0, 0, 0), some (.i2l, 147, 0, 0, 0), some (.lmul, 148, 0, 0, 0), some (.ladd, 149, 0, 0, 0), some (.putfield 165, 152, 6, 23, 607), none, none, some (.return_, 153, 0, 0, 0)]
def xmX6_tetrahedron : xM := (xhX6_tetrahedron, xkX6_tetrahedron)
def xkX6_weigh : List (Option xI) := [some (.aload_n 0, 1, 0, 0, 0), some (.lconst 0, 2, 0, 0, 0), some (.putfield 155, 5, 6, 20, 604), none, none, some (.aload_n 0, 6, 0, 0, 0), some (.lconst 0, 7, 0, 0, 0), some (.putfield 159, 10, 6, 21, 605), none, none, some (.aload_n 0, 11, 0, 0, 0), some (.lconst 0, 12, 0, 0, 0), some (.putfield 162, 15, 6, 22, 606), none, none, some (.aload_n 0, 16, 0, 0, 0), some (.lconst 0, 17, 0, 0, 0), some (.putfield 165, 20, 6, 23, 607), none, none, some (.iconst 0, 21, 0, 0, 0), some (.istore_n 1, 22, 0, 1, 0), some (.iload_n 1, 23, 0, 1, 0), some (.aload_n 0, 24, 0, 0, 0), some (.getfield 109, 27, 6, 8, 592), none, none, some (.if_icmp .ge 64, 30, 0, 91, 0), none, none, some (.iconst 2, 31, 2, 0, 0), some (.istore_n 2, 32, 0, 2, 0), some (.iload_n 2, 33, 0, 2, 0), some (.aload_n 0, 34, 0, 0, 0), some (.getfield 22, 37, 6, 10, 594), none, none, some (.iload_n 1, 38, 0, 1, 0), some (.iaload, 39, 0, 0, 0), some (.if_icmp .ge 46, 42, 0, 85, 0), none, none, some (.aload_n 0, 43, 0, 0, 0), some (.aload_n 0, 44, 0, 0, 0), some (.getfield 25, 47, 6, 11, 595), none, none, some (.bipush 14, 49, 14, 0, 0), none, some (.iload_n 1, 50, 0, 1, 0), some (.imul, 51, 0, 0, 0), some (.iaload, 52, 0, 0, 0), some (.aload_n 0, 53, 0, 0, 0), some (.getfield 25, 56, 6, 11, 595), none, none, some (.bipush 14, 58, 14, 0, 0), none, some (.iload_n 1, 59, 0, 1, 0), some (.imul, 60, 0, 0, 0), some (.iload_n 2, 61, 0, 2, 0), some (.iadd, 62, 0, 0, 0), some (.iconst 1, 63, 1, 0, 0), some (.isub, 64, 0, 0, 0), some (.iaload, 65, 0, 0, 0), some (.aload_n 0, 66, 0, 0, 0), some (.getfield 25, 69, 6, 11, 595), none, none, some (.bipush 14, 71, 14, 0, 0), none, some (.iload_n 1, 72, 0, 1, 0), some (.imul, 73, 0, 0, 0), some (.iload_n 2, 74, 0, 2, 0), some (.iadd, 75, 0, 0, 0), some (.iaload, 76, 0, 0, 0), some (.invokevirtual 168, 79, 4, 106, 788), none, none, some (.iinc 2 1, 82, 0, 2, 0), none, none, some (.goto (-50), 85, 0, 32, 0), none, none, some (.iinc 1 1, 88, 0, 1, 0), none, none, some (.goto (-66), 91, 0, 22, 0), none, none, some (.return_, 92, 0, 0, 0)]
def xmX6_weigh : xM := (xhX6_weigh, xkX6_weigh)
def xkX6_volume : List (Option xI) := [some (.aload_n 0, 1, 0, 0, 0), some (.invokevirtual 142, 4, 1, 96, 708), none, none, some (.ifCond .eq 7, 7, 0, 11, 0), none, none, some (.ldc2_w 153, 10, (-1000000000000), 0, 779), none, none, some (.lreturn, 11, 0, 0, 0), some (.aload_n 0, 12, 0, 0, 0), some (.invokevirtual 171, 15, 1, 107, 784), none, none, some (.aload_n 0, 16, 0, 0, 0), some (.getfield 155, 19, 6, 20, 604), none, none, some (.lreturn, 20, 0, 0, 0)]
def xmX6_volume : xM := (xhX6_volume, xkX6_volume)
def xkX6_part : List (Option xI) := [some (.lload_n 0, 1, 0, 0, 0), some (.lconst 0, 2, 0, 0, 0), some (.lcmp, 3, 0, 0, 0), some (.ifCond .ge 8, 6, 0, 11, 0), none, none, some (.lload_n 0, 7, 0, 0, 0), some (.lneg, 8, 0, 0, 0), some (.goto 4, 11, 0, 12, 0), none, none, some (.lload_n 0, 12, 0, 0, 0), some (.lstore 5, 14, 0, 5, 0), none, some (.lload_n 2, 15, 0, 2, 0), some (.lconst 0, 16, 0, 0, 0), some (.lcmp, 17, 0, 0, 0), some (.ifCond .ge 8, 20, 0, 25, 0), none, none, some (.lload_n 2, 21, 0, 2, 0), some (.lneg, 22, 0, 0, 0), some (.goto 4, 25, 0, 26, 0), none, none, some (.lload_n 2, 26, 0, 2, 0), some (.lstore 7, 28, 0, 7, 0), none, some (.lload 7, 30, 0, 7, 0), none, some (.lconst 0, 31, 0, 0, 0), some (.lcmp, 32, 0, 0, 0), some (.ifCond .eq 21, 35, 0, 53, 0), none, none, some (.lload 5, 37, 0, 5, 0), none, some (.lload 7, 39, 0, 7, 0), none, some (.lrem, 40, 0, 0, 0), some (.lstore 9, 42, 0, 9, 0), none, some (.lload 7, 44, 0, 7, 0), none, some (.lstore 5, 46, 0, 5, 0), none, some (.lload 9, 48, 0, 9, 0), none, some (.lstore 7, 50, 0, 7, 0), none, some (.goto (-22), 53, 0, 28, 0), none, none, some (.lload_n 2, 54, 0, 2, 0), some (.lconst 0, 55, 0, 0, 0), some (.lcmp, 56, 0, 0, 0), some (.ifCond .ge 9, 59, 0, 65, 0), none, none, some (.ldc2_w 174, 62, (-1), 0, 800), none, none, some (.goto 4, 65, 0, 66, 0), none, none, some (.lconst 1, 66, 1, 0, 0), some (.lstore 9, 68, 0, 9, 0), none, some (.iload 4, 70, 0, 4, 0), none, some (.ifCond .ne 13, 73, 0, 83, 0), none, none, some (.lload 9, 75, 0, 9, 0), none, some (.lload_n 0, 76, 0, 0, 0), some (.lmul, 77, 0, 0, 0), some (.lload 5, 79, 0, 5, 0), none, some (.ldiv, 80, 0, 0, 0), some (.goto 10, 83, 0, 90, 0), none, none, some (.lload 9, 85, 0, 9, 0), none, some (.lload_n 2, 86, 0, 2, 0), some (.lmul, 87, 0, 0, 0), some (.lload 5, 89, 0, 5, 0), none, some (.ldiv, 90, 0, 0, 0), some (.lreturn, 91, 0, 0, 0)]
def xmX6_part : xM := (xhX6_part, xkX6_part)
def xkX6_middle : List (Option xI) := [some (.aload_n 0, 1, 0, 0, 0), some (.invokevirtual 142, 4, 1, 96, 708), none, none, some (.ifCond .ne 21, 7, 0, 25, 0), none, none, some (.iload_n 1, 8, 0, 1, 0), some (.iconst 0, 9, 0, 0, 0), some (.iconst 2, 10, 2, 0, 0), some (.invokestatic 78, 13, 3, 84, 697), none, none, some (.ifCond .eq 12, 16, 0, 25, 0), none, none, some (.iload_n 2, 17, 0, 2, 0), some (.iconst 0, 18, 0, 0, 0), some (.iconst 1, 19, 1, 0, 0), some (.invokestatic 78, 22, 3, 84, 697), none, none, some (.ifCond .ne 7, 25, 0, 29, 0), none, none, some (.ldc2_w 153, 28, (-1000000000000), 0, 779), none, none, some (.lreturn, 29, 0, 0, 0), some (.aload_n 0, 30, 0, 0, 0), some (.invokevirtual 171, 33, 1, 107, 784), none, none, some (.iload_n 1, 34, 0, 1, 0), some (.ifCond .ne 10, 37, 0, 44, 0), none, none, some (.aload_n 0, 38, 0, 0, 0), some (.getfield 159, 41, 6, 21, 605), none, none, some (.goto 19, 44, 0, 60, 0), none, none, some (.iload_n 1, 45, 0, 1, 0), some (.iconst 1, 46, 1, 0, 0), some (.if_icmp .ne 10, 49, 0, 56, 0), none, none, some (.aload_n 0, 50, 0, 0, 0), some (.getfield 162, 53, 6, 22, 606), none, none, some (.goto 7, 56, 0, 60, 0), none, none, some (.aload_n 0, 57, 0, 0, 0), some (.getfield 165, 60, 6, 23, 607), none, none, some (.ldc2_w 176, 63, 4, 0, 796), none, none, some (.aload_n 0, 64, 0, 0, 0), some (.getfield 155, 67, 6, 20, 604), none, none, some (.lmul, 68, 0, 0, 0), some (.iload_n 2, 69, 0, 2, 0), some (.invokestatic 178, 72, 3, 109, 797), none, none, some (.lreturn, 73, 0, 0, 0)]
def xmX6_middle : xM := (xhX6_middle, xkX6_middle)
def xkX6_where : List (Option xI) := [some (.aload_n 0, 1, 0, 0, 0), some (.invokevirtual 142, 4, 1, 96, 708), none, none, some (.ifCond .eq 6, 7, 0, 10, 0), none, none, some (.bipush (-3), 9, (-3), 0, 0), none, some (.ireturn, 10, 0, 0, 0), some (.iload 4, 12, 0, 4, 0), none, some (.iconst 1, 13, 1, 0, 0), some (.sipush 1000, 16, 1000, 0, 0), none, none, some (.invokestatic 78, 19, 3, 84, 697), none, none, some (.ifCond .eq 36, 22, 0, 55, 0), none, none, some (.iload_n 1, 23, 0, 1, 0), some (.ldc 182, 25, (-100000), 0, 805), none, some (.ldc 183, 27, 100000, 0, 806), none, some (.invokestatic 78, 30, 3, 84, 697), none, none, some (.ifCond .eq 25, 33, 0, 55, 0), none, none, some (.iload_n 2, 34, 0, 2, 0), some (.ldc 182, 36, (-100000), 0, 805), none, some (.ldc 183, 38, 100000, 0, 806), none, some (.invokestatic 78, 41, 3, 84, 697), none, none, some (.ifCond .eq 14, 44, 0, 55, 0), none, none, some (.iload_n 3, 45, 0, 3, 0), some (.ldc 182, 47, (-100000), 0, 805), none, some (.ldc 183, 49, 100000, 0, 806), none, some (.invokestatic 78, 52, 3, 84, 697), none, none, some (.ifCond .ne 6, 55, 0, 58, 0), none, none, some (.bipush (-2), 57, (-2), 0, 0), none, some (.ireturn, 58, 0, 0, 0), some (.iconst 2, 59, 2, 0, 0), some (.istore 5, 61, 0, 5, 0), none, some (.iconst 0, 62, 0, 0, 0), some (.istore 6, 64, 0, 6, 0), none, some (.iload 6, 66, 0, 6, 0), none, some (.aload_n 0, 67, 0, 0, 0), some (.getfield 109, 70, 6, 8, 592), none, none, some (.if_icmp .ge 91, 73, 0, 161, 0), none, none, some (.aload_n 0, 74, 0, 0, 0), some (.getfield 28, 77, 6, 12, 596), none, none, some (.iload 6, 79, 0, 6, 0), none, some (.iaload, 80, 0, 0, 0), some (.i2l, 81, 0, 0, 0), some (.iload_n 1, 82, 0, 1, 0), some (.i2l, 83, 0, 0, 0), some (.lmul, 84, 0, 0, 0), some (.aload_n 0, 85, 0, 0, 0), some (.getfield 31, 88, 6, 13, 597), none, none, some (.iload 6, 90, 0, 6, 0), none, some (.iaload, 91, 0, 0, 0), some (.i2l, 92, 0, 0, 0), some (.iload_n 2, 93, 0, 2, 0), some (.i2l, 94, 0, 0, 0), some (.lmul, 95, 0, 0, 0), some (.ladd, 96, 0, 0, 0), some (.aload_n 0, 97, 0, 0, 0), some (.getfield 34, 100, 6, 14, 598), none, none, some (.iload 6, 102, 0, 6, 0), none, some (.iaload, 103, 0, 0, 0), some (.i2l, 104, 0, 0, 0), some (.iload_n 3, 105, 0, 3, 0), some (.i2l, 106, 0, 0, 0), some (.lmul, 107, 0, 0, 0), some (.ladd, 108, 0, 0, 0), some (.aload_n 0, 109, 0, 0, 0), some (.getfield 37, 112, 6, 15, 599), none, none, some (.iload 6, 114, 0, 6, 0), none, some (.iaload, 115, 0, 0, 0), some (.i2l, 116, 0, 0, 0), some (.iload 4, 118, 0, 4, 0), none, some (.i2l, 119, 0, 0, 0), some (.lmul, 120, 0, 0, 0), some (.lsub, 121, 0, 0, 0), some (.lstore 7, 123, 0, 7, 0), none, some (.lload 7, 125, 0, 7, 0), none, some (.lconst 0, 126, 0, 0, 0), some (.lcmp, 127, 0, 0, 0), some (.ifCond .le 7, 130, 0, 134, 0), none, none, some (.iconst 0, 131, 0, 0, 0), some (.goto 22, 134, 0, 153, 0), none, none, some (.lload 7, 136, 0, 7, 0), none, some (.lconst 0, 137, 0, 0, 0), some (.lcmp, 138, 0, 0, 0), some (.ifCond .ne 13, 141, 0, 151, 0), none, none, some (.iload 5, 143, 0, 5, 0), none, some (.iconst 2, 144, 2, 0, 0), some (.if_icmp .ne 7, 147, 0, 151, 0), none, none, some (.iconst 1, 148, 1, 0, 0), some (.goto 5, 151, 0, 153, 0), none, none, some (.iload 5, 153, 0, 5, 0), none, some (.istore 5, 155, 0, 5, 0), none, some (.iinc 6 1, 158, 0, 6, 0), none, none, some (.goto (-94), 161, 0, 64, 0), none, none, some (.iload 5, 163, 0, 5, 0), none, some (.ireturn, 164, 0, 0, 0)]
def xmX6_where : xM := (xhX6_where, xkX6_where)
def xkX6_isDirection : List (Option xI) := [some (.iload_n 0, 1, 0, 0, 0), some (.bipush (-20), 3, (-20), 0, 0), none, some (.bipush 20, 5, 20, 0, 0), none, some (.invokestatic 78, 8, 3, 84, 697), none, none, some (.ifCond .eq 41, 11, 0, 49, 0), none, none, some (.iload_n 1, 12, 0, 1, 0), some (.bipush (-20), 14, (-20), 0, 0), none, some (.bipush 20, 16, 20, 0, 0), none, some (.invokestatic 78, 19, 3, 84, 697), none, none, some (.ifCond .eq 30, 22, 0, 49, 0), none, none, some (.iload_n 2, 23, 0, 2, 0), some (.bipush (-20), 25, (-20), 0, 0), none, some (.bipush 20, 27, 20, 0, 0), none, some (.invokestatic 78, 30, 3, 84, 697), none, none, some (.ifCond .eq 19, 33, 0, 49, 0), none, none, some (.iload_n 0, 34, 0, 0, 0), some (.ifCond .ne 11, 37, 0, 45, 0), none, none, some (.iload_n 1, 38, 0, 1, 0), some (.ifCond .ne 7, 41, 0, 45, 0), none, none, some (.iload_n 2, 42, 0, 2, 0), some (.ifCond .eq 7, 45, 0, 49, 0), none, none, some (.iconst 1, 46, 1, 0, 0), some (.goto 4, 49, 0, 50, 0), none, none, some (.iconst 0, 50, 0, 0, 0), some (.ireturn, 51, 0, 0, 0)]
def xmX6_isDirection : xM := (xhX6_isDirection, xkX6_isDirection)
def xkX6_lies : List (Option xI) := [some (.iload_n 2, 1, 0, 2, 0), some (.i2l, 2, 0, 0, 0), some (.aload_n 0, 3, 0, 0, 0), some (.getfield 7, 6, 6, 1, 585), none, none, some (.iload_n 1, 7, 0, 1, 0), some (.iaload, 8, 0, 0, 0), some (.i2l, 9, 0, 0, 0), some (.lmul, 10, 0, 0, 0), some (.iload_n 3, 11, 0, 3, 0), some (.aload_n 0, 12, 0, 0, 0), some (.getfield 13, 15, 6, 2, 586), none, none, some (.iload_n 1, 16, 0, 1, 0), some (.iaload, 17, 0, 0, 0), some (.imul, 18, 0, 0, 0), some (.i2l, 19, 0, 0, 0), some (.ladd, 20, 0, 0, 0), some (.iload 4, 22, 0, 4, 0), none, some (.aload_n 0, 23, 0, 0, 0), some (.getfield 16, 26, 6, 3, 587), none, none, some (.iload_n 1, 27, 0, 1, 0), some (.iaload, 28, 0, 0, 0), some (.imul, 29, 0, 0, 0), some (.i2l, 30, 0, 0, 0), some (.ladd, 31, 0, 0, 0), some (.iload 5, 33, 0, 5, 0), none, some (.i2l, 34, 0, 0, 0), some (.lsub, 35, 0, 0, 0), some (.lreturn, 36, 0, 0, 0)]
def xmX6_lies : xM := (xhX6_lies, xkX6_lies)
def xkX6_compare : List (Option xI) := [some (.aload_n 0, 1, 0, 0, 0), some (.getfield 47, 4, 6, 25, 609), none, none, some (.iload_n 1, 5, 0, 1, 0), some (.laload, 6, 0, 0, 0), some (.aload_n 0, 7, 0, 0, 0), some (.getfield 57, 10, 6, 28, 612), none, none, some (.iload_n 2, 11, 0, 2, 0), some (.laload, 12, 0, 0, 0), some (.lmul, 13, 0, 0, 0), some (.aload_n 0, 14, 0, 0, 0), some (.getfield 47, 17, 6, 25, 609), none, none, some (.iload_n 2, 18, 0, 2, 0), some (.laload, 19, 0, 0, 0), some (.aload_n 0, 20, 0, 0, 0), some (.getfield 57, 23, 6, 28, 612), none, none, some (.iload_n 1, 24, 0, 1, 0), some (.laload, 25, 0, 0, 0), some (.lmul, 26, 0, 0, 0), some (.lsub, 27, 0, 0, 0), some (.lstore_n 3, 28, 0, 3, 0), some (.lload_n 3, 29, 0, 3, 0), some (.lconst 0, 30, 0, 0, 0), some (.lcmp, 31, 0, 0, 0), some (.ifCond .ne 33, 34, 0, 64, 0), none, none, some (.aload_n 0, 35, 0, 0, 0), some (.getfield 51, 38, 6, 26, 610), none, none, some (.iload_n 1, 39, 0, 1, 0), some (.laload, 40, 0, 0, 0), some (.aload_n 0, 41, 0, 0, 0), some (.getfield 57, 44, 6, 28, 612), none, none, some (.iload_n 2, 45, 0, 2, 0), some (.laload, 46, 0, 0, 0), some (.lmul, 47, 0, 0, 0), some (.aload_n 0, 48, 0, 0, 0), some (.getfield 51, 51, 6, 26, 610), none, none, some (.iload_n 2, 52, 0, 2, 0), some (.laload, 53, 0, 0, 0), some (.aload_n 0, 54, 0, 0, 0), some (.getfield 57, 57, 6, 28, 612), none, none, some (.iload_n 1, 58, 0, 1, 0), some (.laload, 59, 0, 0, 0), some (.lmul, 60, 0, 0, 0), some (.lsub, 61, 0, 0, 0), some (.goto 4, 64, 0, 65, 0), none, none, some (.lload_n 3, 65, 0, 3, 0), some (.lstore_n 3, 66, 0, 3, 0), some (.lload_n 3, 67, 0, 3, 0), some (.lconst 0, 68, 0, 0, 0), some (.lcmp, 69, 0, 0, 0), some (.ifCond .ne 33, 72, 0, 102, 0), none, none, some (.aload_n 0, 73, 0, 0, 0), some (.getfield 54, 76, 6, 27, 611), none, none, some (.iload_n 1, 77, 0, 1, 0), some (.laload, 78, 0, 0, 0), some (.aload_n 0, 79, 0, 0, 0), some (.getfield 57, 82, 6, 28, 612), none, none, some (.iload_n 2, 83, 0, 2, 0), some (.laload, 84, 0, 0, 0), some (.lmul, 85, 0, 0, 0), some (.aload_n 0, 86, 0, 0, 0), some (.getfield 54, 89, 6, 27, 611), none, none, some (.iload_n 2, 90, 0, 2, 0), some (.laload, 91, 0, 0, 0), some (.aload_n 0, 92, 0, 0, 0), some (.getfield 57, 95, 6, 28, 612), none, none, some (.iload_n 1, 96, 0, 1, 0), some (.laload, 97, 0, 0, 0), some (.lmul, 98, 0, 0, 0), some (.lsub, 99, 0, 0, 0), some (.goto 4, 102, 0, 103, 0), none, none, some (.lload_n 3, 103, 0, 3, 0), some (.lstore_n 3, 104, 0, 3, 0), some (.lload_n 3, 105, 0, 3, 0), some (.lconst 0, 106, 0, 0, 0), some (.lcmp, 107, 0, 0, 0), some (.ifCond .ge 7, 110, 0, 114, 0), none, none, some (.iconst (-1), 111, (-1), 0, 0), some (.goto 14, 114, 0, 125, 0), none, none, some (.lload_n 3, 115, 0, 3, 0), some (.lconst 0, 116, 0, 0, 0), some (.lcmp, 117, 0, 0, 0), some (.ifCond .le 7, 120, 0, 124, 0), none, none, some (.iconst 1, 121, 1, 0, 0), some (.goto 4, 124, 0, 125, 0), none, none, some (.iconst 0, 125, 0, 0, 0), some (.ireturn, 126, 0, 0, 0)]
def xmX6_compare : xM := (xhX6_compare, xkX6_compare)
def xkX6_swap : List (Option xI) := [some (.aload_n 1, 1, 0, 1, 0), some (.iload_n 2, 2, 0, 2, 0), some (.laload, 3, 0, 0, 0), some (.lstore 4, 5, 0, 4, 0), none, some (.aload_n 1, 6, 0, 1, 0), some (.iload_n 2, 7, 0, 2, 0), some (.aload_n 1, 8, 0, 1, 0), some (.iload_n 3, 9, 0, 3, 0), some (.laload, 10, 0, 0, 0), some (.lastore, 11, 0, 0, 0), some (.aload_n 1, 12, 0, 1, 0), some (.iload_n 3, 13, 0, 3, 0), some (.lload 4, 15, 0, 4, 0), none, some (.lastore, 16, 0, 0, 0), some (.return_, 17, 0, 0, 0)]
def xmX6_swap : xM := (xhX6_swap, xkX6_swap)
def xkX6_addCut : List (Option xI) := [some (.lload 7, 2, 0, 7, 0), none, some (.lconst 0, 3, 0, 0, 0), some (.lcmp, 4, 0, 0, 0), some (.ifCond .ge 9, 7, 0, 13, 0), none, none, some (.ldc2_w 174, 10, (-1), 0, 800), none, none, some (.goto 4, 13, 0, 14, 0), none, none, some (.lconst 1, 14, 1, 0, 0), some (.lstore 9, 16, 0, 9, 0), none, some (.aload_n 0, 17, 0, 0, 0), some (.getfield 43, 20, 6, 24, 608), none, none, some (.istore 11, 22, 0, 11, 0), none, some (.aload_n 0, 23, 0, 0, 0), some (.getfield 47, 26, 6, 25, 609), none, none, some (.iload 11, 28, 0, 11, 0), none, some (.lload 9, 30, 0, 9, 0), none, some (.lload_n 1, 31, 0, 1, 0), some (.lmul, 32, 0, 0, 0), some (.lastore, 33, 0, 0, 0), some (.aload_n 0, 34, 0, 0, 0), some (.getfield 51, 37, 6, 26, 610), none, none, some (.iload 11, 39, 0, 11, 0), none, some (.lload 9, 41, 0, 9, 0), none, some (.lload_n 3, 42, 0, 3, 0), some (.lmul, 43, 0, 0, 0), some (.lastore, 44, 0, 0, 0), some (.aload_n 0, 45, 0, 0, 0), some (.getfield 54, 48, 6, 27, 611), none, none, some (.iload 11, 50, 0, 11, 0), none, some (.lload 9, 52, 0, 9, 0), none, some (.lload 5, 54, 0, 5, 0), none, some (.lmul, 55, 0, 0, 0), some (.lastore, 56, 0, 0, 0), some (.aload_n 0, 57, 0, 0, 0), some (.getfield 57, 60, 6, 28, 612), none, none, some (.iload 11, 62, 0, 11, 0), none, some (.lload 9, 64, 0, 9, 0), none, some (.lload 7, 66, 0, 7, 0), none, some (.lmul, 67, 0, 0, 0), some (.lastore, 68, 0, 0, 0), some (.aload_n 0, 69, 0, 0, 0), some (.dup, 70, 0, 0, 0), some (.getfield 43, 73, 6, 24, 608), none, none, some (.iconst 1, 74, 1, 0, 0), some (.iadd, 75, 0, 0, 0), some (.putfield 43, 78, 6, 24, 608), none, none, some (.iload 11, 80, 0, 11, 0), none, some (.ifCond .le 78, 83, 0, 158, 0), none, none, some (.aload_n 0, 84, 0, 0, 0), some (.iload 11, 86, 0, 11, 0), none, some (.iload 11, 88, 0, 11, 0), none, some (.iconst 1, 89, 1, 0, 0), some (.isub, 90, 0, 0, 0), some (.invokevirtual 184, 93, 3, 114, 822), none, none, some (.ifCond .ge 65, 96, 0, 158, 0), none, none, some (.aload_n 0, 97, 0, 0, 0), some (.aload_n 0, 98, 0, 0, 0), some (.getfield 47, 101, 6, 25, 609), none, none, some (.iload 11, 103, 0, 11, 0), none, some (.iload 11, 105, 0, 11, 0), none, some (.iconst 1, 106, 1, 0, 0), some (.isub, 107, 0, 0, 0), some (.invokevirtual 187, 110, 4, 115, 826), none, none, some (.aload_n 0, 111, 0, 0, 0), some (.aload_n 0, 112, 0, 0, 0), some (.getfield 51, 115, 6, 26, 610), none, none, some (.iload 11, 117, 0, 11, 0), none, some (.iload 11, 119, 0, 11, 0), none, some (.iconst 1, 120, 1, 0, 0), some (.isub, 121, 0, 0, 0), some (.invokevirtual 187, 124, 4, 115, 826), none, none, some (.aload_n 0, 125, 0, 0, 0), some (.aload_n 0, 126, 0, 0, 0), some (.getfield 54, 129, 6, 27, 611), none, none, some (.iload 11, 131, 0, 11, 0), none, some (.iload 11, 133, 0, 11, 0), none, some (.iconst 1, 134, 1, 0, 0), some (.isub, 135, 0, 0, 0), some (.invokevirtual 187, 138, 4, 115, 826), none, none, some (.aload_n 0, 139, 0, 0, 0), some (.aload_n 0, 140, 0, 0, 0), some (.getfield 57, 143, 6, 28, 612), none, none, some (.iload 11, 145, 0, 11, 0), none, some (.iload 11, 147, 0, 11, 0), none, some (.iconst 1, 148, 1, 0, 0), some (.isub, 149, 0, 0, 0), some (.invokevirtual 187, 152, 4, 115, 826), none, none, some (.iinc 11 (-1), 155, 0, 11, 0), none, none, some (.goto (-77), 158, 0, 78, 0), none, none, some (.return_, 159, 0, 0, 0)]
def xmX6_addCut : xM := (xhX6_addCut, xkX6_addCut)
def xkX6_cut : List (Option xI) := [some (.aload_n 0, 1, 0, 0, 0), some (.invokevirtual 142, 4, 1, 96, 708), none, none, some (.ifCond .eq 6, 7, 0, 10, 0), none, none, some (.bipush (-3), 9, (-3), 0, 0), none, some (.ireturn, 10, 0, 0, 0), some (.iload_n 1, 11, 0, 1, 0), some (.iload_n 2, 12, 0, 2, 0), some (.iload_n 3, 13, 0, 3, 0), some (.invokestatic 191, 16, 3, 112, 811), none, none, some (.ifCond .eq 17, 19, 0, 33, 0), none, none, some (.iload 4, 21, 0, 4, 0), none, some (.sipush (-2000), 24, (-2000), 0, 0), none, none, some (.sipush 2000, 27, 2000, 0, 0), none, none, some (.invokestatic 78, 30, 3, 84, 697), none, none, some (.ifCond .ne 6, 33, 0, 36, 0), none, none, some (.bipush (-2), 35, (-2), 0, 0), none, some (.ireturn, 36, 0, 0, 0), some (.aload_n 0, 37, 0, 0, 0), some (.iconst 0, 38, 0, 0, 0), some (.putfield 43, 41, 6, 24, 608), none, none, some (.iconst 0, 42, 0, 0, 0), some (.istore 5, 44, 0, 5, 0), none, some (.iload 5, 46, 0, 5, 0), none, some (.aload_n 0, 47, 0, 0, 0), some (.getfield 82, 50, 6, 0, 584), none, none, some (.if_icmp .ge 213, 53, 0, 263, 0), none, none, some (.aload_n 0, 54, 0, 0, 0), some (.iload 5, 56, 0, 5, 0), none, some (.iload_n 1, 57, 0, 1, 0), some (.iload_n 2, 58, 0, 2, 0), some (.iload_n 3, 59, 0, 3, 0), some (.iload 4, 61, 0, 4, 0), none, some (.invokevirtual 194, 64, 6, 113, 814), none, none, some (.lstore 6, 66, 0, 6, 0), none, some (.aload_n 0, 67, 0, 0, 0), some (.iload 5, 69, 0, 5, 0), none, some (.invokevirtual 146, 72, 2, 98, 759), none, none, some (.ifCond .eq 39, 75, 0, 111, 0), none, none, some (.lload 6, 77, 0, 6, 0), none, some (.lconst 0, 78, 0, 0, 0), some (.lcmp, 79, 0, 0, 0), some (.ifCond .ne 32, 82, 0, 111, 0), none, none, some (.aload_n 0, 83, 0, 0, 0), some (.aload_n 0, 84, 0, 0, 0), some (.getfield 7, 87, 6, 1, 585), none, none, some (.iload 5, 89, 0, 5, 0), none, some (.iaload, 90, 0, 0, 0), some (.i2l, 91, 0, 0, 0), some (.aload_n 0, 92, 0, 0, 0), some (.getfield 13, 95, 6, 2, 586), none, none, some (.iload 5, 97, 0, 5, 0), none, some (.iaload, 98, 0, 0, 0), some (.i2l, 99, 0, 0, 0), some (.aload_n 0, 100, 0, 0, 0), some (.getfield 16, 103, 6, 3, 587), none, none, some (.iload 5, 105, 0, 5, 0), none, some (.iaload, 106, 0, 0, 0), some (.i2l, 107, 0, 0, 0), some (.lconst 1, 108, 1, 0, 0), some (.invokevirtual 198, 111, 5, 116, 818), none, none, some (.iconst 0, 112, 0, 0, 0), some (.istore 8, 114, 0, 8, 0), none, some (.iload 8, 116, 0, 8, 0), none, some (.iload 5, 118, 0, 5, 0), none, some (.if_icmp .ge 139, 121, 0, 257, 0), none, none, some (.aload_n 0, 122, 0, 0, 0), some (.iload 8, 124, 0, 8, 0), none, some (.iload_n 1, 125, 0, 1, 0), some (.iload_n 2, 126, 0, 2, 0), some (.iload_n 3, 127, 0, 3, 0), some (.iload 4, 129, 0, 4, 0), none, some (.invokevirtual 194, 132, 6, 113, 814), none, none, some (.lstore 9, 134, 0, 9, 0), none, some (.aload_n 0, 135, 0, 0, 0), some (.iload 5, 137, 0, 5, 0), none, some (.iload 8, 139, 0, 8, 0), none, some (.invokevirtual 150, 142, 3, 99, 755), none, none, some (.ifCond .eq 109, 145, 0, 251, 0), none, none, some (.lload 6, 147, 0, 6, 0), none, some (.lconst 0, 148, 0, 0, 0), some (.lcmp, 149, 0, 0, 0), some (.ifCond .ge 10, 152, 0, 159, 0), none, none, some (.lload 9, 154, 0, 9, 0), none, some (.lconst 0, 155, 0, 0, 0), some (.lcmp, 156, 0, 0, 0), some (.ifCond .gt 17, 159, 0, 173, 0), none, none, some (.lload 6, 161, 0, 6, 0), none, some (.lconst 0, 162, 0, 0, 0), some (.lcmp, 163, 0, 0, 0), some (.ifCond .le 88, 166, 0, 251, 0), none, none, some (.lload 9, 168, 0, 9, 0), none, some (.lconst 0, 169, 0, 0, 0), some (.lcmp, 170, 0, 0, 0), some (.ifCond .ge 81, 173, 0, 251, 0), none, none, some (.aload_n 0, 174, 0, 0, 0), some (.aload_n 0, 175, 0, 0, 0), some (.getfield 7, 178, 6, 1, 585), none, none, some (.iload 8, 180, 0, 8, 0), none, some (.iaload, 181, 0, 0, 0), some (.i2l, 182, 0, 0, 0), some (.lload 6, 184, 0, 6, 0), none, some (.lmul, 185, 0, 0, 0), some (.aload_n 0, 186, 0, 0, 0), some (.getfield 7, 189, 6, 1, 585), none, none, some (.iload 5, 191, 0, 5, 0), none, some (.iaload, 192, 0, 0, 0), some (.i2l, 193, 0, 0, 0), some (.lload 9, 195, 0, 9, 0), none, some (.lmul, 196, 0, 0, 0), some (.lsub, 197, 0, 0, 0), some (.aload_n 0, 198, 0, 0, 0), some (.getfield 13, 201, 6, 2, 586), none, none, some (.iload 8, 203, 0, 8, 0), none, some (.iaload, 204, 0, 0, 0), some (.i2l, 205, 0, 0, 0), some (.lload 6, 207, 0, 6, 0), none, some (.lmul, 208, 0, 0, 0), some (.aload_n 0, 209, 0, 0, 0), some (.getfield 13, 212, 6, 2, 586), none, none, some (.iload 5, 214, 0, 5, 0), none, some (.iaload, 215, 0, 0, 0), some (.i2l, 216, 0, 0, 0), some (.lload 9, 218, 0, 9, 0), none, some (.lmul, 219, 0, 0, 0), some (.lsub, 220, 0, 0, 0), some (.aload_n 0, 221, 0, 0, 0), some (.getfield 16, 224, 6, 3, 587), none, none, some (.iload 8, 226, 0, 8, 0), none, some (.iaload, 227, 0, 0, 0), some (.i2l, 228, 0, 0, 0), some (.lload 6, 230, 0, 6, 0), none, some (.lmul, 231, 0, 0, 0), some (.aload_n 0, 232, 0, 0, 0), some (.getfield 16, 235, 6, 3, 587), none, none, some (.iload 5, 237, 0, 5, 0), none, some (.iaload, 238, 0, 0, 0), some (.i2l, 239, 0, 0, 0), some (.lload 9, 241, 0, 9, 0), none, some (.lmul, 242, 0, 0, 0), some (.lsub, 243, 0, 0, 0), some (.lload 6, 245, 0, 6, 0), none, some (.lload 9, 247, 0, 9, 0), none, some (.lsub, 248, 0, 0, 0), some (.invokevirtual 198, 251, 5, 116, 818), none, none, some (.iinc 8 1, 254, 0, 8, 0), none, none, some (.goto (-140), 257, 0, 114, 0), none, none, some (.iinc 5 1, 260, 0, 5, 0), none, none, some (.goto (-216), 263, 0, 44, 0), none, none, some (.aload_n 0, 264, 0, 0, 0), some (.getfield 43, 267, 6, 24, 608), none, none, some (.ireturn, 268, 0, 0, 0)]
def xmX6_cut : xM := (xhX6_cut, xkX6_cut)
def xkX6_cutAt : List (Option xI) := [some (.iload_n 1, 1, 0, 1, 0), some (.iconst 0, 2, 0, 0, 0), some (.aload_n 0, 3, 0, 0, 0), some (.getfield 43, 6, 6, 24, 608), none, none, some (.iconst 1, 7, 1, 0, 0), some (.isub, 8, 0, 0, 0), some (.invokestatic 78, 11, 3, 84, 697), none, none, some (.ifCond .eq 21, 14, 0, 32, 0), none, none, some (.iload_n 2, 15, 0, 2, 0), some (.iconst 0, 16, 0, 0, 0), some (.iconst 2, 17, 2, 0, 0), some (.invokestatic 78, 20, 3, 84, 697), none, none, some (.ifCond .eq 12, 23, 0, 32, 0), none, none, some (.iload_n 3, 24, 0, 3, 0), some (.iconst 0, 25, 0, 0, 0), some (.iconst 1, 26, 1, 0, 0), some (.invokestatic 78, 29, 3, 84, 697), none, none, some (.ifCond .ne 7, 32, 0, 36, 0), none, none, some (.ldc2_w 153, 35, (-1000000000000), 0, 779), none, none, some (.lreturn, 36, 0, 0, 0), some (.iload_n 2, 37, 0, 2, 0), some (.ifCond .ne 12, 40, 0, 49, 0), none, none, some (.aload_n 0, 41, 0, 0, 0), some (.getfield 47, 44, 6, 25, 609), none, none, some (.iload_n 1, 45, 0, 1, 0), some (.laload, 46, 0, 0, 0), some (.goto 23, 49, 0, 69, 0), none, none, some (.iload_n 2, 50, 0, 2, 0), some (.iconst 1, 51, 1, 0, 0), some (.if_icmp .ne 12, 54, 0, 63, 0), none, none, some (.aload_n 0, 55, 0, 0, 0), some (.getfield 51, 58, 6, 26, 610), none, none, some (.iload_n 1, 59, 0, 1, 0), some (.laload, 60, 0, 0, 0), some (.goto 9, 63, 0, 69, 0), none, none, some (.aload_n 0, 64, 0, 0, 0), some (.getfield 54, 67, 6, 27, 611), none, none, some (.iload_n 1, 68, 0, 1, 0), some (.laload, 69, 0, 0, 0), some (.aload_n 0, 70, 0, 0, 0), some (.getfield 57, 73, 6, 28, 612), none, none, some (.iload_n 1, 74, 0, 1, 0), some (.laload, 75, 0, 0, 0), some (.iload_n 3, 76, 0, 3, 0), some (.invokestatic 178, 79, 3, 109, 797), none, none, some (.lreturn, 80, 0, 0, 0)]
def xmX6_cutAt : xM := (xhX6_cutAt, xkX6_cutAt)
def xkX6_side : List (Option xI) := [some (.aload_n 0, 1, 0, 0, 0), some (.getfield 60, 4, 6, 29, 613), none, none, some (.iload_n 2, 5, 0, 2, 0), some (.laload, 6, 0, 0, 0), some (.aload_n 0, 7, 0, 0, 0), some (.getfield 60, 10, 6, 29, 613), none, none, some (.iload_n 1, 11, 0, 1, 0), some (.laload, 12, 0, 0, 0), some (.lsub, 13, 0, 0, 0), some (.aload_n 0, 14, 0, 0, 0), some (.getfield 63, 17, 6, 30, 614), none, none, some (.iload_n 3, 18, 0, 3, 0), some (.laload, 19, 0, 0, 0), some (.aload_n 0, 20, 0, 0, 0), some (.getfield 63, 23, 6, 30, 614), none, none, some (.iload_n 1, 24, 0, 1, 0), some (.laload, 25, 0, 0, 0), some (.lsub, 26, 0, 0, 0), some (.lmul, 27, 0, 0, 0), some (.aload_n 0, 28, 0, 0, 0), some (.getfield 63, 31, 6, 30, 614), none, none, some (.iload_n 2, 32, 0, 2, 0), some (.laload, 33, 0, 0, 0), some (.aload_n 0, 34, 0, 0, 0), some (.getfield 63, 37, 6, 30, 614), none, none, some (.iload_n 1, 38, 0, 1, 0), some (.laload, 39, 0, 0, 0), some (.lsub, 40, 0, 0, 0), some (.aload_n 0, 41, 0, 0, 0), some (.getfield 60, 44, 6, 29, 613), none, none, some (.iload_n 3, 45, 0, 3, 0), some (.laload, 46, 0, 0, 0), some (.aload_n 0, 47, 0, 0, 0), some (.getfield 60, 50, 6, 29, 613), none, none, some (.iload_n 1, 51, 0, 1, 0), some (.laload, 52, 0, 0, 0), some (.lsub, 53, 0, 0, 0), some (.lmul, 54, 0, 0, 0), some (.lsub, 55, 0, 0, 0), some (.lreturn, 56, 0, 0, 0)]
def xmX6_side : xM := (xhX6_side, xkX6_side)
def xkX6_isSame : List (Option xI) := [some (.aload_n 0, 1, 0, 0, 0), some (.getfield 60, 4, 6, 29, 613), none, none, some (.iload_n 1, 5, 0, 1, 0), some (.laload, 6, 0, 0, 0), some (.aload_n 0, 7, 0, 0, 0), some (.getfield 60, 10, 6, 29, 613), none, none, some (.iload_n 2, 11, 0, 2, 0), some (.laload, 12, 0, 0, 0), some (.lcmp, 13, 0, 0, 0), some (.ifCond .ne 23, 16, 0, 36, 0), none, none, some (.aload_n 0, 17, 0, 0, 0), some (.getfield 63, 20, 6, 30, 614), none, none, some (.iload_n 1, 21, 0, 1, 0), some (.laload, 22, 0, 0, 0), some (.aload_n 0, 23, 0, 0, 0), some (.getfield 63, 26, 6, 30, 614), none, none, some (.iload_n 2, 27, 0, 2, 0), some (.laload, 28, 0, 0, 0), some (.lcmp, 29, 0, 0, 0), some (.ifCond .ne 7, 32, 0, 36, 0), none, none, some (.iconst 1, 33, 1, 0, 0), some (.goto 4, 36, 0, 37, 0), none, none, some (.iconst 0, 37, 0, 0, 0), some (.ireturn, 38, 0, 0, 0)]
def xmX6_isSame : xM := (xhX6_isSame, xkX6_isSame)
def xkX6_isBetween : List (Option xI) := [some (.aload_n 0, 1, 0, 0, 0), some (.getfield 60, 4, 6, 29, 613), none, none, some (.iload_n 2, 5, 0, 2, 0), some (.laload, 6, 0, 0, 0), some (.aload_n 0, 7, 0, 0, 0), some (.getfield 60, 10, 6, 29, 613), none, none, some (.iload_n 1, 11, 0, 1, 0), some (.laload, 12, 0, 0, 0), some (.lsub, 13, 0, 0, 0), some (.aload_n 0, 14, 0, 0, 0), some (.getfield 60, 17, 6, 29, 613), none, none, some (.iload_n 3, 18, 0, 3, 0), some (.laload, 19, 0, 0, 0), some (.aload_n 0, 20, 0, 0, 0), some (.getfield 60, 23, 6, 29, 613), none, none, some (.iload_n 1, 24, 0, 1, 0), some (.laload, 25, 0, 0, 0), some (.lsub, 26, 0, 0, 0), some (.lmul, 27, 0, 0, 0), some (.aload_n 0, 28, 0, 0, 0), some (.getfield 63, 31, 6, 30, 614), none, none, some (.iload_n 2, 32, 0, 2, 0), some (.laload, 33, 0, 0, 0), some (.aload_n 0, 34, 0, 0, 0), some (.getfield 63, 37, 6, 30, 614), none, none, some (.iload_n 1, 38, 0, 1, 0), some (.laload, 39, 0, 0, 0), some (.lsub, 40, 0, 0, 0), some (.aload_n 0, 41, 0, 0, 0), some (.getfield 63, 44, 6, 30, 614), none, none, some (.iload_n 3, 45, 0, 3, 0), some (.laload, 46, 0, 0, 0), some (.aload_n 0, 47, 0, 0, 0), some (.getfield 63, 50, 6, 30, 614), none, none, some (.iload_n 1, 51, 0, 1, 0), some (.laload, 52, 0, 0, 0), some (.lsub, 53, 0, 0, 0), some (.lmul, 54, 0, 0, 0), some (.ladd, 55, 0, 0, 0), some (.lstore 4, 57, 0, 4, 0), none, some (.aload_n 0, 58, 0, 0, 0), some (.iload_n 1, 59, 0, 1, 0), some (.iload_n 2, 60, 0, 2, 0), some (.iload_n 3, 61, 0, 3, 0), some (.invokevirtual 202, 64, 4, 119, 850), none, none, some (.lconst 0, 65, 0, 0, 0), some (.lcmp, 66, 0, 0, 0), some (.ifCond .ne 14, 69, 0, 80, 0), none, none, some (.lload 4, 71, 0, 4, 0), none, some (.lconst 0, 72, 0, 0, 0), some (.lcmp, 73, 0, 0, 0), some (.ifCond .ge 7, 76, 0, 80, 0), none, none, some (.iconst 1, 77, 1, 0, 0), some (.goto 4, 80, 0, 81, 0), none, none, some (.iconst 0, 81, 0, 0, 0), some (.ireturn, 82, 0, 0, 0)]
def xmX6_isBetween : xM := (xhX6_isBetween, xkX6_isBetween)
def xkX6_isInTriangle : List (Option xI) := [some (.aload_n 0, 1, 0, 0, 0), some (.iload_n 2, 2, 0, 2, 0), some (.iload_n 3, 3, 0, 3, 0), some (.iload_n 1, 4, 0, 1, 0), some (.invokevirtual 202, 7, 4, 119, 850), none, none, some (.lstore 5, 9, 0, 5, 0), none, some (.aload_n 0, 10, 0, 0, 0), some (.iload_n 3, 11, 0, 3, 0), some (.iload 4, 13, 0, 4, 0), none, some (.iload_n 1, 14, 0, 1, 0), some (.invokevirtual 202, 17, 4, 119, 850), none, none, some (.lstore 7, 19, 0, 7, 0), none, some (.aload_n 0, 20, 0, 0, 0), some (.iload 4, 22, 0, 4, 0), none, some (.iload_n 2, 23, 0, 2, 0), some (.iload_n 1, 24, 0, 1, 0), some (.invokevirtual 202, 27, 4, 119, 850), none, none, some (.lstore 9, 29, 0, 9, 0), none, some (.aload_n 0, 30, 0, 0, 0), some (.iload_n 2, 31, 0, 2, 0), some (.iload_n 3, 32, 0, 3, 0), some (.iload 4, 34, 0, 4, 0), none, some (.invokevirtual 202, 37, 4, 119, 850), none, none, some (.lconst 0, 38, 0, 0, 0), some (.lcmp, 39, 0, 0, 0), some (.ifCond .eq 49, 42, 0, 88, 0), none, none, some (.lload 5, 44, 0, 5, 0), none, some (.lconst 0, 45, 0, 0, 0), some (.lcmp, 46, 0, 0, 0), some (.ifCond .lt 17, 49, 0, 63, 0), none, none, some (.lload 7, 51, 0, 7, 0), none, some (.lconst 0, 52, 0, 0, 0), some (.lcmp, 53, 0, 0, 0), some (.ifCond .lt 10, 56, 0, 63, 0), none, none, some (.lload 9, 58, 0, 9, 0), none, some (.lconst 0, 59, 0, 0, 0), some (.lcmp, 60, 0, 0, 0), some (.ifCond .ge 24, 63, 0, 84, 0), none, none, some (.lload 5, 65, 0, 5, 0), none, some (.lconst 0, 66, 0, 0, 0), some (.lcmp, 67, 0, 0, 0), some (.ifCond .gt 21, 70, 0, 88, 0), none, none, some (.lload 7, 72, 0, 7, 0), none, some (.lconst 0, 73, 0, 0, 0), some (.lcmp, 74, 0, 0, 0), some (.ifCond .gt 14, 77, 0, 88, 0), none, none, some (.lload 9, 79, 0, 9, 0), none, some (.lconst 0, 80, 0, 0, 0), some (.lcmp, 81, 0, 0, 0), some (.ifCond .gt 7, 84, 0, 88, 0), none, none, some (.iconst 1, 85, 1, 0, 0), some (.goto 4, 88, 0, 89, 0), none, none, some (.iconst 0, 89, 0, 0, 0), some (.ireturn, 90, 0, 0, 0)]
def xmX6_isInTriangle : xM := (xhX6_isInTriangle, xkX6_isInTriangle)
def xkX6_stands : List (Option xI) := [some (.iconst 0, 1, 0, 0, 0), some (.istore_n 2, 2, 0, 2, 0), some (.iload_n 2, 3, 0, 2, 0), some (.aload_n 0, 4, 0, 0, 0), some (.getfield 82, 7, 6, 0, 584), none, none, some (.if_icmp .ge 145, 10, 0, 152, 0), none, none, some (.aload_n 0, 11, 0, 0, 0), some (.iload_n 2, 12, 0, 2, 0), some (.invokevirtual 146, 15, 2, 98, 759), none, none, some (.ifCond .eq 131, 18, 0, 146, 0), none, none, some (.iload_n 2, 19, 0, 2, 0), some (.iload_n 1, 20, 0, 1, 0), some (.if_icmp .ne 6, 23, 0, 26, 0), none, none, some (.goto 123, 26, 0, 146, 0), none, none, some (.aload_n 0, 27, 0, 0, 0), some (.iload_n 1, 28, 0, 1, 0), some (.iload_n 2, 29, 0, 2, 0), some (.invokevirtual 206, 32, 3, 120, 842), none, none, some (.ifCond .eq 10, 35, 0, 42, 0), none, none, some (.iload_n 2, 36, 0, 2, 0), some (.iload_n 1, 37, 0, 1, 0), some (.if_icmp .ge 109, 40, 0, 146, 0), none, none, some (.iconst 0, 41, 0, 0, 0), some (.ireturn, 42, 0, 0, 0), some (.iconst 0, 43, 0, 0, 0), some (.istore_n 3, 44, 0, 3, 0), some (.iload_n 3, 45, 0, 3, 0), some (.iload_n 2, 46, 0, 2, 0), some (.if_icmp .ge 100, 49, 0, 146, 0), none, none, some (.aload_n 0, 50, 0, 0, 0), some (.iload_n 3, 51, 0, 3, 0), some (.invokevirtual 146, 54, 2, 98, 759), none, none, some (.ifCond .eq 86, 57, 0, 140, 0), none, none, some (.iload_n 3, 58, 0, 3, 0), some (.iload_n 1, 59, 0, 1, 0), some (.if_icmp .eq 81, 62, 0, 140, 0), none, none, some (.aload_n 0, 63, 0, 0, 0), some (.iload_n 1, 64, 0, 1, 0), some (.iload_n 3, 65, 0, 3, 0), some (.invokevirtual 206, 68, 3, 120, 842), none, none, some (.ifCond .eq 6, 71, 0, 74, 0), none, none, some (.goto 69, 74, 0, 140, 0), none, none, some (.aload_n 0, 75, 0, 0, 0), some (.iload_n 1, 76, 0, 1, 0), some (.iload_n 2, 77, 0, 2, 0), some (.iload_n 3, 78, 0, 3, 0), some (.invokevirtual 209, 81, 4, 121, 846), none, none, some (.ifCond .eq 5, 84, 0, 86, 0), none, none, some (.iconst 0, 85, 0, 0, 0), some (.ireturn, 86, 0, 0, 0), some (.iconst 0, 87, 0, 0, 0), some (.istore 4, 89, 0, 4, 0), none, some (.iload 4, 91, 0, 4, 0), none, some (.iload_n 3, 92, 0, 3, 0), some (.if_icmp .ge 48, 95, 0, 140, 0), none, none, some (.aload_n 0, 96, 0, 0, 0), some (.iload 4, 98, 0, 4, 0), none, some (.invokevirtual 146, 101, 2, 98, 759), none, none, some (.ifCond .eq 33, 104, 0, 134, 0), none, none, some (.iload 4, 106, 0, 4, 0), none, some (.iload_n 1, 107, 0, 1, 0), some (.if_icmp .eq 27, 110, 0, 134, 0), none, none, some (.aload_n 0, 111, 0, 0, 0), some (.iload_n 1, 112, 0, 1, 0), some (.iload 4, 114, 0, 4, 0), none, some (.invokevirtual 206, 117, 3, 120, 842), none, none, some (.ifCond .ne 17, 120, 0, 134, 0), none, none, some (.aload_n 0, 121, 0, 0, 0), some (.iload_n 1, 122, 0, 1, 0), some (.iload_n 2, 123, 0, 2, 0), some (.iload_n 3, 124, 0, 3, 0), some (.iload 4, 126, 0, 4, 0), none, some (.invokevirtual 212, 129, 5, 122, 854), none, none, some (.ifCond .eq 5, 132, 0, 134, 0), none, none, some (.iconst 0, 133, 0, 0, 0), some (.ireturn, 134, 0, 0, 0), some (.iinc 4 1, 137, 0, 4, 0), none, none, some (.goto (-48), 140, 0, 89, 0), none, none, some (.iinc 3 1, 143, 0, 3, 0), none, none, some (.goto (-99), 146, 0, 44, 0), none, none, some (.iinc 2 1, 149, 0, 2, 0), none, none, some (.goto (-147), 152, 0, 2, 0), none, none, some (.iconst 1, 153, 1, 0, 0), some (.ireturn, 154, 0, 0, 0)]
def xmX6_stands : xM := (xhX6_stands, xkX6_stands)
def xkX6_shadow : List (Option xI) := [some (.aload_n 0, 1, 0, 0, 0), some (.invokevirtual 142, 4, 1, 96, 708), none, none, some (.ifCond .eq 6, 7, 0, 10, 0), none, none, some (.bipush (-3), 9, (-3), 0, 0), none, some (.ireturn, 10, 0, 0, 0), some (.iload_n 1, 11, 0, 1, 0), some (.iload_n 2, 12, 0, 2, 0), some (.iload_n 3, 13, 0, 3, 0), some (.invokestatic 191, 16, 3, 112, 811), none, none, some (.ifCond .ne 6, 19, 0, 22, 0), none, none, some (.bipush (-2), 21, (-2), 0, 0), none, some (.ireturn, 22, 0, 0, 0), some (.iconst 0, 23, 0, 0, 0), some (.istore 4, 25, 0, 4, 0), none, some (.iload 4, 27, 0, 4, 0), none, some (.aload_n 0, 28, 0, 0, 0), some (.getfield 82, 31, 6, 0, 584), none, none, some (.if_icmp .ge 141, 34, 0, 172, 0), none, none, some (.aload_n 0, 35, 0, 0, 0), some (.getfield 60, 38, 6, 29, 613), none, none, some (.iload 4, 40, 0, 4, 0), none, some (.iload_n 1, 41, 0, 1, 0), some (.ifCond .eq 26, 44, 0, 67, 0), none, none, some (.iload_n 1, 45, 0, 1, 0), some (.aload_n 0, 46, 0, 0, 0), some (.getfield 13, 49, 6, 2, 586), none, none, some (.iload 4, 51, 0, 4, 0), none, some (.iaload, 52, 0, 0, 0), some (.imul, 53, 0, 0, 0), some (.iload_n 2, 54, 0, 2, 0), some (.aload_n 0, 55, 0, 0, 0), some (.getfield 7, 58, 6, 1, 585), none, none, some (.iload 4, 60, 0, 4, 0), none, some (.iaload, 61, 0, 0, 0), some (.imul, 62, 0, 0, 0), some (.isub, 63, 0, 0, 0), some (.i2l, 64, 0, 0, 0), some (.goto 30, 67, 0, 94, 0), none, none, some (.iload_n 2, 68, 0, 2, 0), some (.ifCond .eq 16, 71, 0, 84, 0), none, none, some (.iload_n 2, 72, 0, 2, 0), some (.aload_n 0, 73, 0, 0, 0), some (.getfield 7, 76, 6, 1, 585), none, none, some (.iload 4, 78, 0, 4, 0), none, some (.iaload, 79, 0, 0, 0), some (.imul, 80, 0, 0, 0), some (.i2l, 81, 0, 0, 0), some (.goto 13, 84, 0, 94, 0), none, none, some (.iload_n 3, 85, 0, 3, 0), some (.aload_n 0, 86, 0, 0, 0), some (.getfield 7, 89, 6, 1, 585), none, none, some (.iload 4, 91, 0, 4, 0), none, some (.iaload, 92, 0, 0, 0), some (.imul, 93, 0, 0, 0), some (.i2l, 94, 0, 0, 0), some (.lastore, 95, 0, 0, 0), some (.aload_n 0, 96, 0, 0, 0), some (.getfield 63, 99, 6, 30, 614), none, none, some (.iload 4, 101, 0, 4, 0), none, some (.iload_n 1, 102, 0, 1, 0), some (.ifCond .eq 26, 105, 0, 128, 0), none, none, some (.iload_n 1, 106, 0, 1, 0), some (.aload_n 0, 107, 0, 0, 0), some (.getfield 16, 110, 6, 3, 587), none, none, some (.iload 4, 112, 0, 4, 0), none, some (.iaload, 113, 0, 0, 0), some (.imul, 114, 0, 0, 0), some (.iload_n 3, 115, 0, 3, 0), some (.aload_n 0, 116, 0, 0, 0), some (.getfield 7, 119, 6, 1, 585), none, none, some (.iload 4, 121, 0, 4, 0), none, some (.iaload, 122, 0, 0, 0), some (.imul, 123, 0, 0, 0), some (.isub, 124, 0, 0, 0), some (.i2l, 125, 0, 0, 0), some (.goto 40, 128, 0, 165, 0), none, none, some (.iload_n 2, 129, 0, 2, 0), some (.ifCond .eq 26, 132, 0, 155, 0), none, none, some (.iload_n 2, 133, 0, 2, 0), some (.aload_n 0, 134, 0, 0, 0), some (.getfield 16, 137, 6, 3, 587), none, none, some (.iload 4, 139, 0, 4, 0), none, some (.iaload, 140, 0, 0, 0), some (.imul, 141, 0, 0, 0), some (.iload_n 3, 142, 0, 3, 0), some (.aload_n 0, 143, 0, 0, 0), some (.getfield 13, 146, 6, 2, 586), none, none, some (.iload 4, 148, 0, 4, 0), none, some (.iaload, 149, 0, 0, 0), some (.imul, 150, 0, 0, 0), some (.isub, 151, 0, 0, 0), some (.i2l, 152, 0, 0, 0), some (.goto 13, 155, 0, 165, 0), none, none, some (.iload_n 3, 156, 0, 3, 0), some (.aload_n 0, 157, 0, 0, 0), some (.getfield 13, 160, 6, 2, 586), none, none, some (.iload 4, 162, 0, 4, 0), none, some (.iaload, 163, 0, 0, 0), some (.imul, 164, 0, 0, 0), some (.i2l, 165, 0, 0, 0), some (.lastore, 166, 0, 0, 0), some (.iinc 4 1, 169, 0, 4, 0), none, none, some (.goto (-144), 172, 0, 25, 0), none, none, some (.iconst 0, 173, 0, 0, 0), some (.istore 4, 175, 0, 4, 0), none, some (.iconst 0, 176, 0, 0, 0), some (.istore 5, 178, 0, 5, 0), none, some (.iload 5, 180, 0, 5, 0), none, some (.aload_n 0, 181, 0, 0, 0), some (.getfield 82, 184, 6, 0, 584), none, none, some (.if_icmp .ge 37, 187, 0, 221, 0), none, none, some (.iload 4, 189, 0, 4, 0), none, some (.aload_n 0, 190, 0, 0, 0), some (.iload 5, 192, 0, 5, 0), none, some (.invokevirtual 146, 195, 2, 98, 759), none, none, some (.ifCond .eq 16, 198, 0, 211, 0), none, none, some (.aload_n 0, 199, 0, 0, 0), some (.iload 5, 201, 0, 5, 0), none, some (.invokevirtual 216, 204, 2, 123, 838), none, none, some (.ifCond .eq 7, 207, 0, 211, 0), none, none, some (.iconst 1, 208, 1, 0, 0), some (.goto 4, 211, 0, 212, 0), none, none, some (.iconst 0, 212, 0, 0, 0), some (.iadd, 213, 0, 0, 0), some (.istore 4, 215, 0, 4, 0), none, some (.iinc 5 1, 218, 0, 5, 0), none, none, some (.goto (-40), 221, 0, 178, 0), none, none, some (.iload 4, 223, 0, 4, 0), none, some (.ireturn, 224, 0, 0, 0)]
def xmX6_shadow : xM := (xhX6_shadow, xkX6_shadow)
def xkX6_far : List (Option xI) := [some (.aload_n 0, 1, 0, 0, 0), some (.invokevirtual 142, 4, 1, 96, 708), none, none, some (.ifCond .ne 22, 7, 0, 26, 0), none, none, some (.iload_n 1, 8, 0, 1, 0), some (.iload_n 2, 9, 0, 2, 0), some (.iload_n 3, 10, 0, 3, 0), some (.invokestatic 191, 13, 3, 112, 811), none, none, some (.ifCond .eq 13, 16, 0, 26, 0), none, none, some (.iload 4, 18, 0, 4, 0), none, some (.iconst 0, 19, 0, 0, 0), some (.iconst 1, 20, 1, 0, 0), some (.invokestatic 78, 23, 3, 84, 697), none, none, some (.ifCond .ne 7, 26, 0, 30, 0), none, none, some (.ldc2_w 153, 29, (-1000000000000), 0, 779), none, none, some (.lreturn, 30, 0, 0, 0), some (.ldc2_w 153, 33, (-1000000000000), 0, 779), none, none, some (.lstore 5, 35, 0, 5, 0), none, some (.iconst 0, 36, 0, 0, 0), some (.istore 7, 38, 0, 7, 0), none, some (.iconst 0, 39, 0, 0, 0), some (.istore 8, 41, 0, 8, 0), none, some (.iload 8, 43, 0, 8, 0), none, some (.aload_n 0, 44, 0, 0, 0), some (.getfield 82, 47, 6, 0, 584), none, none, some (.if_icmp .ge 84, 50, 0, 131, 0), none, none, some (.aload_n 0, 51, 0, 0, 0), some (.iload 8, 53, 0, 8, 0), none, some (.invokevirtual 146, 56, 2, 98, 759), none, none, some (.ifCond .eq 69, 59, 0, 125, 0), none, none, some (.aload_n 0, 60, 0, 0, 0), some (.iload 8, 62, 0, 8, 0), none, some (.iload_n 1, 63, 0, 1, 0), some (.iload_n 2, 64, 0, 2, 0), some (.iload_n 3, 65, 0, 3, 0), some (.iconst 0, 66, 0, 0, 0), some (.invokevirtual 194, 69, 6, 113, 814), none, none, some (.lstore 9, 71, 0, 9, 0), none, some (.lload 9, 73, 0, 9, 0), none, some (.lload 5, 75, 0, 5, 0), none, some (.lcmp, 76, 0, 0, 0), some (.ifCond .le 10, 79, 0, 86, 0), none, none, some (.iconst 1, 80, 1, 0, 0), some (.iload 8, 82, 0, 8, 0), none, some (.ishl, 83, 0, 0, 0), some (.goto 23, 86, 0, 106, 0), none, none, some (.lload 9, 88, 0, 9, 0), none, some (.lload 5, 90, 0, 5, 0), none, some (.lcmp, 91, 0, 0, 0), some (.ifCond .ne 13, 94, 0, 104, 0), none, none, some (.iload 7, 96, 0, 7, 0), none, some (.iconst 1, 97, 1, 0, 0), some (.iload 8, 99, 0, 8, 0), none, some (.ishl, 100, 0, 0, 0), some (.ior, 101, 0, 0, 0), some (.goto 5, 104, 0, 106, 0), none, none, some (.iload 7, 106, 0, 7, 0), none, some (.istore 7, 108, 0, 7, 0), none, some (.lload 9, 110, 0, 9, 0), none, some (.lload 5, 112, 0, 5, 0), none, some (.lcmp, 113, 0, 0, 0), some (.ifCond .le 8, 116, 0, 121, 0), none, none, some (.lload 9, 118, 0, 9, 0), none, some (.goto 5, 121, 0, 123, 0), none, none, some (.lload 5, 123, 0, 5, 0), none, some (.lstore 5, 125, 0, 5, 0), none, some (.iinc 8 1, 128, 0, 8, 0), none, none, some (.goto (-87), 131, 0, 41, 0), none, none, some (.iload 4, 133, 0, 4, 0), none, some (.ifCond .ne 8, 136, 0, 141, 0), none, none, some (.lload 5, 138, 0, 5, 0), none, some (.goto 6, 141, 0, 144, 0), none, none, some (.iload 7, 143, 0, 7, 0), none, some (.i2l, 144, 0, 0, 0), some (.lreturn, 145, 0, 0, 0)]
def xmX6_far : xM := (xhX6_far, xkX6_far)
def xkX6_way : List (Option xI) := [some (.aload_n 0, 1, 0, 0, 0), some (.invokevirtual 142, 4, 1, 96, 708), none, none, some (.ifCond .eq 6, 7, 0, 10, 0), none, none, some (.bipush (-3), 9, (-3), 0, 0), none, some (.ireturn, 10, 0, 0, 0), some (.aload_n 0, 11, 0, 0, 0), some (.iload_n 1, 12, 0, 1, 0), some (.invokevirtual 146, 15, 2, 98, 759), none, none, some (.ifCond .eq 11, 18, 0, 26, 0), none, none, some (.aload_n 0, 19, 0, 0, 0), some (.iload_n 2, 20, 0, 2, 0), some (.invokevirtual 146, 23, 2, 98, 759), none, none, some (.ifCond .ne 5, 26, 0, 28, 0), none, none, some (.iconst (-1), 27, (-1), 0, 0), some (.ireturn, 28, 0, 0, 0), some (.iconst 1, 29, 1, 0, 0), some (.iload_n 1, 30, 0, 1, 0), some (.ishl, 31, 0, 0, 0), some (.istore_n 3, 32, 0, 3, 0), some (.iconst 0, 33, 0, 0, 0), some (.istore 4, 35, 0, 4, 0), none, some (.iload_n 3, 36, 0, 3, 0), some (.iload_n 2, 37, 0, 2, 0), some (.ishr, 38, 0, 0, 0), some (.iconst 1, 39, 1, 0, 0), some (.iand, 40, 0, 0, 0), some (.ifCond .ne 85, 43, 0, 125, 0), none, none, some (.iload_n 3, 44, 0, 3, 0), some (.istore 5, 46, 0, 5, 0), none, some (.iconst 0, 47, 0, 0, 0), some (.istore 6, 49, 0, 6, 0), none, some (.iload 6, 51, 0, 6, 0), none, some (.aload_n 0, 52, 0, 0, 0), some (.getfield 82, 55, 6, 0, 584), none, none, some (.if_icmp .ge 61, 58, 0, 116, 0), none, none, some (.iconst 0, 59, 0, 0, 0), some (.istore 7, 61, 0, 7, 0), none, some (.iload 7, 63, 0, 7, 0), none, some (.aload_n 0, 64, 0, 0, 0), some (.getfield 82, 67, 6, 0, 584), none, none, some (.if_icmp .ge 43, 70, 0, 110, 0), none, none, some (.iload 5, 72, 0, 5, 0), none, some (.iload_n 3, 73, 0, 3, 0), some (.iload 6, 75, 0, 6, 0), none, some (.ishr, 76, 0, 0, 0), some (.iconst 1, 77, 1, 0, 0), some (.iand, 78, 0, 0, 0), some (.iconst 1, 79, 1, 0, 0), some (.if_icmp .ne 21, 82, 0, 100, 0), none, none, some (.aload_n 0, 83, 0, 0, 0), some (.iload 6, 85, 0, 6, 0), none, some (.iload 7, 87, 0, 7, 0), none, some (.invokevirtual 150, 90, 3, 99, 755), none, none, some (.ifCond .eq 10, 93, 0, 100, 0), none, none, some (.iconst 1, 94, 1, 0, 0), some (.iload 7, 96, 0, 7, 0), none, some (.ishl, 97, 0, 0, 0), some (.goto 4, 100, 0, 101, 0), none, none, some (.iconst 0, 101, 0, 0, 0), some (.ior, 102, 0, 0, 0), some (.istore 5, 104, 0, 5, 0), none, some (.iinc 7 1, 107, 0, 7, 0), none, none, some (.goto (-46), 110, 0, 61, 0), none, none, some (.iinc 6 1, 113, 0, 6, 0), none, none, some (.goto (-64), 116, 0, 49, 0), none, none, some (.iload 5, 118, 0, 5, 0), none, some (.istore_n 3, 119, 0, 3, 0), some (.iinc 4 1, 122, 0, 4, 0), none, none, some (.goto (-87), 125, 0, 35, 0), none, none, some (.iload 4, 127, 0, 4, 0), none, some (.ireturn, 128, 0, 0, 0)]
def xmX6_way : xM := (xhX6_way, xkX6_way)
def xkX6_apart : List (Option xI) := [some (.aload_n 0, 1, 0, 0, 0), some (.getfield 7, 4, 6, 1, 585), none, none, some (.iload_n 1, 5, 0, 1, 0), some (.iaload, 6, 0, 0, 0), some (.aload_n 0, 7, 0, 0, 0), some (.getfield 7, 10, 6, 1, 585), none, none, some (.iload_n 2, 11, 0, 2, 0), some (.iaload, 12, 0, 0, 0), some (.isub, 13, 0, 0, 0), some (.istore_n 3, 14, 0, 3, 0), some (.aload_n 0, 15, 0, 0, 0), some (.getfield 13, 18, 6, 2, 586), none, none, some (.iload_n 1, 19, 0, 1, 0), some (.iaload, 20, 0, 0, 0), some (.aload_n 0, 21, 0, 0, 0), some (.getfield 13, 24, 6, 2, 586), none, none, some (.iload_n 2, 25, 0, 2, 0), some (.iaload, 26, 0, 0, 0), some (.isub, 27, 0, 0, 0), some (.istore 4, 29, 0, 4, 0), none, some (.aload_n 0, 30, 0, 0, 0), some (.getfield 16, 33, 6, 3, 587), none, none, some (.iload_n 1, 34, 0, 1, 0), some (.iaload, 35, 0, 0, 0), some (.aload_n 0, 36, 0, 0, 0), some (.getfield 16, 39, 6, 3, 587), none, none, some (.iload_n 2, 40, 0, 2, 0), some (.iaload, 41, 0, 0, 0), some (.isub, 42, 0, 0, 0), some (.istore 5, 44, 0, 5, 0), none, some (.iload_n 3, 45, 0, 3, 0), some (.iload_n 3, 46, 0, 3, 0), some (.imul, 47, 0, 0, 0), some (.iload 4, 49, 0, 4, 0), none, some (.iload 4, 51, 0, 4, 0), none, some (.imul, 52, 0, 0, 0), some (.iadd, 53, 0, 0, 0), some (.iload 5, 55, 0, 5, 0), none, some (.iload 5, 57, 0, 5, 0), none, some (.imul, 58, 0, 0, 0), some (.iadd, 59, 0, 0, 0), some (.ireturn, 60, 0, 0, 0)]
def xmX6_apart : xM := (xhX6_apart, xkX6_apart)
def xkX6_sense : List (Option xI) := [some (.aload_n 0, 1, 0, 0, 0), some (.iload_n 1, 2, 0, 1, 0), some (.iload_n 2, 3, 0, 2, 0), some (.iload_n 3, 4, 0, 3, 0), some (.invokevirtual 98, 7, 4, 87, 720), none, none, some (.aload_n 0, 8, 0, 0, 0), some (.iload 4, 10, 0, 4, 0), none, some (.invokevirtual 102, 13, 2, 88, 724), none, none, some (.aload_n 0, 14, 0, 0, 0), some (.iload_n 1, 15, 0, 1, 0), some (.invokevirtual 102, 18, 2, 88, 724), none, none, some (.isub, 19, 0, 0, 0), some (.ireturn, 20, 0, 0, 0)]
def xmX6_sense : xM := (xhX6_sense, xkX6_sense)
def xkX6_findBase : List (Option xI) := [some (.iconst 0, 1, 0, 0, 0), some (.istore_n 1, 2, 0, 1, 0), some (.iload_n 1, 3, 0, 1, 0), some (.aload_n 0, 4, 0, 0, 0), some (.getfield 82, 7, 6, 0, 584), none, none, some (.if_icmp .ge 125, 10, 0, 132, 0), none, none, some (.iconst 0, 11, 0, 0, 0), some (.istore_n 2, 12, 0, 2, 0), some (.iload_n 2, 13, 0, 2, 0), some (.iload_n 1, 14, 0, 1, 0), some (.if_icmp .ge 112, 17, 0, 126, 0), none, none, some (.iconst 0, 18, 0, 0, 0), some (.istore_n 3, 19, 0, 3, 0), some (.iload_n 3, 20, 0, 3, 0), some (.iload_n 2, 21, 0, 2, 0), some (.if_icmp .ge 99, 24, 0, 120, 0), none, none, some (.iconst 0, 25, 0, 0, 0), some (.istore 4, 27, 0, 4, 0), none, some (.iload 4, 29, 0, 4, 0), none, some (.iload_n 3, 30, 0, 3, 0), some (.if_icmp .ge 84, 33, 0, 114, 0), none, none, some (.aload_n 0, 34, 0, 0, 0), some (.iload_n 1, 35, 0, 1, 0), some (.invokevirtual 146, 38, 2, 98, 759), none, none, some (.ifCond .eq 70, 41, 0, 108, 0), none, none, some (.aload_n 0, 42, 0, 0, 0), some (.iload_n 2, 43, 0, 2, 0), some (.invokevirtual 146, 46, 2, 98, 759), none, none, some (.ifCond .eq 62, 49, 0, 108, 0), none, none, some (.aload_n 0, 50, 0, 0, 0), some (.iload_n 3, 51, 0, 3, 0), some (.invokevirtual 146, 54, 2, 98, 759), none, none, some (.ifCond .eq 54, 57, 0, 108, 0), none, none, some (.aload_n 0, 58, 0, 0, 0), some (.iload 4, 60, 0, 4, 0), none, some (.invokevirtual 146, 63, 2, 98, 759), none, none, some (.ifCond .eq 45, 66, 0, 108, 0), none, none, some (.aload_n 0, 67, 0, 0, 0), some (.iload_n 1, 68, 0, 1, 0), some (.iload_n 2, 69, 0, 2, 0), some (.iload_n 3, 70, 0, 3, 0), some (.iload 4, 72, 0, 4, 0), none, some (.invokevirtual 219, 75, 5, 128, 878), none, none, some (.ifCond .eq 33, 78, 0, 108, 0), none, none, some (.aload_n 0, 79, 0, 0, 0), some (.getfield 72, 82, 6, 34, 618), none, none, some (.iconst 0, 83, 0, 0, 0), some (.iload_n 1, 84, 0, 1, 0), some (.iastore, 85, 0, 0, 0), some (.aload_n 0, 86, 0, 0, 0), some (.getfield 72, 89, 6, 34, 618), none, none, some (.iconst 1, 90, 1, 0, 0), some (.iload_n 2, 91, 0, 2, 0), some (.iastore, 92, 0, 0, 0), some (.aload_n 0, 93, 0, 0, 0), some (.getfield 72, 96, 6, 34, 618), none, none, some (.iconst 2, 97, 2, 0, 0), some (.iload_n 3, 98, 0, 3, 0), some (.iastore, 99, 0, 0, 0), some (.aload_n 0, 100, 0, 0, 0), some (.getfield 72, 103, 6, 34, 618), none, none, some (.iconst 3, 104, 3, 0, 0), some (.iload 4, 106, 0, 4, 0), none, some (.iastore, 107, 0, 0, 0), some (.return_, 108, 0, 0, 0), some (.iinc 4 1, 111, 0, 4, 0), none, none, some (.goto (-84), 114, 0, 27, 0), none, none, some (.iinc 3 1, 117, 0, 3, 0), none, none, some (.goto (-98), 120, 0, 19, 0), none, none, some (.iinc 2 1, 123, 0, 2, 0), none, none, some (.goto (-111), 126, 0, 12, 0), none, none, some (.iinc 1 1, 129, 0, 1, 0), none, none, some (.goto (-127), 132, 0, 2, 0), none, none, some (.return_, 133, 0, 0, 0)]
def xmX6_findBase : xM := (xhX6_findBase, xkX6_findBase)
def xkX6_fits : List (Option xI) := [some (.iconst 0, 1, 0, 0, 0), some (.istore_n 2, 2, 0, 2, 0), some (.iload_n 2, 3, 0, 2, 0), some (.iload_n 1, 4, 0, 1, 0), some (.iconst 1, 5, 1, 0, 0), some (.isub, 6, 0, 0, 0), some (.if_icmp .ge 50, 9, 0, 56, 0), none, none, some (.aload_n 0, 10, 0, 0, 0), some (.aload_n 0, 11, 0, 0, 0), some (.getfield 72, 14, 6, 34, 618), none, none, some (.iload_n 2, 15, 0, 2, 0), some (.iaload, 16, 0, 0, 0), some (.aload_n 0, 17, 0, 0, 0), some (.getfield 72, 20, 6, 34, 618), none, none, some (.iload_n 1, 21, 0, 1, 0), some (.iconst 1, 22, 1, 0, 0), some (.isub, 23, 0, 0, 0), some (.iaload, 24, 0, 0, 0), some (.invokevirtual 223, 27, 3, 127, 890), none, none, some (.aload_n 0, 28, 0, 0, 0), some (.aload_n 0, 29, 0, 0, 0), some (.getfield 75, 32, 6, 35, 619), none, none, some (.iload_n 2, 33, 0, 2, 0), some (.iaload, 34, 0, 0, 0), some (.aload_n 0, 35, 0, 0, 0), some (.getfield 75, 38, 6, 35, 619), none, none, some (.iload_n 1, 39, 0, 1, 0), some (.iconst 1, 40, 1, 0, 0), some (.isub, 41, 0, 0, 0), some (.iaload, 42, 0, 0, 0), some (.invokevirtual 223, 45, 3, 127, 890), none, none, some (.if_icmp .eq 5, 48, 0, 50, 0), none, none, some (.iconst 0, 49, 0, 0, 0), some (.ireturn, 50, 0, 0, 0), some (.iinc 2 1, 53, 0, 2, 0), none, none, some (.goto (-51), 56, 0, 2, 0), none, none, some (.iconst 1, 57, 1, 0, 0), some (.ireturn, 58, 0, 0, 0)]
def xmX6_fits : xM := (xhX6_fits, xkX6_fits)
def xkX6_imageOf : List (Option xI) := [some (.iconst 0, 1, 0, 0, 0), some (.istore_n 2, 2, 0, 2, 0), some (.iload_n 2, 3, 0, 2, 0), some (.aload_n 0, 4, 0, 0, 0), some (.getfield 82, 7, 6, 0, 584), none, none, some (.if_icmp .ge 73, 10, 0, 80, 0), none, none, some (.aload_n 0, 11, 0, 0, 0), some (.iload_n 2, 12, 0, 2, 0), some (.invokevirtual 146, 15, 2, 98, 759), none, none, some (.istore_n 3, 16, 0, 3, 0), some (.iconst 0, 17, 0, 0, 0), some (.istore 4, 19, 0, 4, 0), none, some (.iload 4, 21, 0, 4, 0), none, some (.iconst 4, 22, 4, 0, 0), some (.if_icmp .ge 46, 25, 0, 68, 0), none, none, some (.iload_n 3, 26, 0, 3, 0), some (.ifCond .eq 42, 29, 0, 68, 0), none, none, some (.aload_n 0, 30, 0, 0, 0), some (.iload_n 1, 31, 0, 1, 0), some (.aload_n 0, 32, 0, 0, 0), some (.getfield 72, 35, 6, 34, 618), none, none, some (.iload 4, 37, 0, 4, 0), none, some (.iaload, 38, 0, 0, 0), some (.invokevirtual 223, 41, 3, 127, 890), none, none, some (.aload_n 0, 42, 0, 0, 0), some (.iload_n 2, 43, 0, 2, 0), some (.aload_n 0, 44, 0, 0, 0), some (.getfield 75, 47, 6, 35, 619), none, none, some (.iload 4, 49, 0, 4, 0), none, some (.iaload, 50, 0, 0, 0), some (.invokevirtual 223, 53, 3, 127, 890), none, none, some (.if_icmp .ne 7, 56, 0, 60, 0), none, none, some (.iconst 1, 57, 1, 0, 0), some (.goto 4, 60, 0, 61, 0), none, none, some (.iconst 0, 61, 0, 0, 0), some (.istore_n 3, 62, 0, 3, 0), some (.iinc 4 1, 65, 0, 4, 0), none, none, some (.goto (-46), 68, 0, 19, 0), none, none, some (.iload_n 3, 69, 0, 3, 0), some (.ifCond .eq 5, 72, 0, 74, 0), none, none, some (.iload_n 2, 73, 0, 2, 0), some (.ireturn, 74, 0, 0, 0), some (.iinc 2 1, 77, 0, 2, 0), none, none, some (.goto (-75), 80, 0, 2, 0), none, none, some (.iconst (-1), 81, (-1), 0, 0), some (.ireturn, 82, 0, 0, 0)]
def xmX6_imageOf : xM := (xhX6_imageOf, xkX6_imageOf)
def xkX6_addTurn : List (Option xI) := [some (.iconst 0, 1, 0, 0, 0), some (.istore_n 1, 2, 0, 1, 0), some (.iconst 0, 3, 0, 0, 0), some (.istore_n 2, 4, 0, 2, 0), some (.iload_n 2, 5, 0, 2, 0), some (.aload_n 0, 6, 0, 0, 0), some (.getfield 82, 9, 6, 0, 584), none, none, some (.if_icmp .ge 56, 12, 0, 65, 0), none, none, some (.aload_n 0, 13, 0, 0, 0), some (.iload_n 2, 14, 0, 2, 0), some (.invokevirtual 146, 17, 2, 98, 759), none, none, some (.ifCond .eq 11, 20, 0, 28, 0), none, none, some (.aload_n 0, 21, 0, 0, 0), some (.iload_n 2, 22, 0, 2, 0), some (.invokevirtual 226, 25, 2, 131, 898), none, none, some (.goto 4, 28, 0, 29, 0), none, none, some (.iconst (-1), 29, (-1), 0, 0), some (.istore_n 3, 30, 0, 3, 0), some (.aload_n 0, 31, 0, 0, 0), some (.getfield 66, 34, 6, 32, 616), none, none, some (.bipush 14, 36, 14, 0, 0), none, some (.aload_n 0, 37, 0, 0, 0), some (.getfield 229, 40, 6, 31, 615), none, none, some (.imul, 41, 0, 0, 0), some (.iload_n 2, 42, 0, 2, 0), some (.iadd, 43, 0, 0, 0), some (.iload_n 3, 44, 0, 3, 0), some (.iastore, 45, 0, 0, 0), some (.iload_n 1, 46, 0, 1, 0), some (.iload_n 3, 47, 0, 3, 0), some (.ifCond .ge 7, 50, 0, 54, 0), none, none, some (.iconst 0, 51, 0, 0, 0), some (.goto 6, 54, 0, 57, 0), none, none, some (.iconst 1, 55, 1, 0, 0), some (.iload_n 3, 56, 0, 3, 0), some (.ishl, 57, 0, 0, 0), some (.ior, 58, 0, 0, 0), some (.istore_n 1, 59, 0, 1, 0), some (.iinc 2 1, 62, 0, 2, 0), none, none, some (.goto (-58), 65, 0, 4, 0), none, none, some (.aload_n 0, 66, 0, 0, 0), some (.dup, 67, 0, 0, 0), some (.getfield 229, 70, 6, 31, 615), none, none, some (.iload_n 1, 71, 0, 1, 0), some (.aload_n 0, 72, 0, 0, 0), some (.getfield 116, 75, 6, 7, 591), none, none, some (.if_icmp .ne 7, 78, 0, 82, 0), none, none, some (.iconst 1, 79, 1, 0, 0), some (.goto 4, 82, 0, 83, 0), none, none, some (.iconst 0, 83, 0, 0, 0), some (.iadd, 84, 0, 0, 0), some (.putfield 229, 87, 6, 31, 615), none, none, some (.return_, 88, 0, 0, 0)]
def xmX6_addTurn : xM := (xhX6_addTurn, xkX6_addTurn)
def xkX6_tryGoals : List (Option xI) := [some (.iconst 0, 1, 0, 0, 0), some (.istore_n 1, 2, 0, 1, 0), some (.aload_n 0, 3, 0, 0, 0), some (.getfield 75, 6, 6, 35, 619), none, none, some (.iconst 0, 7, 0, 0, 0), some (.iconst (-1), 8, (-1), 0, 0), some (.iastore, 9, 0, 0, 0), some (.iload_n 1, 10, 0, 1, 0), some (.ifCond .lt 80, 13, 0, 90, 0), none, none, some (.aload_n 0, 14, 0, 0, 0), some (.getfield 75, 17, 6, 35, 619), none, none, some (.iload_n 1, 18, 0, 1, 0), some (.dup2, 19, 0, 0, 0), some (.iaload, 20, 0, 0, 0), some (.iconst 1, 21, 1, 0, 0), some (.iadd, 22, 0, 0, 0), some (.iastore, 23, 0, 0, 0), some (.aload_n 0, 24, 0, 0, 0), some (.getfield 75, 27, 6, 35, 619), none, none, some (.iload_n 1, 28, 0, 1, 0), some (.iaload, 29, 0, 0, 0), some (.aload_n 0, 30, 0, 0, 0), some (.getfield 82, 33, 6, 0, 584), none, none, some (.if_icmp .ne 9, 36, 0, 42, 0), none, none, some (.iinc 1 (-1), 39, 0, 1, 0), none, none, some (.goto (-30), 42, 0, 9, 0), none, none, some (.aload_n 0, 43, 0, 0, 0), some (.aload_n 0, 44, 0, 0, 0), some (.getfield 75, 47, 6, 35, 619), none, none, some (.iload_n 1, 48, 0, 1, 0), some (.iaload, 49, 0, 0, 0), some (.invokevirtual 146, 52, 2, 98, 759), none, none, some (.ifCond .eq (-43), 55, 0, 9, 0), none, none, some (.aload_n 0, 56, 0, 0, 0), some (.iload_n 1, 57, 0, 1, 0), some (.iconst 1, 58, 1, 0, 0), some (.iadd, 59, 0, 0, 0), some (.invokevirtual 232, 62, 2, 130, 886), none, none, some (.ifCond .eq (-53), 65, 0, 9, 0), none, none, some (.iload_n 1, 66, 0, 1, 0), some (.iconst 3, 67, 3, 0, 0), some (.if_icmp .ne 10, 70, 0, 77, 0), none, none, some (.aload_n 0, 71, 0, 0, 0), some (.invokevirtual 235, 74, 1, 132, 894), none, none, some (.goto (-65), 77, 0, 9, 0), none, none, some (.iinc 1 1, 80, 0, 1, 0), none, none, some (.aload_n 0, 81, 0, 0, 0), some (.getfield 75, 84, 6, 35, 619), none, none, some (.iload_n 1, 85, 0, 1, 0), some (.iconst (-1), 86, (-1), 0, 0), some (.iastore, 87, 0, 0, 0), some (.goto (-78), 90, 0, 9, 0), none, none, some (.return_, 91, 0, 0, 0)]
def xmX6_tryGoals : xM := (xhX6_tryGoals, xkX6_tryGoals)
def xkX6_isEarlier : List (Option xI) := [some (.iconst 0, 1, 0, 0, 0), some (.istore_n 3, 2, 0, 3, 0), some (.iload_n 3, 3, 0, 3, 0), some (.aload_n 0, 4, 0, 0, 0), some (.getfield 82, 7, 6, 0, 584), none, none, some (.if_icmp .ge 65, 10, 0, 72, 0), none, none, some (.aload_n 0, 11, 0, 0, 0), some (.getfield 66, 14, 6, 32, 616), none, none, some (.bipush 14, 16, 14, 0, 0), none, some (.iload_n 1, 17, 0, 1, 0), some (.imul, 18, 0, 0, 0), some (.iload_n 3, 19, 0, 3, 0), some (.iadd, 20, 0, 0, 0), some (.iaload, 21, 0, 0, 0), some (.aload_n 0, 22, 0, 0, 0), some (.getfield 66, 25, 6, 32, 616), none, none, some (.bipush 14, 27, 14, 0, 0), none, some (.iload_n 2, 28, 0, 2, 0), some (.imul, 29, 0, 0, 0), some (.iload_n 3, 30, 0, 3, 0), some (.iadd, 31, 0, 0, 0), some (.iaload, 32, 0, 0, 0), some (.if_icmp .eq 34, 35, 0, 66, 0), none, none, some (.aload_n 0, 36, 0, 0, 0), some (.getfield 66, 39, 6, 32, 616), none, none, some (.bipush 14, 41, 14, 0, 0), none, some (.iload_n 1, 42, 0, 1, 0), some (.imul, 43, 0, 0, 0), some (.iload_n 3, 44, 0, 3, 0), some (.iadd, 45, 0, 0, 0), some (.iaload, 46, 0, 0, 0), some (.aload_n 0, 47, 0, 0, 0), some (.getfield 66, 50, 6, 32, 616), none, none, some (.bipush 14, 52, 14, 0, 0), none, some (.iload_n 2, 53, 0, 2, 0), some (.imul, 54, 0, 0, 0), some (.iload_n 3, 55, 0, 3, 0), some (.iadd, 56, 0, 0, 0), some (.iaload, 57, 0, 0, 0), some (.if_icmp .ge 7, 60, 0, 64, 0), none, none, some (.iconst 1, 61, 1, 0, 0), some (.goto 4, 64, 0, 65, 0), none, none, some (.iconst 0, 65, 0, 0, 0), some (.ireturn, 66, 0, 0, 0), some (.iinc 3 1, 69, 0, 3, 0), none, none, some (.goto (-67), 72, 0, 2, 0), none, none, some (.iconst 0, 73, 0, 0, 0), some (.ireturn, 74, 0, 0, 0)]
def xmX6_isEarlier : xM := (xhX6_isEarlier, xkX6_isEarlier)
def xkX6_buildTurns : List (Option xI) := [some (.aload_n 0, 1, 0, 0, 0), some (.getfield 122, 4, 6, 5, 589), none, none, some (.ifCond .eq 4, 7, 0, 8, 0), none, none, some (.return_, 8, 0, 0, 0), some (.aload_n 0, 9, 0, 0, 0), some (.iconst 1, 10, 1, 0, 0), some (.putfield 122, 13, 6, 5, 589), none, none, some (.aload_n 0, 14, 0, 0, 0), some (.iconst 0, 15, 0, 0, 0), some (.putfield 229, 18, 6, 31, 615), none, none, some (.aload_n 0, 19, 0, 0, 0), some (.invokevirtual 238, 22, 1, 129, 874), none, none, some (.aload_n 0, 23, 0, 0, 0), some (.invokevirtual 241, 26, 1, 133, 882), none, none, some (.iconst 0, 27, 0, 0, 0), some (.istore_n 1, 28, 0, 1, 0), some (.iload_n 1, 29, 0, 1, 0), some (.aload_n 0, 30, 0, 0, 0), some (.getfield 229, 33, 6, 31, 615), none, none, some (.if_icmp .ge 51, 36, 0, 84, 0), none, none, some (.iconst 0, 37, 0, 0, 0), some (.istore_n 2, 38, 0, 2, 0), some (.iconst 0, 39, 0, 0, 0), some (.istore_n 3, 40, 0, 3, 0), some (.iload_n 3, 41, 0, 3, 0), some (.aload_n 0, 42, 0, 0, 0), some (.getfield 229, 45, 6, 31, 615), none, none, some (.if_icmp .ge 26, 48, 0, 71, 0), none, none, some (.iload_n 2, 49, 0, 2, 0), some (.aload_n 0, 50, 0, 0, 0), some (.iload_n 3, 51, 0, 3, 0), some (.iload_n 1, 52, 0, 1, 0), some (.invokevirtual 244, 55, 3, 134, 902), none, none, some (.ifCond .eq 7, 58, 0, 62, 0), none, none, some (.iconst 1, 59, 1, 0, 0), some (.goto 4, 62, 0, 63, 0), none, none, some (.iconst 0, 63, 0, 0, 0), some (.iadd, 64, 0, 0, 0), some (.istore_n 2, 65, 0, 2, 0), some (.iinc 3 1, 68, 0, 3, 0), none, none, some (.goto (-28), 71, 0, 40, 0), none, none, some (.aload_n 0, 72, 0, 0, 0), some (.getfield 69, 75, 6, 33, 617), none, none, some (.iload_n 2, 76, 0, 2, 0), some (.iload_n 1, 77, 0, 1, 0), some (.iastore, 78, 0, 0, 0), some (.iinc 1 1, 81, 0, 1, 0), none, none, some (.goto (-53), 84, 0, 28, 0), none, none, some (.return_, 85, 0, 0, 0)]
def xmX6_buildTurns : xM := (xhX6_buildTurns, xkX6_buildTurns)
def xkX6_symmetries : List (Option xI) := [some (.aload_n 0, 1, 0, 0, 0), some (.invokevirtual 142, 4, 1, 96, 708), none, none, some (.ifCond .eq 6, 7, 0, 10, 0), none, none, some (.bipush (-3), 9, (-3), 0, 0), none, some (.ireturn, 10, 0, 0, 0), some (.aload_n 0, 11, 0, 0, 0), some (.invokevirtual 247, 14, 1, 135, 870), none, none, some (.aload_n 0, 15, 0, 0, 0), some (.getfield 229, 18, 6, 31, 615), none, none, some (.ireturn, 19, 0, 0, 0)]
def xmX6_symmetries : xM := (xhX6_symmetries, xkX6_symmetries)
def xkX6_noTurn : List (Option xI) := [some (.aload_n 0, 1, 0, 0, 0), some (.invokevirtual 247, 4, 1, 135, 870), none, none, some (.iload_n 1, 5, 0, 1, 0), some (.iconst 0, 6, 0, 0, 0), some (.aload_n 0, 7, 0, 0, 0), some (.getfield 229, 10, 6, 31, 615), none, none, some (.iconst 1, 11, 1, 0, 0), some (.isub, 12, 0, 0, 0), some (.invokestatic 78, 15, 3, 84, 697), none, none, some (.ifCond .ne 7, 18, 0, 22, 0), none, none, some (.iconst 1, 19, 1, 0, 0), some (.goto 4, 22, 0, 23, 0), none, none, some (.iconst 0, 23, 0, 0, 0), some (.ireturn, 24, 0, 0, 0)]
def xmX6_noTurn : xM := (xhX6_noTurn, xkX6_noTurn)
def xkX6_symmetry : List (Option xI) := [some (.aload_n 0, 1, 0, 0, 0), some (.invokevirtual 142, 4, 1, 96, 708), none, none, some (.ifCond .eq 6, 7, 0, 10, 0), none, none, some (.bipush (-3), 9, (-3), 0, 0), none, some (.ireturn, 10, 0, 0, 0), some (.aload_n 0, 11, 0, 0, 0), some (.iload_n 1, 12, 0, 1, 0), some (.invokevirtual 250, 15, 2, 137, 910), none, none, some (.ifCond .ne 11, 18, 0, 26, 0), none, none, some (.aload_n 0, 19, 0, 0, 0), some (.iload_n 2, 20, 0, 2, 0), some (.invokevirtual 146, 23, 2, 98, 759), none, none, some (.ifCond .ne 7, 26, 0, 30, 0), none, none, some (.iconst (-1), 27, (-1), 0, 0), some (.goto 19, 30, 0, 46, 0), none, none, some (.aload_n 0, 31, 0, 0, 0), some (.getfield 66, 34, 6, 32, 616), none, none, some (.bipush 14, 36, 14, 0, 0), none, some (.aload_n 0, 37, 0, 0, 0), some (.getfield 69, 40, 6, 33, 617), none, none, some (.iload_n 1, 41, 0, 1, 0), some (.iaload, 42, 0, 0, 0), some (.imul, 43, 0, 0, 0), some (.iload_n 2, 44, 0, 2, 0), some (.iadd, 45, 0, 0, 0), some (.iaload, 46, 0, 0, 0), some (.ireturn, 47, 0, 0, 0)]
def xmX6_symmetry : xM := (xhX6_symmetry, xkX6_symmetry)
def xkX6_turn : List (Option xI) := [some (.aload_n 0, 1, 0, 0, 0), some (.invokevirtual 142, 4, 1, 96, 708), none, none, some (.ifCond .eq 6, 7, 0, 10, 0), none, none, some (.bipush (-3), 9, (-3), 0, 0), none, some (.ireturn, 10, 0, 0, 0), some (.aload_n 0, 11, 0, 0, 0), some (.iload_n 1, 12, 0, 1, 0), some (.invokevirtual 250, 15, 2, 137, 910), none, none, some (.ifCond .eq 5, 18, 0, 20, 0), none, none, some (.iconst (-1), 19, (-1), 0, 0), some (.ireturn, 20, 0, 0, 0), some (.bipush 14, 22, 14, 0, 0), none, some (.aload_n 0, 23, 0, 0, 0), some (.getfield 69, 26, 6, 33, 617), none, none, some (.iload_n 1, 27, 0, 1, 0), some (.iaload, 28, 0, 0, 0), some (.imul, 29, 0, 0, 0), some (.istore_n 2, 30, 0, 2, 0), some (.aload_n 0, 31, 0, 0, 0), some (.aload_n 0, 32, 0, 0, 0), some (.getfield 72, 35, 6, 34, 618), none, none, some (.iconst 0, 36, 0, 0, 0), some (.iaload, 37, 0, 0, 0), some (.aload_n 0, 38, 0, 0, 0), some (.getfield 72, 41, 6, 34, 618), none, none, some (.iconst 1, 42, 1, 0, 0), some (.iaload, 43, 0, 0, 0), some (.aload_n 0, 44, 0, 0, 0), some (.getfield 72, 47, 6, 34, 618), none, none, some (.iconst 2, 48, 2, 0, 0), some (.iaload, 49, 0, 0, 0), some (.aload_n 0, 50, 0, 0, 0), some (.getfield 72, 53, 6, 34, 618), none, none, some (.iconst 3, 54, 3, 0, 0), some (.iaload, 55, 0, 0, 0), some (.invokevirtual 219, 58, 5, 128, 878), none, none, some (.istore_n 3, 59, 0, 3, 0), some (.aload_n 0, 60, 0, 0, 0), some (.aload_n 0, 61, 0, 0, 0), some (.getfield 66, 64, 6, 32, 616), none, none, some (.iload_n 2, 65, 0, 2, 0), some (.aload_n 0, 66, 0, 0, 0), some (.getfield 72, 69, 6, 34, 618), none, none, some (.iconst 0, 70, 0, 0, 0), some (.iaload, 71, 0, 0, 0), some (.iadd, 72, 0, 0, 0), some (.iaload, 73, 0, 0, 0), some (.aload_n 0, 74, 0, 0, 0), some (.getfield 66, 77, 6, 32, 616), none, none, some (.iload_n 2, 78, 0, 2, 0), some (.aload_n 0, 79, 0, 0, 0), some (.getfield 72, 82, 6, 34, 618), none, none, some (.iconst 1, 83, 1, 0, 0), some (.iaload, 84, 0, 0, 0), some (.iadd, 85, 0, 0, 0), some (.iaload, 86, 0, 0, 0), some (.aload_n 0, 87, 0, 0, 0), some (.getfield 66, 90, 6, 32, 616), none, none, some (.iload_n 2, 91, 0, 2, 0), some (.aload_n 0, 92, 0, 0, 0), some (.getfield 72, 95, 6, 34, 618), none, none, some (.iconst 2, 96, 2, 0, 0), some (.iaload, 97, 0, 0, 0), some (.iadd, 98, 0, 0, 0), some (.iaload, 99, 0, 0, 0), some (.aload_n 0, 100, 0, 0, 0), some (.getfield 66, 103, 6, 32, 616), none, none, some (.iload_n 2, 104, 0, 2, 0), some (.aload_n 0, 105, 0, 0, 0), some (.getfield 72, 108, 6, 34, 618), none, none, some (.iconst 3, 109, 3, 0, 0), some (.iaload, 110, 0, 0, 0), some (.iadd, 111, 0, 0, 0), some (.iaload, 112, 0, 0, 0), some (.invokevirtual 219, 115, 5, 128, 878), none, none, some (.istore 4, 117, 0, 4, 0), none, some (.iload_n 3, 118, 0, 3, 0), some (.iload 4, 120, 0, 4, 0), none, some (.if_icmp .ne 7, 123, 0, 127, 0), none, none, some (.iconst 1, 124, 1, 0, 0), some (.goto 4, 127, 0, 128, 0), none, none, some (.iconst 0, 128, 0, 0, 0), some (.ireturn, 129, 0, 0, 0)]
def xmX6_turn : xM := (xhX6_turn, xkX6_turn)
def xkX6_order : List (Option xI) := [some (.aload_n 0, 1, 0, 0, 0), some (.invokevirtual 142, 4, 1, 96, 708), none, none, some (.ifCond .eq 6, 7, 0, 10, 0), none, none, some (.bipush (-3), 9, (-3), 0, 0), none, some (.ireturn, 10, 0, 0, 0), some (.aload_n 0, 11, 0, 0, 0), some (.iload_n 1, 12, 0, 1, 0), some (.invokevirtual 250, 15, 2, 137, 910), none, none, some (.ifCond .eq 5, 18, 0, 20, 0), none, none, some (.iconst (-1), 19, (-1), 0, 0), some (.ireturn, 20, 0, 0, 0), some (.bipush 14, 22, 14, 0, 0), none, some (.aload_n 0, 23, 0, 0, 0), some (.getfield 69, 26, 6, 33, 617), none, none, some (.iload_n 1, 27, 0, 1, 0), some (.iaload, 28, 0, 0, 0), some (.imul, 29, 0, 0, 0), some (.istore_n 2, 30, 0, 2, 0), some (.iconst 0, 31, 0, 0, 0), some (.istore_n 3, 32, 0, 3, 0), some (.iconst 0, 33, 0, 0, 0), some (.istore 4, 35, 0, 4, 0), none, some (.iload 4, 37, 0, 4, 0), none, some (.ifCond .ne 88, 40, 0, 125, 0), none, none, some (.iinc 3 1, 43, 0, 3, 0), none, none, some (.iconst 1, 44, 1, 0, 0), some (.istore 4, 46, 0, 4, 0), none, some (.iconst 0, 47, 0, 0, 0), some (.istore 5, 49, 0, 5, 0), none, some (.iload 5, 51, 0, 5, 0), none, some (.aload_n 0, 52, 0, 0, 0), some (.getfield 82, 55, 6, 0, 584), none, none, some (.if_icmp .ge 67, 58, 0, 122, 0), none, none, some (.iload 5, 60, 0, 5, 0), none, some (.istore 6, 62, 0, 6, 0), none, some (.iconst 0, 63, 0, 0, 0), some (.istore 7, 65, 0, 7, 0), none, some (.iload 7, 67, 0, 7, 0), none, some (.iload_n 3, 68, 0, 3, 0), some (.if_icmp .ge 29, 71, 0, 97, 0), none, none, some (.aload_n 0, 72, 0, 0, 0), some (.iload 5, 74, 0, 5, 0), none, some (.invokevirtual 146, 77, 2, 98, 759), none, none, some (.ifCond .eq 20, 80, 0, 97, 0), none, none, some (.aload_n 0, 81, 0, 0, 0), some (.getfield 66, 84, 6, 32, 616), none, none, some (.iload_n 2, 85, 0, 2, 0), some (.iload 6, 87, 0, 6, 0), none, some (.iadd, 88, 0, 0, 0), some (.iaload, 89, 0, 0, 0), some (.istore 6, 91, 0, 6, 0), none, some (.iinc 7 1, 94, 0, 7, 0), none, none, some (.goto (-29), 97, 0, 65, 0), none, none, some (.iload 4, 99, 0, 4, 0), none, some (.ifCond .eq 14, 102, 0, 113, 0), none, none, some (.iload 6, 104, 0, 6, 0), none, some (.iload 5, 106, 0, 5, 0), none, some (.if_icmp .ne 7, 109, 0, 113, 0), none, none, some (.iconst 1, 110, 1, 0, 0), some (.goto 4, 113, 0, 114, 0), none, none, some (.iconst 0, 114, 0, 0, 0), some (.istore 4, 116, 0, 4, 0), none, some (.iinc 5 1, 119, 0, 5, 0), none, none, some (.goto (-70), 122, 0, 49, 0), none, none, some (.goto (-87), 125, 0, 35, 0), none, none, some (.iload_n 3, 126, 0, 3, 0), some (.ireturn, 127, 0, 0, 0)]
def xmX6_order : xM := (xhX6_order, xkX6_order)
def xkX6_imageBits : List (Option xI) := [some (.iconst 0, 1, 0, 0, 0), some (.istore_n 3, 2, 0, 3, 0), some (.iconst 0, 3, 0, 0, 0), some (.istore 4, 5, 0, 4, 0), none, some (.iload 4, 7, 0, 4, 0), none, some (.aload_n 0, 8, 0, 0, 0), some (.getfield 82, 11, 6, 0, 584), none, none, some (.if_icmp .ge 40, 14, 0, 51, 0), none, none, some (.iload_n 3, 15, 0, 3, 0), some (.iload_n 2, 16, 0, 2, 0), some (.iload 4, 18, 0, 4, 0), none, some (.ishr, 19, 0, 0, 0), some (.iconst 1, 20, 1, 0, 0), some (.iand, 21, 0, 0, 0), some (.iconst 1, 22, 1, 0, 0), some (.if_icmp .ne 20, 25, 0, 42, 0), none, none, some (.iconst 1, 26, 1, 0, 0), some (.aload_n 0, 27, 0, 0, 0), some (.getfield 66, 30, 6, 32, 616), none, none, some (.bipush 14, 32, 14, 0, 0), none, some (.iload_n 1, 33, 0, 1, 0), some (.imul, 34, 0, 0, 0), some (.iload 4, 36, 0, 4, 0), none, some (.iadd, 37, 0, 0, 0), some (.iaload, 38, 0, 0, 0), some (.ishl, 39, 0, 0, 0), some (.goto 4, 42, 0, 43, 0), none, none, some (.iconst 0, 43, 0, 0, 0), some (.ior, 44, 0, 0, 0), some (.istore_n 3, 45, 0, 3, 0), some (.iinc 4 1, 48, 0, 4, 0), none, none, some (.goto (-43), 51, 0, 5, 0), none, none, some (.iload_n 3, 52, 0, 3, 0), some (.ireturn, 53, 0, 0, 0)]
def xmX6_imageBits : xM := (xhX6_imageBits, xkX6_imageBits)
def xkX6_isTaken : List (Option xI) := [some (.iconst 0, 1, 0, 0, 0), some (.istore 7, 3, 0, 7, 0), none, some (.iload 7, 5, 0, 7, 0), none, some (.aload_n 0, 6, 0, 0, 0), some (.getfield 229, 9, 6, 31, 615), none, none, some (.if_icmp .ge 77, 12, 0, 86, 0), none, none, some (.aload_n 0, 13, 0, 0, 0), some (.getfield 66, 16, 6, 32, 616), none, none, some (.bipush 14, 18, 14, 0, 0), none, some (.iload 7, 20, 0, 7, 0), none, some (.imul, 21, 0, 0, 0), some (.iload_n 2, 22, 0, 2, 0), some (.iadd, 23, 0, 0, 0), some (.iaload, 24, 0, 0, 0), some (.iload 5, 26, 0, 5, 0), none, some (.if_icmp .ne 54, 29, 0, 80, 0), none, none, some (.aload_n 0, 30, 0, 0, 0), some (.getfield 66, 33, 6, 32, 616), none, none, some (.bipush 14, 35, 14, 0, 0), none, some (.iload 7, 37, 0, 7, 0), none, some (.imul, 38, 0, 0, 0), some (.iload_n 3, 39, 0, 3, 0), some (.iadd, 40, 0, 0, 0), some (.iaload, 41, 0, 0, 0), some (.iload 6, 43, 0, 6, 0), none, some (.if_icmp .ne 37, 46, 0, 80, 0), none, none, some (.aload_n 0, 47, 0, 0, 0), some (.iload 7, 49, 0, 7, 0), none, some (.aload_n 0, 50, 0, 0, 0), some (.getfield 19, 53, 6, 9, 593), none, none, some (.iload_n 1, 54, 0, 1, 0), some (.iaload, 55, 0, 0, 0), some (.aload_n 0, 56, 0, 0, 0), some (.getfield 116, 59, 6, 7, 591), none, none, some (.iand, 60, 0, 0, 0), some (.invokevirtual 253, 63, 3, 141, 930), none, none, some (.aload_n 0, 64, 0, 0, 0), some (.getfield 19, 67, 6, 9, 593), none, none, some (.iload 4, 69, 0, 4, 0), none, some (.iaload, 70, 0, 0, 0), some (.aload_n 0, 71, 0, 0, 0), some (.getfield 116, 74, 6, 7, 591), none, none, some (.iand, 75, 0, 0, 0), some (.if_icmp .ne 5, 78, 0, 80, 0), none, none, some (.iconst 1, 79, 1, 0, 0), some (.ireturn, 80, 0, 0, 0), some (.iinc 7 1, 83, 0, 7, 0), none, none, some (.goto (-80), 86, 0, 3, 0), none, none, some (.iconst 0, 87, 0, 0, 0), some (.ireturn, 88, 0, 0, 0)]
def xmX6_isTaken : xM := (xhX6_isTaken, xkX6_isTaken)
def xkX6_regular : List (Option xI) := [some (.aload_n 0, 1, 0, 0, 0), some (.invokevirtual 142, 4, 1, 96, 708), none, none, some (.ifCond .eq 6, 7, 0, 10, 0), none, none, some (.bipush (-3), 9, (-3), 0, 0), none, some (.ireturn, 10, 0, 0, 0), some (.aload_n 0, 11, 0, 0, 0), some (.invokevirtual 247, 14, 1, 135, 870), none, none, some (.aload_n 0, 15, 0, 0, 0), some (.getfield 25, 18, 6, 11, 595), none, none, some (.iconst 0, 19, 0, 0, 0), some (.iaload, 20, 0, 0, 0), some (.istore_n 1, 21, 0, 1, 0), some (.aload_n 0, 22, 0, 0, 0), some (.getfield 25, 25, 6, 11, 595), none, none, some (.iconst 1, 26, 1, 0, 0), some (.iaload, 27, 0, 0, 0), some (.istore_n 2, 28, 0, 2, 0), some (.iconst 0, 29, 0, 0, 0), some (.istore_n 3, 30, 0, 3, 0), some (.iload_n 3, 31, 0, 3, 0), some (.aload_n 0, 32, 0, 0, 0), some (.getfield 109, 35, 6, 8, 592), none, none, some (.if_icmp .ge 98, 38, 0, 133, 0), none, none, some (.iconst 0, 39, 0, 0, 0), some (.istore 4, 41, 0, 4, 0), none, some (.iload 4, 43, 0, 4, 0), none, some (.aload_n 0, 44, 0, 0, 0), some (.getfield 22, 47, 6, 10, 594), none, none, some (.iload_n 3, 48, 0, 3, 0), some (.iaload, 49, 0, 0, 0), some (.if_icmp .ge 78, 52, 0, 127, 0), none, none, some (.aload_n 0, 53, 0, 0, 0), some (.getfield 25, 56, 6, 11, 595), none, none, some (.bipush 14, 58, 14, 0, 0), none, some (.iload_n 3, 59, 0, 3, 0), some (.imul, 60, 0, 0, 0), some (.iload 4, 62, 0, 4, 0), none, some (.iadd, 63, 0, 0, 0), some (.iaload, 64, 0, 0, 0), some (.istore 5, 66, 0, 5, 0), none, some (.aload_n 0, 67, 0, 0, 0), some (.getfield 25, 70, 6, 11, 595), none, none, some (.bipush 14, 72, 14, 0, 0), none, some (.iload_n 3, 73, 0, 3, 0), some (.imul, 74, 0, 0, 0), some (.iload 4, 76, 0, 4, 0), none, some (.iconst 1, 77, 1, 0, 0), some (.iadd, 78, 0, 0, 0), some (.aload_n 0, 79, 0, 0, 0), some (.getfield 22, 82, 6, 10, 594), none, none, some (.iload_n 3, 83, 0, 3, 0), some (.iaload, 84, 0, 0, 0), some (.irem, 85, 0, 0, 0), some (.iadd, 86, 0, 0, 0), some (.iaload, 87, 0, 0, 0), some (.istore 6, 89, 0, 6, 0), none, some (.aload_n 0, 90, 0, 0, 0), some (.iconst 0, 91, 0, 0, 0), some (.iload_n 1, 92, 0, 1, 0), some (.iload_n 2, 93, 0, 2, 0), some (.iload_n 3, 94, 0, 3, 0), some (.iload 5, 96, 0, 5, 0), none, some (.iload 6, 98, 0, 6, 0), none, some (.invokevirtual 256, 101, 7, 142, 926), none, none, some (.ifCond .eq 18, 104, 0, 119, 0), none, none, some (.aload_n 0, 105, 0, 0, 0), some (.iconst 0, 106, 0, 0, 0), some (.iload_n 1, 107, 0, 1, 0), some (.iload_n 2, 108, 0, 2, 0), some (.iload_n 3, 109, 0, 3, 0), some (.iload 6, 111, 0, 6, 0), none, some (.iload 5, 113, 0, 5, 0), none, some (.invokevirtual 256, 116, 7, 142, 926), none, none, some (.ifCond .ne 5, 119, 0, 121, 0), none, none, some (.iconst 0, 120, 0, 0, 0), some (.ireturn, 121, 0, 0, 0), some (.iinc 4 1, 124, 0, 4, 0), none, none, some (.goto (-83), 127, 0, 41, 0), none, none, some (.iinc 3 1, 130, 0, 3, 0), none, none, some (.goto (-100), 133, 0, 30, 0), none, none, some (.iconst 1, 134, 1, 0, 0), some (.ireturn, 135, 0, 0, 0)]
def xmX6_regular : xM := (xhX6_regular, xkX6_regular)
def xkJ9_abs_067f4 : List (Option xI) := [some (.lload_n 0, 1, 0, 0, 0), some (.lconst 0, 2, 0, 0, 0), some (.lcmp, 3, 0, 0, 0), some (.ifCond .ge 8, 6, 0, 11, 0), none, none, some (.lload_n 0, 7, 0, 0, 0), some (.lneg, 8, 0, 0, 0), some (.goto 4, 11, 0, 12, 0), none, none, some (.lload_n 0, 12, 0, 0, 0), some (.lreturn, 13, 0, 0, 0)]
def xmJ9_abs_067f4 : xM := (xhJ9_abs_067f4, xkJ9_abs_067f4)
def xkJ9_max_f86c9 : List (Option xI) := [some (.lload_n 0, 1, 0, 0, 0), some (.lload_n 2, 2, 0, 2, 0), some (.lcmp, 3, 0, 0, 0), some (.ifCond .lt 7, 6, 0, 10, 0), none, none, some (.lload_n 0, 7, 0, 0, 0), some (.goto 4, 10, 0, 11, 0), none, none, some (.lload_n 2, 11, 0, 2, 0), some (.lreturn, 12, 0, 0, 0)]
def xmJ9_max_f86c9 : xM := (xhJ9_max_f86c9, xkJ9_max_f86c9)
/-- where the words of each method stand -/
def xHt : List (xH × Nat × Nat × Nat × Nat) := [(xhX0_init, 78, 57, 77, 0), (xhX0_has, 253, 57, 251, 252), (xhX5_isPoint, 260, 56, 259, 0), (xhX0_add, 257, 57, 255, 256), (xhX0_number, 353, 57, 351, 352), (xhX0_sum, 294, 57, 292, 293), (xhX0_swing, 280, 57, 278, 279), (xhX0_spread, 314, 57, 312, 313), (xhX0_distance, 537, 57, 535, 536), (xhX0_box, 348, 57, 346, 347), (xhX3_init, 108, 59, 107, 0), (xhX1_init, 101, 58, 100, 0), (xhX1_hasFace, 389, 58, 387, 388), (xhX1_isCorner, 441, 58, 439, 440), (xhX1_isKnown, 272, 58, 271, 1), (xhX5_divisor, 283, 56, 282, 0), (xhX3_look, 290, 59, 288, 289), (xhX3_sidesTaken, 298, 59, 297, 2), (xhX3_turnOutward, 302, 59, 301, 3), (xhX3_face, 276, 59, 274, 275), (xhJ6_numberOfTrailingZeros_0f7a4, 309, 64, 308, 0), (xhX3_rim, 306, 59, 304, 305), (xhX3_following, 322, 59, 321, 4), (xhX3_trace, 318, 59, 316, 317), (xhX3_leads, 331, 59, 329, 330), (xhX1_settle, 327, 58, 326, 5), (xhX1_tryFace, 268, 58, 267, 0), (xhX1_join, 335, 58, 334, 6), (xhX1_weighOne, 344, 58, 343, 8), (xhX1_weigh, 340, 58, 339, 7), (xhX1_build, 264, 58, 262, 263), (xhX1_place, 426, 58, 424, 425), (xhX1_greatest, 483, 58, 481, 482), (xhX1_cornersAt, 493, 58, 491, 492), (xhX1_besideAny, 506, 58, 505, 14), (xhX1_steps, 502, 58, 500, 501), (xhX2_init, 209, 61, 208, 0), (xhX2_image, 549, 61, 547, 548), (xhX2_keep, 527, 61, 526, 17), (xhX2_fits, 533, 61, 532, 18), (xhX2_extend, 522, 61, 521, 16), (xhX2_list, 518, 61, 516, 517), (xhX2_keepsHands, 557, 61, 555, 556), (xhX2_ringLength, 572, 61, 571, 20), (xhX2_period, 568, 61, 566, 567), (xhX4_init, 195, 60, 194, 0), (xhX4_number, 459, 60, 457, 458), (xhX4_leads, 455, 60, 454, 13), (xhX4_insert, 451, 60, 450, 12), (xhX4_mix, 446, 60, 445, 11), (xhX4_slice, 437, 60, 435, 436), (xhX5_init, 70, 56, 69, 0), (xhX5_within, 249, 56, 248, 0), (xhX5_forget, 357, 56, 356, 9), (xhX5_point, 246, 56, 244, 245), (xhX5_clear, 361, 56, 359, 360), (xhX5_stands, 369, 56, 368, 10), (xhX5_flat, 365, 56, 363, 364), (xhX5_corners, 373, 56, 371, 372), (xhX5_edges, 377, 56, 375, 376), (xhX5_faces, 381, 56, 379, 380), (xhX5_size, 385, 56, 383, 384), (xhX5_at, 393, 56, 391, 392), (xhX5_normal, 397, 56, 395, 396), (xhX5_volume, 402, 56, 400, 401), (xhX5_isAxis, 409, 56, 408, 0), (xhX5_isPart, 412, 56, 411, 0), (xhX5_fraction, 416, 56, 415, 0), (xhX5_middle, 406, 56, 404, 405), (xhX5_where, 421, 56, 419, 420), (xhX5_isDirection, 433, 56, 432, 0), (xhX5_cut, 430, 56, 428, 429), (xhX5_cutAt, 467, 56, 465, 466), (xhX5_shadow, 472, 56, 470, 471), (xhX5_far, 479, 56, 477, 478), (xhX5_way, 497, 56, 495, 496), (xhX5_listed, 514, 56, 513, 15), (xhX5_symmetries, 510, 56, 508, 509), (xhX5_isSymmetry, 545, 56, 544, 19), (xhX5_symmetry, 541, 56, 539, 540), (xhX5_turn, 553, 56, 551, 552), (xhX5_order, 564, 56, 562, 563), (xhX5_regular, 577, 56, 575, 576), (xhX6_init, 582, 62, 581, 0), (xhX6_in, 699, 62, 698, 0), (xhX6_point, 696, 62, 694, 695), (xhX6_clear, 703, 62, 701, 702), (xhX6_cross, 723, 62, 722, 24), (xhX6_height, 727, 62, 726, 25), (xhX6_divisor, 730, 62, 729, 0), (xhX6_tryPlane, 719, 62, 718, 23), (xhX6_facesOf, 734, 62, 733, 26), (xhX6_isNext, 742, 62, 741, 28), (xhX6_layRound, 738, 62, 737, 27), (xhX6_isBefore, 746, 62, 745, 29), (xhX6_build, 715, 62, 714, 22), (xhX6_noSolid, 711, 62, 710, 21), (xhX6_flat, 707, 62, 705, 706), (xhX6_isCorner, 762, 62, 761, 31), (xhX6_isEdge, 758, 62, 757, 30), (xhX6_corners, 750, 62, 748, 749), (xhX6_edges, 754, 62, 752, 753), (xhX6_faces, 766, 62, 764, 765), (xhX6_size, 770, 62, 768, 769), (xhX6_at, 774, 62, 772, 773), (xhX6_normal, 778, 62, 776, 777), (xhX6_tetrahedron, 791, 62, 790, 33), (xhX6_weigh, 787, 62, 786, 32), (xhX6_volume, 783, 62, 781, 782), (xhX6_part, 799, 62, 798, 0), (xhX6_middle, 795, 62, 793, 794), (xhX6_where, 804, 62, 802, 803), (xhX6_isDirection, 813, 62, 812, 0), (xhX6_lies, 817, 62, 816, 34), (xhX6_compare, 825, 62, 824, 36), (xhX6_swap, 829, 62, 828, 37), (xhX6_addCut, 821, 62, 820, 35), (xhX6_cut, 810, 62, 808, 809), (xhX6_cutAt, 833, 62, 831, 832), (xhX6_side, 853, 62, 852, 41), (xhX6_isSame, 845, 62, 844, 39), (xhX6_isBetween, 849, 62, 848, 40), (xhX6_isInTriangle, 857, 62, 856, 42), (xhX6_stands, 841, 62, 840, 38), (xhX6_shadow, 837, 62, 835, 836), (xhX6_far, 861, 62, 859, 860), (xhX6_way, 865, 62, 863, 864), (xhX6_apart, 893, 62, 892, 48), (xhX6_sense, 881, 62, 880, 45), (xhX6_findBase, 877, 62, 876, 44), (xhX6_fits, 889, 62, 888, 47), (xhX6_imageOf, 901, 62, 900, 50), (xhX6_addTurn, 897, 62, 896, 49), (xhX6_tryGoals, 885, 62, 884, 46), (xhX6_isEarlier, 905, 62, 904, 51), (xhX6_buildTurns, 873, 62, 872, 43), (xhX6_symmetries, 869, 62, 867, 868), (xhX6_noTurn, 913, 62, 912, 52), (xhX6_symmetry, 909, 62, 907, 908), (xhX6_turn, 917, 62, 915, 916), (xhX6_order, 921, 62, 919, 920), (xhX6_imageBits, 933, 62, 932, 54), (xhX6_isTaken, 929, 62, 928, 53), (xhX6_regular, 925, 62, 923, 924), (xhJ9_abs_067f4, 286, 63, 285, 0), (xhJ9_max_f86c9, 489, 63, 488, 0)]
end
section
/-! The abstract machine: values and cells by their numbers from the base on; locals by place -/
abbrev xE : Type := vp_A ⊕ (Nat × List Value)
abbrev xL : Type := List (Option Value)
abbrev xG : Type := va_G × (ClassId × ClassId × ClassId) × Nat
abbrev xHp : Type := Nat → Option xE
def xat {α : Type} : List α → Nat → Option α
  | [], _ => none
  | a :: _, 0 => some a
  | _ :: t, k + 1 => xat t k
def xgt : xL → Nat → Option Value
  | [], _ => none
  | a :: _, 0 => a
  | _ :: t, k + 1 => xgt t k
def xc2 : Value → Bool
  | .long _ => true
  | .double _ => true
  | _ => false
def xkeep : Option Value → Option Value
  | some v => (match xc2 v with | true => none | false => some v)
  | none => none
def xs1 : xL → Nat → Value → xL
  | [], _, _ => []
  | _ :: t, 0, v => some v :: t
  | a :: t, 1, v => xkeep a :: xs1 t 0 v
  | a :: t, k + 2, v => a :: xs1 t (k + 1) v
def xcut : xL → xL
  | [] => []
  | _ :: t => none :: t
def xs2 : xL → Nat → Value → xL
  | [], _, _ => []
  | _ :: t, 0, v => some v :: xcut t
  | a :: t, 1, v => xkeep a :: xs2 t 0 v
  | a :: t, k + 2, v => a :: xs2 t (k + 1) v
def xr (z : Nat) : Value → Value
  | .ref a => .ref (z + a)
  | v => v
theorem xr_cat (z : Nat) (v : Value) : (xr z v).category = v.category := by cases v <;> rfl
theorem xc2_cat (v : Value) : xc2 v = true ↔ v.category = 2 := by cases v <;> simp [xc2, Value.category]
theorem xkeep_some {a : Option Value} {w : Value} (h : xkeep a = some w) : a = some w ∧ ¬ w.category = 2 := by
  cases a with
  | none => simp [xkeep] at h
  | some v =>
    simp only [xkeep] at h
    cases hv : xc2 v with
    | true => rw [hv] at h; simp at h
    | false =>
      rw [hv] at h
      simp only [Option.some.injEq] at h
      subst h
      refine ⟨rfl, fun q => ?_⟩
      rw [(xc2_cat v).mpr q] at hv
      cases hv
theorem xs1_spec : ∀ (l : xL) (i : Nat) (v : Value) (j : Nat) (w : Value), xgt (xs1 l i v) j = some w → (j = i ∧ w = v) ∨ (j ≠ i ∧ xgt l j = some w ∧ ¬ (j + 1 = i ∧ w.category = 2))
  | [], i, v, j, w, h => by simp [xs1, xgt] at h
  | a :: t, 0, v, 0, w, h => by
    simp only [xs1, xgt, Option.some.injEq] at h
    exact Or.inl ⟨rfl, h.symm⟩
  | a :: t, 0, v, j + 1, w, h => by
    simp only [xs1, xgt] at h
    exact Or.inr ⟨by omega, by simpa only [xgt] using h, by omega⟩
  | a :: t, 1, v, 0, w, h => by
    simp only [xs1, xgt] at h
    obtain ⟨h1, h2⟩ := xkeep_some h
    exact Or.inr ⟨by omega, by simpa only [xgt] using h1, fun q => h2 q.2⟩
  | a :: t, 1, v, j + 1, w, h => by
    simp only [xs1, xgt] at h
    rcases xs1_spec t 0 v j w h with ⟨e1, e2⟩ | ⟨e1, e2, e3⟩
    · exact Or.inl ⟨by omega, e2⟩
    · exact Or.inr ⟨by omega, by simpa only [xgt] using e2, by omega⟩
  | a :: t, k + 2, v, 0, w, h => by
    simp only [xs1, xgt] at h
    exact Or.inr ⟨by omega, by simpa only [xgt] using h, by omega⟩
  | a :: t, k + 2, v, j + 1, w, h => by
    simp only [xs1, xgt] at h
    rcases xs1_spec t (k + 1) v j w h with ⟨e1, e2⟩ | ⟨e1, e2, e3⟩
    · exact Or.inl ⟨by omega, e2⟩
    · exact Or.inr ⟨by omega, by simpa only [xgt] using e2, fun q => e3 ⟨by omega, q.2⟩⟩
theorem xcut_spec {t : xL} {j : Nat} {w : Value} (h : xgt (xcut t) j = some w) : j ≠ 0 ∧ xgt t j = some w := by
  cases t with
  | nil => simp [xcut, xgt] at h
  | cons a t =>
    cases j with
    | zero => simp [xcut, xgt] at h
    | succ j => exact ⟨by omega, by simpa only [xcut, xgt] using h⟩
theorem xs2_spec : ∀ (l : xL) (i : Nat) (v : Value) (j : Nat) (w : Value), xgt (xs2 l i v) j = some w → (j = i ∧ w = v) ∨ (j ≠ i ∧ j ≠ i + 1 ∧ xgt l j = some w ∧ ¬ (j + 1 = i ∧ w.category = 2))
  | [], i, v, j, w, h => by simp [xs2, xgt] at h
  | a :: t, 0, v, 0, w, h => by
    simp only [xs2, xgt, Option.some.injEq] at h
    exact Or.inl ⟨rfl, h.symm⟩
  | a :: t, 0, v, j + 1, w, h => by
    simp only [xs2, xgt] at h
    obtain ⟨h1, h2⟩ := xcut_spec h
    exact Or.inr ⟨by omega, by omega, by simpa only [xgt] using h2, by omega⟩
  | a :: t, 1, v, 0, w, h => by
    simp only [xs2, xgt] at h
    obtain ⟨h1, h2⟩ := xkeep_some h
    exact Or.inr ⟨by omega, by omega, by simpa only [xgt] using h1, fun q => h2 q.2⟩
  | a :: t, 1, v, j + 1, w, h => by
    simp only [xs2, xgt] at h
    rcases xs2_spec t 0 v j w h with ⟨e1, e2⟩ | ⟨e1, e0, e2, e3⟩
    · exact Or.inl ⟨by omega, e2⟩
    · exact Or.inr ⟨by omega, by omega, by simpa only [xgt] using e2, by omega⟩
  | a :: t, k + 2, v, 0, w, h => by
    simp only [xs2, xgt] at h
    exact Or.inr ⟨by omega, by omega, by simpa only [xgt] using h, by omega⟩
  | a :: t, k + 2, v, j + 1, w, h => by
    simp only [xs2, xgt] at h
    rcases xs2_spec t (k + 1) v j w h with ⟨e1, e2⟩ | ⟨e1, e0, e2, e3⟩
    · exact Or.inl ⟨by omega, e2⟩
    · exact Or.inr ⟨by omega, by omega, by simpa only [xgt] using e2, fun q => e3 ⟨by omega, q.2⟩⟩
theorem xgt_lt : ∀ {l : xL} {i : Nat} {v : Value}, xgt l i = some v → i < l.length
  | [], i, v, h => by simp [xgt] at h
  | a :: t, 0, v, h => by simp
  | a :: t, i + 1, v, h => by
    simp only [xgt] at h
    have := xgt_lt h
    simp; omega
/-- the machine's locals hold what is known -/
def xLk (z : Nat) (ls : Array Slot) (nL : Nat) (l : xL) : Prop := ls.size = nL ∧ lv_wf ls ∧ ∀ i v, xgt l i = some v → ls[i]? = some (.val (xr z v))
def xpl (z : Nat) (l : xL) : List (Nat × Value) := (List.range l.length).filterMap (fun i => (xgt l i).map (fun v => (i, xr z v)))
theorem xpl_mem {z : Nat} {l : xL} {i : Nat} {v : Value} (h : xgt l i = some v) : (i, xr z v) ∈ xpl z l := by
  unfold xpl
  rw [List.mem_filterMap]
  exact ⟨i, List.mem_range.mpr (xgt_lt h), by rw [h]; rfl⟩
theorem xpl_of {z : Nat} {l : xL} {q : Nat × Value} (h : q ∈ xpl z l) : ∃ v, xgt l q.1 = some v ∧ q.2 = xr z v := by
  unfold xpl at h
  rw [List.mem_filterMap] at h
  obtain ⟨i, -, hi⟩ := h
  rw [Option.map_eq_some_iff] at hi
  obtain ⟨v, hv, rfl⟩ := hi
  exact ⟨v, hv, rfl⟩
theorem xLk.has {z : Nat} {ls : Array Slot} {nL : Nat} {l : xL} (h : xLk z ls nL l) : lv_has ls nL (xpl z l) := ⟨h.1, h.2.1, fun q hq => by
  obtain ⟨v, h1, h2⟩ := xpl_of hq
  rw [h2]
  exact h.2.2 _ _ h1⟩
theorem xLk.s1 {z : Nat} {ls : Array Slot} {nL i : Nat} {l : xL} {v w : Value} (hw : w = xr z v) (h : lv_has ls nL ((i, w) :: (xpl z l).filter (fun q => !(q.1 == i) && !(q.1 + 1 == i && q.2.category == 2)))) : xLk z ls nL (xs1 l i v) := by
  refine ⟨h.1, h.2.1, fun j u hj => ?_⟩
  subst hw
  rcases xs1_spec l i v j u hj with ⟨e1, e2⟩ | ⟨e1, e2, e3⟩
  · subst e1; subst e2
    exact h.2.2 (j, xr z u) List.mem_cons_self
  · refine h.2.2 (j, xr z u) (List.mem_cons_of_mem _ (List.mem_filter.mpr ⟨xpl_mem e2, ?_⟩))
    have h1 : (j == i) = false := by simpa using e1
    simp only [h1, Bool.not_false, Bool.true_and, Bool.not_eq_true', Bool.and_eq_false_iff, beq_eq_false_iff_ne, xr_cat]
    rcases Classical.em (j + 1 = i) with q | q
    · exact Or.inr fun r => e3 ⟨q, r⟩
    · exact Or.inl q
theorem xLk.s2 {z : Nat} {ls : Array Slot} {nL i : Nat} {l : xL} {v w : Value} (hw : w = xr z v) (h : lv_has ls nL ((i, w) :: (xpl z l).filter (fun q => !(q.1 == i) && (!(q.1 == i + 1) && !(q.1 + 1 == i && q.2.category == 2))))) : xLk z ls nL (xs2 l i v) := by
  refine ⟨h.1, h.2.1, fun j u hj => ?_⟩
  subst hw
  rcases xs2_spec l i v j u hj with ⟨e1, e2⟩ | ⟨e1, e0, e2, e3⟩
  · subst e1; subst e2
    exact h.2.2 (j, xr z u) List.mem_cons_self
  · refine h.2.2 (j, xr z u) (List.mem_cons_of_mem _ (List.mem_filter.mpr ⟨xpl_mem e2, ?_⟩))
    have h1 : (j == i) = false := by simpa using e1
    have h2 : (j == i + 1) = false := by simpa using e0
    simp only [h1, h2, Bool.not_false, Bool.true_and, Bool.not_eq_true', Bool.and_eq_false_iff, beq_eq_false_iff_ne, xr_cat]
    rcases Classical.em (j + 1 = i) with q | q
    · exact Or.inr fun r => e3 ⟨q, r⟩
    · exact Or.inl q
/-- cells -/
def xcv (g : xG) : xE → va_E
  | .inl (n, .inl f) => .inl (g.2.1.1, n, .inl f)
  | .inl (n, .inr (.inl f)) => .inl (g.2.1.2.1, n, .inr (.inl f))
  | .inl (n, .inr (.inr (.inl f))) => .inl (g.2.1.1, n, .inr (.inr (.inl f)))
  | .inl (n, .inr (.inr (.inr (.inl f)))) => .inl (g.2.1.1, n, .inr (.inr (.inr (.inl f))))
  | .inl (n, .inr (.inr (.inr (.inr f)))) => .inl (g.2.1.2.2, n, .inr (.inr (.inr (.inr (fun i => (f i).map (fun a => g.2.2 + a))))))
  | .inr (ci, fs) => .inr (ci, fs.map (xr g.2.2))
def xco (o : Option xE) : xE := match o with | some e => e | none => .inr (99, [])
def xW (g : xG) (n : Nat) (h : xHp) : va_W := (List.range n).map (fun k => (g.2.2 + k, xcv g (xco (h k))))
def xP (g : xG) (n : Nat) (h : xHp) (H : Heap) : Prop := H.size = g.2.2 + n ∧ (∀ k, n ≤ k → h k = none) ∧ va_P g.1 xcl (xW g n h) H
def xA (g : xG) : Nat → Prop := fun q => g.2.2 ≤ q
def xup (h : xHp) (q : Nat) (e : xE) : xHp := fun j => if j = q then some e else h j
theorem xup_s {h : xHp} {q : Nat} {e : xE} : xup h q e q = some e := by simp [xup]
theorem xup_n {h : xHp} {q j : Nat} {e : xE} (hj : j ≠ q) : xup h q e j = h j := by simp [xup, hj]
theorem xW_get {g : xG} {n : Nat} {h : xHp} {q : Nat} {e : xE} (hq : q < n) (he : h q = some e) : (xW g n h)[q]? = some (g.2.2 + q, xcv g e) := by
  simp [xW, List.getElem?_range, hq, he, xco]
theorem xW_D (g : xG) (n : Nat) (h : xHp) : va_D (xA g) (xW g n h) := by
  have key : ∀ (k : Nat) (q : Nat × va_E), (xW g n h)[k]? = some q → q.1 = g.2.2 + k := by
    intro k q hk
    simp only [xW, List.getElem?_map, Option.map_eq_some_iff] at hk
    obtain ⟨j, hj, rfl⟩ := hk
    rw [List.getElem?_range] at hj
    · simp only [Option.some.injEq] at hj
      rw [hj]
    · have := (List.getElem?_eq_some_iff.mp hj).1
      simpa using this
  refine ⟨fun i j p q hi hj hpq => ?_, fun k q hk => ?_⟩
  · have e1 := key i p hi
    have e2 := key j q hj
    omega
  · show g.2.2 ≤ q.1
    rw [key k q hk]
    omega
theorem xW_len (g : xG) (n : Nat) (h : xHp) : (xW g n h).length = n := by simp [xW]
theorem xW_set {g : xG} {n : Nat} {h : xHp} {q : Nat} {e : xE} : (xW g n h).set q (g.2.2 + q, xcv g e) = xW g n (xup h q e) := by
  apply List.ext_getElem?
  intro k
  by_cases hk : k < n
  · by_cases hq : q = k
    · subst hq
      rw [List.getElem?_set_self (by rw [xW_len]; exact hk), xW_get hk (xup_s)]
    · rw [List.getElem?_set_ne hq]
      simp only [xW, List.getElem?_map, List.getElem?_range hk, Option.map_some]
      rw [xup_n (fun q' => hq q'.symm)]
  · rw [List.getElem?_eq_none (by rw [List.length_set, xW_len]; omega), List.getElem?_eq_none (by rw [xW_len]; omega)]
theorem xW_app {g : xG} {n : Nat} {h : xHp} {e : xE} : xW g n h ++ [(g.2.2 + n, xcv g e)] = xW g (n + 1) (xup h n e) := by
  unfold xW
  rw [List.range_succ, List.map_append]
  congr 1
  · apply List.map_congr_left
    intro k hk
    rw [List.mem_range] at hk
    rw [xup_n (by omega)]
  · simp [xup_s, xco]
theorem xP.lt {g : xG} {n : Nat} {h : xHp} {H : Heap} (hP : xP g n h H) {q : Nat} {e : xE} (he : h q = some e) : q < n := by
  rcases Nat.lt_or_ge q n with a | a
  · exact a
  · rw [hP.2.1 q a] at he; cases he
theorem xP.get {g : xG} {n : Nat} {h : xHp} {H : Heap} (hP : xP g n h H) {q : Nat} {e : xE} (he : h q = some e) : (xW g n h)[q]? = some (g.2.2 + q, xcv g e) := xW_get (hP.lt he) he
/-- one cell is written -/
theorem xP.put {g : xG} {n : Nat} {h : xHp} {H H1 : Heap} (hP : xP g n h H) {q : Nat} {e0 e : xE} (he : h q = some e0) (hz : H1.size = H.size) (ha : va_at g.1 xcl (g.2.2 + q, xcv g e) H1) (oq : ∀ a : Nat, a ≠ g.2.2 + q → H1[a]? = H[a]?) : xP g n (xup h q e) H1 := by
  refine ⟨by rw [hz]; exact hP.1, fun k hk => ?_, ?_⟩
  · rw [xup_n (by have := hP.lt he; omega)]
    exact hP.2.1 k hk
  · rw [← xW_set]
    exact hP.2.2.set (xW_D g n h) (hP.get he) ha oq
/-- one cell is made -/
theorem xP.push {g : xG} {n : Nat} {h : xHp} {H H1 : Heap} (hP : xP g n h H) {e : xE} (hz : H1.size = H.size + 1) (ha : va_at g.1 xcl (g.2.2 + n, xcv g e) H1) (oq : ∀ a : Nat, a < H.size → H1[a]? = H[a]?) : xP g (n + 1) (xup h n e) H1 := by
  refine ⟨by rw [hz, hP.1]; omega, fun k hk => ?_, ?_⟩
  · rw [xup_n (by omega)]
    exact hP.2.1 k (by omega)
  · rw [← xW_app]
    refine (hP.2.2.kept fun k x hx => oq x.1 ((hP.2.2 k x hx).lt)).app fun k x hx => ?_
    have hz : k < 1 := (List.getElem?_eq_some_iff.mp hx).1
    rw [show k = 0 by omega] at hx
    cases hx
    exact ha
/-- the words -/
def xWd : List Cond := lw_tbl.filter goodWord
def xin (w : Cond) : Bool := decide (w ∈ lw_tbl) && goodWord w
theorem xin_mem {w : Cond} (h : xin w = true) : w ∈ xWd := by
  simp only [xin, Bool.and_eq_true, decide_eq_true_eq] at h
  exact List.mem_filter.mpr h
theorem xWd_good {w : Cond} (h : w ∈ xWd) : goodWord w = true := (List.mem_filter.mp h).2
def xlen : Instr → Nat
  | .iload _ => 2
  | .lload _ => 2
  | .aload _ => 2
  | .istore _ => 2
  | .lstore _ => 2
  | .astore _ => 2
  | .bipush _ => 2
  | .ldc _ => 2
  | .newarray _ => 2
  | .sipush _ => 3
  | .ldc_w _ => 3
  | .ldc2_w _ => 3
  | .getfield _ => 3
  | .putfield _ => 3
  | .iinc _ _ => 3
  | .ifCond _ _ => 3
  | .if_icmp _ _ => 3
  | .goto _ => 3
  | .invokevirtual _ => 3
  | .invokestatic _ => 3
  | .invokespecial _ => 3
  | .new _ => 3
  | .anewarray _ => 3
  | .tableswitch _ _ _ _ => 31
  | _ => 1
def xnp (y : MethodName) : Option Nat := (parseMethodDescriptor y.desc).map (fun d => d.parameters.length)
def xnh (y : MethodName) : Bool := decide (y.cls ≠ "java/lang/invoke/MethodHandle") && decide (y.cls ≠ "java/lang/invoke/VarHandle")
/-- a word by its place -/
def xat1 (k : Nat) (w : Cond) : Bool := (match xat lw_tbl k with | some u => decide (u = w) | none => false) && goodWord w
theorem xat_mem {α : Type} : ∀ {l : List α} {k : Nat} {a : α}, xat l k = some a → a ∈ l
  | [], k, a, h => by simp [xat] at h
  | b :: t, 0, a, h => by simp only [xat, Option.some.injEq] at h; rw [h]; exact List.mem_cons_self
  | b :: t, k + 1, a, h => by simp only [xat] at h; exact List.mem_cons_of_mem _ (xat_mem h)
theorem xat1_mem {k : Nat} {w : Cond} (h : xat1 k w = true) : w ∈ xWd := by
  unfold xat1 at h
  rw [Bool.and_eq_true] at h
  obtain ⟨h1, h2⟩ := h
  cases hu : xat lw_tbl k with
  | none => rw [hu] at h1; cases h1
  | some u =>
    rw [hu] at h1
    simp only [decide_eq_true_eq] at h1
    subst h1
    exact List.mem_filter.mpr ⟨xat_mem hu, h2⟩
/-- the words of a method that is called -/
def xhd (q : xH × Nat × Nat × Nat × Nat) : Bool := xat1 q.2.2.1 (.initialized q.1.2.1.cls) && xnh q.1.2.1 && decide (xnp q.1.2.1 = some q.1.2.2.2.2.2.2) && decide (q.1.2.2.2.1 ≤ 45) &&
  (if q.1.2.2.2.2.2.1 = 0 then xat1 q.2.2.2.1 (.static q.1.2.1) else xat1 q.2.2.2.1 (.instanceMethod q.1.2.1) && (if q.1.2.2.2.2.2.1 = 2 then decide (q.1.2.1.name = "<init>") && decide (q.1.2.2.2.2.1 = none) else xat1 q.2.2.2.2 (.selects q.1.2.1.cls q.1.2.1 q.1.2.1) && (match xcl[q.1.1]? with | some r => decide (r.1 = q.1.2.1.cls) | none => false)))
/-- the word of its code, by its place -/
def xhc (q : xH × Nat × Nat × Nat × Nat) : Prop := xat lw_tbl q.2.1 = some (.code q.1.2.1 q.1.2.2.1 q.1.2.2.2.1 q.1.2.2.2.2.1)
def xlk (own : String) (i : Nat) (y : MethodName) (hh : Nat) : Bool := xat1 hh (.methodLink own i y) || decide ((own, i, y) ∈ xNs)
def xsp (own : String) (pc : Nat) (ins : Instr) (a : Int) (b hh : Nat) : Bool :=
  match ins with
  | .iconst n => decide (n = a)
  | .bipush n => decide ((Int8.ofInt n).toInt32 = Int32.ofInt a)
  | .sipush n => decide ((Int16.ofInt n).toInt32 = Int32.ofInt a)
  | .lconst n => decide (Int64.ofNat (n : Nat) = Int64.ofInt a)
  | .ldc i => xat1 hh (.constant own i (Int32.ofInt a))
  | .ldc_w i => xat1 hh (.constant own i (Int32.ofInt a))
  | .ldc2_w i => xat1 hh (.constantLong own i (Int64.ofInt a))
  | .getfield i => (match xcl[a.toNat]? with | some r => decide (b < r.2.2) && xat1 hh (.fieldLink own i (r.2.1 b).1 (r.2.1 b).2.1 (r.2.1 b).2.2.1) | none => false)
  | .putfield i => (match xcl[a.toNat]? with | some r => decide (b < r.2.2) && xat1 hh (.fieldLink own i (r.2.1 b).1 (r.2.1 b).2.1 (r.2.1 b).2.2.1) | none => false)
  | .ifCond _ off => decide ((pc : Int) + off = (b : Int))
  | .if_icmp _ off => decide ((pc : Int) + off = (b : Int))
  | .goto off => decide ((pc : Int) + off = (b : Int))
  | .invokevirtual i => (match xat xHs b with | some M => decide (M.2.2.2.2.2.1 = 1) && decide (a = (M.2.2.2.2.2.2 : Int) + 1) && xat1 hh (.methodLink own i M.2.1) | none => false)
  | .invokestatic i => if b = 1001 then xin (.methodLink own i arraycopyName) && xin (.native arraycopyName) && xin (.static arraycopyName) && xin (.initialized "java/lang/System") else (match xat xHs b with | some M => decide (M.2.2.2.2.2.1 = 0) && decide (a = (M.2.2.2.2.2.2 : Int)) && xlk own i M.2.1 hh | none => false)
  | .invokespecial i => if b = 1000 then xin (.methodLink own i Lib.objectInit) && xin (.instanceMethod Lib.objectInit) && xin (.code Lib.objectInit ⟨#[0xb1]⟩ 1 none) else (match xat xHs b with | some M => decide (M.2.2.2.2.2.1 = 2) && decide (a = (M.2.2.2.2.2.2 : Int) + 1) && xlk own i M.2.1 hh | none => false)
  | .new i => (match xcl[a.toNat]? with | some r => xat1 hh (.classLink own i r.1) && xin (.instantiable r.1 r.2.2) && xin (.initialized r.1) | none => false)
  | .newarray t => xin (.arrayClass (newarray.typeOf t)) && (decide (t = .int) || decide (t = .long))
  | .anewarray i => xat1 hh (.classLink own i RX3)
  | _ => true
def xix (ins : Instr) (b mL : Nat) : Bool :=
  match ins with
  | .iload k => decide (k = b)
  | .lload k => decide (k = b)
  | .aload k => decide (k = b)
  | .istore k => decide (k = b) && decide (b < mL)
  | .lstore k => decide (k = b) && decide (b + 1 < mL)
  | .astore k => decide (k = b) && decide (b < mL)
  | .iload_n k => decide (k.val = b)
  | .lload_n k => decide (k.val = b)
  | .aload_n k => decide (k.val = b)
  | .istore_n k => decide (k.val = b) && decide (b < mL)
  | .lstore_n k => decide (k.val = b) && decide (b + 1 < mL)
  | .astore_n k => decide (k.val = b) && decide (b < mL)
  | .iinc k _ => decide (k = b) && decide (b < mL)
  | _ => true
def xok1 (own : String) (bytes : ByteArray) (mL pc : Nat) (e : xI) : Bool := decide (decode bytes pc = .ok (e.1, xlen e.1)) && decide (e.2.1 = pc + xlen e.1) && xsp own pc e.1 e.2.2.1 e.2.2.2.1 e.2.2.2.2 && xix e.1 e.2.2.2.1 mL
def xokL (own : String) (bytes : ByteArray) (mL : Nat) : Nat → List (Option xI) → Bool
  | _, [] => true
  | pc, none :: t => xokL own bytes mL (pc + 1) t
  | pc, some e :: t => xok1 own bytes mL pc e && xokL own bytes mL (pc + 1) t
def xGd (M : xM) : Bool := (match xown[M.1.1]? with | some own => xokL own M.1.2.2.1 M.1.2.2.2.1 0 M.2 && decide (M.1.2.1.cls = own) | none => false) && plainName M.1.2.1.cls
def xfe (M : xM) (pc : Nat) : Option xI := match xat M.2 pc with | some (some e) => some e | _ => none
theorem xokL_at {own : String} {bytes : ByteArray} {mL : Nat} : ∀ {l : List (Option xI)} {q pc : Nat} {e : xI}, xokL own bytes mL q l = true → xat l pc = some (some e) → xok1 own bytes mL (q + pc) e = true
  | [], q, pc, e, h, h2 => by simp [xat] at h2
  | none :: t, q, 0, e, h, h2 => by simp [xat] at h2
  | some e' :: t, q, 0, e, h, h2 => by
    simp only [xat, Option.some.injEq] at h2
    subst h2
    simp only [xokL, Bool.and_eq_true] at h
    exact h.1
  | none :: t, q, pc + 1, e, h, h2 => by
    simp only [xat] at h2
    simp only [xokL] at h
    have := xokL_at h h2
    rwa [show q + (pc + 1) = q + 1 + pc by omega]
  | some e' :: t, q, pc + 1, e, h, h2 => by
    simp only [xat] at h2
    simp only [xokL, Bool.and_eq_true] at h
    have := xokL_at h.2 h2
    rwa [show q + (pc + 1) = q + 1 + pc by omega]
/-- what a fetched entry says -/
theorem xfe_ok {M : xM} {pc : Nat} {ins : Instr} {nx : Nat} {a : Int} {b hh : Nat} (hG : xGd M = true) (hf : xfe M pc = some (ins, nx, a, b, hh)) : decode M.1.2.2.1 pc = .ok (ins, xlen ins) ∧ nx = pc + xlen ins ∧ xsp M.1.2.1.cls pc ins a b hh = true ∧ xix ins b M.1.2.2.2.1 = true := by
  unfold xGd at hG
  rw [Bool.and_eq_true] at hG
  have hG := hG.1
  cases ho : xown[M.1.1]? with
  | none => rw [ho] at hG; cases hG
  | some own =>
    rw [ho] at hG
    simp only [Bool.and_eq_true, decide_eq_true_eq] at hG
    unfold xfe at hf
    have h2 : xat M.2 pc = some (some (ins, nx, a, b, hh)) := by
      cases hx : xat M.2 pc with
      | none => rw [hx] at hf; cases hf
      | some o =>
        cases o with
        | none => rw [hx] at hf; cases hf
        | some e => rw [hx] at hf; simp only [Option.some.injEq] at hf; rw [hf]
    have h3 := xokL_at hG.1 h2
    simp only [Nat.zero_add, xok1, Bool.and_eq_true, decide_eq_true_eq] at h3
    rw [hG.2]
    exact ⟨h3.1.1.1, h3.1.1.2, h3.1.2, h3.2⟩
theorem xGd_name {M : xM} (hG : xGd M = true) : plainName M.1.2.1.cls = true := by
  unfold xGd at hG
  rw [Bool.and_eq_true] at hG
  exact hG.2
set_option maxRecDepth 100000 in
theorem xHs_eq : xHt.map (fun q => q.1) = xHs := rfl
theorem xat_map {α β : Type} (f : α → β) : ∀ {l : List α} {k : Nat} {b : β}, xat (l.map f) k = some b → ∃ a, a ∈ l ∧ f a = b
  | [], k, b, h => by simp [xat] at h
  | a :: t, 0, b, h => by simp only [List.map_cons, xat, Option.some.injEq] at h; exact ⟨a, List.mem_cons_self, h⟩
  | a :: t, k + 1, b, h => by
    simp only [List.map_cons, xat] at h
    obtain ⟨c, h1, h2⟩ := xat_map f h
    exact ⟨c, List.mem_cons_of_mem _ h1, h2⟩
end
section
set_option maxRecDepth 100000 in
theorem xqX0_init : xhc (xhX0_init, 78, 57, 77, 0) := rfl
set_option maxRecDepth 100000 in
theorem xqX0_has : xhc (xhX0_has, 253, 57, 251, 252) := rfl
set_option maxRecDepth 100000 in
theorem xqX5_isPoint : xhc (xhX5_isPoint, 260, 56, 259, 0) := rfl
set_option maxRecDepth 100000 in
theorem xqX0_add : xhc (xhX0_add, 257, 57, 255, 256) := rfl
set_option maxRecDepth 100000 in
theorem xqX0_number : xhc (xhX0_number, 353, 57, 351, 352) := rfl
set_option maxRecDepth 100000 in
theorem xqX0_sum : xhc (xhX0_sum, 294, 57, 292, 293) := rfl
set_option maxRecDepth 100000 in
theorem xqX0_swing : xhc (xhX0_swing, 280, 57, 278, 279) := rfl
set_option maxRecDepth 100000 in
theorem xqX0_spread : xhc (xhX0_spread, 314, 57, 312, 313) := rfl
set_option maxRecDepth 100000 in
theorem xqX0_distance : xhc (xhX0_distance, 537, 57, 535, 536) := rfl
set_option maxRecDepth 100000 in
theorem xqX0_box : xhc (xhX0_box, 348, 57, 346, 347) := rfl
set_option maxRecDepth 100000 in
theorem xqX3_init : xhc (xhX3_init, 108, 59, 107, 0) := rfl
set_option maxRecDepth 100000 in
theorem xqX1_init : xhc (xhX1_init, 101, 58, 100, 0) := rfl
set_option maxRecDepth 100000 in
theorem xqX1_hasFace : xhc (xhX1_hasFace, 389, 58, 387, 388) := rfl
set_option maxRecDepth 100000 in
theorem xqX1_isCorner : xhc (xhX1_isCorner, 441, 58, 439, 440) := rfl
set_option maxRecDepth 100000 in
theorem xqX1_isKnown : xhc (xhX1_isKnown, 272, 58, 271, 1) := rfl
set_option maxRecDepth 100000 in
theorem xqX5_divisor : xhc (xhX5_divisor, 283, 56, 282, 0) := rfl
set_option maxRecDepth 100000 in
theorem xqX3_look : xhc (xhX3_look, 290, 59, 288, 289) := rfl
set_option maxRecDepth 100000 in
theorem xqX3_sidesTaken : xhc (xhX3_sidesTaken, 298, 59, 297, 2) := rfl
set_option maxRecDepth 100000 in
theorem xqX3_turnOutward : xhc (xhX3_turnOutward, 302, 59, 301, 3) := rfl
set_option maxRecDepth 100000 in
theorem xqX3_face : xhc (xhX3_face, 276, 59, 274, 275) := rfl
set_option maxRecDepth 100000 in
theorem xqJ6_numberOfTrailingZeros_0f7a4 : xhc (xhJ6_numberOfTrailingZeros_0f7a4, 309, 64, 308, 0) := rfl
set_option maxRecDepth 100000 in
theorem xqX3_rim : xhc (xhX3_rim, 306, 59, 304, 305) := rfl
set_option maxRecDepth 100000 in
theorem xqX3_following : xhc (xhX3_following, 322, 59, 321, 4) := rfl
set_option maxRecDepth 100000 in
theorem xqX3_trace : xhc (xhX3_trace, 318, 59, 316, 317) := rfl
set_option maxRecDepth 100000 in
theorem xqX3_leads : xhc (xhX3_leads, 331, 59, 329, 330) := rfl
set_option maxRecDepth 100000 in
theorem xqX1_settle : xhc (xhX1_settle, 327, 58, 326, 5) := rfl
set_option maxRecDepth 100000 in
theorem xqX1_tryFace : xhc (xhX1_tryFace, 268, 58, 267, 0) := rfl
set_option maxRecDepth 100000 in
theorem xqX1_join : xhc (xhX1_join, 335, 58, 334, 6) := rfl
set_option maxRecDepth 100000 in
theorem xqX1_weighOne : xhc (xhX1_weighOne, 344, 58, 343, 8) := rfl
set_option maxRecDepth 100000 in
theorem xqX1_weigh : xhc (xhX1_weigh, 340, 58, 339, 7) := rfl
set_option maxRecDepth 100000 in
theorem xqX1_build : xhc (xhX1_build, 264, 58, 262, 263) := rfl
set_option maxRecDepth 100000 in
theorem xqX1_place : xhc (xhX1_place, 426, 58, 424, 425) := rfl
set_option maxRecDepth 100000 in
theorem xqX1_greatest : xhc (xhX1_greatest, 483, 58, 481, 482) := rfl
set_option maxRecDepth 100000 in
theorem xqX1_cornersAt : xhc (xhX1_cornersAt, 493, 58, 491, 492) := rfl
set_option maxRecDepth 100000 in
theorem xqX1_besideAny : xhc (xhX1_besideAny, 506, 58, 505, 14) := rfl
set_option maxRecDepth 100000 in
theorem xqX1_steps : xhc (xhX1_steps, 502, 58, 500, 501) := rfl
set_option maxRecDepth 100000 in
theorem xqX2_init : xhc (xhX2_init, 209, 61, 208, 0) := rfl
set_option maxRecDepth 100000 in
theorem xqX2_image : xhc (xhX2_image, 549, 61, 547, 548) := rfl
set_option maxRecDepth 100000 in
theorem xqX2_keep : xhc (xhX2_keep, 527, 61, 526, 17) := rfl
set_option maxRecDepth 100000 in
theorem xqX2_fits : xhc (xhX2_fits, 533, 61, 532, 18) := rfl
set_option maxRecDepth 100000 in
theorem xqX2_extend : xhc (xhX2_extend, 522, 61, 521, 16) := rfl
set_option maxRecDepth 100000 in
theorem xqX2_list : xhc (xhX2_list, 518, 61, 516, 517) := rfl
set_option maxRecDepth 100000 in
theorem xqX2_keepsHands : xhc (xhX2_keepsHands, 557, 61, 555, 556) := rfl
set_option maxRecDepth 100000 in
theorem xqX2_ringLength : xhc (xhX2_ringLength, 572, 61, 571, 20) := rfl
set_option maxRecDepth 100000 in
theorem xqX2_period : xhc (xhX2_period, 568, 61, 566, 567) := rfl
set_option maxRecDepth 100000 in
theorem xqX4_init : xhc (xhX4_init, 195, 60, 194, 0) := rfl
set_option maxRecDepth 100000 in
theorem xqX4_number : xhc (xhX4_number, 459, 60, 457, 458) := rfl
set_option maxRecDepth 100000 in
theorem xqX4_leads : xhc (xhX4_leads, 455, 60, 454, 13) := rfl
set_option maxRecDepth 100000 in
theorem xqX4_insert : xhc (xhX4_insert, 451, 60, 450, 12) := rfl
set_option maxRecDepth 100000 in
theorem xqX4_mix : xhc (xhX4_mix, 446, 60, 445, 11) := rfl
set_option maxRecDepth 100000 in
theorem xqX4_slice : xhc (xhX4_slice, 437, 60, 435, 436) := rfl
set_option maxRecDepth 100000 in
theorem xqX5_init : xhc (xhX5_init, 70, 56, 69, 0) := rfl
set_option maxRecDepth 100000 in
theorem xqX5_within : xhc (xhX5_within, 249, 56, 248, 0) := rfl
set_option maxRecDepth 100000 in
theorem xqX5_forget : xhc (xhX5_forget, 357, 56, 356, 9) := rfl
set_option maxRecDepth 100000 in
theorem xqX5_point : xhc (xhX5_point, 246, 56, 244, 245) := rfl
set_option maxRecDepth 100000 in
theorem xqX5_clear : xhc (xhX5_clear, 361, 56, 359, 360) := rfl
set_option maxRecDepth 100000 in
theorem xqX5_stands : xhc (xhX5_stands, 369, 56, 368, 10) := rfl
set_option maxRecDepth 100000 in
theorem xqX5_flat : xhc (xhX5_flat, 365, 56, 363, 364) := rfl
set_option maxRecDepth 100000 in
theorem xqX5_corners : xhc (xhX5_corners, 373, 56, 371, 372) := rfl
set_option maxRecDepth 100000 in
theorem xqX5_edges : xhc (xhX5_edges, 377, 56, 375, 376) := rfl
set_option maxRecDepth 100000 in
theorem xqX5_faces : xhc (xhX5_faces, 381, 56, 379, 380) := rfl
set_option maxRecDepth 100000 in
theorem xqX5_size : xhc (xhX5_size, 385, 56, 383, 384) := rfl
set_option maxRecDepth 100000 in
theorem xqX5_at : xhc (xhX5_at, 393, 56, 391, 392) := rfl
set_option maxRecDepth 100000 in
theorem xqX5_normal : xhc (xhX5_normal, 397, 56, 395, 396) := rfl
set_option maxRecDepth 100000 in
theorem xqX5_volume : xhc (xhX5_volume, 402, 56, 400, 401) := rfl
set_option maxRecDepth 100000 in
theorem xqX5_isAxis : xhc (xhX5_isAxis, 409, 56, 408, 0) := rfl
set_option maxRecDepth 100000 in
theorem xqX5_isPart : xhc (xhX5_isPart, 412, 56, 411, 0) := rfl
set_option maxRecDepth 100000 in
theorem xqX5_fraction : xhc (xhX5_fraction, 416, 56, 415, 0) := rfl
set_option maxRecDepth 100000 in
theorem xqX5_middle : xhc (xhX5_middle, 406, 56, 404, 405) := rfl
set_option maxRecDepth 100000 in
theorem xqX5_where : xhc (xhX5_where, 421, 56, 419, 420) := rfl
set_option maxRecDepth 100000 in
theorem xqX5_isDirection : xhc (xhX5_isDirection, 433, 56, 432, 0) := rfl
set_option maxRecDepth 100000 in
theorem xqX5_cut : xhc (xhX5_cut, 430, 56, 428, 429) := rfl
set_option maxRecDepth 100000 in
theorem xqX5_cutAt : xhc (xhX5_cutAt, 467, 56, 465, 466) := rfl
set_option maxRecDepth 100000 in
theorem xqX5_shadow : xhc (xhX5_shadow, 472, 56, 470, 471) := rfl
set_option maxRecDepth 100000 in
theorem xqX5_far : xhc (xhX5_far, 479, 56, 477, 478) := rfl
set_option maxRecDepth 100000 in
theorem xqX5_way : xhc (xhX5_way, 497, 56, 495, 496) := rfl
set_option maxRecDepth 100000 in
theorem xqX5_listed : xhc (xhX5_listed, 514, 56, 513, 15) := rfl
set_option maxRecDepth 100000 in
theorem xqX5_symmetries : xhc (xhX5_symmetries, 510, 56, 508, 509) := rfl
set_option maxRecDepth 100000 in
theorem xqX5_isSymmetry : xhc (xhX5_isSymmetry, 545, 56, 544, 19) := rfl
set_option maxRecDepth 100000 in
theorem xqX5_symmetry : xhc (xhX5_symmetry, 541, 56, 539, 540) := rfl
set_option maxRecDepth 100000 in
theorem xqX5_turn : xhc (xhX5_turn, 553, 56, 551, 552) := rfl
set_option maxRecDepth 100000 in
theorem xqX5_order : xhc (xhX5_order, 564, 56, 562, 563) := rfl
set_option maxRecDepth 100000 in
theorem xqX5_regular : xhc (xhX5_regular, 577, 56, 575, 576) := rfl
set_option maxRecDepth 100000 in
theorem xqX6_init : xhc (xhX6_init, 582, 62, 581, 0) := rfl
set_option maxRecDepth 100000 in
theorem xqX6_in : xhc (xhX6_in, 699, 62, 698, 0) := rfl
set_option maxRecDepth 100000 in
theorem xqX6_point : xhc (xhX6_point, 696, 62, 694, 695) := rfl
set_option maxRecDepth 100000 in
theorem xqX6_clear : xhc (xhX6_clear, 703, 62, 701, 702) := rfl
set_option maxRecDepth 100000 in
theorem xqX6_cross : xhc (xhX6_cross, 723, 62, 722, 24) := rfl
set_option maxRecDepth 100000 in
theorem xqX6_height : xhc (xhX6_height, 727, 62, 726, 25) := rfl
set_option maxRecDepth 100000 in
theorem xqX6_divisor : xhc (xhX6_divisor, 730, 62, 729, 0) := rfl
set_option maxRecDepth 100000 in
theorem xqX6_tryPlane : xhc (xhX6_tryPlane, 719, 62, 718, 23) := rfl
set_option maxRecDepth 100000 in
theorem xqX6_facesOf : xhc (xhX6_facesOf, 734, 62, 733, 26) := rfl
set_option maxRecDepth 100000 in
theorem xqX6_isNext : xhc (xhX6_isNext, 742, 62, 741, 28) := rfl
set_option maxRecDepth 100000 in
theorem xqX6_layRound : xhc (xhX6_layRound, 738, 62, 737, 27) := rfl
set_option maxRecDepth 100000 in
theorem xqX6_isBefore : xhc (xhX6_isBefore, 746, 62, 745, 29) := rfl
set_option maxRecDepth 100000 in
theorem xqX6_build : xhc (xhX6_build, 715, 62, 714, 22) := rfl
set_option maxRecDepth 100000 in
theorem xqX6_noSolid : xhc (xhX6_noSolid, 711, 62, 710, 21) := rfl
set_option maxRecDepth 100000 in
theorem xqX6_flat : xhc (xhX6_flat, 707, 62, 705, 706) := rfl
set_option maxRecDepth 100000 in
theorem xqX6_isCorner : xhc (xhX6_isCorner, 762, 62, 761, 31) := rfl
set_option maxRecDepth 100000 in
theorem xqX6_isEdge : xhc (xhX6_isEdge, 758, 62, 757, 30) := rfl
set_option maxRecDepth 100000 in
theorem xqX6_corners : xhc (xhX6_corners, 750, 62, 748, 749) := rfl
set_option maxRecDepth 100000 in
theorem xqX6_edges : xhc (xhX6_edges, 754, 62, 752, 753) := rfl
set_option maxRecDepth 100000 in
theorem xqX6_faces : xhc (xhX6_faces, 766, 62, 764, 765) := rfl
set_option maxRecDepth 100000 in
theorem xqX6_size : xhc (xhX6_size, 770, 62, 768, 769) := rfl
set_option maxRecDepth 100000 in
theorem xqX6_at : xhc (xhX6_at, 774, 62, 772, 773) := rfl
set_option maxRecDepth 100000 in
theorem xqX6_normal : xhc (xhX6_normal, 778, 62, 776, 777) := rfl
set_option maxRecDepth 100000 in
theorem xqX6_tetrahedron : xhc (xhX6_tetrahedron, 791, 62, 790, 33) := rfl
set_option maxRecDepth 100000 in
theorem xqX6_weigh : xhc (xhX6_weigh, 787, 62, 786, 32) := rfl
set_option maxRecDepth 100000 in
theorem xqX6_volume : xhc (xhX6_volume, 783, 62, 781, 782) := rfl
set_option maxRecDepth 100000 in
theorem xqX6_part : xhc (xhX6_part, 799, 62, 798, 0) := rfl
set_option maxRecDepth 100000 in
theorem xqX6_middle : xhc (xhX6_middle, 795, 62, 793, 794) := rfl
set_option maxRecDepth 100000 in
theorem xqX6_where : xhc (xhX6_where, 804, 62, 802, 803) := rfl
set_option maxRecDepth 100000 in
theorem xqX6_isDirection : xhc (xhX6_isDirection, 813, 62, 812, 0) := rfl
set_option maxRecDepth 100000 in
theorem xqX6_lies : xhc (xhX6_lies, 817, 62, 816, 34) := rfl
set_option maxRecDepth 100000 in
theorem xqX6_compare : xhc (xhX6_compare, 825, 62, 824, 36) := rfl
set_option maxRecDepth 100000 in
theorem xqX6_swap : xhc (xhX6_swap, 829, 62, 828, 37) := rfl
set_option maxRecDepth 100000 in
theorem xqX6_addCut : xhc (xhX6_addCut, 821, 62, 820, 35) := rfl
set_option maxRecDepth 100000 in
theorem xqX6_cut : xhc (xhX6_cut, 810, 62, 808, 809) := rfl
set_option maxRecDepth 100000 in
theorem xqX6_cutAt : xhc (xhX6_cutAt, 833, 62, 831, 832) := rfl
set_option maxRecDepth 100000 in
theorem xqX6_side : xhc (xhX6_side, 853, 62, 852, 41) := rfl
set_option maxRecDepth 100000 in
theorem xqX6_isSame : xhc (xhX6_isSame, 845, 62, 844, 39) := rfl
set_option maxRecDepth 100000 in
theorem xqX6_isBetween : xhc (xhX6_isBetween, 849, 62, 848, 40) := rfl
set_option maxRecDepth 100000 in
theorem xqX6_isInTriangle : xhc (xhX6_isInTriangle, 857, 62, 856, 42) := rfl
set_option maxRecDepth 100000 in
theorem xqX6_stands : xhc (xhX6_stands, 841, 62, 840, 38) := rfl
set_option maxRecDepth 100000 in
theorem xqX6_shadow : xhc (xhX6_shadow, 837, 62, 835, 836) := rfl
set_option maxRecDepth 100000 in
theorem xqX6_far : xhc (xhX6_far, 861, 62, 859, 860) := rfl
set_option maxRecDepth 100000 in
theorem xqX6_way : xhc (xhX6_way, 865, 62, 863, 864) := rfl
set_option maxRecDepth 100000 in
theorem xqX6_apart : xhc (xhX6_apart, 893, 62, 892, 48) := rfl
set_option maxRecDepth 100000 in
theorem xqX6_sense : xhc (xhX6_sense, 881, 62, 880, 45) := rfl
set_option maxRecDepth 100000 in
theorem xqX6_findBase : xhc (xhX6_findBase, 877, 62, 876, 44) := rfl
set_option maxRecDepth 100000 in
theorem xqX6_fits : xhc (xhX6_fits, 889, 62, 888, 47) := rfl
set_option maxRecDepth 100000 in
theorem xqX6_imageOf : xhc (xhX6_imageOf, 901, 62, 900, 50) := rfl
set_option maxRecDepth 100000 in
theorem xqX6_addTurn : xhc (xhX6_addTurn, 897, 62, 896, 49) := rfl
set_option maxRecDepth 100000 in
theorem xqX6_tryGoals : xhc (xhX6_tryGoals, 885, 62, 884, 46) := rfl
set_option maxRecDepth 100000 in
theorem xqX6_isEarlier : xhc (xhX6_isEarlier, 905, 62, 904, 51) := rfl
set_option maxRecDepth 100000 in
theorem xqX6_buildTurns : xhc (xhX6_buildTurns, 873, 62, 872, 43) := rfl
set_option maxRecDepth 100000 in
theorem xqX6_symmetries : xhc (xhX6_symmetries, 869, 62, 867, 868) := rfl
set_option maxRecDepth 100000 in
theorem xqX6_noTurn : xhc (xhX6_noTurn, 913, 62, 912, 52) := rfl
set_option maxRecDepth 100000 in
theorem xqX6_symmetry : xhc (xhX6_symmetry, 909, 62, 907, 908) := rfl
set_option maxRecDepth 100000 in
theorem xqX6_turn : xhc (xhX6_turn, 917, 62, 915, 916) := rfl
set_option maxRecDepth 100000 in
theorem xqX6_order : xhc (xhX6_order, 921, 62, 919, 920) := rfl
set_option maxRecDepth 100000 in
theorem xqX6_imageBits : xhc (xhX6_imageBits, 933, 62, 932, 54) := rfl
set_option maxRecDepth 100000 in
theorem xqX6_isTaken : xhc (xhX6_isTaken, 929, 62, 928, 53) := rfl
set_option maxRecDepth 100000 in
theorem xqX6_regular : xhc (xhX6_regular, 925, 62, 923, 924) := rfl
set_option maxRecDepth 100000 in
theorem xqJ9_abs_067f4 : xhc (xhJ9_abs_067f4, 286, 63, 285, 0) := rfl
set_option maxRecDepth 100000 in
theorem xqJ9_max_f86c9 : xhc (xhJ9_max_f86c9, 489, 63, 488, 0) := rfl
theorem xHt_code : ∀ q ∈ xHt, xhc q := List.forall_mem_cons.mpr ⟨xqX0_init, List.forall_mem_cons.mpr ⟨xqX0_has, List.forall_mem_cons.mpr ⟨xqX5_isPoint, List.forall_mem_cons.mpr ⟨xqX0_add, List.forall_mem_cons.mpr ⟨xqX0_number, List.forall_mem_cons.mpr ⟨xqX0_sum, List.forall_mem_cons.mpr ⟨xqX0_swing, List.forall_mem_cons.mpr ⟨xqX0_spread, List.forall_mem_cons.mpr ⟨xqX0_distance, List.forall_mem_cons.mpr ⟨xqX0_box, List.forall_mem_cons.mpr ⟨xqX3_init, List.forall_mem_cons.mpr ⟨xqX1_init, List.forall_mem_cons.mpr ⟨xqX1_hasFace, List.forall_mem_cons.mpr ⟨xqX1_isCorner, List.forall_mem_cons.mpr ⟨xqX1_isKnown, List.forall_mem_cons.mpr ⟨xqX5_divisor, List.forall_mem_cons.mpr ⟨xqX3_look, List.forall_mem_cons.mpr ⟨xqX3_sidesTaken, List.forall_mem_cons.mpr ⟨xqX3_turnOutward, List.forall_mem_cons.mpr ⟨xqX3_face, List.forall_mem_cons.mpr ⟨xqJ6_numberOfTrailingZeros_0f7a4, List.forall_mem_cons.mpr ⟨xqX3_rim, List.forall_mem_cons.mpr ⟨xqX3_following, List.forall_mem_cons.mpr ⟨xqX3_trace, List.forall_mem_cons.mpr ⟨xqX3_leads, List.forall_mem_cons.mpr ⟨xqX1_settle, List.forall_mem_cons.mpr ⟨xqX1_tryFace, List.forall_mem_cons.mpr ⟨xqX1_join, List.forall_mem_cons.mpr ⟨xqX1_weighOne, List.forall_mem_cons.mpr ⟨xqX1_weigh, List.forall_mem_cons.mpr ⟨xqX1_build, List.forall_mem_cons.mpr ⟨xqX1_place, List.forall_mem_cons.mpr ⟨xqX1_greatest, List.forall_mem_cons.mpr ⟨xqX1_cornersAt, List.forall_mem_cons.mpr ⟨xqX1_besideAny, List.forall_mem_cons.mpr ⟨xqX1_steps, List.forall_mem_cons.mpr ⟨xqX2_init, List.forall_mem_cons.mpr ⟨xqX2_image, List.forall_mem_cons.mpr ⟨xqX2_keep, List.forall_mem_cons.mpr ⟨xqX2_fits, List.forall_mem_cons.mpr ⟨xqX2_extend, List.forall_mem_cons.mpr ⟨xqX2_list, List.forall_mem_cons.mpr ⟨xqX2_keepsHands, List.forall_mem_cons.mpr ⟨xqX2_ringLength, List.forall_mem_cons.mpr ⟨xqX2_period, List.forall_mem_cons.mpr ⟨xqX4_init, List.forall_mem_cons.mpr ⟨xqX4_number, List.forall_mem_cons.mpr ⟨xqX4_leads, List.forall_mem_cons.mpr ⟨xqX4_insert, List.forall_mem_cons.mpr ⟨xqX4_mix, List.forall_mem_cons.mpr ⟨xqX4_slice, List.forall_mem_cons.mpr ⟨xqX5_init, List.forall_mem_cons.mpr ⟨xqX5_within, List.forall_mem_cons.mpr ⟨xqX5_forget, List.forall_mem_cons.mpr ⟨xqX5_point, List.forall_mem_cons.mpr ⟨xqX5_clear, List.forall_mem_cons.mpr ⟨xqX5_stands, List.forall_mem_cons.mpr ⟨xqX5_flat, List.forall_mem_cons.mpr ⟨xqX5_corners, List.forall_mem_cons.mpr ⟨xqX5_edges, List.forall_mem_cons.mpr ⟨xqX5_faces, List.forall_mem_cons.mpr ⟨xqX5_size, List.forall_mem_cons.mpr ⟨xqX5_at, List.forall_mem_cons.mpr ⟨xqX5_normal, List.forall_mem_cons.mpr ⟨xqX5_volume, List.forall_mem_cons.mpr ⟨xqX5_isAxis, List.forall_mem_cons.mpr ⟨xqX5_isPart, List.forall_mem_cons.mpr ⟨xqX5_fraction, List.forall_mem_cons.mpr ⟨xqX5_middle, List.forall_mem_cons.mpr ⟨xqX5_where, List.forall_mem_cons.mpr ⟨xqX5_isDirection, List.forall_mem_cons.mpr ⟨xqX5_cut, List.forall_mem_cons.mpr ⟨xqX5_cutAt, List.forall_mem_cons.mpr ⟨xqX5_shadow, List.forall_mem_cons.mpr ⟨xqX5_far, List.forall_mem_cons.mpr ⟨xqX5_way, List.forall_mem_cons.mpr ⟨xqX5_listed, List.forall_mem_cons.mpr ⟨xqX5_symmetries, List.forall_mem_cons.mpr ⟨xqX5_isSymmetry, List.forall_mem_cons.mpr ⟨xqX5_symmetry, List.forall_mem_cons.mpr ⟨xqX5_turn, List.forall_mem_cons.mpr ⟨xqX5_order, List.forall_mem_cons.mpr ⟨xqX5_regular, List.forall_mem_cons.mpr ⟨xqX6_init, List.forall_mem_cons.mpr ⟨xqX6_in, List.forall_mem_cons.mpr ⟨xqX6_point, List.forall_mem_cons.mpr ⟨xqX6_clear, List.forall_mem_cons.mpr ⟨xqX6_cross, List.forall_mem_cons.mpr ⟨xqX6_height, List.forall_mem_cons.mpr ⟨xqX6_divisor, List.forall_mem_cons.mpr ⟨xqX6_tryPlane, List.forall_mem_cons.mpr ⟨xqX6_facesOf, List.forall_mem_cons.mpr ⟨xqX6_isNext, List.forall_mem_cons.mpr ⟨xqX6_layRound, List.forall_mem_cons.mpr ⟨xqX6_isBefore, List.forall_mem_cons.mpr ⟨xqX6_build, List.forall_mem_cons.mpr ⟨xqX6_noSolid, List.forall_mem_cons.mpr ⟨xqX6_flat, List.forall_mem_cons.mpr ⟨xqX6_isCorner, List.forall_mem_cons.mpr ⟨xqX6_isEdge, List.forall_mem_cons.mpr ⟨xqX6_corners, List.forall_mem_cons.mpr ⟨xqX6_edges, List.forall_mem_cons.mpr ⟨xqX6_faces, List.forall_mem_cons.mpr ⟨xqX6_size, List.forall_mem_cons.mpr ⟨xqX6_at, List.forall_mem_cons.mpr ⟨xqX6_normal, List.forall_mem_cons.mpr ⟨xqX6_tetrahedron, List.forall_mem_cons.mpr ⟨xqX6_weigh, List.forall_mem_cons.mpr ⟨xqX6_volume, List.forall_mem_cons.mpr ⟨xqX6_part, List.forall_mem_cons.mpr ⟨xqX6_middle, List.forall_mem_cons.mpr ⟨xqX6_where, List.forall_mem_cons.mpr ⟨xqX6_isDirection, List.forall_mem_cons.mpr ⟨xqX6_lies, List.forall_mem_cons.mpr ⟨xqX6_compare, List.forall_mem_cons.mpr ⟨xqX6_swap, List.forall_mem_cons.mpr ⟨xqX6_addCut, List.forall_mem_cons.mpr ⟨xqX6_cut, List.forall_mem_cons.mpr ⟨xqX6_cutAt, List.forall_mem_cons.mpr ⟨xqX6_side, List.forall_mem_cons.mpr ⟨xqX6_isSame, List.forall_mem_cons.mpr ⟨xqX6_isBetween, List.forall_mem_cons.mpr ⟨xqX6_isInTriangle, List.forall_mem_cons.mpr ⟨xqX6_stands, List.forall_mem_cons.mpr ⟨xqX6_shadow, List.forall_mem_cons.mpr ⟨xqX6_far, List.forall_mem_cons.mpr ⟨xqX6_way, List.forall_mem_cons.mpr ⟨xqX6_apart, List.forall_mem_cons.mpr ⟨xqX6_sense, List.forall_mem_cons.mpr ⟨xqX6_findBase, List.forall_mem_cons.mpr ⟨xqX6_fits, List.forall_mem_cons.mpr ⟨xqX6_imageOf, List.forall_mem_cons.mpr ⟨xqX6_addTurn, List.forall_mem_cons.mpr ⟨xqX6_tryGoals, List.forall_mem_cons.mpr ⟨xqX6_isEarlier, List.forall_mem_cons.mpr ⟨xqX6_buildTurns, List.forall_mem_cons.mpr ⟨xqX6_symmetries, List.forall_mem_cons.mpr ⟨xqX6_noTurn, List.forall_mem_cons.mpr ⟨xqX6_symmetry, List.forall_mem_cons.mpr ⟨xqX6_turn, List.forall_mem_cons.mpr ⟨xqX6_order, List.forall_mem_cons.mpr ⟨xqX6_imageBits, List.forall_mem_cons.mpr ⟨xqX6_isTaken, List.forall_mem_cons.mpr ⟨xqX6_regular, List.forall_mem_cons.mpr ⟨xqJ9_abs_067f4, List.forall_mem_cons.mpr ⟨xqJ9_max_f86c9, fun _ h => absurd h List.not_mem_nil⟩⟩⟩⟩⟩⟩⟩⟩⟩⟩⟩⟩⟩⟩⟩⟩⟩⟩⟩⟩⟩⟩⟩⟩⟩⟩⟩⟩⟩⟩⟩⟩⟩⟩⟩⟩⟩⟩⟩⟩⟩⟩⟩⟩⟩⟩⟩⟩⟩⟩⟩⟩⟩⟩⟩⟩⟩⟩⟩⟩⟩⟩⟩⟩⟩⟩⟩⟩⟩⟩⟩⟩⟩⟩⟩⟩⟩⟩⟩⟩⟩⟩⟩⟩⟩⟩⟩⟩⟩⟩⟩⟩⟩⟩⟩⟩⟩⟩⟩⟩⟩⟩⟩⟩⟩⟩⟩⟩⟩⟩⟩⟩⟩⟩⟩⟩⟩⟩⟩⟩⟩⟩⟩⟩⟩⟩⟩⟩⟩⟩⟩⟩⟩⟩⟩⟩⟩⟩⟩⟩⟩⟩⟩⟩⟩⟩
set_option maxRecDepth 100000 in
theorem xHt_ok : ∀ q ∈ xHt, xhd q = true := by decide +kernel
end
section
set_option maxRecDepth 100000 in
theorem xgX0_init : xGd xmX0_init = true := by decide +kernel
set_option maxRecDepth 100000 in
theorem xgX0_has : xGd xmX0_has = true := by decide +kernel
set_option maxRecDepth 100000 in
theorem xgX5_isPoint : xGd xmX5_isPoint = true := by decide +kernel
set_option maxRecDepth 100000 in
theorem xgX0_add : xGd xmX0_add = true := by decide +kernel
set_option maxRecDepth 100000 in
theorem xgX0_number : xGd xmX0_number = true := by decide +kernel
set_option maxRecDepth 100000 in
theorem xgX0_sum : xGd xmX0_sum = true := by decide +kernel
set_option maxRecDepth 100000 in
theorem xgX0_swing : xGd xmX0_swing = true := by decide +kernel
set_option maxRecDepth 100000 in
theorem xgX0_spread : xGd xmX0_spread = true := by decide +kernel
set_option maxRecDepth 100000 in
theorem xgX0_distance : xGd xmX0_distance = true := by decide +kernel
set_option maxRecDepth 100000 in
theorem xgX0_box : xGd xmX0_box = true := by decide +kernel
set_option maxRecDepth 100000 in
theorem xgX3_init : xGd xmX3_init = true := by decide +kernel
set_option maxRecDepth 100000 in
theorem xgX1_init : xGd xmX1_init = true := by decide +kernel
set_option maxRecDepth 100000 in
theorem xgX1_hasFace : xGd xmX1_hasFace = true := by decide +kernel
set_option maxRecDepth 100000 in
theorem xgX1_isCorner : xGd xmX1_isCorner = true := by decide +kernel
set_option maxRecDepth 100000 in
theorem xgX1_isKnown : xGd xmX1_isKnown = true := by decide +kernel
set_option maxRecDepth 100000 in
theorem xgX5_divisor : xGd xmX5_divisor = true := by decide +kernel
set_option maxRecDepth 100000 in
theorem xgX3_look : xGd xmX3_look = true := by decide +kernel
set_option maxRecDepth 100000 in
theorem xgX3_sidesTaken : xGd xmX3_sidesTaken = true := by decide +kernel
set_option maxRecDepth 100000 in
theorem xgX3_turnOutward : xGd xmX3_turnOutward = true := by decide +kernel
set_option maxRecDepth 100000 in
theorem xgX3_face : xGd xmX3_face = true := by decide +kernel
set_option maxRecDepth 100000 in
theorem xgJ6_numberOfTrailingZeros_0f7a4 : xGd xmJ6_numberOfTrailingZeros_0f7a4 = true := by decide +kernel
set_option maxRecDepth 100000 in
theorem xgX3_rim : xGd xmX3_rim = true := by decide +kernel
set_option maxRecDepth 100000 in
theorem xgX3_following : xGd xmX3_following = true := by decide +kernel
set_option maxRecDepth 100000 in
theorem xgX3_trace : xGd xmX3_trace = true := by decide +kernel
set_option maxRecDepth 100000 in
theorem xgX3_leads : xGd xmX3_leads = true := by decide +kernel
set_option maxRecDepth 100000 in
theorem xgX1_settle : xGd xmX1_settle = true := by decide +kernel
set_option maxRecDepth 100000 in
theorem xgX1_tryFace : xGd xmX1_tryFace = true := by decide +kernel
set_option maxRecDepth 100000 in
theorem xgX1_join : xGd xmX1_join = true := by decide +kernel
set_option maxRecDepth 100000 in
theorem xgX1_weighOne : xGd xmX1_weighOne = true := by decide +kernel
set_option maxRecDepth 100000 in
theorem xgX1_weigh : xGd xmX1_weigh = true := by decide +kernel
set_option maxRecDepth 100000 in
theorem xgX1_build : xGd xmX1_build = true := by decide +kernel
set_option maxRecDepth 100000 in
theorem xgX1_place : xGd xmX1_place = true := by decide +kernel
set_option maxRecDepth 100000 in
theorem xgX1_greatest : xGd xmX1_greatest = true := by decide +kernel
set_option maxRecDepth 100000 in
theorem xgX1_cornersAt : xGd xmX1_cornersAt = true := by decide +kernel
set_option maxRecDepth 100000 in
theorem xgX1_besideAny : xGd xmX1_besideAny = true := by decide +kernel
set_option maxRecDepth 100000 in
theorem xgX1_steps : xGd xmX1_steps = true := by decide +kernel
set_option maxRecDepth 100000 in
theorem xgX2_init : xGd xmX2_init = true := by decide +kernel
end
section
set_option maxRecDepth 100000 in
theorem xgX2_image : xGd xmX2_image = true := by decide +kernel
set_option maxRecDepth 100000 in
theorem xgX2_keep : xGd xmX2_keep = true := by decide +kernel
set_option maxRecDepth 100000 in
theorem xgX2_fits : xGd xmX2_fits = true := by decide +kernel
set_option maxRecDepth 100000 in
theorem xgX2_extend : xGd xmX2_extend = true := by decide +kernel
set_option maxRecDepth 100000 in
theorem xgX2_list : xGd xmX2_list = true := by decide +kernel
set_option maxRecDepth 100000 in
theorem xgX2_keepsHands : xGd xmX2_keepsHands = true := by decide +kernel
set_option maxRecDepth 100000 in
theorem xgX2_ringLength : xGd xmX2_ringLength = true := by decide +kernel
set_option maxRecDepth 100000 in
theorem xgX2_period : xGd xmX2_period = true := by decide +kernel
set_option maxRecDepth 100000 in
theorem xgX4_init : xGd xmX4_init = true := by decide +kernel
set_option maxRecDepth 100000 in
theorem xgX4_number : xGd xmX4_number = true := by decide +kernel
set_option maxRecDepth 100000 in
theorem xgX4_leads : xGd xmX4_leads = true := by decide +kernel
set_option maxRecDepth 100000 in
theorem xgX4_insert : xGd xmX4_insert = true := by decide +kernel
set_option maxRecDepth 100000 in
theorem xgX4_mix : xGd xmX4_mix = true := by decide +kernel
set_option maxRecDepth 100000 in
theorem xgX4_slice : xGd xmX4_slice = true := by decide +kernel
set_option maxRecDepth 100000 in
theorem xgX5_init : xGd xmX5_init = true := by decide +kernel
set_option maxRecDepth 100000 in
theorem xgX5_within : xGd xmX5_within = true := by decide +kernel
set_option maxRecDepth 100000 in
theorem xgX5_forget : xGd xmX5_forget = true := by decide +kernel
set_option maxRecDepth 100000 in
theorem xgX5_point : xGd xmX5_point = true := by decide +kernel
set_option maxRecDepth 100000 in
theorem xgX5_clear : xGd xmX5_clear = true := by decide +kernel
set_option maxRecDepth 100000 in
theorem xgX5_stands : xGd xmX5_stands = true := by decide +kernel
set_option maxRecDepth 100000 in
theorem xgX5_flat : xGd xmX5_flat = true := by decide +kernel
set_option maxRecDepth 100000 in
theorem xgX5_corners : xGd xmX5_corners = true := by decide +kernel
set_option maxRecDepth 100000 in
theorem xgX5_edges : xGd xmX5_edges = true := by decide +kernel
set_option maxRecDepth 100000 in
theorem xgX5_faces : xGd xmX5_faces = true := by decide +kernel
set_option maxRecDepth 100000 in
theorem xgX5_size : xGd xmX5_size = true := by decide +kernel
set_option maxRecDepth 100000 in
theorem xgX5_at : xGd xmX5_at = true := by decide +kernel
set_option maxRecDepth 100000 in
theorem xgX5_normal : xGd xmX5_normal = true := by decide +kernel
set_option maxRecDepth 100000 in
theorem xgX5_volume : xGd xmX5_volume = true := by decide +kernel
set_option maxRecDepth 100000 in
theorem xgX5_isAxis : xGd xmX5_isAxis = true := by decide +kernel
set_option maxRecDepth 100000 in
theorem xgX5_isPart : xGd xmX5_isPart = true := by decide +kernel
set_option maxRecDepth 100000 in
theorem xgX5_fraction : xGd xmX5_fraction = true := by decide +kernel
set_option maxRecDepth 100000 in
theorem xgX5_middle : xGd xmX5_middle = true := by decide +kernel
set_option maxRecDepth 100000 in
theorem xgX5_where : xGd xmX5_where = true := by decide +kernel
set_option maxRecDepth 100000 in
theorem xgX5_isDirection : xGd xmX5_isDirection = true := by decide +kernel
set_option maxRecDepth 100000 in
theorem xgX5_cut : xGd xmX5_cut = true := by decide +kernel
set_option maxRecDepth 100000 in
theorem xgX5_cutAt : xGd xmX5_cutAt = true := by decide +kernel
set_option maxRecDepth 100000 in
theorem xgX5_shadow : xGd xmX5_shadow = true := by decide +kernel
end
section
set_option maxRecDepth 100000 in
theorem xgX5_far : xGd xmX5_far = true := by decide +kernel
set_option maxRecDepth 100000 in
theorem xgX5_way : xGd xmX5_way = true := by decide +kernel
set_option maxRecDepth 100000 in
theorem xgX5_listed : xGd xmX5_listed = true := by decide +kernel
set_option maxRecDepth 100000 in
theorem xgX5_symmetries : xGd xmX5_symmetries = true := by decide +kernel
set_option maxRecDepth 100000 in
theorem xgX5_isSymmetry : xGd xmX5_isSymmetry = true := by decide +kernel
set_option maxRecDepth 100000 in
theorem xgX5_symmetry : xGd xmX5_symmetry = true := by decide +kernel
set_option maxRecDepth 100000 in
theorem xgX5_turn : xGd xmX5_turn = true := by decide +kernel
set_option maxRecDepth 100000 in
theorem xgX5_order : xGd xmX5_order = true := by decide +kernel
set_option maxRecDepth 100000 in
theorem xgX5_regular : xGd xmX5_regular = true := by decide +kernel
set_option maxRecDepth 100000 in
theorem xgX6_init : xGd xmX6_init = true := by decide +kernel
set_option maxRecDepth 100000 in
theorem xgX6_in : xGd xmX6_in = true := by decide +kernel
set_option maxRecDepth 100000 in
theorem xgX6_point : xGd xmX6_point = true := by decide +kernel
set_option maxRecDepth 100000 in
theorem xgX6_clear : xGd xmX6_clear = true := by decide +kernel
set_option maxRecDepth 100000 in
theorem xgX6_cross : xGd xmX6_cross = true := by decide +kernel
set_option maxRecDepth 100000 in
theorem xgX6_height : xGd xmX6_height = true := by decide +kernel
set_option maxRecDepth 100000 in
theorem xgX6_divisor : xGd xmX6_divisor = true := by decide +kernel
set_option maxRecDepth 100000 in
theorem xgX6_tryPlane : xGd xmX6_tryPlane = true := by decide +kernel
set_option maxRecDepth 100000 in
theorem xgX6_facesOf : xGd xmX6_facesOf = true := by decide +kernel
set_option maxRecDepth 100000 in
theorem xgX6_isNext : xGd xmX6_isNext = true := by decide +kernel
set_option maxRecDepth 100000 in
theorem xgX6_layRound : xGd xmX6_layRound = true := by decide +kernel
set_option maxRecDepth 100000 in
theorem xgX6_isBefore : xGd xmX6_isBefore = true := by decide +kernel
set_option maxRecDepth 100000 in
theorem xgX6_build : xGd xmX6_build = true := by decide +kernel
set_option maxRecDepth 100000 in
theorem xgX6_noSolid : xGd xmX6_noSolid = true := by decide +kernel
set_option maxRecDepth 100000 in
theorem xgX6_flat : xGd xmX6_flat = true := by decide +kernel
set_option maxRecDepth 100000 in
theorem xgX6_isCorner : xGd xmX6_isCorner = true := by decide +kernel
set_option maxRecDepth 100000 in
theorem xgX6_isEdge : xGd xmX6_isEdge = true := by decide +kernel
set_option maxRecDepth 100000 in
theorem xgX6_corners : xGd xmX6_corners = true := by decide +kernel
set_option maxRecDepth 100000 in
theorem xgX6_edges : xGd xmX6_edges = true := by decide +kernel
set_option maxRecDepth 100000 in
theorem xgX6_faces : xGd xmX6_faces = true := by decide +kernel
set_option maxRecDepth 100000 in
theorem xgX6_size : xGd xmX6_size = true := by decide +kernel
set_option maxRecDepth 100000 in
theorem xgX6_at : xGd xmX6_at = true := by decide +kernel
set_option maxRecDepth 100000 in
theorem xgX6_normal : xGd xmX6_normal = true := by decide +kernel
set_option maxRecDepth 100000 in
theorem xgX6_tetrahedron : xGd xmX6_tetrahedron = true := by decide +kernel
set_option maxRecDepth 100000 in
theorem xgX6_weigh : xGd xmX6_weigh = true := by decide +kernel
set_option maxRecDepth 100000 in
theorem xgX6_volume : xGd xmX6_volume = true := by decide +kernel
set_option maxRecDepth 100000 in
theorem xgX6_part : xGd xmX6_part = true := by decide +kernel
set_option maxRecDepth 100000 in
theorem xgX6_middle : xGd xmX6_middle = true := by decide +kernel
end
section
set_option maxRecDepth 100000 in
theorem xgX6_where : xGd xmX6_where = true := by decide +kernel
set_option maxRecDepth 100000 in
theorem xgX6_isDirection : xGd xmX6_isDirection = true := by decide +kernel
set_option maxRecDepth 100000 in
theorem xgX6_lies : xGd xmX6_lies = true := by decide +kernel
set_option maxRecDepth 100000 in
theorem xgX6_compare : xGd xmX6_compare = true := by decide +kernel
set_option maxRecDepth 100000 in
theorem xgX6_swap : xGd xmX6_swap = true := by decide +kernel
set_option maxRecDepth 100000 in
theorem xgX6_addCut : xGd xmX6_addCut = true := by decide +kernel
set_option maxRecDepth 100000 in
theorem xgX6_cut : xGd xmX6_cut = true := by decide +kernel
set_option maxRecDepth 100000 in
theorem xgX6_cutAt : xGd xmX6_cutAt = true := by decide +kernel
set_option maxRecDepth 100000 in
theorem xgX6_side : xGd xmX6_side = true := by decide +kernel
set_option maxRecDepth 100000 in
theorem xgX6_isSame : xGd xmX6_isSame = true := by decide +kernel
set_option maxRecDepth 100000 in
theorem xgX6_isBetween : xGd xmX6_isBetween = true := by decide +kernel
set_option maxRecDepth 100000 in
theorem xgX6_isInTriangle : xGd xmX6_isInTriangle = true := by decide +kernel
set_option maxRecDepth 100000 in
theorem xgX6_stands : xGd xmX6_stands = true := by decide +kernel
set_option maxRecDepth 100000 in
theorem xgX6_shadow : xGd xmX6_shadow = true := by decide +kernel
set_option maxRecDepth 100000 in
theorem xgX6_far : xGd xmX6_far = true := by decide +kernel
set_option maxRecDepth 100000 in
theorem xgX6_way : xGd xmX6_way = true := by decide +kernel
set_option maxRecDepth 100000 in
theorem xgX6_apart : xGd xmX6_apart = true := by decide +kernel
set_option maxRecDepth 100000 in
theorem xgX6_sense : xGd xmX6_sense = true := by decide +kernel
set_option maxRecDepth 100000 in
theorem xgX6_findBase : xGd xmX6_findBase = true := by decide +kernel
set_option maxRecDepth 100000 in
theorem xgX6_fits : xGd xmX6_fits = true := by decide +kernel
set_option maxRecDepth 100000 in
theorem xgX6_imageOf : xGd xmX6_imageOf = true := by decide +kernel
set_option maxRecDepth 100000 in
theorem xgX6_addTurn : xGd xmX6_addTurn = true := by decide +kernel
set_option maxRecDepth 100000 in
theorem xgX6_tryGoals : xGd xmX6_tryGoals = true := by decide +kernel
set_option maxRecDepth 100000 in
theorem xgX6_isEarlier : xGd xmX6_isEarlier = true := by decide +kernel
set_option maxRecDepth 100000 in
theorem xgX6_buildTurns : xGd xmX6_buildTurns = true := by decide +kernel
set_option maxRecDepth 100000 in
theorem xgX6_symmetries : xGd xmX6_symmetries = true := by decide +kernel
set_option maxRecDepth 100000 in
theorem xgX6_noTurn : xGd xmX6_noTurn = true := by decide +kernel
set_option maxRecDepth 100000 in
theorem xgX6_symmetry : xGd xmX6_symmetry = true := by decide +kernel
set_option maxRecDepth 100000 in
theorem xgX6_turn : xGd xmX6_turn = true := by decide +kernel
set_option maxRecDepth 100000 in
theorem xgX6_order : xGd xmX6_order = true := by decide +kernel
set_option maxRecDepth 100000 in
theorem xgX6_imageBits : xGd xmX6_imageBits = true := by decide +kernel
set_option maxRecDepth 100000 in
theorem xgX6_isTaken : xGd xmX6_isTaken = true := by decide +kernel
set_option maxRecDepth 100000 in
theorem xgX6_regular : xGd xmX6_regular = true := by decide +kernel
end
section
/-! What a method's run at a place says: from every machine state that holds these cells and locals, the method comes to its end with Q -/
def xTy (g : xG) : List (ClassId × FieldType) := [(g.2.1.1, .int), (g.2.1.2.1, .long), (g.2.1.2.2, .object RX3)]
def xNw (U : State) : Prop := (∀ q ∈ xNs, va_Nw (.methodLinkNest q.1 q.2.1 q.2.2 RX5) U) ∧ va_AO RX3 U
def xR (d mc ms : Nat) : Room := { frames := d, cells := mc, slots := ms, locals := 80 * d }
abbrev xQt : Type := Option Value → Nat → xHp → Prop
def xQ (g : xG) (Q : xQt) : Array Value → State → Outcome → State → Prop :=
  fun _ st o t => (∃ (r : Option Value) (n : Nat) (h : xHp), o = .returned (r.map (xr g.2.2)) ∧ Q r n h ∧ xP g n h t.heap) ∧ va_F (xA g) st t
/-- depth, cells and slots of the method; cells and slots that are used -/
abbrev xB : Type := Nat × Nat × Nat × Nat × Nat
def xCx (M : xM) (g : xG) (p : Program) (s : State) (m : MethodId) (args : Array Value) (meth : Method) (c : Code) : Prop :=
  p.tables.exec = Jvm.exec ∧ c.code = M.1.2.2.1 ∧ c.maxLocals = M.1.2.2.2.1 ∧ s.vm.findClass M.1.2.1.cls = some m.cls ∧ (∀ w ∈ xWd, w.before args s = true) ∧ meth.sig.returnType = M.1.2.2.2.2.1 ∧ meth.locks = false ∧ meth.name = M.1.2.1.name ∧ va_K g.1 xcl (xTy g) s ∧ xNw s ∧ xGd M = true ∧ g.2.2 ≤ s.heap.size
def xT (M : xM) (B : xB) (pc : Nat) (l : xL) (st : List Value) (n : Nat) (h : xHp) (Q : xQt) : Prop :=
  ∀ (g : xG) (p : Program) (l0 : Launch) (e : Env) (s : State) (m : MethodId) (args : Array Value) (below : List Frame) (meth : Method) (c : Code) (H : Heap) (locs : List Loc) (ls : Array Slot),
    xCx M g p s m args meth c → xP g n h H → va_S (xA g) s.heap H locs → xLk g.2.2 ls M.1.2.2.2.1 l →
    W p l0 e (xR B.1 B.2.1 B.2.2.1) s m args below meth c H locs B.2.2.2.1 B.2.2.2.2 (MQ below (xQ g Q) args s B.2.1 B.2.2.1 (xA g)) (F0 m pc ls (st.map (xr g.2.2)))
theorem xT.mono {M : xM} {B : xB} {pc : Nat} {l : xL} {st : List Value} {n : Nat} {h : xHp} {Q Q' : xQt} (hT : xT M B pc l st n h Q) (hq : ∀ r n h, Q r n h → Q' r n h) : xT M B pc l st n h Q' := by
  intro g p l0 e s m args below meth c H locs ls C hP hS hL T hT0 X
  obtain ⟨t, a, o, b1, b2, ⟨⟨r, n', h', e1, e2, e3⟩, hF⟩, b4⟩ := hT g p l0 e s m args below meth c H locs ls C hP hS hL T hT0 X
  exact ⟨t, a, o, b1, b2, ⟨⟨r, n', h', e1, hq _ _ _ e2, e3⟩, hF⟩, b4⟩
abbrev xldI (l : xL) (b : Nat) (st : List Value) : Option (xL × List Value) := match xgt l b with
  | some (.int x) => some (l, .int x :: st)
  | _ => none
abbrev xldL (l : xL) (b : Nat) (st : List Value) : Option (xL × List Value) := match xgt l b with
  | some (.long x) => some (l, .long x :: st)
  | _ => none
abbrev xldA (l : xL) (b : Nat) (st : List Value) : Option (xL × List Value) := match xgt l b with
  | some (.ref x) => some (l, .ref x :: st)
  | _ => none
abbrev xstI (l : xL) (b : Nat) (st : List Value) : Option (xL × List Value) := match st with
  | .int x :: r => some (xs1 l b (.int x), r)
  | _ => none
abbrev xstL (l : xL) (b : Nat) (st : List Value) : Option (xL × List Value) := match st with
  | .long x :: r => some (xs2 l b (.long x), r)
  | _ => none
abbrev xstA (l : xL) (b : Nat) (st : List Value) : Option (xL × List Value) := match st with
  | .ref x :: r => some (xs1 l b (.ref x), r)
  | _ => none
def xop (ins : Instr) (a : Int) (b : Nat) (l : xL) (st : List Value) : Option (xL × List Value) :=
  match ins with
  | .iconst _ => some (l, .int (Int32.ofInt a) :: st)
  | .bipush _ => some (l, .int (Int32.ofInt a) :: st)
  | .sipush _ => some (l, .int (Int32.ofInt a) :: st)
  | .ldc _ => some (l, .int (Int32.ofInt a) :: st)
  | .ldc_w _ => some (l, .int (Int32.ofInt a) :: st)
  | .lconst _ => some (l, .long (Int64.ofInt a) :: st)
  | .ldc2_w _ => some (l, .long (Int64.ofInt a) :: st)
  | .iload _ => xldI l b st
  | .iload_n _ => xldI l b st
  | .lload _ => xldL l b st
  | .lload_n _ => xldL l b st
  | .aload _ => xldA l b st
  | .aload_n _ => xldA l b st
  | .istore _ => xstI l b st
  | .istore_n _ => xstI l b st
  | .lstore _ => xstL l b st
  | .lstore_n _ => xstL l b st
  | .astore _ => xstA l b st
  | .astore_n _ => xstA l b st
  | .iinc _ c => (match xgt l b with | some (.int x) => some (xs1 l b (.int (x + Int32.ofInt c)), st) | _ => none)
  | .iadd => (match st with | .int y :: .int x :: r => some (l, .int (x + y) :: r) | _ => none)
  | .isub => (match st with | .int y :: .int x :: r => some (l, .int (x - y) :: r) | _ => none)
  | .imul => (match st with | .int y :: .int x :: r => some (l, .int (x * y) :: r) | _ => none)
  | .iand => (match st with | .int y :: .int x :: r => some (l, .int (x &&& y) :: r) | _ => none)
  | .ior => (match st with | .int y :: .int x :: r => some (l, .int (x ||| y) :: r) | _ => none)
  | .ixor => (match st with | .int y :: .int x :: r => some (l, .int (x ^^^ y) :: r) | _ => none)
  | .ineg => (match st with | .int x :: r => some (l, .int (-x) :: r) | _ => none)
  | .ishl => (match st with | .int y :: .int x :: r => some (l, .int (x <<< (y &&& 31)) :: r) | _ => none)
  | .ishr => (match st with | .int y :: .int x :: r => some (l, .int (x >>> (y &&& 31)) :: r) | _ => none)
  | .iushr => (match st with | .int y :: .int x :: r => some (l, .int (x.toUInt32 >>> (y.toUInt32 &&& Int32.toUInt32 31)).toInt32 :: r) | _ => none)
  | .ladd => (match st with | .long y :: .long x :: r => some (l, .long (x + y) :: r) | _ => none)
  | .lsub => (match st with | .long y :: .long x :: r => some (l, .long (x - y) :: r) | _ => none)
  | .lmul => (match st with | .long y :: .long x :: r => some (l, .long (x * y) :: r) | _ => none)
  | .lneg => (match st with | .long x :: r => some (l, .long (-x) :: r) | _ => none)
  | .i2l => (match st with | .int x :: r => some (l, .long x.toInt64 :: r) | _ => none)
  | .l2i => (match st with | .long x :: r => some (l, .int x.toInt32 :: r) | _ => none)
  | .lcmp => (match st with | .long y :: .long x :: r => some (l, .int (lg_cmp x y) :: r) | _ => none)
  | .dup => (match st with | v :: r => (match xc2 v with | false => some (l, v :: v :: r) | true => none) | _ => none)
  | .dup2 => (match st with | .int y :: .ref x :: r => some (l, .int y :: .ref x :: .int y :: .ref x :: r) | _ => none)
  | _ => none
section XR
variable {M : xM} {B : xB} {pc nx b hh : Nat} {a : Int} {l : xL} {st : List Value} {n : Nat} {h : xHp} {Q : xQt}
theorem xc1 {v : Value} {z : Nat} (h : xc2 v = false) : (xr z v).category = 1 := by
  rw [xr_cat]
  cases v <;> first | rfl | (simp [xc2] at h)
set_option maxHeartbeats 1000000 in
theorem tt_op {ins : Instr} {l' : xL} {st' : List Value} (hf : xfe M pc = some (ins, nx, a, b, hh)) (ho : xop ins a b l st = some (l', st')) (k : xT M B nx l' st' n h Q) : xT M B pc l st n h Q := by
  intro g p l0 e s m args below meth c H locs ls C hP hS hL
  obtain ⟨hx, hb, hml, hown, hts, hr, hlk, hnm, hK, hN, hG, hz⟩ := id C
  obtain ⟨hd, hnx, hsp, hix⟩ := xfe_ok hG hf
  subst hnx
  have kk := k g p l0 e s m args below meth c H locs
  unfold xop at ho
  split at ho
  · cases ho; exact lv_iconst hx hb hd (by rw [show _ = a from of_decide_eq_true hsp]) (kk ls C hP hS hL)
  · cases ho; exact lv_bipush hx hb hd (of_decide_eq_true hsp) (kk ls C hP hS hL)
  · cases ho; exact lv_sipush hx hb hd (of_decide_eq_true hsp) (kk ls C hP hS hL)
  · cases ho; exact lv_ldc hx hb hown (hts _ (xat1_mem hsp)) hd (kk ls C hP hS hL)
  · cases ho; exact lv_ldcw hx hb hown (hts _ (xat1_mem hsp)) hd (kk ls C hP hS hL)
  · cases ho; exact lv_lconst hx hb hd (of_decide_eq_true hsp) (kk ls C hP hS hL)
  · cases ho; exact lv_ldc2 hx hb hown (hts _ (xat1_mem hsp)) hd (kk ls C hP hS hL)
  · unfold xldI at ho
    split at ho
    · rename_i q hq; cases ho; cases (of_decide_eq_true hix : _ = b)
      exact lv_iload hx hb hd (hL.2.2 _ _ hq) (kk ls C hP hS hL)
    · cases ho
  · unfold xldI at ho
    split at ho
    · rename_i q hq; cases ho
      exact lv_iload_n hx hb hd (of_decide_eq_true hix) (hL.2.2 _ _ hq) (kk ls C hP hS hL)
    · cases ho
  · unfold xldL at ho
    split at ho
    · rename_i q hq; cases ho; cases (of_decide_eq_true hix : _ = b)
      exact lv_lload hx hb hd (hL.2.2 _ _ hq) (kk ls C hP hS hL)
    · cases ho
  · unfold xldL at ho
    split at ho
    · rename_i q hq; cases ho
      exact lv_lload_n hx hb hd (of_decide_eq_true hix) (hL.2.2 _ _ hq) (kk ls C hP hS hL)
    · cases ho
  · unfold xldA at ho
    split at ho
    · rename_i q hq; cases ho; cases (of_decide_eq_true hix : _ = b)
      exact lv_aload hx hb hd (hL.2.2 _ _ hq) (kk ls C hP hS hL)
    · cases ho
  · unfold xldA at ho
    split at ho
    · rename_i q hq; cases ho
      exact lv_aload_n hx hb hd (of_decide_eq_true hix) (hL.2.2 _ _ hq) (kk ls C hP hS hL)
    · cases ho
  · unfold xstI at ho
    simp only [xix, Bool.and_eq_true, decide_eq_true_eq] at hix
    obtain ⟨rfl, hlt⟩ := hix
    split at ho
    · cases ho
      exact lv_istore hx hb hd hL.has hlt rfl (fun ls hl => kk ls C hP hS (xLk.s1 rfl hl))
    · cases ho
  · unfold xstI at ho
    simp only [xix, Bool.and_eq_true, decide_eq_true_eq] at hix
    obtain ⟨hi, hlt⟩ := hix
    split at ho
    · cases ho
      exact lv_istore_n hx hb hd hi hL.has hlt rfl (fun ls hl => kk ls C hP hS (xLk.s1 rfl hl))
    · cases ho
  · unfold xstL at ho
    simp only [xix, Bool.and_eq_true, decide_eq_true_eq] at hix
    obtain ⟨rfl, hlt⟩ := hix
    split at ho
    · cases ho
      exact lv_lstore hx hb hd hL.has hlt rfl (fun ls hl => kk ls C hP hS (xLk.s2 rfl hl))
    · cases ho
  · unfold xstL at ho
    simp only [xix, Bool.and_eq_true, decide_eq_true_eq] at hix
    obtain ⟨hi, hlt⟩ := hix
    split at ho
    · cases ho
      exact lv_lstore_n hx hb hd hi hL.has hlt rfl (fun ls hl => kk ls C hP hS (xLk.s2 rfl hl))
    · cases ho
  · unfold xstA at ho
    simp only [xix, Bool.and_eq_true, decide_eq_true_eq] at hix
    obtain ⟨rfl, hlt⟩ := hix
    split at ho
    · cases ho
      exact lv_astore hx hb hd hL.has hlt rfl (fun ls hl => kk ls C hP hS (xLk.s1 rfl hl))
    · cases ho
  · unfold xstA at ho
    simp only [xix, Bool.and_eq_true, decide_eq_true_eq] at hix
    obtain ⟨hi, hlt⟩ := hix
    split at ho
    · cases ho
      exact lv_astore_n hx hb hd hi hL.has hlt rfl (fun ls hl => kk ls C hP hS (xLk.s1 rfl hl))
    · cases ho
  · simp only [xix, Bool.and_eq_true, decide_eq_true_eq] at hix
    obtain ⟨rfl, hlt⟩ := hix
    split at ho
    · rename_i q hq; cases ho
      obtain ⟨k0, hk0⟩ := List.getElem?_of_mem (xpl_mem (z := g.2.2) hq)
      exact lv_iinc hx hb hd hL.has hk0 rfl hlt rfl (fun ls hl => kk ls C hP hS (xLk.s1 rfl hl))
    · cases ho
  · split at ho
    · cases ho; exact lv_iadd hx hb hd (kk ls C hP hS hL)
    · cases ho
  · split at ho
    · cases ho; exact lv_isub hx hb hd (kk ls C hP hS hL)
    · cases ho
  · split at ho
    · cases ho; exact lv_imul hx hb hd (kk ls C hP hS hL)
    · cases ho
  · split at ho
    · cases ho; exact lv_iand hx hb hd (kk ls C hP hS hL)
    · cases ho
  · split at ho
    · cases ho; exact lv_ior hx hb hd (kk ls C hP hS hL)
    · cases ho
  · split at ho
    · cases ho; exact lv_ixor hx hb hd (kk ls C hP hS hL)
    · cases ho
  · split at ho
    · cases ho; exact lv_ineg hx hb hd (kk ls C hP hS hL)
    · cases ho
  · split at ho
    · cases ho; exact lv_ishl hx hb hd (kk ls C hP hS hL)
    · cases ho
  · split at ho
    · cases ho; exact lv_ishr hx hb hd (kk ls C hP hS hL)
    · cases ho
  · split at ho
    · cases ho; exact lv_iushr hx hb hd rfl (kk ls C hP hS hL)
    · cases ho
  · split at ho
    · cases ho; exact lv_ladd hx hb hd (kk ls C hP hS hL)
    · cases ho
  · split at ho
    · cases ho; exact lv_lsub hx hb hd (kk ls C hP hS hL)
    · cases ho
  · split at ho
    · cases ho; exact lv_lmul hx hb hd (kk ls C hP hS hL)
    · cases ho
  · split at ho
    · cases ho; exact lv_lneg hx hb hd (kk ls C hP hS hL)
    · cases ho
  · split at ho
    · cases ho; exact lv_i2l hx hb hd rfl (kk ls C hP hS hL)
    · cases ho
  · split at ho
    · cases ho; exact lv_l2i hx hb hd rfl (kk ls C hP hS hL)
    · cases ho
  · split at ho
    · cases ho; exact W.lcmp hx hb hd (kk ls C hP hS hL)
    · cases ho
  · split at ho
    · split at ho
      · rename_i hv; cases ho; exact lv_dup hx hb hd (xc1 hv) (kk ls C hP hS hL)
      · cases ho
    · cases ho
  · split at ho
    · cases ho; exact lv_dup2_11 hx hb hd rfl rfl (kk ls C hP hS hL)
    · cases ho
  · cases ho
/-- divisions -/
theorem tt_idiv {x y : Int32} (hf : xfe M pc = some (.idiv, nx, a, b, hh)) (hy : ¬ y = 0) (k : xT M B nx l (.int (x / y) :: st) n h Q) : xT M B pc l (.int y :: .int x :: st) n h Q := by
  intro g p l0 e s m args below meth c H locs ls C hP hS hL
  obtain ⟨hx, hb, hml, hown, hts, hr, hlk, hnm, hK, hN, hG, hz⟩ := id C
  obtain ⟨hd, hnx, hsp, hix⟩ := xfe_ok hG hf
  subst hnx
  exact lv_idiv hx hb hd hy (k g p l0 e s m args below meth c H locs ls C hP hS hL)
theorem tt_irem {x y : Int32} (hf : xfe M pc = some (.irem, nx, a, b, hh)) (hy : ¬ y = 0) (k : xT M B nx l (.int (x - x / y * y) :: st) n h Q) : xT M B pc l (.int y :: .int x :: st) n h Q := by
  intro g p l0 e s m args below meth c H locs ls C hP hS hL
  obtain ⟨hx, hb, hml, hown, hts, hr, hlk, hnm, hK, hN, hG, hz⟩ := id C
  obtain ⟨hd, hnx, hsp, hix⟩ := xfe_ok hG hf
  subst hnx
  exact lv_irem hx hb hd hy (k g p l0 e s m args below meth c H locs ls C hP hS hL)
theorem tt_ldiv {x y : Int64} (hf : xfe M pc = some (.ldiv, nx, a, b, hh)) (hy : ¬ y = 0) (k : xT M B nx l (.long (x / y) :: st) n h Q) : xT M B pc l (.long y :: .long x :: st) n h Q := by
  intro g p l0 e s m args below meth c H locs ls C hP hS hL
  obtain ⟨hx, hb, hml, hown, hts, hr, hlk, hnm, hK, hN, hG, hz⟩ := id C
  obtain ⟨hd, hnx, hsp, hix⟩ := xfe_ok hG hf
  subst hnx
  exact lv_ldiv hx hb hd hy (k g p l0 e s m args below meth c H locs ls C hP hS hL)
theorem tt_lrem {x y : Int64} (hf : xfe M pc = some (.lrem, nx, a, b, hh)) (hy : ¬ y = 0) (k : xT M B nx l (.long (x - x / y * y) :: st) n h Q) : xT M B pc l (.long y :: .long x :: st) n h Q := by
  intro g p l0 e s m args below meth c H locs ls C hP hS hL
  obtain ⟨hx, hb, hml, hown, hts, hr, hlk, hnm, hK, hN, hG, hz⟩ := id C
  obtain ⟨hd, hnx, hsp, hix⟩ := xfe_ok hG hf
  subst hnx
  exact lv_lrem hx hb hd hy (k g p l0 e s m args below meth c H locs ls C hP hS hL)
/-- branches -/
theorem tt_goto {off : Int} (hf : xfe M pc = some (.goto off, nx, a, b, hh)) (k : xT M B b l st n h Q) : xT M B pc l st n h Q := by
  intro g p l0 e s m args below meth c H locs ls C hP hS hL
  obtain ⟨hx, hb, hml, hown, hts, hr, hlk, hnm, hK, hN, hG, hz⟩ := id C
  obtain ⟨hd, hnx, hsp, hix⟩ := xfe_ok hG hf
  exact lv_goto hx hb hd (of_decide_eq_true hsp) (k g p l0 e s m args below meth c H locs ls C hP hS hL)
def xcd (c : ClassFile.Cond) (x y : Int32) : Prop := match c with
  | .eq => x = y
  | .ne => ¬ x = y
  | .lt => x < y
  | .ge => y ≤ x
  | .gt => y < x
  | .le => x ≤ y
theorem tt_if {cd : ClassFile.Cond} {off : Int} {x : Int32} (hf : xfe M pc = some (.ifCond cd off, nx, a, b, hh)) (k1 : xcd cd x 0 → xT M B b l st n h Q) (k2 : ¬ xcd cd x 0 → xT M B nx l st n h Q) : xT M B pc l (.int x :: st) n h Q := by
  intro g p l0 e s m args below meth c H locs ls C hP hS hL
  obtain ⟨hx, hb, hml, hown, hts, hr, hlk, hnm, hK, hN, hG, hz⟩ := id C
  obtain ⟨hd, hnx, hsp, hix⟩ := xfe_ok hG hf
  subst hnx
  have kk1 := fun q => k1 q g p l0 e s m args below meth c H locs ls C hP hS hL
  have kk2 := fun q => k2 q g p l0 e s m args below meth c H locs ls C hP hS hL
  have ht := (of_decide_eq_true hsp : (pc : Int) + off = (b : Int))
  cases cd
  · exact lv_if_eq hx hb hd ht kk1 kk2
  · exact lv_if_ne hx hb hd ht kk1 (fun q => kk2 (fun z => z q))
  · exact lv_if_lt hx hb hd ht kk1 kk2
  · exact lv_if_ge hx hb hd ht kk1 kk2
  · exact lv_if_gt hx hb hd ht kk1 kk2
  · exact lv_if_le hx hb hd ht kk1 kk2
theorem tt_icmp {cd : ClassFile.Cond} {off : Int} {x y : Int32} (hf : xfe M pc = some (.if_icmp cd off, nx, a, b, hh)) (k1 : xcd cd x y → xT M B b l st n h Q) (k2 : ¬ xcd cd x y → xT M B nx l st n h Q) : xT M B pc l (.int y :: .int x :: st) n h Q := by
  intro g p l0 e s m args below meth c H locs ls C hP hS hL
  obtain ⟨hx, hb, hml, hown, hts, hr, hlk, hnm, hK, hN, hG, hz⟩ := id C
  obtain ⟨hd, hnx, hsp, hix⟩ := xfe_ok hG hf
  subst hnx
  have kk1 := fun q => k1 q g p l0 e s m args below meth c H locs ls C hP hS hL
  have kk2 := fun q => k2 q g p l0 e s m args below meth c H locs ls C hP hS hL
  have ht := (of_decide_eq_true hsp : (pc : Int) + off = (b : Int))
  cases cd
  · exact lv_icmp_eq hx hb hd ht kk1 kk2
  · exact lv_icmp_ne hx hb hd ht kk1 (fun q => kk2 (fun z => z q))
  · exact lv_icmp_lt hx hb hd ht kk1 kk2
  · exact lv_icmp_ge hx hb hd ht kk1 kk2
  · exact lv_icmp_gt hx hb hd ht kk1 kk2
  · exact lv_icmp_le hx hb hd ht kk1 kk2
theorem tt_swIn {dflt lo hi off : Int} {offs : Array Int} {x : Int32} {tgt : Nat} (hf : xfe M pc = some (.tableswitch dflt lo hi offs, nx, a, b, hh)) (h1 : ¬ x.toInt < lo) (h2 : ¬ hi < x.toInt) (ho : offs[(x.toInt - lo).toNat]? = some off) (ht : (pc : Int) + off = (tgt : Int)) (k : xT M B tgt l st n h Q) : xT M B pc l (.int x :: st) n h Q := by
  intro g p l0 e s m args below meth c H locs ls C hP hS hL
  obtain ⟨hx, hb, hml, hown, hts, hr, hlk, hnm, hK, hN, hG, hz⟩ := id C
  obtain ⟨hd, hnx, hsp, hix⟩ := xfe_ok hG hf
  exact lv_tableIn hx hb hd h1 h2 ho ht (k g p l0 e s m args below meth c H locs ls C hP hS hL)
theorem tt_swOut {dflt lo hi : Int} {offs : Array Int} {x : Int32} {tgt : Nat} (hf : xfe M pc = some (.tableswitch dflt lo hi offs, nx, a, b, hh)) (h1 : x.toInt < lo ∨ hi < x.toInt) (ht : (pc : Int) + dflt = (tgt : Int)) (k : xT M B tgt l st n h Q) : xT M B pc l (.int x :: st) n h Q := by
  intro g p l0 e s m args below meth c H locs ls C hP hS hL
  obtain ⟨hx, hb, hml, hown, hts, hr, hlk, hnm, hK, hN, hG, hz⟩ := id C
  obtain ⟨hd, hnx, hsp, hix⟩ := xfe_ok hG hf
  exact lv_tableOut hx hb hd h1 ht (k g p l0 e s m args below meth c H locs ls C hP hS hL)
/-- returns -/
theorem tt_ireturn {x : Int32} {ty : FieldType} (hf : xfe M pc = some (.ireturn, nx, a, b, hh)) (hty : M.1.2.2.2.2.1 = some ty) (hn : narrow ty (.int x) = .int x) (h1 : B.2.2.2.1 ≤ B.2.1) (h2 : B.2.2.2.2 ≤ B.2.2.1) (hq : Q (some (.int x)) n h) : xT M B pc l [.int x] n h Q := by
  intro g p l0 e s m args below meth c H locs ls C hP hS hL
  obtain ⟨hx, hb, hml, hown, hts, hr, hlk, hnm, hK, hN, hG, hz⟩ := id C
  obtain ⟨hd, hnx, hsp, hix⟩ := xfe_ok hG hf
  refine W.widen h1 h2 ?_
  exact W.zret hx hb (hr.trans hty) hn (fun t ht hW => ⟨⟨some (.int x), n, h, rfl, hq, by rw [ht]; exact hP⟩, hS.F ht⟩) hS.2.2 hd hlk
theorem tt_lreturn {x : Int64} (hf : xfe M pc = some (.lreturn, nx, a, b, hh)) (hty : M.1.2.2.2.2.1 = some .long) (h1 : B.2.2.2.1 ≤ B.2.1) (h2 : B.2.2.2.2 ≤ B.2.2.1) (hq : Q (some (.long x)) n h) : xT M B pc l [.long x] n h Q := by
  intro g p l0 e s m args below meth c H locs ls C hP hS hL
  obtain ⟨hx, hb, hml, hown, hts, hr, hlk, hnm, hK, hN, hG, hz⟩ := id C
  obtain ⟨hd, hnx, hsp, hix⟩ := xfe_ok hG hf
  refine W.widen h1 h2 ?_
  exact W.lret hx hb (hr.trans hty) (fun t ht hW => ⟨⟨some (.long x), n, h, rfl, hq, by rw [ht]; exact hP⟩, hS.F ht⟩) hS.2.2 hd hlk
theorem tt_return (hf : xfe M pc = some (.return_, nx, a, b, hh)) (hty : M.1.2.2.2.2.1 = none) (h1 : B.2.2.2.1 ≤ B.2.1) (h2 : B.2.2.2.2 ≤ B.2.2.1) (hq : Q none n h) : xT M B pc l [] n h Q := by
  intro g p l0 e s m args below meth c H locs ls C hP hS hL
  obtain ⟨hx, hb, hml, hown, hts, hr, hlk, hnm, hK, hN, hG, hz⟩ := id C
  obtain ⟨hd, hnx, hsp, hix⟩ := xfe_ok hG hf
  refine W.widen h1 h2 ?_
  exact W.vret hx hb (hr.trans hty) (fun t ht hW => ⟨⟨none, n, h, rfl, hq, by rw [ht]; exact hP⟩, hS.F ht⟩) hS.2.2 hd hlk
end XR
end
section
/-! Rules of cells and of calls -/
def xty (ci : Nat) : Nat → FieldType := match ci with
  | 0 => tyX0
  | 1 => tyX1
  | 2 => tyX2
  | 3 => tyX3
  | 4 => tyX4
  | 5 => tyX5
  | _ => tyX6
theorem xuw0 : ∀ w ∈ u_ws RX0 TX0 4, xin w = true := by decide +kernel
theorem xuw1 : ∀ w ∈ u_ws RX1 TX1 8, xin w = true := by decide +kernel
theorem xuw2 : ∀ w ∈ u_ws RX2 TX2 4, xin w = true := by decide +kernel
theorem xuw3 : ∀ w ∈ u_ws RX3 TX3 9, xin w = true := by decide +kernel
theorem xuw4 : ∀ w ∈ u_ws RX4 TX4 2, xin w = true := by decide +kernel
theorem xuw5 : ∀ w ∈ u_ws RX5 TX5 5, xin w = true := by decide +kernel
theorem xuw6 : ∀ w ∈ u_ws RX6 TX6 36, xin w = true := by decide +kernel
theorem xuw {ci : Nat} {r : vw_C} (hc : xcl[ci]? = some r) : (∀ w ∈ u_ws r.1 r.2.1 r.2.2, w ∈ xWd) ∧ (∀ k, k < r.2.2 → parseFieldDescriptor (r.2.1 k).2.2.1 = some (xty ci k)) ∧ (∀ a, a < r.2.2 → ∀ b, b < r.2.2 → a ≠ b → (r.2.1 a).2.1 ≠ (r.2.1 b).2.1) := by
  match ci, hc with
  | 0, hc => cases hc; exact ⟨fun w hw => xin_mem (xuw0 w hw), tyX0_ok, nmX0⟩
  | 1, hc => cases hc; exact ⟨fun w hw => xin_mem (xuw1 w hw), tyX1_ok, nmX1⟩
  | 2, hc => cases hc; exact ⟨fun w hw => xin_mem (xuw2 w hw), tyX2_ok, nmX2⟩
  | 3, hc => cases hc; exact ⟨fun w hw => xin_mem (xuw3 w hw), tyX3_ok, nmX3⟩
  | 4, hc => cases hc; exact ⟨fun w hw => xin_mem (xuw4 w hw), tyX4_ok, nmX4⟩
  | 5, hc => cases hc; exact ⟨fun w hw => xin_mem (xuw5 w hw), tyX5_ok, nmX5⟩
  | 6, hc => cases hc; exact ⟨fun w hw => xin_mem (xuw6 w hw), tyX6_ok, nmX6⟩
  | k + 7, hc => simp [xcl] at hc
def xfin (M : xM) (ci b : Nat) : Bool := match xcl[ci]? with
  | some r => !(r.2.1 b).2.2.2 || (decide (M.1.2.1.name = "<init>") && decide ((r.2.1 b).1 = M.1.2.1.cls))
  | none => false
theorem xr_nar {ty : FieldType} {v : Value} (z : Nat) (h : narrow ty v = v) : narrow ty (xr z v) = xr z v := by
  cases v with
  | ref a => cases ty <;> rfl
  | _ => exact h
theorem xr_fit {ty : FieldType} {v : Value} (z : Nat) (h : fits ty v = true) : fits ty (xr z v) = true := by
  cases v with
  | ref a => cases ty <;> first | exact h | (simp [fits] at h)
  | _ => exact h
theorem xat_get {α : Type} : ∀ (l : List α) (k : Nat), xat l k = l[k]?
  | [], k => by simp [xat]
  | b :: t, 0 => by simp [xat]
  | b :: t, k + 1 => by simp [xat, xat_get t k]
section XH
variable {M : xM} {B : xB} {pc nx b hh i : Nat} {a : Int} {l : xL} {st : List Value} {n : Nat} {h : xHp} {Q : xQt}
theorem tt_get {q : Nat} {fs : List Value} {v : Value} (hf : xfe M pc = some (.getfield i, nx, a, b, hh)) (hq : h q = some (.inr (a.toNat, fs))) (hv : xat fs b = some v) (k : xT M B nx l (v :: st) n h Q) : xT M B pc l (.ref q :: st) n h Q := by
  intro g p l0 e s m args below meth c H locs ls C hP hS hL
  obtain ⟨hx, hb, hml, hown, hts, hr, hlk, hnm, hK, hN, hG, hz⟩ := id C
  obtain ⟨hd, hnx, hsp, hix⟩ := xfe_ok hG hf
  subst hnx
  simp only [xsp] at hsp
  rw [xat_get] at hv
  cases hc : xcl[a.toNat]? with
  | none => rw [hc] at hsp; cases hsp
  | some r =>
    rw [hc] at hsp
    simp only [Bool.and_eq_true, decide_eq_true_eq] at hsp
    obtain ⟨w1, w2, w3⟩ := xuw hc
    exact va_get hx hb hts w1 hown hK hP.2.2 q (hP.get hq) hc b hsp.1 (hts _ (xat1_mem hsp.2)) (fun _ h9 => h9) (by rw [List.getElem?_map, hv]; rfl) hd (k g p l0 e s m args below meth c H locs ls C hP hS hL)
def xset : List Value → Nat → Value → List Value
  | [], _, _ => []
  | _ :: t, 0, v => v :: t
  | u :: t, k + 1, v => u :: xset t k v
theorem xset_eq : ∀ (l : List Value) (k : Nat) (v : Value), xset l k v = l.set k v
  | [], k, v => by simp [xset]
  | u :: t, 0, v => by simp [xset]
  | u :: t, k + 1, v => by simp [xset, xset_eq t k v]
theorem tt_put {q : Nat} {fs fs' : List Value} {v : Value} (hf : xfe M pc = some (.putfield i, nx, a, b, hh)) (hq : h q = some (.inr (a.toNat, fs))) (hl : Nat.blt b fs.length = true) (hfin : xfin M a.toNat b = true) (hn : narrow (xty a.toNat b) v = v) (hft : fits (xty a.toNat b) v = true) (hs : xset fs b v = fs') (k : xT M B nx l st n (xup h q (.inr (a.toNat, fs'))) Q) : xT M B pc l (v :: .ref q :: st) n h Q := by
  intro g p l0 e s m args below meth c H locs ls C hP hS hL
  obtain ⟨hx, hb, hml, hown, hts, hr, hlk, hnm, hK, hN, hG, hz⟩ := id C
  obtain ⟨hd, hnx, hsp, hix⟩ := xfe_ok hG hf
  subst hnx
  rw [xset_eq] at hs
  subst hs
  have hl : b < fs.length := Nat.blt_eq.mp hl
  simp only [xsp] at hsp
  generalize hci : a.toNat = ci at *
  have hn' := xr_nar g.2.2 hn
  have hft' := xr_fit g.2.2 hft
  have hD := xW_D g n h
  unfold xfin at hfin
  cases hc : xcl[ci]? with
  | none => rw [hc] at hsp; cases hsp
  | some r =>
    rw [hc] at hsp hfin
    simp only [Bool.and_eq_true, decide_eq_true_eq] at hsp
    obtain ⟨w1, w2, w3⟩ := xuw hc
    have hap := va_apart (own := M.1.2.1.cls) hts w1 _ w2 w3 hK hc
    obtain ⟨r', h1, cell, q1, q2, q3, q4⟩ := hP.2.2 q _ (hP.get hq)
    have hr' : r' = r := Option.some.inj (h1.symm.trans hc)
    subst hr'
    obtain ⟨hSl, hfc, kC, hkC, hkind⟩ := hK.1 ci _ hc
    obtain ⟨cf, kf, fi, f, hi, hsl⟩ := hSl b hsp.1
    have hlay := hts _ (w1 _ (u_in_lay hsp.1))
    have hst := (u_facts hfc hkC (u_lays hts w1 hsp.1) hi).1
    have hlink := hts _ (xat1_mem hsp.2)
    have fin : ∀ H' : Heap, H'[g.2.2 + q]? = some (cell.setSlot f.slot (xr g.2.2 v)) → H'.size = H.size → (∀ q0, q0 ≠ g.2.2 + q → H'[q0]? = H[q0]?) → W p l0 e (xR B.1 B.2.1 B.2.2.1) s m args below meth c H' (locs ++ [⟨g.2.2 + q, f.slot⟩]) B.2.2.2.1 B.2.2.2.2 (MQ below (xQ g Q) args s B.2.1 B.2.2.1 (xA g)) (F0 m (pc + 3) ls (st.map (xr g.2.2))) := by
      intro H' e1 e2 e3
      refine k g p l0 e s m args below meth c H' _ ls C (hP.put hq e2 ?_ e3) (hS.put e2 e3 (Nat.le_add_right _ _)) hL
      rw [hsl] at e1
      refine ⟨_, hc, t_OB.to (V := updV (vp_V (fs.map (xr g.2.2))) b (xr g.2.2 v)) ⟨_, e1, q2, q3, t_set q4 hap hsp.1 _⟩ (fun j _ => ?_)⟩
      rw [vp_updV_set (by rw [List.length_map]; exact hl), List.map_set]
    unfold u_lay at hlay
    by_cases hfb : (r'.2.1 b).2.2.2 = true
    · rw [if_pos hfb] at hlay
      simp only [hfb, Bool.not_true, Bool.false_or, Bool.and_eq_true, decide_eq_true_eq] at hfin
      have hcf : m.cls = cf := by
        obtain ⟨_, _, c', _, _, _, -, -, hf', -, -, -, hown2, -⟩ := Cond.laysFinal_spec hlay
        have e1 : c' = cf := by have := hi.symm.trans hf'; simp at this; exact this.1.symm
        rw [hfin.2] at hown2
        rw [← e1]; exact Option.some.inj (hown.symm.trans hown2)
      have h6 := u_fits hfc hkC hkind (Or.inr hlay) hi (w2 b hsp.1) hn' hft'
      exact W.putFinK hx hb hown hlink hi hst hcf (hnm.trans hfin.1) (by rw [q2]; exact h6) q1 q3 (by rw [hsl]; exact k2_hasslot (q4 b hsp.1)) rfl rfl hd fin
    · rw [if_neg hfb] at hlay
      have h6 := u_store hfc hkC hkind hlay hi (w2 b hsp.1) hn' hft'
      exact W.putK hx hb (f := f) ⟨hown, hlink, ⟨_, _, _, hi⟩, hst⟩ (by rw [q2]; exact h6) q1 q3 (by rw [hsl]; exact k2_hasslot (q4 b hsp.1)) rfl rfl hd fin
theorem tt_iald {q N : Nat} {f : Nat → Int32} {x : Int32} (hf : xfe M pc = some (.iaload, nx, a, b, hh)) (hq : h q = some (.inl (N, .inl f))) (hi : vp_in x N) (k : xT M B nx l (.int (f x.toNatClampNeg) :: st) n h Q) : xT M B pc l (.int x :: .ref q :: st) n h Q := by
  intro g p l0 e s m args below meth c H locs ls C hP hS hL
  obtain ⟨hx, hb, hml, hown, hts, hr, hlk, hnm, hK, hN, hG, hz⟩ := id C
  obtain ⟨hd, hnx, hsp, hix⟩ := xfe_ok hG hf
  subst hnx
  exact va_iald hx hb hK hP.2.2 q 0 (hP.get hq) rfl hi hd (k g p l0 e s m args below meth c H locs ls C hP hS hL)
theorem tt_lald {q N : Nat} {f : Nat → Int64} {x : Int32} (hf : xfe M pc = some (.laload, nx, a, b, hh)) (hq : h q = some (.inl (N, .inr (.inl f)))) (hi : vp_in x N) (k : xT M B nx l (.long (f x.toNatClampNeg) :: st) n h Q) : xT M B pc l (.int x :: .ref q :: st) n h Q := by
  intro g p l0 e s m args below meth c H locs ls C hP hS hL
  obtain ⟨hx, hb, hml, hown, hts, hr, hlk, hnm, hK, hN, hG, hz⟩ := id C
  obtain ⟨hd, hnx, hsp, hix⟩ := xfe_ok hG hf
  subst hnx
  exact va_lald hx hb hK hP.2.2 q 1 (hP.get hq) rfl hi hd (k g p l0 e s m args below meth c H locs ls C hP hS hL)
theorem tt_aald {q N r : Nat} {f : Nat → Option Nat} {x : Int32} (hf : xfe M pc = some (.aaload, nx, a, b, hh)) (hq : h q = some (.inl (N, .inr (.inr (.inr (.inr f)))))) (hi : vp_in x N) (hv : f x.toNatClampNeg = some r) (k : xT M B nx l (.ref r :: st) n h Q) : xT M B pc l (.int x :: .ref q :: st) n h Q := by
  intro g p l0 e s m args below meth c H locs ls C hP hS hL
  obtain ⟨hx, hb, hml, hown, hts, hr, hlk, hnm, hK, hN, hG, hz⟩ := id C
  obtain ⟨hd, hnx, hsp, hix⟩ := xfe_ok hG hf
  subst hnx
  refine va_aldq hx hb hK hP.2.2 q 2 (hP.get hq) rfl hi hd ?_
  have hk := k g p l0 e s m args below meth c H locs ls C hP hS hL
  simp only [hv]
  exact hk
theorem tt_iast {q N : Nat} {f : Nat → Int32} {x y : Int32} (hf : xfe M pc = some (.iastore, nx, a, b, hh)) (hq : h q = some (.inl (N, .inl f))) (hi : vp_in x N) (k : xT M B nx l st n (xup h q (.inl (N, .inl (upd f x.toNatClampNeg y)))) Q) : xT M B pc l (.int y :: .int x :: .ref q :: st) n h Q := by
  intro g p l0 e s m args below meth c H locs ls C hP hS hL
  obtain ⟨hx, hb, hml, hown, hts, hr, hlk, hnm, hK, hN, hG, hz⟩ := id C
  obtain ⟨hd, hnx, hsp, hix⟩ := xfe_ok hG hf
  subst hnx
  refine W.iast hx hb (hP.2.2 q _ (hP.get hq)) ((hK.2 0 _ rfl).1 N (fun j => .int (f j))) (fun q => by cases q) (by show ¬ (x < 0 ∨ (arrV _ _ _).slots.size ≤ _); rw [arrV_size]; exact hi) rfl rfl hd fun H1 e1 e2 e3 => ?_
  refine k g p l0 e s m args below meth c H1 _ ls C (hP.put hq e2 ?_ e3) (hS.put e2 e3 (Nat.le_add_right _ _)) hL
  show H1[_]? = some (vp_cell _ _)
  rw [e1, vp_cell_i, vp_cell_i, arrV_store]
  congr 2
  funext j
  by_cases hj : j = x.toNatClampNeg
  · subst hj
    simp [updV, upd]
  · simp [updV, upd, hj]
theorem tt_last {q N : Nat} {f : Nat → Int64} {x : Int32} {y : Int64} (hf : xfe M pc = some (.lastore, nx, a, b, hh)) (hq : h q = some (.inl (N, .inr (.inl f)))) (hi : vp_in x N) (k : xT M B nx l st n (xup h q (.inl (N, .inr (.inl (vp_updL f x.toNatClampNeg y))))) Q) : xT M B pc l (.long y :: .int x :: .ref q :: st) n h Q := by
  intro g p l0 e s m args below meth c H locs ls C hP hS hL
  obtain ⟨hx, hb, hml, hown, hts, hr, hlk, hnm, hK, hN, hG, hz⟩ := id C
  obtain ⟨hd, hnx, hsp, hix⟩ := xfe_ok hG hf
  subst hnx
  refine W.last hx hb (hP.2.2 q _ (hP.get hq)) ((hK.2 1 _ rfl).1 N (fun j => .long (f j))) (fun q => by cases q) (by show ¬ (x < 0 ∨ (arrV _ _ _).slots.size ≤ _); rw [arrV_size]; exact hi) rfl rfl hd fun H1 e1 e2 e3 => ?_
  refine k g p l0 e s m args below meth c H1 _ ls C (hP.put hq e2 ?_ e3) (hS.put e2 e3 (Nat.le_add_right _ _)) hL
  show H1[_]? = some (vp_cell _ _)
  rw [e1, vp_cell_l, vp_cell_l, arrV_store]
  congr 2
  funext j
  by_cases hj : j = x.toNatClampNeg
  · subst hj
    simp [updV, vp_updL]
  · simp [updV, vp_updL, hj]
theorem tt_aast {q N r : Nat} {f : Nat → Option Nat} {x : Int32} {vs : List Value} (hf : xfe M pc = some (.aastore, nx, a, b, hh)) (hq : h q = some (.inl (N, .inr (.inr (.inr (.inr f)))))) (hi : vp_in x N) (hv : h r = some (.inr (3, vs))) (k : xT M B nx l st n (xup h q (.inl (N, .inr (.inr (.inr (.inr (va_up f x.toNatClampNeg (some r)))))))) Q) : xT M B pc l (.ref r :: .int x :: .ref q :: st) n h Q := by
  intro g p l0 e s m args below meth c H locs ls C hP hS hL
  obtain ⟨hx, hb, hml, hown, hts, hr, hlk, hnm, hK, hN, hG, hz⟩ := id C
  obtain ⟨hd, hnx, hsp, hix⟩ := xfe_ok hG hf
  subst hnx
  have hlt : x.toNatClampNeg < N := Nat.not_le.mp fun q => hi (Or.inr q)
  have h0 : ¬ x < 0 := fun q => hi (Or.inl q)
  obtain ⟨r', hr', cellV, g1, g2, g3, -⟩ := hP.2.2 r _ (hP.get hv)
  have hcls := (hK.1 3 (RX3, TX3, 9) rfl).2
  obtain ⟨kA, comp, k1, k2, k3, -⟩ := (hK.2 2 _ rfl).2
  have hcomp : comp = g.1.1 3 := Option.some.inj (k3.symm.trans hcls.1)
  subst hcomp
  obtain ⟨kC, hkC, -⟩ := hcls.2
  refine W.aast hx hb (hP.2.2 q _ (hP.get hq)) (fun q h => by cases h) (fun h => by cases h) k1 k2 rfl hkC ⟨h0, by show _ < (arrV _ _ _).slots.size; rw [arrV_size]; exact hlt⟩ g1 (fun q h => by rw [g3] at h; cases h) (by rw [g2]; exact hkC) (by rw [g2]; exact va_assign hcls) rfl rfl hd fun H1 e1 e2 e3 => ?_
  refine k g p l0 e s m args below meth c H1 _ ls C (hP.put hq e2 ?_ e3) (hS.put e2 e3 (Nat.le_add_right _ _)) hL
  show H1[_]? = some (vp_cell _ _)
  rw [e1, vp_cell_q, vp_cell_q, arrV_store]
  congr 2
  funext j
  by_cases hj : j = x.toNatClampNeg
  · subst hj
    simp [updV, va_up, va_rf]
  · simp [updV, va_up, hj]
theorem xr_def (z : Nat) (ty : FieldType) : xr z (defaultValue ty) = defaultValue ty := by cases ty <;> rfl
/-- making cells -/
theorem tt_new {r : vw_C} {fs : List Value} (hf : xfe M pc = some (.new i, nx, a, b, hh)) (hc : xcl[a.toNat]? = some r) (hfs : (List.range r.2.2).map (fun j => defaultValue (xty a.toNat j)) = fs) (h1 : B.2.2.2.1 + 1 ≤ B.2.1) (h2 : B.2.2.2.2 + r.2.2 ≤ B.2.2.1)
    (k : xT M (B.1, B.2.1, B.2.2.1, B.2.2.2.1 + 1, B.2.2.2.2 + r.2.2) nx l (.ref n :: st) (n + 1) (xup h n (.inr (a.toNat, fs))) Q) : xT M B pc l st n h Q := by
  intro g p l0 e s m args below meth c H locs ls C hP hS hL
  obtain ⟨hx, hb, hml, hown, hts, hr, hlk, hnm, hK, hN, hG, hz⟩ := id C
  obtain ⟨hd, hnx, hsp, hix⟩ := xfe_ok hG hf
  subst hnx
  simp only [xsp, hc, Bool.and_eq_true] at hsp
  obtain ⟨w1, w2, w3⟩ := xuw hc
  have hKn := hK.1 a.toNat _ hc
  refine W.newcK hx hb hown (hts _ (xat1_mem hsp.1.1)) (hts _ (xin_mem hsp.1.2)) (hts _ (xin_mem hsp.2)) rfl hd h1 h2 hKn.2.1 hP.1 fun H1 kC hkC e1 z1 o1 => ?_
  refine k g p l0 e s m args below meth c H1 locs ls C (hP.push (by rw [z1, hP.1]) ?_ (fun q hq => o1 q (by rw [← hP.1]; exact hq))) ⟨Nat.le_trans hS.1 (by rw [hP.1, z1]; omega), fun x h1 h2 => (o1 x (by rw [← hP.1]; exact Nat.lt_of_lt_of_le h1 hS.1)).trans (hS.2.1 x h1 h2), hS.2.2⟩ hL
  refine ⟨_, hc, (u_born _ hts w1 hKn hkC e1 w2).to fun j hj => ?_⟩
  subst hfs
  simp only [vp_V, List.getD_eq_getElem?_getD, List.getElem?_map, List.getElem?_range hj, Option.map_some, Option.getD_some]
  exact (xr_def _ _).symm
theorem tt_newI {x : Int32} {N : Nat} (hf : xfe M pc = some (.newarray .int, nx, a, b, hh)) (hx0 : ¬ x < 0) (hxN : x.toNatClampNeg = N) (hby : N * 4 ≤ 536870912) (h1 : B.2.2.2.1 + 1 ≤ B.2.1) (h2 : B.2.2.2.2 + N ≤ B.2.2.1)
    (k : xT M (B.1, B.2.1, B.2.2.1, B.2.2.2.1 + 1, B.2.2.2.2 + N) nx l (.ref n :: st) (n + 1) (xup h n (.inl (N, .inl (fun _ => 0)))) Q) : xT M B pc l (.int x :: st) n h Q := by
  intro g p l0 e s m args below meth c H locs ls C hP hS hL
  obtain ⟨hx, hb, hml, hown, hts, hr, hlk, hnm, hK, hN, hG, hz⟩ := id C
  obtain ⟨hd, hnx, hsp, hix⟩ := xfe_ok hG hf
  subst hnx
  simp only [xsp, Bool.and_eq_true] at hsp
  refine va_newaK hx hb (hts _ (xin_mem hsp.1)) rfl hd rfl hx0 hxN hby h1 h2 hP.1 fun H1 cA e1 z1 o1 hAr hNm => ?_
  have hcA : cA = g.2.1.1 := Option.some.inj (hNm.symm.trans (hK.2 0 _ rfl).2)
  subst hcA
  exact k g p l0 e s m args below meth c H1 locs ls C (hP.push (by rw [z1, hP.1]) e1 (fun q hq => o1 q (by rw [← hP.1]; exact hq))) ⟨Nat.le_trans hS.1 (by rw [hP.1, z1]; omega), fun x h1 h2 => (o1 x (by rw [← hP.1]; exact Nat.lt_of_lt_of_le h1 hS.1)).trans (hS.2.1 x h1 h2), hS.2.2⟩ hL
theorem tt_newL {x : Int32} {N : Nat} (hf : xfe M pc = some (.newarray .long, nx, a, b, hh)) (hx0 : ¬ x < 0) (hxN : x.toNatClampNeg = N) (hby : N * 8 ≤ 536870912) (h1 : B.2.2.2.1 + 1 ≤ B.2.1) (h2 : B.2.2.2.2 + N ≤ B.2.2.1)
    (k : xT M (B.1, B.2.1, B.2.2.1, B.2.2.2.1 + 1, B.2.2.2.2 + N) nx l (.ref n :: st) (n + 1) (xup h n (.inl (N, .inr (.inl (fun _ => 0))))) Q) : xT M B pc l (.int x :: st) n h Q := by
  intro g p l0 e s m args below meth c H locs ls C hP hS hL
  obtain ⟨hx, hb, hml, hown, hts, hr, hlk, hnm, hK, hN, hG, hz⟩ := id C
  obtain ⟨hd, hnx, hsp, hix⟩ := xfe_ok hG hf
  subst hnx
  simp only [xsp, Bool.and_eq_true] at hsp
  refine va_newaK hx hb (hts _ (xin_mem hsp.1)) rfl hd rfl hx0 hxN hby h1 h2 hP.1 fun H1 cA e1 z1 o1 hAr hNm => ?_
  have hcA : cA = g.2.1.2.1 := Option.some.inj (hNm.symm.trans (hK.2 1 _ rfl).2)
  subst hcA
  exact k g p l0 e s m args below meth c H1 locs ls C (hP.push (by rw [z1, hP.1]) e1 (fun q hq => o1 q (by rw [← hP.1]; exact hq))) ⟨Nat.le_trans hS.1 (by rw [hP.1, z1]; omega), fun x h1 h2 => (o1 x (by rw [← hP.1]; exact Nat.lt_of_lt_of_le h1 hS.1)).trans (hS.2.1 x h1 h2), hS.2.2⟩ hL
theorem tt_newA {x : Int32} {N : Nat} (hf : xfe M pc = some (.anewarray i, nx, a, b, hh)) (hx0 : ¬ x < 0) (hxN : x.toNatClampNeg = N) (hby : N * 4 ≤ 536870912) (h1 : B.2.2.2.1 + 1 ≤ B.2.1) (h2 : B.2.2.2.2 + N ≤ B.2.2.1)
    (k : xT M (B.1, B.2.1, B.2.2.1, B.2.2.2.1 + 1, B.2.2.2.2 + N) nx l (.ref n :: st) (n + 1) (xup h n (.inl (N, .inr (.inr (.inr (.inr (fun _ => none))))))) Q) : xT M B pc l (.int x :: st) n h Q := by
  intro g p l0 e s m args below meth c H locs ls C hP hS hL
  obtain ⟨hx, hb, hml, hown, hts, hr, hlk, hnm, hK, hN, hG, hz⟩ := id C
  obtain ⟨hd, hnx, hsp, hix⟩ := xfe_ok hG hf
  subst hnx
  subst hxN
  refine W.anew hx hb hown (hts _ (xat1_mem hsp)) (va_AO.use hN.2) rfl hd rfl hx0 hby h1 h2 fun cA kA comp f1 f2 f3 f4 => ?_
  obtain ⟨kA', comp', -, -, -, k4⟩ := (hK.2 2 _ rfl).2
  have hcA : cA = g.2.1.2.2 := Option.some.inj (f1.symm.trans k4)
  subst hcA
  generalize hH1 : H.push ({ cls := g.2.1.2.2, slots := Array.replicate x.toNatClampNeg .null, vm := .none } : Cell) = H1
  have z1 : H1.size = H.size + 1 := by rw [← hH1, Array.size_push]
  have e1 : H1[H.size]? = some (arrV g.2.1.2.2 x.toNatClampNeg (fun _ => .null)) := by rw [← hH1, Array.getElem?_push_size, ← arrV_new]
  have o1 : ∀ q : Nat, q < H.size → H1[q]? = H[q]? := fun q hq => by rw [← hH1, Array.getElem?_push, if_neg (Nat.ne_of_lt hq)]
  rw [hP.1] at e1
  have := k g p l0 e s m args below meth c H1 locs ls C (hP.push z1 e1 o1) ⟨Nat.le_trans hS.1 (by rw [z1]; omega), fun x h1 h2 => (o1 x (Nat.lt_of_lt_of_le h1 hS.1)).trans (hS.2.1 x h1 h2), hS.2.2⟩ hL
  rw [hP.1]
  exact this
end XH
end
section
/-! Calls by contract -/
def xws (M : xM) : List Cond := Cond.code M.1.2.1 M.1.2.2.1 M.1.2.2.2.1 M.1.2.2.2.2.1 :: xWd
def xPc (g : xG) (av : List Value) (n : Nat) (h : xHp) : Array Value → State → Prop := fun v U => v = (av.map (xr g.2.2)).toArray ∧ xP g n h U.heap ∧ va_K g.1 xcl (xTy g) U ∧ xNw U
/-- a method's contract at these arguments and cells -/
def xCall (M : xM) (d mc ms : Nat) (av : List Value) (n : Nat) (h : xHp) (Q : xQt) : Prop := ∀ (l : Launch) (g : xG), Met l M.1.2.1 (xws M) (xR d mc ms) (xPc g av n h) (xQ g Q) mc ms (xA g)
theorem xNw_moved {s U : State} (hW : s.WarmedH U.vm) (h : xNw s) : xNw U := ⟨fun q hq => va_Nw.warmM hW (h.1 q hq), h.2.moved hW.alike⟩
theorem xPc_blind (g : xG) (av : List Value) (n : Nat) (h : xHp) : FrameBlind (xPc g av n h) := fun a U f mk q => by
  obtain ⟨q0, q1, q2, q3⟩ := q
  exact ⟨q0, q1, va_K.moved (u := U) (U := U.calling f mk a) (Vm.Alike.refl U.vm) q2, fun w hw => va_Nw.same rfl (rfl : U.vm = (U.calling f mk a).vm) (q3.1 w hw), q3.2.moved (Vm.Alike.refl U.vm)⟩
def xen : List Value → xL
  | [] => []
  | v :: t => (match xc2 v with | true => some v :: none :: xen t | false => some v :: xen t)
def xpad : xL → Nat → xL
  | l, 0 => l
  | [], k + 1 => none :: xpad [] k
  | a :: t, k + 1 => a :: xpad t k
theorem xpad_gt : ∀ {l : xL} {k j : Nat} {v : Value}, xgt (xpad l k) j = some v → xgt l j = some v
  | l, 0, j, v, h => by simpa only [xpad] using h
  | [], k + 1, 0, v, h => by simp [xpad, xgt] at h
  | [], k + 1, j + 1, v, h => by
    simp only [xpad, xgt] at h
    have := xpad_gt h
    simp [xgt] at this
  | a :: t, k + 1, 0, v, h => by simpa only [xpad, xgt] using h
  | a :: t, k + 1, j + 1, v, h => by
    simp only [xpad, xgt] at h
    simpa only [xgt] using xpad_gt h
theorem xen_args (z : Nat) : ∀ (av : List Value) (q j : Nat) (v : Value), xgt (xen av) j = some v → (q + j, xr z v) ∈ lv_args q (av.map (xr z))
  | [], q, j, v, h => by simp [xen, xgt] at h
  | w :: t, q, j, v, h => by
    simp only [List.map_cons, lv_args]
    cases hw : xc2 w with
    | true =>
      have hc := (xc2_cat w).mp hw
      simp only [xen, hw] at h
      match j, h with
      | 0, h => simp only [xgt, Option.some.injEq] at h; subst h; exact List.mem_cons_self
      | 1, h => simp [xgt] at h
      | j + 2, h =>
        simp only [xgt] at h
        refine List.mem_cons_of_mem _ ?_
        rw [xr_cat, if_pos hc, show q + (j + 2) = q + 2 + j by omega]
        exact xen_args z t (q + 2) j v h
    | false =>
      have hc : ¬ w.category = 2 := fun q => by rw [(xc2_cat w).mpr q] at hw; cases hw
      simp only [xen, hw] at h
      match j, h with
      | 0, h => simp only [xgt, Option.some.injEq] at h; subst h; exact List.mem_cons_self
      | j + 1, h =>
        simp only [xgt] at h
        refine List.mem_cons_of_mem _ ?_
        rw [xr_cat, if_neg hc, show q + (j + 1) = q + 1 + j by omega]
        exact xen_args z t (q + 1) j v h
theorem xen_len (z : Nat) : ∀ (av : List Value), (lg_sl (av.map (xr z))).length = (xen av).length
  | [] => rfl
  | w :: t => by
    have ih := xen_len z t
    simp only [lg_sl, List.map_cons, List.flatMap_cons, List.length_append] at ih ⊢
    rw [ih, xr_cat]
    cases hw : xc2 w with
    | true =>
      rw [if_pos ((xc2_cat w).mp hw)]
      simp only [xen, hw, List.length_cons, List.length_nil]
      omega
    | false =>
      rw [if_neg (fun q => by rw [(xc2_cat w).mpr q] at hw; cases hw)]
      simp only [xen, hw, List.length_cons, List.length_nil]
      omega
/-- a contract out of the run from its entry -/
theorem xCall.of {M : xM} {d mc ms : Nat} {av : List Value} {n : Nat} {h : xHp} {Q : xQt} (hG : xGd M = true) (hlen : Nat.ble (xen av).length M.1.2.2.2.1 = true) (k : xT M (d, mc, ms, 0, 0) 0 (xpad (xen av) M.1.2.2.2.1) [] n h Q) : xCall M d mc ms av n h Q := by
  have hlen := Nat.le_of_ble_eq_true hlen
  intro l g
  refine Met.ofW (cc := M.1.2.2.1) (maxL := M.1.2.2.2.1) (ret := M.1.2.2.2.2.1) (xGd_name hG) rfl ?_
  intro p e s m args below meth c s₁ B hml hv
  obtain ⟨rfl, hP, hK, hN⟩ := hv
  have hts := atoms_spec (ws := xws M) B.pre
  have hl := lv_entry (av.map (xr g.2.2)) (n := M.1.2.2.2.1) (by rw [xen_len]; exact hlen)
  rw [lg_entry_eq]
  refine k g p l e s m _ below meth c s.heap [] _ ⟨B.exec, B.bytes, hml, findClass_of_methodNamed B.named, fun w hw => hts w (List.mem_cons_of_mem _ hw), B.returns, B.notSynchronized, (name_of_methodNamed B.named B.method).1, hK, hN, hG, by rw [hP.1]; omega⟩ hP va_S.rf ⟨hl.1, hl.2.1, fun i v hi => ?_⟩
  have := xen_args g.2.2 av 0 i v (xpad_gt hi)
  rw [Nat.zero_add] at this
  exact hl.2.2 _ this
/-- the stack's upper values as arguments -/
def xtk : Nat → List Value → List Value → Option (List Value × List Value)
  | 0, st, acc => some (acc, st)
  | _ + 1, [], _ => none
  | k + 1, v :: st, acc => xtk k st (v :: acc)
theorem xtk_spec : ∀ {k : Nat} {st acc av rest : List Value}, xtk k st acc = some (av, rest) → ∃ us, av = us ++ acc ∧ st = us.reverse ++ rest ∧ us.length = k
  | 0, st, acc, av, rest, h => by simp only [xtk, Option.some.injEq, Prod.mk.injEq] at h; exact ⟨[], by simp [h.1], by simp [h.2], rfl⟩
  | k + 1, [], acc, av, rest, h => by simp [xtk] at h
  | k + 1, v :: st, acc, av, rest, h => by
    simp only [xtk] at h
    obtain ⟨us, h1, h2, h3⟩ := xtk_spec h
    exact ⟨us ++ [v], by simp [h1], by simp [h2], by simp [h3]⟩
def xcat (st : List Value) : Nat := (st.map fun v => v.category).sum
theorem xcat_r (z : Nat) (st : List Value) : ((st.map (xr z)).map fun v => v.category).sum = xcat st := by
  rw [List.map_map]
  unfold xcat
  congr 2
  funext v
  exact xr_cat z v
theorem xGI {ws : List Cond} (h : ∀ w ∈ ws, w ∈ xWd) : GoodIn xWd ws := fun w hw => ⟨h w hw, good_of_word (xWd_good (h w hw))⟩
section XCALL
variable {p : Program} {l0 : Launch} {e : Env} {R : Room} {s : State} {m : MethodId} {args : Array Value} {below : List Frame} {meth : Method} {c : Code} {H : Heap} {locs : List Loc} {cu su mc ms pc : Nat} {ls : Array Slot} {rest st0 : List Value} {g : xG} {Q' : xQt} {Qf : State → Prop} {av : Array Value} {H0 : Heap}
theorem x_call (hr : va_Run p l0 e R s m args below meth c H locs cu su mc ms (F0 m pc ls st0) rest (xQ g Q' av) (xA g)) (hS : va_S (xA g) H0 H locs)
    (kk : ∀ (r : Option Value) (n : Nat) (h : xHp) (H1 : Heap) (locs1 : List Loc), Q' r n h → xP g n h H1 → va_S (xA g) H0 H1 locs1 → W p l0 e R s m args below meth c H1 locs1 (cu + mc) (su + ms) Qf (F0 m (pc + 3) ls ((r.map (xr g.2.2)).toList ++ rest))) : W p l0 e R s m args below meth c H locs cu su Qf (F0 m pc ls st0) := by
  intro T hT X
  obtain ⟨v, st₀, t, T', L, h0, X', hL, e1, e2, ⟨⟨r, n, h, hv, hq, hP⟩, hz, hk⟩, st⟩ := hr T hT X
  cases hv
  rw [h0] at hz hk
  obtain ⟨t2, a1, b1⟩ := kk r n h T'.heap (locs ++ L) hq (by rw [e1]; exact hP)
    ⟨Nat.le_trans hS.1 (by rw [e1]; exact hz), fun q h1 h2 => by rw [e1, hk q (Nat.lt_of_lt_of_le h1 hS.1) h2]; exact hS.2.1 q h1 h2, fun q hq => by
      rcases List.mem_append.mp hq with h | h
      · exact hS.2.2 q h
      · exact hL q h⟩ T' rfl X'
  exact ⟨t2, st t2 a1, b1⟩
end XCALL
section XRUN
variable {p : Program} {l : Launch} {e : Env} {R : Room} {s : State} {m : MethodId} {args : Array Value} {below : List Frame} {meth : Method} {c : Code} {H : Heap} {locs : List Loc} {cells slots : Nat}
variable {y : MethodName} {bytes cc : ByteArray} {maxL nL mc ms n index : Nat} {ret : Option FieldType} {ws : List Cond} {rm : Room} {Pc : Array Value → State → Prop} {Qc : Array Value → State → Outcome → State → Prop} {free : Addr → Prop} {Ts : List Cond} {own C : String} {b : Addr} {As rest : List Value} {g : JFrame}
/-- a call with up to twenty words below its arguments -/
theorem x_runV (S : CallFix p m c cc nL s args Ts own) (hM : Met l y ws rm Pc Qc mc ms free) (cw : CallW R s args own C index y bytes maxL ret ws rm mc ms n) (h20 : 20 + (maxL + 11) + rm.locals ≤ R.locals) (hp : PreV s H C b Pc As)
    (hg : g.method = m) (hn : As.length = n) (hsize : g.locals.size = nL) (hstack : g.stack = As.reverse ++ .ref b :: rest) (hW : 2 * g.monitorRoom + (rest.map fun v => v.category).sum ≤ 20) (hdg : decode cc g.pc = .ok (.invokevirtual index, 3)) (hf : cells + mc ≤ R.cells ∧ slots + ms ≤ R.slots) :
    va_Run p l e R s m args below meth c H locs cells slots mc ms g rest (Qc (Value.ref b :: As).toArray) (free) := by
  obtain ⟨⟨hrc, hrs, hfr, -, hws, hcw, hcode, hini, hy, hlen, hl⟩, hin, hse⟩ := cw
  have hK : Back l R p e below s args y 3 20 (PreOf R mc ms Pc) (PostOf Qc mc ms free) := back_of (bytes := bytes) (maxL := maxL) (ret := ret) hM hp.1 hrc hrs hfr h20 hws hcw (fun a' U hWm => word_at hWm (Or.inl (by first | rfl | simp [Cond.onTables, Cond.keeps, Cond.steady])) hini)
  obtain ⟨hx, hb, hml, ho, -⟩ := S
  obtain ⟨-, ⟨cellB, hcB, hoB, hclB⟩, hPc⟩ := hp
  intro T hT X
  obtain ⟨v, vm₁, ⟨U', l2, c2, s2⟩, hW₁, X', ⟨g', mk, t, L, e1, e2, hq, h1, hL, h2, h3⟩, st⟩ := callV X hx (C := C) (bytes := bytes) (maxL := maxL) (ret := ret) ho hl hin hse hcode hy hK (by rw [hT]; exact hcB) hoB hclB hg (hsize.trans hml.symm) (argsL := As) (rest := rest) (fun sig h => hn.trans (hlen sig h)) hstack hW (by rw [hb]; exact hdg) (fun vm₁ hW₁ => ⟨hf.1, hf.2, hPc (T.setVm vm₁) hT hW₁⟩)
  dsimp only [Pt.U, Pt.locs, Pt.cells, Pt.slots] at X' e1 e2 h1 h2 h3 st
  subst h1; subst h2; subst h3
  exact ⟨v, (T.setVm vm₁).calling g' mk (Value.ref b :: As).toArray, t, U', L, hT, X', hL, e1, e2, hq, st⟩
end XRUN
theorem xhead {b : Nat} {M : xH} (h : xat xHs b = some M) : Cond.code M.2.1 M.2.2.1 M.2.2.2.1 M.2.2.2.2.1 ∈ xWd ∧ Cond.initialized M.2.1.cls ∈ xWd ∧ (M.2.1.cls ≠ "java/lang/invoke/MethodHandle" ∧ M.2.1.cls ≠ "java/lang/invoke/VarHandle") ∧ xnp M.2.1 = some M.2.2.2.2.2.2 ∧ M.2.2.2.1 ≤ 45 ∧
    (M.2.2.2.2.2.1 = 0 → Cond.static M.2.1 ∈ xWd) ∧ (M.2.2.2.2.2.1 = 2 → Cond.instanceMethod M.2.1 ∈ xWd ∧ M.2.1.name = "<init>" ∧ M.2.2.2.2.1 = none) ∧
    (M.2.2.2.2.2.1 = 1 → Cond.instanceMethod M.2.1 ∈ xWd ∧ Cond.selects M.2.1.cls M.2.1 M.2.1 ∈ xWd ∧ ∃ r, xcl[M.1]? = some r ∧ r.1 = M.2.1.cls) := by
  rw [← xHs_eq] at h
  obtain ⟨q, hq, rfl⟩ := xat_map _ h
  have h1 := xHt_code q hq
  have h2 := xHt_ok q hq
  unfold xhd at h2
  simp only [Bool.and_eq_true, decide_eq_true_eq, xnh] at h2
  obtain ⟨⟨⟨⟨a1, a2⟩, a3⟩, a4⟩, a5⟩ := h2
  refine ⟨List.mem_filter.mpr ⟨xat_mem h1, rfl⟩, xat1_mem a1, a2, a3, a4, fun z => ?_, fun z => ?_, fun z => ?_⟩
  · rw [if_pos z] at a5
    exact xat1_mem a5
  · rw [if_neg (by omega), if_pos z] at a5
    simp only [Bool.and_eq_true, decide_eq_true_eq] at a5
    exact ⟨xat1_mem a5.1, a5.2.1, a5.2.2⟩
  · rw [if_neg (by omega), if_neg (by omega)] at a5
    simp only [Bool.and_eq_true] at a5
    refine ⟨xat1_mem a5.1, xat1_mem a5.2.1, ?_⟩
    cases hr : xcl[q.1.1]? with
    | none => rw [hr] at a5; exact absurd a5.2.2 (by simp)
    | some r =>
      rw [hr] at a5
      exact ⟨r, rfl, of_decide_eq_true a5.2.2⟩
section XC
variable {M M' : xM} {d mc ms cu su d' mc' ms' : Nat} {pc nx b hh i : Nat} {a : Int} {l : xL} {st st' av : List Value} {n : Nat} {h : xHp} {Q Q' : xQt}
theorem xroom (hd : d' + 1 ≤ d) {L : Nat} (hL : L ≤ 45) : (xR d' mc' ms').frames + 1 ≤ (xR d mc ms).frames ∧ 8 + (L + 11) + (xR d' mc' ms').locals ≤ (xR d mc ms).locals := ⟨hd, by show 8 + (L + 11) + 80 * d' ≤ 80 * d; omega⟩
theorem tt_callV {q ci : Nat} {fs : List Value} (hf : xfe M pc = some (.invokevirtual i, nx, a, b, hh)) (hM : xat xHs b = some M'.1) (hst : xtk a.toNat st' [] = some (.ref q :: av, st)) (hq : h q = some (.inr (ci, fs))) (hci : M'.1.1 = ci) (hC : xCall M' d' mc' ms' (.ref q :: av) n h Q') (k : ∀ r n' h', Q' r n' h' → xT M (d, mc, ms, cu + mc', su + ms') nx l (r.toList ++ st) n' h' Q) (hd : d' + 1 ≤ d := by exact Nat.le_of_ble_eq_true rfl) (h1 : cu + mc' ≤ mc := by exact Nat.le_of_ble_eq_true rfl) (h2 : su + ms' ≤ ms := by exact Nat.le_of_ble_eq_true rfl) (hW : xcat st ≤ 20 := by exact Nat.le_of_ble_eq_true rfl)
    : xT M (d, mc, ms, cu, su) pc l st' n h Q := by
  intro g p l0 e s m args below meth c H locs ls C hP hS hL
  obtain ⟨hx, hb, hml, hown, hts, hr, hlk, hnm, hK, hN, hG, hz⟩ := id C
  obtain ⟨hdc, hnx, hsp, hix⟩ := xfe_ok hG hf
  subst hnx
  simp only [xsp, hM, Bool.and_eq_true, decide_eq_true_eq] at hsp
  obtain ⟨c1, c2, c3, c4, c5, -, -, c6⟩ := xhead hM
  obtain ⟨c7, c8, r, c9, c10⟩ := c6 hsp.1.1
  obtain ⟨us, u1, u2, u3⟩ := xtk_spec hst
  simp only [List.append_nil] at u1
  subst u1
  subst hci
  have hstk : st'.map (xr g.2.2) = (av.map (xr g.2.2)).reverse ++ .ref (g.2.2 + q) :: st.map (xr g.2.2) := by
    rw [u2]; simp [xr]
  have hlen : (av.map (xr g.2.2)).length = M'.1.2.2.2.2.2.2 := by
    have e1 := hsp.1.2
    simp only [List.length_cons] at u3
    rw [List.length_map]
    omega
  refine x_call (g := g) (Q' := Q') (mc := mc') (ms := ms') (rest := st.map (xr g.2.2)) (x_runV (As := av.map (xr g.2.2)) (b := g.2.2 + q) ⟨hx, hb, hml, hown, hts⟩ (hC l0 g) (cwV (ws' := xWd) M'.1.2.2.2.2.2.2 hts (xGI fun w hw => ?_) rfl rfl rfl ⟨rfl, c3.1, c3.2, c4⟩ (xroom hd c5)) (by show 20 + (M'.1.2.2.2.1 + 11) + 80 * d' ≤ 80 * d; omega) ⟨xPc_blind g _ n h, ?_, fun U hU hWm => ⟨by simp [xr], by rw [hU]; exact hP, va_K.moved hWm.alike hK, xNw_moved hWm hN⟩⟩ rfl hlen hL.1 hstk ?_ hdc ⟨h1, h2⟩) hS ?_
  · simp only [wsV, List.mem_append, List.mem_cons, List.not_mem_nil, or_false] at hw
    rcases hw with (rfl | rfl | rfl | rfl) | hw
    · exact xat1_mem hsp.2
    · exact c7
    · exact c8
    · exact c2
    · rcases List.mem_cons.mp hw with rfl | hw
      · exact c1
      · exact hw
  · obtain ⟨cell, k1, k2, k3⟩ := va_recv hK hP.2.2 c9 (hP.get hq)
    exact ⟨cell, k1, k2, by rw [← c10]; exact k3⟩
  · rw [xcat_r]
    show 2 * 0 + xcat st ≤ 20
    omega
  · intro r1 n1 h1' H1 locs1 hq1 hP1 hS1
    have := k r1 n1 h1' hq1 g p l0 e s m args below meth c H1 locs1 ls C hP1 hS1 hL
    cases r1 <;> exact this
theorem tt_callS (hf : xfe M pc = some (.invokestatic i, nx, a, b, hh)) (hM : xat xHs b = some M'.1) (hb1 : Nat.beq b 1001 = false) (hst : xtk a.toNat st' [] = some (av, st)) (hC : xCall M' d' mc' ms' av n h Q') (k : ∀ r n' h', Q' r n' h' → xT M (d, mc, ms, cu + mc', su + ms') nx l (r.toList ++ st) n' h' Q) (hd : d' + 1 ≤ d := by exact Nat.le_of_ble_eq_true rfl) (h1 : cu + mc' ≤ mc := by exact Nat.le_of_ble_eq_true rfl) (h2 : su + ms' ≤ ms := by exact Nat.le_of_ble_eq_true rfl) (hW : xcat st ≤ 8 := by exact Nat.le_of_ble_eq_true rfl)
    : xT M (d, mc, ms, cu, su) pc l st' n h Q := by
  intro g p l0 e s m args below meth c H locs ls C hP hS hL
  obtain ⟨hx, hb, hml, hown, hts, hr, hlk, hnm, hK, hN, hG, hz⟩ := id C
  obtain ⟨hdc, hnx, hsp, hix⟩ := xfe_ok hG hf
  subst hnx
  have hb1 := Nat.ne_of_beq_eq_false hb1
  simp only [xsp, if_neg hb1, hM, Bool.and_eq_true, decide_eq_true_eq] at hsp
  obtain ⟨c1, c2, c3, c4, c5, c6, -, -⟩ := xhead hM
  have c7 := c6 hsp.1.1
  obtain ⟨us, u1, u2, u3⟩ := xtk_spec hst
  simp only [List.append_nil] at u1
  subst u1
  have hstk : st'.map (xr g.2.2) = (av.map (xr g.2.2)).reverse ++ st.map (xr g.2.2) := by
    rw [u2]; simp
  have hlen : (av.map (xr g.2.2)).length = M'.1.2.2.2.2.2.2 := by
    have e1 := hsp.1.2
    rw [List.length_map]
    omega
  have hsum : 2 * (F0 m pc ls (st'.map (xr g.2.2))).monitorRoom + ((st.map (xr g.2.2)).map fun v => v.category).sum ≤ 8 := by
    rw [xcat_r]
    show 2 * 0 + xcat st ≤ 8
    omega
  have hpre : PreS s H (xPc g av n h) (av.map (xr g.2.2)) := ⟨xPc_blind g _ n h, fun U hU hWm => ⟨rfl, by rw [hU]; exact hP, va_K.moved hWm.alike hK, xNw_moved hWm hN⟩⟩
  have hgi : GoodIn xWd (xws M') := xGI fun w hw => by
    rcases List.mem_cons.mp hw with rfl | hw
    · exact c1
    · exact hw
  have hrun : va_Run p l0 e (xR d mc ms) s m args below meth c H locs cu su mc' ms' (F0 m pc ls (st'.map (xr g.2.2))) (st.map (xr g.2.2)) (xQ g Q' (av.map (xr g.2.2)).toArray) (xA g) := by
    have hl3 := hsp.2
    unfold xlk at hl3
    rw [Bool.or_eq_true] at hl3
    rcases hl3 with hl3 | hl3
    · exact va_runS ⟨hx, hb, hml, hown, hts⟩ (hC l0 g) ⟨callB_of (ws' := xWd) M'.1.2.2.2.2.2.2 hts hgi rfl rfl rfl (hts _ c2) (hts _ (xat1_mem hl3)) ⟨c3.1, c3.2, c4⟩ (xroom hd c5), hts _ c7⟩ hpre rfl hlen hL.1 hstk hsum hdc ⟨h1, h2⟩
    · have hnw := hN.1 _ (of_decide_eq_true hl3)
      exact va_runSN ⟨hx, hb, hml, hown, hts⟩ (hC l0 g) ⟨va_cnB (ws' := xWd) M'.1.2.2.2.2.2.2 hts hgi rfl rfl rfl hnw (hts _ c2) ⟨c3.1, c3.2, c4⟩ (xroom hd c5), hts _ c7, trivial⟩ hpre rfl hlen hL.1 hstk hsum hdc ⟨h1, h2⟩
  refine x_call hrun hS ?_
  intro r1 n1 h1' H1 locs1 hq1 hP1 hS1
  have := k r1 n1 h1' hq1 g p l0 e s m args below meth c H1 locs1 ls C hP1 hS1 hL
  cases r1 <;> exact this
theorem tt_callI {q : Nat} (hf : xfe M pc = some (.invokespecial i, nx, a, b, hh)) (hM : xat xHs b = some M'.1) (hb1 : Nat.beq b 1000 = false) (hst : xtk a.toNat st' [] = some (.ref q :: av, st)) (hC : xCall M' d' mc' ms' (.ref q :: av) n h Q') (k : ∀ r n' h', Q' r n' h' → xT M (d, mc, ms, cu + mc', su + ms') nx l (r.toList ++ st) n' h' Q) (hd : d' + 1 ≤ d := by exact Nat.le_of_ble_eq_true rfl) (h1 : cu + mc' ≤ mc := by exact Nat.le_of_ble_eq_true rfl) (h2 : su + ms' ≤ ms := by exact Nat.le_of_ble_eq_true rfl) (hW : xcat st ≤ 8 := by exact Nat.le_of_ble_eq_true rfl)
    : xT M (d, mc, ms, cu, su) pc l st' n h Q := by
  intro g p l0 e s m args below meth c H locs ls C hP hS hL
  obtain ⟨hx, hb, hml, hown, hts, hr, hlk, hnm, hK, hN, hG, hz⟩ := id C
  obtain ⟨hdc, hnx, hsp, hix⟩ := xfe_ok hG hf
  subst hnx
  have hb1 := Nat.ne_of_beq_eq_false hb1
  simp only [xsp, if_neg hb1, hM, Bool.and_eq_true, decide_eq_true_eq] at hsp
  obtain ⟨c1, c2, c3, c4, c5, -, c6, -⟩ := xhead hM
  obtain ⟨c7, c8, c9⟩ := c6 hsp.1.1
  obtain ⟨us, u1, u2, u3⟩ := xtk_spec hst
  simp only [List.append_nil] at u1
  subst u1
  have hstk : st'.map (xr g.2.2) = (av.map (xr g.2.2)).reverse ++ .ref (g.2.2 + q) :: st.map (xr g.2.2) := by
    rw [u2]; simp [xr]
  have hlen : (av.map (xr g.2.2)).length = M'.1.2.2.2.2.2.2 := by
    have e1 := hsp.1.2
    simp only [List.length_cons] at u3
    rw [List.length_map]
    omega
  have hsum : 2 * (F0 m pc ls (st'.map (xr g.2.2))).monitorRoom + ((st.map (xr g.2.2)).map fun v => v.category).sum ≤ 8 := by
    rw [xcat_r]
    show 2 * 0 + xcat st ≤ 8
    omega
  have hpre : PreS s H (xPc g (.ref q :: av) n h) (.ref (g.2.2 + q) :: av.map (xr g.2.2)) := ⟨xPc_blind g _ n h, fun U hU hWm => ⟨rfl, by rw [hU]; exact hP, va_K.moved hWm.alike hK, xNw_moved hWm hN⟩⟩
  have hws : xws M' = Cond.code M'.1.2.1 M'.1.2.2.1 M'.1.2.2.2.1 none :: xWd := by unfold xws; rw [c9]
  have hgi : GoodIn xWd (xws M') := xGI fun w hw => by
    rcases List.mem_cons.mp hw with rfl | hw
    · exact c1
    · exact hw
  have hrun : va_Run p l0 e (xR d mc ms) s m args below meth c H locs cu su mc' ms' (F0 m pc ls (st'.map (xr g.2.2))) (st.map (xr g.2.2)) (xQ g Q' (Value.ref (g.2.2 + q) :: av.map (xr g.2.2)).toArray) (xA g) := by
    have hl3 := hsp.2
    unfold xlk at hl3
    rw [Bool.or_eq_true] at hl3
    rcases hl3 with hl3 | hl3
    · exact va_runI ⟨hx, hb, hml, hown, hts⟩ (hC l0 g) (cwI (ws' := xWd) M'.1.2.2.2.2.2.2 hts hgi hws rfl rfl (hts _ c2) (hts _ (xat1_mem hl3)) (hts _ c7) c8 ⟨c3.1, c3.2, c4⟩ (xroom hd c5)) hpre rfl hlen hL.1 hstk hsum hdc ⟨h1, h2⟩
    · have hnw := hN.1 _ (of_decide_eq_true hl3)
      exact va_runIN ⟨hx, hb, hml, hown, hts⟩ (hC l0 g) ⟨va_cnB (ws' := xWd) M'.1.2.2.2.2.2.2 hts hgi hws rfl rfl hnw (hts _ c2) ⟨c3.1, c3.2, c4⟩ (xroom hd c5), c8, hts _ c7⟩ hpre rfl hlen hL.1 hstk hsum hdc ⟨h1, h2⟩
  refine x_call hrun hS ?_
  intro r1 n1 h1' H1 locs1 hq1 hP1 hS1
  have := k r1 n1 h1' hq1 g p l0 e s m args below meth c H1 locs1 ls C hP1 hS1 hL
  cases r1 <;> exact this
theorem tt_obj {q : Nat} (hf : xfe M pc = some (.invokespecial i, nx, a, 1000, hh)) (k : xT M (d, mc, ms, cu, su) nx l st n h Q) (hd : 1 ≤ d := by exact Nat.le_of_ble_eq_true rfl) (hW : xcat st ≤ 8 := by exact Nat.le_of_ble_eq_true rfl) : xT M (d, mc, ms, cu, su) pc l (.ref q :: st) n h Q := by
  intro g p l0 e s m args below meth c H locs ls C hP hS hL
  obtain ⟨hx, hb, hml, hown, hts, hr, hlk, hnm, hK, hN, hG, hz⟩ := id C
  obtain ⟨hdc, hnx, hsp, hix⟩ := xfe_ok hG hf
  subst hnx
  simp only [xsp, if_pos, Bool.and_eq_true] at hsp
  refine W.objInit hx hb hown (hts _ (xin_mem hsp.1.1)) (hts _ (xin_mem hsp.1.2)) (hts _ (xin_mem hsp.2)) rfl (hL.1.trans hml.symm) rfl hdc hd ?_ (k g p l0 e s m args below meth c H locs ls C hP hS hL)
  rw [xcat_r]
  show 2 * 0 + xcat st + 12 ≤ 80 * d
  omega
end XC
end
section
/-! Calls that change nothing; Math; arraycopy -/
def xPure (M : xM) (d : Nat) (av : List Value) (n : Nat) (h : xHp) (v : Value) : Prop := xCall M d 0 0 av n h (fun r n' h' => r = some v ∧ n' = n ∧ h' = h)
section XP
variable {M M' : xM} {d mc ms cu su d' : Nat} {pc nx b hh i : Nat} {a : Int} {l : xL} {st st' av : List Value} {n : Nat} {h : xHp} {Q : xQt} {v : Value}
theorem tt_pV {q ci : Nat} {fs : List Value} (hf : xfe M pc = some (.invokevirtual i, nx, a, b, hh)) (hM : xat xHs b = some M'.1) (hst : xtk a.toNat st' [] = some (.ref q :: av, st)) (hq : h q = some (.inr (ci, fs))) (hci : M'.1.1 = ci) (hC : xPure M' d' (.ref q :: av) n h v) (k : xT M (d, mc, ms, cu, su) nx l (v :: st) n h Q) (hd : d' + 1 ≤ d := by exact Nat.le_of_ble_eq_true rfl) (h1 : cu ≤ mc := by exact Nat.le_of_ble_eq_true rfl) (h2 : su ≤ ms := by exact Nat.le_of_ble_eq_true rfl) (hW : xcat st ≤ 20 := by exact Nat.le_of_ble_eq_true rfl) : xT M (d, mc, ms, cu, su) pc l st' n h Q :=
  tt_callV hf hM hst hq hci hC (fun r n' h' q => by obtain ⟨rfl, rfl, rfl⟩ := q; exact k) hd h1 h2 hW
theorem tt_pS (hf : xfe M pc = some (.invokestatic i, nx, a, b, hh)) (hM : xat xHs b = some M'.1) (hb1 : Nat.beq b 1001 = false) (hst : xtk a.toNat st' [] = some (av, st)) (hC : xPure M' d' av n h v) (k : xT M (d, mc, ms, cu, su) nx l (v :: st) n h Q) (hd : d' + 1 ≤ d := by exact Nat.le_of_ble_eq_true rfl) (h1 : cu ≤ mc := by exact Nat.le_of_ble_eq_true rfl) (h2 : su ≤ ms := by exact Nat.le_of_ble_eq_true rfl) (hW : xcat st ≤ 8 := by exact Nat.le_of_ble_eq_true rfl) : xT M (d, mc, ms, cu, su) pc l st' n h Q :=
  tt_callS hf hM hb1 hst hC (fun r n' h' q => by obtain ⟨rfl, rfl, rfl⟩ := q; exact k) hd h1 h2 hW
theorem xabs_code : cJ9_abs_067f4 = Lib.MathLoose.abs_long.code := by decide +kernel
theorem xmax_code : cJ9_max_f86c9 = Lib.MathLoose.max_long.code := by decide +kernel
theorem tt_abs {x : Int64} (hf : xfe M pc = some (.invokestatic i, nx, a, 144, hh)) (k : xT M (d, mc, ms, cu, su) nx l (.long (if 0 < x then x else -x) :: st) n h Q) (hd : 1 ≤ d := by exact Nat.le_of_ble_eq_true rfl) (h1 : cu ≤ mc := by exact Nat.le_of_ble_eq_true rfl) (h2 : su ≤ ms := by exact Nat.le_of_ble_eq_true rfl) (hW : xcat st ≤ 8 := by exact Nat.le_of_ble_eq_true rfl) : xT M (d, mc, ms, cu, su) pc l (.long x :: st) n h Q := by
  intro g p l0 e s m args below meth c H locs ls C hP hS hL
  obtain ⟨hx, hb, hml, hown, hts, hr, hlk, hnm, hK, hN, hG, hz⟩ := id C
  obtain ⟨hdc, hnx, hsp, hix⟩ := xfe_ok hG hf
  subst hnx
  have hM : xat xHs 144 = some xhJ9_abs_067f4 := rfl
  obtain ⟨c1, c2, -, -, -, c6, -, -⟩ := xhead hM
  simp only [xsp, hM, Bool.and_eq_true, decide_eq_true_eq] at hsp
  rw [if_neg (by decide)] at hsp
  simp only [Bool.and_eq_true, decide_eq_true_eq] at hsp
  have hl3 := hsp.2
  unfold xlk at hl3
  rw [Bool.or_eq_true] at hl3
  rcases hl3 with hl3 | hl3
  · refine va_mabs_long hx hb (hml.trans hL.1.symm) hown (hts _ (xat1_mem hl3)) (hts _ (c6 rfl)) (hts _ c2) (hts (.code yJ9_abs_067f4 Lib.MathLoose.abs_long.code 2 (some .long)) (by rw [← xabs_code]; exact c1)) hd ?_ h1 h2 hdc (k g p l0 e s m args below meth c H locs ls C hP hS hL)
    rw [xcat_r]
    show xcat st + 13 ≤ 80 * d
    omega
  · simp only [decide_eq_true_eq, xNs, List.mem_cons, Prod.mk.injEq, List.not_mem_nil, or_false] at hl3
    exact absurd hl3 (by rintro (h | h | h | h | h | h | h) <;> exact absurd h.2.2 (by decide))
theorem tt_max {x y : Int64} (hf : xfe M pc = some (.invokestatic i, nx, a, 145, hh)) (k : xT M (d, mc, ms, cu, su) nx l (.long (if y < x then x else y) :: st) n h Q) (hd : 1 ≤ d := by exact Nat.le_of_ble_eq_true rfl) (h1 : cu ≤ mc := by exact Nat.le_of_ble_eq_true rfl) (h2 : su ≤ ms := by exact Nat.le_of_ble_eq_true rfl) (hW : xcat st ≤ 8 := by exact Nat.le_of_ble_eq_true rfl) : xT M (d, mc, ms, cu, su) pc l (.long y :: .long x :: st) n h Q := by
  intro g p l0 e s m args below meth c H locs ls C hP hS hL
  obtain ⟨hx, hb, hml, hown, hts, hr, hlk, hnm, hK, hN, hG, hz⟩ := id C
  obtain ⟨hdc, hnx, hsp, hix⟩ := xfe_ok hG hf
  subst hnx
  have hM : xat xHs 145 = some xhJ9_max_f86c9 := rfl
  obtain ⟨c1, c2, -, -, -, c6, -, -⟩ := xhead hM
  simp only [xsp, hM, Bool.and_eq_true, decide_eq_true_eq] at hsp
  rw [if_neg (by decide)] at hsp
  simp only [Bool.and_eq_true, decide_eq_true_eq] at hsp
  have hl3 := hsp.2
  unfold xlk at hl3
  rw [Bool.or_eq_true] at hl3
  rcases hl3 with hl3 | hl3
  · refine va_mmax_long hx hb (hml.trans hL.1.symm) hown (hts _ (xat1_mem hl3)) (hts _ (c6 rfl)) (hts _ c2) (hts (.code yJ9_max_f86c9 Lib.MathLoose.max_long.code 4 (some .long)) (by rw [← xmax_code]; exact c1)) hd ?_ h1 h2 hdc (k g p l0 e s m args below meth c H locs ls C hP hS hL)
    rw [xcat_r]
    show xcat st + 15 ≤ 80 * d
    omega
  · simp only [decide_eq_true_eq, xNs, List.mem_cons, Prod.mk.injEq, List.not_mem_nil, or_false] at hl3
    exact absurd hl3 (by rintro (h | h | h | h | h | h | h) <;> exact absurd h.2.2 (by decide))
theorem tt_cpyI {q q' N N' : Nat} {f f' : Nat → Int32} {sp dp k : Int32} (hf : xfe M pc = some (.invokestatic i, nx, a, 1001, hh)) (hq : h q = some (.inl (N, .inl f))) (hq' : h q' = some (.inl (N', .inl f'))) (h1 : ¬ sp < 0) (h2 : ¬ dp < 0) (h3 : ¬ k < 0) (h4 : sp.toNatClampNeg + k.toNatClampNeg ≤ N) (h5 : dp.toNatClampNeg + k.toNatClampNeg ≤ N')
    (kk : xT M (d, mc, ms, 0, su) nx l st n (xup h q' (.inl (N', .inl (va_cpy f f' sp.toNatClampNeg dp.toNatClampNeg k.toNatClampNeg)))) Q) (hd : 1 ≤ d := by exact Nat.le_of_ble_eq_true rfl) (hW : xcat st ≤ 8 := by exact Nat.le_of_ble_eq_true rfl) : xT M (d, mc, ms, 0, su) pc l (.int k :: .int dp :: .ref q' :: .int sp :: .ref q :: st) n h Q := by
  intro g p l0 e s m args below meth c H locs ls C hP hS hL
  obtain ⟨hx, hb, hml, hown, hts, hr, hlk, hnm, hK, hN, hG, hz⟩ := id C
  obtain ⟨hdc, hnx, hsp, hix⟩ := xfe_ok hG hf
  subst hnx
  simp only [xsp, if_pos, Bool.and_eq_true] at hsp
  refine va_copyi (H0 := H) (A := xA g) hx hb (hml.trans hL.1.symm) hown (hts _ (xin_mem hsp.1.1.1)) (hts _ (xin_mem hsp.1.1.2)) (hts _ (xin_mem hsp.1.2)) (hts _ (xin_mem hsp.2)) hK hP.2.2 (xW_D g n h) ⟨Nat.le_refl _, fun _ _ _ => rfl, hS.2.2⟩ q q' 0 0 (hP.get hq) (hP.get hq') rfl rfl rfl h1 h2 h3 h4 h5 (fun _ _ => rfl) hd ?_ hdc (fun H1 locs1 p1 d1 s1 => ?_)
  · rw [xcat_r]
    show xcat st + (7 + 11) ≤ 80 * d
    omega
  · intro T hT X
    have b1 : T.heap.size ≤ s.heap.size + 0 := X.same.2.2.1
    rw [hT] at b1
    have b2 := s1.1
    have b3 := hS.1
    have hsz : H1.size = H.size := by omega
    refine kk g p l0 e s m args below meth c H1 locs1 ls C ⟨hsz.trans hP.1, fun j hj => ?_, ?_⟩ ⟨by omega, fun j hj hA => ?_, s1.2.2⟩ hL T hT X
    · rw [xup_n (by have := hP.lt hq'; omega)]
      exact hP.2.1 j hj
    · rw [← xW_set]
      exact p1
    · rw [s1.2.1 j (by omega) hA]
      exact hS.2.1 j hj hA
theorem tt_cpyL {q q' N N' : Nat} {f f' : Nat → Int64} {sp dp k : Int32} (hf : xfe M pc = some (.invokestatic i, nx, a, 1001, hh)) (hq : h q = some (.inl (N, .inr (.inl f)))) (hq' : h q' = some (.inl (N', .inr (.inl f')))) (h1 : ¬ sp < 0) (h2 : ¬ dp < 0) (h3 : ¬ k < 0) (h4 : sp.toNatClampNeg + k.toNatClampNeg ≤ N) (h5 : dp.toNatClampNeg + k.toNatClampNeg ≤ N')
    (kk : xT M (d, mc, ms, 0, su) nx l st n (xup h q' (.inl (N', .inr (.inl (va_cpy f f' sp.toNatClampNeg dp.toNatClampNeg k.toNatClampNeg))))) Q) (hd : 1 ≤ d := by exact Nat.le_of_ble_eq_true rfl) (hW : xcat st ≤ 8 := by exact Nat.le_of_ble_eq_true rfl) : xT M (d, mc, ms, 0, su) pc l (.int k :: .int dp :: .ref q' :: .int sp :: .ref q :: st) n h Q := by
  intro g p l0 e s m args below meth c H locs ls C hP hS hL
  obtain ⟨hx, hb, hml, hown, hts, hr, hlk, hnm, hK, hN, hG, hz⟩ := id C
  obtain ⟨hdc, hnx, hsp, hix⟩ := xfe_ok hG hf
  subst hnx
  simp only [xsp, if_pos, Bool.and_eq_true] at hsp
  refine va_copyl (H0 := H) (A := xA g) hx hb (hml.trans hL.1.symm) hown (hts _ (xin_mem hsp.1.1.1)) (hts _ (xin_mem hsp.1.1.2)) (hts _ (xin_mem hsp.1.2)) (hts _ (xin_mem hsp.2)) hK hP.2.2 (xW_D g n h) ⟨Nat.le_refl _, fun _ _ _ => rfl, hS.2.2⟩ q q' 1 1 (hP.get hq) (hP.get hq') rfl rfl rfl h1 h2 h3 h4 h5 (fun _ _ => rfl) hd ?_ hdc (fun H1 locs1 p1 d1 s1 => ?_)
  · rw [xcat_r]
    show xcat st + (7 + 11) ≤ 80 * d
    omega
  · intro T hT X
    have b1 : T.heap.size ≤ s.heap.size + 0 := X.same.2.2.1
    rw [hT] at b1
    have b2 := s1.1
    have b3 := hS.1
    have hsz : H1.size = H.size := by omega
    refine kk g p l0 e s m args below meth c H1 locs1 ls C ⟨hsz.trans hP.1, fun j hj => ?_, ?_⟩ ⟨by omega, fun j hj hA => ?_, s1.2.2⟩ hL T hT X
    · rw [xup_n (by have := hP.lt hq'; omega)]
      exact hP.2.1 j hj
    · rw [← xW_set]
      exact p1
    · rw [s1.2.1 j (by omega) hA]
      exact hS.2.1 j hj hA
end XP
end
section
/-! Constructors -/
/-- cells outside are as before -/
def xsm (h h' : xHp) (A : Nat → Prop) : Prop := ∀ j, A j → h' j = h j
set_option maxRecDepth 10000 in
theorem c_Outline_init (q cl n : Nat) (h : xHp) (hq : h q = some (.inr (3, [.null, .long 0, .long 0, .long 0, .long 0, .int 0, .int 0, .int 0, .null]))) (hn : q ≠ n) : xCall xmX3_init 2 1 14 [.ref q, .ref cl] n h (fun r n' h' => r = none ∧ n' = n + 1 ∧ h' q = some (.inr (3, [.ref cl, .long 0, .long 0, .long 0, .long 0, .int 0, .int 0, .int 0, .ref n])) ∧ h' n = some (.inl (14, .inl (fun _ => 0))) ∧ ∀ j, j ≠ q → j ≠ n → h' j = h j) := by
  refine xCall.of xgX3_init rfl ?_
  repeat (first | refine tt_op rfl rfl ?_ | refine tt_get rfl (by first | assumption | rfl) (by rfl) ?_ | refine tt_obj rfl ?_ | refine tt_iald rfl (by assumption) (by assumption) ?_ | refine tt_lald rfl (by assumption) (by assumption) ?_)
  refine tt_newI (N := 14) rfl (by decide) (by decide) (by decide) (Nat.le_of_ble_eq_true rfl) (Nat.le_of_ble_eq_true rfl) ?_
  refine tt_put rfl (by rw [xup_n hn]; exact hq) rfl (by decide) (by rfl) (by rfl) rfl ?_
  repeat (first | refine tt_op rfl rfl ?_ | refine tt_get rfl (by first | assumption | rfl) (by rfl) ?_ | refine tt_obj rfl ?_ | refine tt_iald rfl (by assumption) (by assumption) ?_ | refine tt_lald rfl (by assumption) (by assumption) ?_)
  refine tt_put rfl (xup_s) rfl (by decide) (by rfl) (by rfl) rfl ?_
  refine tt_return rfl rfl (Nat.le_of_ble_eq_true rfl) (Nat.le_of_ble_eq_true rfl) ?_
  refine ⟨rfl, rfl, xup_s, ?_, fun j h1 h2 => ?_⟩
  · rw [xup_n (Ne.symm hn), xup_n (Ne.symm hn), xup_s]
  · rw [xup_n h1, xup_n h1, xup_n h2]
set_option maxRecDepth 10000 in
theorem c_Cloud_init (q n : Nat) (h : xHp) (hq : h q = some (.inr (0, [.int 0, .null, .null, .null]))) (hn : q < n) : xCall xmX0_init 2 3 42 [.ref q] n h (fun r n' h' => r = none ∧ n' = n + 3 ∧ h' q = some (.inr (0, [.int 0, .ref n, .ref (n + 1), .ref (n + 2)])) ∧ h' n = some (.inl (14, .inl (fun _ => 0))) ∧ h' (n + 1) = some (.inl (14, .inl (fun _ => 0))) ∧ h' (n + 2) = some (.inl (14, .inl (fun _ => 0))) ∧ ∀ j, j ≠ q → j < n → h' j = h j) := by
  refine xCall.of xgX0_init rfl ?_
  repeat (first | refine tt_op rfl rfl ?_ | refine tt_get rfl (by first | assumption | rfl) (by rfl) ?_ | refine tt_obj rfl ?_ | refine tt_iald rfl (by assumption) (by assumption) ?_ | refine tt_lald rfl (by assumption) (by assumption) ?_)
  refine tt_newI (N := 14) rfl (by decide) (by decide) (by decide) (Nat.le_of_ble_eq_true rfl) (Nat.le_of_ble_eq_true rfl) ?_
  refine tt_put rfl (by rw [xup_n (by omega)]; exact hq) rfl (by decide) (by rfl) (by rfl) rfl ?_
  repeat (first | refine tt_op rfl rfl ?_ | refine tt_get rfl (by first | assumption | rfl) (by rfl) ?_ | refine tt_obj rfl ?_ | refine tt_iald rfl (by assumption) (by assumption) ?_ | refine tt_lald rfl (by assumption) (by assumption) ?_)
  refine tt_newI (N := 14) rfl (by decide) (by decide) (by decide) (Nat.le_of_ble_eq_true rfl) (Nat.le_of_ble_eq_true rfl) ?_
  refine tt_put rfl (by rw [xup_n (by omega)]; exact xup_s) rfl (by decide) (by rfl) (by rfl) rfl ?_
  repeat (first | refine tt_op rfl rfl ?_ | refine tt_get rfl (by first | assumption | rfl) (by rfl) ?_ | refine tt_obj rfl ?_ | refine tt_iald rfl (by assumption) (by assumption) ?_ | refine tt_lald rfl (by assumption) (by assumption) ?_)
  refine tt_newI (N := 14) rfl (by decide) (by decide) (by decide) (Nat.le_of_ble_eq_true rfl) (Nat.le_of_ble_eq_true rfl) ?_
  refine tt_put rfl (by rw [xup_n (by omega)]; exact xup_s) rfl (by decide) (by rfl) (by rfl) rfl ?_
  refine tt_return rfl rfl (Nat.le_of_ble_eq_true rfl) (Nat.le_of_ble_eq_true rfl) ?_
  refine ⟨rfl, rfl, xup_s, ?_, ?_, ?_, fun j h1 h2 => ?_⟩
  all_goals simp (disch := omega) only [xup_n, xup_s]
set_option maxRecDepth 10000 in
theorem c_Section_init (q n : Nat) (h : xHp) (hq : h q = some (.inr (4, [.int 0, .null]))) (hn : q < n) : xCall xmX4_init 2 1 96 [.ref q] n h (fun r n' h' => r = none ∧ n' = n + 1 ∧ h' q = some (.inr (4, [.int 0, .ref n])) ∧ h' n = some (.inl (96, .inr (.inl (fun _ => 0)))) ∧ ∀ j, j ≠ q → j < n → h' j = h j) := by
  refine xCall.of xgX4_init rfl ?_
  repeat (first | refine tt_op rfl rfl ?_ | refine tt_get rfl (by first | assumption | rfl) (by rfl) ?_ | refine tt_obj rfl ?_ | refine tt_iald rfl (by assumption) (by assumption) ?_ | refine tt_lald rfl (by assumption) (by assumption) ?_)
  refine tt_newL (N := 96) rfl (by decide) (by decide) (by decide) (Nat.le_of_ble_eq_true rfl) (Nat.le_of_ble_eq_true rfl) ?_
  refine tt_put rfl (by rw [xup_n (by omega)]; exact hq) rfl (by decide) (by rfl) (by rfl) rfl ?_
  refine tt_return rfl rfl (Nat.le_of_ble_eq_true rfl) (Nat.le_of_ble_eq_true rfl) ?_
  refine ⟨rfl, rfl, xup_s, ?_, fun j h1 h2 => ?_⟩
  all_goals simp (disch := omega) only [xup_n, xup_s]
set_option maxRecDepth 10000 in
theorem c_Motions_init (q hl n : Nat) (h : xHp) (hq : h q = some (.inr (2, [.null, .int 0, .null, .null]))) (hn : q < n) : xCall xmX2_init 2 2 686 [.ref q, .ref hl] n h (fun r n' h' => r = none ∧ n' = n + 2 ∧ h' q = some (.inr (2, [.ref hl, .int 0, .ref n, .ref (n + 1)])) ∧ h' n = some (.inl (672, .inl (fun _ => 0))) ∧ h' (n + 1) = some (.inl (14, .inl (fun _ => 0))) ∧ ∀ j, j ≠ q → j < n → h' j = h j) := by
  refine xCall.of xgX2_init rfl ?_
  repeat (first | refine tt_op rfl rfl ?_ | refine tt_get rfl (by first | assumption | rfl) (by rfl) ?_ | refine tt_obj rfl ?_ | refine tt_iald rfl (by assumption) (by assumption) ?_ | refine tt_lald rfl (by assumption) (by assumption) ?_)
  refine tt_newI (N := 672) rfl (by decide) (by decide) (by decide) (Nat.le_of_ble_eq_true rfl) (Nat.le_of_ble_eq_true rfl) ?_
  refine tt_put rfl (by rw [xup_n (by omega)]; exact hq) rfl (by decide) (by rfl) (by rfl) rfl ?_
  repeat (first | refine tt_op rfl rfl ?_ | refine tt_get rfl (by first | assumption | rfl) (by rfl) ?_ | refine tt_obj rfl ?_ | refine tt_iald rfl (by assumption) (by assumption) ?_ | refine tt_lald rfl (by assumption) (by assumption) ?_)
  refine tt_newI (N := 14) rfl (by decide) (by decide) (by decide) (Nat.le_of_ble_eq_true rfl) (Nat.le_of_ble_eq_true rfl) ?_
  refine tt_put rfl (by rw [xup_n (by omega)]; exact xup_s) rfl (by decide) (by rfl) (by rfl) rfl ?_
  repeat (first | refine tt_op rfl rfl ?_ | refine tt_get rfl (by first | assumption | rfl) (by rfl) ?_ | refine tt_obj rfl ?_ | refine tt_iald rfl (by assumption) (by assumption) ?_ | refine tt_lald rfl (by assumption) (by assumption) ?_)
  refine tt_put rfl (xup_s) rfl (by decide) (by rfl) (by rfl) rfl ?_
  refine tt_return rfl rfl (Nat.le_of_ble_eq_true rfl) (Nat.le_of_ble_eq_true rfl) ?_
  refine ⟨rfl, rfl, xup_s, ?_, ?_, fun j h1 h2 => ?_⟩
  all_goals simp (disch := omega) only [xup_n, xup_s]
end
section
theorem xT.cg {M : xM} {B B' : xB} {pc : Nat} {l l' : xL} {st : List Value} {n n' : Nat} {h : xHp} {Q : xQt} (hB : B = B') (hl : l = l') (hn : n = n') (k : xT M B' pc l' st n' h Q) : xT M B pc l st n h Q := by subst hB; subst hl; subst hn; exact k
/-- an outline's cell -/
abbrev xOl (a b c lv : Int64) (se me le : Int32) (rw : Nat) : xE := .inr (3, [.ref 1, .long a, .long b, .long c, .long lv, .int se, .int me, .int le, .ref rw])
abbrev xI14 (f : Nat → Int32) : xE := .inl (14, .inl f)
def xJ (h0 : xHp) (f : Nat) (h : xHp) : Prop := h 5 = some (.inr (1, [.ref 1, .ref 6, .int 0, .int 0, .int 0, .ref 7, .long 0, .ref 8])) ∧ (∃ rd : Nat → Option Nat, h 6 = some (.inl (24, .inr (.inr (.inr (.inr rd))))) ∧ ∀ i, i < f → rd i = some (9 + 2 * i)) ∧ h 7 = some (xI14 fun _ => 0) ∧ h 8 = some (.inl (3, .inr (.inl fun _ => 0))) ∧ (∀ i, i < f → h (9 + 2 * i) = some (xOl 0 0 0 0 0 0 0 (10 + 2 * i)) ∧ h (10 + 2 * i) = some (xI14 fun _ => 0)) ∧ ∀ j, j < 5 → h j = h0 j
set_option maxRecDepth 10000 in
theorem c_Hull_loop (h0 : xHp) (Q : xQt) (hQ : ∀ h, xJ h0 24 h → Q none 57 h) : ∀ (k f : Nat) (h : xHp), f + k = 24 → xJ h0 f h → xT xmX1_init (4, 51, 593, 3 + 2 * f, 41 + 23 * f) 35 [some (.ref 5), some (.ref 1), some (.int (nI f))] [] (9 + 2 * f) h Q := by
  intro k
  induction k with
  | zero =>
    intro f h hk hJ
    have hf : f = 24 := by omega
    subst hf
    repeat (first | refine tt_op rfl rfl ?_ | refine tt_get rfl (by first | assumption | rfl) (by rfl) ?_ | refine tt_obj rfl ?_ | refine tt_iald rfl (by assumption) (by assumption) ?_ | refine tt_lald rfl (by assumption) (by assumption) ?_)
    refine tt_icmp rfl (fun c => ?_) (fun c => absurd (show Int32.ofInt 24 ≤ nI 24 by decide) c)
    refine tt_return rfl rfl (Nat.le_of_ble_eq_true rfl) (Nat.le_of_ble_eq_true rfl) ?_
    exact hQ h hJ
  | succ k ih =>
    intro f h hk hJ
    obtain ⟨j5, ⟨rd, j6, jr⟩, j7, j8, jo, jl⟩ := hJ
    repeat (first | refine tt_op rfl rfl ?_ | refine tt_get rfl (by first | assumption | rfl) (by rfl) ?_ | refine tt_obj rfl ?_ | refine tt_iald rfl (by assumption) (by assumption) ?_ | refine tt_lald rfl (by assumption) (by assumption) ?_)
    refine tt_icmp rfl (fun c => absurd (show nI 24 ≤ nI f from c) (nI_ge (by omega) (by omega))) (fun c => ?_)
    repeat (first | refine tt_op rfl rfl ?_ | refine tt_get rfl (by first | assumption | rfl) (by rfl) ?_ | refine tt_obj rfl ?_ | refine tt_iald rfl (by assumption) (by assumption) ?_ | refine tt_lald rfl (by assumption) (by assumption) ?_)
    refine tt_new (r := (RX3, TX3, 9)) (fs := [.null, .long 0, .long 0, .long 0, .long 0, .int 0, .int 0, .int 0, .null]) rfl rfl rfl (by show 3 + 2 * f + 1 ≤ 51; omega) (by show 41 + 23 * f + 9 ≤ 593; omega) ?_
    repeat (first | refine tt_op rfl rfl ?_ | refine tt_get rfl (by first | assumption | rfl) (by rfl) ?_ | refine tt_obj rfl ?_ | refine tt_iald rfl (by assumption) (by assumption) ?_ | refine tt_lald rfl (by assumption) (by assumption) ?_)
    refine tt_callI (M' := xmX3_init) rfl rfl rfl rfl (c_Outline_init (9 + 2 * f) 1 (9 + 2 * f + 1) _ xup_s (by omega)) ?_ (Nat.le_of_ble_eq_true rfl) (by show 3 + 2 * f + 1 + 1 ≤ 51; omega) (by show 41 + 23 * f + 9 + 14 ≤ 593; omega)
    rintro r n' h' ⟨rfl, rfl, e1, e2, e3⟩
    have e6 : h' 6 = some (.inl (24, .inr (.inr (.inr (.inr rd))))) := by rw [e3 6 (by omega) (by omega), xup_n (by omega)]; exact j6
    refine tt_aast rfl e6 (vp_in_nI (by omega) (by omega)) e1 ?_
    repeat (first | refine tt_op rfl rfl ?_ | refine tt_get rfl (by first | assumption | rfl) (by rfl) ?_ | refine tt_obj rfl ?_ | refine tt_iald rfl (by assumption) (by assumption) ?_ | refine tt_lald rfl (by assumption) (by assumption) ?_)
    refine tt_goto rfl ?_
    refine xT.cg (B' := (4, 51, 593, 3 + 2 * (f + 1), 41 + 23 * (f + 1))) ?_ (l' := [some (.ref 5), some (.ref 1), some (.int (nI (f + 1)))]) ?_ (n' := 9 + 2 * (f + 1)) (by omega) (ih (f + 1) _ (by omega) ?_)
    · show ((4, 51, 593, 3 + 2 * f + 1 + 1, 41 + 23 * f + 9 + 14) : xB) = _
      rw [show 3 + 2 * f + 1 + 1 = 3 + 2 * (f + 1) by omega, show 41 + 23 * f + 9 + 14 = 41 + 23 * (f + 1) by omega]
    · show ([some (.ref 5), some (.ref 1), some (.int (nI f + Int32.ofInt 1))] : xL) = _
      rw [show nI f + Int32.ofInt 1 = nI (f + 1) from nI_1 f]
    · have old : ∀ j, j < 9 + 2 * f → j ≠ 6 → xup h' 6 (.inl (24, .inr (.inr (.inr (.inr (va_up rd (nI f).toNatClampNeg (some (9 + 2 * f)))))))) j = h j := fun j hj h6 => by
        rw [xup_n h6, e3 j (by omega) (by omega), xup_n (by omega)]
      refine ⟨?_, ⟨_, xup_s, fun i hi => ?_⟩, ?_, ?_, fun i hi => ?_, fun j hj => ?_⟩
      · rw [old 5 (by omega) (by omega)]; exact j5
      · rw [nI_clamp (by omega)]
        simp only [va_up]
        by_cases hif : i = f
        · rw [if_pos hif, hif]
        · rw [if_neg hif]; exact jr i (by omega)
      · rw [old 7 (by omega) (by omega)]; exact j7
      · rw [old 8 (by omega) (by omega)]; exact j8
      · by_cases hif : i = f
        · subst hif
          rw [xup_n (by omega), xup_n (by omega)]
          refine ⟨?_, ?_⟩
          · rw [e1, show 10 + 2 * i = 9 + 2 * i + 1 by omega]
          · rw [show 10 + 2 * i = 9 + 2 * i + 1 by omega]; exact e2
        · rw [old _ (by omega) (by omega), old _ (by omega) (by omega)]
          exact jo i (by omega)
      · rw [old j (by omega) (by omega)]; exact jl j hj
set_option maxRecDepth 10000 in
theorem c_Hull_init (h : xHp) (hq : h 5 = some (.inr (1, [.null, .null, .int 0, .int 0, .int 0, .null, .long 0, .null]))) : xCall xmX1_init 4 51 593 [.ref 5, .ref 1] 6 h (fun r n' h' => r = none ∧ n' = 57 ∧ xJ h 24 h') := by
  refine xCall.of xgX1_init rfl ?_
  repeat (first | refine tt_op rfl rfl ?_ | refine tt_get rfl (by first | assumption | rfl) (by rfl) ?_ | refine tt_obj rfl ?_ | refine tt_iald rfl (by assumption) (by assumption) ?_ | refine tt_lald rfl (by assumption) (by assumption) ?_)
  refine tt_newA (N := 24) rfl (by decide) (by decide) (by decide) (Nat.le_of_ble_eq_true rfl) (Nat.le_of_ble_eq_true rfl) ?_
  refine tt_put rfl (by rw [xup_n (by omega)]; exact hq) rfl (by decide) (by rfl) (by rfl) rfl ?_
  repeat (first | refine tt_op rfl rfl ?_ | refine tt_get rfl (by first | assumption | rfl) (by rfl) ?_ | refine tt_obj rfl ?_ | refine tt_iald rfl (by assumption) (by assumption) ?_ | refine tt_lald rfl (by assumption) (by assumption) ?_)
  refine tt_newI (N := 14) rfl (by decide) (by decide) (by decide) (Nat.le_of_ble_eq_true rfl) (Nat.le_of_ble_eq_true rfl) ?_
  refine tt_put rfl (by rw [xup_n (by omega)]; exact xup_s) rfl (by decide) (by rfl) (by rfl) rfl ?_
  repeat (first | refine tt_op rfl rfl ?_ | refine tt_get rfl (by first | assumption | rfl) (by rfl) ?_ | refine tt_obj rfl ?_ | refine tt_iald rfl (by assumption) (by assumption) ?_ | refine tt_lald rfl (by assumption) (by assumption) ?_)
  refine tt_newL (N := 3) rfl (by decide) (by decide) (by decide) (Nat.le_of_ble_eq_true rfl) (Nat.le_of_ble_eq_true rfl) ?_
  refine tt_put rfl (by rw [xup_n (by omega)]; exact xup_s) rfl (by decide) (by rfl) (by rfl) rfl ?_
  repeat (first | refine tt_op rfl rfl ?_ | refine tt_get rfl (by first | assumption | rfl) (by rfl) ?_ | refine tt_obj rfl ?_ | refine tt_iald rfl (by assumption) (by assumption) ?_ | refine tt_lald rfl (by assumption) (by assumption) ?_)
  refine tt_put rfl (xup_s) rfl (by decide) (by rfl) (by rfl) rfl ?_
  refine tt_op rfl rfl ?_
  refine tt_op rfl rfl ?_
  refine c_Hull_loop h _ (fun h' hJ => ⟨rfl, rfl, hJ⟩) 24 0 _ rfl ?_
  refine ⟨xup_s, ⟨fun _ => none, ?_, fun i hi => absurd hi (by omega)⟩, ?_, ?_, fun i hi => absurd hi (by omega), fun j hj => ?_⟩
  all_goals simp (disch := omega) only [xup_n, xup_s]
/-- the class's cells as its constructor leaves them -/
def xIc (h : xHp) : Prop := h 0 = some (.inr (5, [.ref 1, .ref 5, .ref 57, .ref 59, .ref 62])) ∧ h 1 = some (.inr (0, [.int 0, .ref 2, .ref 3, .ref 4])) ∧ h 2 = some (xI14 fun _ => 0) ∧ h 3 = some (xI14 fun _ => 0) ∧ h 4 = some (xI14 fun _ => 0) ∧
  h 5 = some (.inr (1, [.ref 1, .ref 6, .int 0, .int 0, .int 0, .ref 7, .long 0, .ref 8])) ∧ (∃ rd : Nat → Option Nat, h 6 = some (.inl (24, .inr (.inr (.inr (.inr rd))))) ∧ ∀ i, i < 24 → rd i = some (9 + 2 * i)) ∧ h 7 = some (xI14 fun _ => 0) ∧ h 8 = some (.inl (3, .inr (.inl fun _ => 0))) ∧
  (∀ i, i < 24 → h (9 + 2 * i) = some (xOl 0 0 0 0 0 0 0 (10 + 2 * i)) ∧ h (10 + 2 * i) = some (xI14 fun _ => 0)) ∧ h 57 = some (.inr (4, [.int 0, .ref 58])) ∧ h 58 = some (.inl (96, .inr (.inl fun _ => 0))) ∧ h 59 = some (.inr (2, [.ref 5, .int 0, .ref 60, .ref 61])) ∧ h 60 = some (.inl (672, .inl fun _ => 0)) ∧ h 61 = some (xI14 fun _ => 0) ∧
  h 62 = some (xOl 0 0 0 0 0 0 0 63) ∧ h 63 = some (xI14 fun _ => 0)
set_option maxRecDepth 10000 in
theorem c_Solid_init (h : xHp) (hq : h 0 = some (.inr (5, [.null, .null, .null, .null, .null]))) : xCall xmX5_init 100 63 1500 [.ref 0] 1 h (fun r n' h' => r = none ∧ n' = 64 ∧ xIc h') := by
  refine xCall.of xgX5_init rfl ?_
  repeat (first | refine tt_op rfl rfl ?_ | refine tt_get rfl (by first | assumption | rfl) (by rfl) ?_ | refine tt_obj rfl ?_ | refine tt_iald rfl (by assumption) (by assumption) ?_ | refine tt_lald rfl (by assumption) (by assumption) ?_)
  refine tt_new (r := (RX0, TX0, 4)) (fs := [.int 0, .null, .null, .null]) rfl rfl rfl (Nat.le_of_ble_eq_true rfl) (Nat.le_of_ble_eq_true rfl) ?_
  repeat (first | refine tt_op rfl rfl ?_ | refine tt_get rfl (by first | assumption | rfl) (by rfl) ?_ | refine tt_obj rfl ?_ | refine tt_iald rfl (by assumption) (by assumption) ?_ | refine tt_lald rfl (by assumption) (by assumption) ?_)
  refine tt_callI (M' := xmX0_init) rfl rfl rfl rfl (c_Cloud_init 1 2 _ xup_s (by omega)) ?_
  rintro r n1 h1 ⟨rfl, rfl, a1, a2, a3, a4, a5⟩
  refine tt_put rfl (by rw [a5 0 (by omega) (by omega), xup_n (by omega)]; exact hq) rfl (by decide) (by rfl) (by rfl) rfl ?_
  repeat (first | refine tt_op rfl rfl ?_ | refine tt_get rfl (by first | assumption | rfl) (by rfl) ?_ | refine tt_obj rfl ?_ | refine tt_iald rfl (by assumption) (by assumption) ?_ | refine tt_lald rfl (by assumption) (by assumption) ?_)
  refine tt_new (r := (RX1, TX1, 8)) (fs := [.null, .null, .int 0, .int 0, .int 0, .null, .long 0, .null]) rfl rfl rfl (Nat.le_of_ble_eq_true rfl) (Nat.le_of_ble_eq_true rfl) ?_
  refine tt_op rfl rfl ?_
  refine tt_op rfl rfl ?_
  refine tt_get rfl (by rw [xup_n (by omega)]; exact xup_s) (by rfl) ?_
  refine tt_callI (M' := xmX1_init) rfl rfl rfl rfl (c_Hull_init _ xup_s) ?_
  rintro r n2 h2 ⟨rfl, rfl, b1, b2, b3, b4, b5, b6⟩
  refine tt_put rfl (by rw [b6 0 (by omega), xup_n (by omega)]; exact xup_s) rfl (by decide) (by rfl) (by rfl) rfl ?_
  repeat (first | refine tt_op rfl rfl ?_ | refine tt_get rfl (by first | assumption | rfl) (by rfl) ?_ | refine tt_obj rfl ?_ | refine tt_iald rfl (by assumption) (by assumption) ?_ | refine tt_lald rfl (by assumption) (by assumption) ?_)
  refine tt_new (r := (RX4, TX4, 2)) (fs := [.int 0, .null]) rfl rfl rfl (Nat.le_of_ble_eq_true rfl) (Nat.le_of_ble_eq_true rfl) ?_
  repeat (first | refine tt_op rfl rfl ?_ | refine tt_get rfl (by first | assumption | rfl) (by rfl) ?_ | refine tt_obj rfl ?_ | refine tt_iald rfl (by assumption) (by assumption) ?_ | refine tt_lald rfl (by assumption) (by assumption) ?_)
  refine tt_callI (M' := xmX4_init) rfl rfl rfl rfl (c_Section_init 57 58 _ xup_s (by omega)) ?_
  rintro r n3 h3 ⟨rfl, rfl, d1, d2, d3⟩
  refine tt_put rfl (by rw [d3 0 (by omega) (by omega), xup_n (by omega)]; exact xup_s) rfl (by decide) (by rfl) (by rfl) rfl ?_
  repeat (first | refine tt_op rfl rfl ?_ | refine tt_get rfl (by first | assumption | rfl) (by rfl) ?_ | refine tt_obj rfl ?_ | refine tt_iald rfl (by assumption) (by assumption) ?_ | refine tt_lald rfl (by assumption) (by assumption) ?_)
  refine tt_new (r := (RX2, TX2, 4)) (fs := [.null, .int 0, .null, .null]) rfl rfl rfl (Nat.le_of_ble_eq_true rfl) (Nat.le_of_ble_eq_true rfl) ?_
  refine tt_op rfl rfl ?_
  refine tt_op rfl rfl ?_
  refine tt_get rfl (by rw [xup_n (by omega)]; exact xup_s) (by rfl) ?_
  refine tt_callI (M' := xmX2_init) rfl rfl rfl rfl (c_Motions_init 59 5 60 _ xup_s (by omega)) ?_
  rintro r n4 h4 ⟨rfl, rfl, e1, e2, e3, e4⟩
  refine tt_put rfl (by rw [e4 0 (by omega) (by omega), xup_n (by omega)]; exact xup_s) rfl (by decide) (by rfl) (by rfl) rfl ?_
  repeat (first | refine tt_op rfl rfl ?_ | refine tt_get rfl (by first | assumption | rfl) (by rfl) ?_ | refine tt_obj rfl ?_ | refine tt_iald rfl (by assumption) (by assumption) ?_ | refine tt_lald rfl (by assumption) (by assumption) ?_)
  refine tt_new (r := (RX3, TX3, 9)) (fs := [.null, .long 0, .long 0, .long 0, .long 0, .int 0, .int 0, .int 0, .null]) rfl rfl rfl (Nat.le_of_ble_eq_true rfl) (Nat.le_of_ble_eq_true rfl) ?_
  refine tt_op rfl rfl ?_
  refine tt_op rfl rfl ?_
  refine tt_get rfl (by rw [xup_n (by omega)]; exact xup_s) (by rfl) ?_
  refine tt_callI (M' := xmX3_init) rfl rfl rfl rfl (c_Outline_init 62 1 63 _ xup_s (by omega)) ?_
  rintro r n5 h5 ⟨rfl, rfl, f1, f2, f3⟩
  refine tt_put rfl (by rw [f3 0 (by omega) (by omega), xup_n (by omega)]; exact xup_s) rfl (by decide) (by rfl) (by rfl) rfl ?_
  refine tt_return rfl rfl (Nat.le_of_ble_eq_true rfl) (Nat.le_of_ble_eq_true rfl) ?_
  have g5 : ∀ j, j < 62 → j ≠ 0 → h5 j = h4 j := fun j hj h0 => by rw [f3 j (by omega) (by omega), xup_n (by omega), xup_n h0]
  have g4 : ∀ j, j < 59 → j ≠ 0 → h5 j = h3 j := fun j hj h0 => by rw [g5 j (by omega) h0, e4 j (by omega) (by omega), xup_n (by omega), xup_n h0]
  have g3 : ∀ j, j < 57 → j ≠ 0 → h5 j = h2 j := fun j hj h0 => by rw [g4 j (by omega) h0, d3 j (by omega) (by omega), xup_n (by omega), xup_n h0]
  have g2 : ∀ j, j < 5 → j ≠ 0 → h5 j = h1 j := fun j hj h0 => by rw [g3 j (by omega) h0, b6 j hj, xup_n (by omega), xup_n h0]
  refine ⟨rfl, rfl, xup_s, ?_⟩
  simp (disch := omega) only [xup_n]
  rw [g2 1 (by omega) (by omega), g2 2 (by omega) (by omega), g2 3 (by omega) (by omega), g2 4 (by omega) (by omega), g3 5 (by omega) (by omega), g3 6 (by omega) (by omega), g3 7 (by omega) (by omega), g3 8 (by omega) (by omega), g4 57 (by omega) (by omega), g4 58 (by omega) (by omega), g5 59 (by omega) (by omega), g5 60 (by omega) (by omega), g5 61 (by omega) (by omega)]
  refine ⟨a1, a2, a3, a4, b1, b2, b3, b4, fun i hi => ?_, d1, d2, e1, e2, e3, f1, f2⟩
  rw [g3 _ (by omega) (by omega), g3 _ (by omega) (by omega)]
  exact b5 i hi
end
section
/-- the reference's cell -/
abbrev xMo (pts bu tb fl co fa ax ay az : Int32) (six sx sy sz : Int64) (cm tu : Int32) : xE := .inr (6, [.int pts, .ref 65, .ref 66, .ref 67, .int bu, .int tb, .int fl, .int co, .int fa, .ref 68, .ref 69, .ref 70, .ref 71, .ref 72, .ref 73, .ref 74, .int ax, .int ay, .int az, .ref 75, .long six, .long sx, .long sy, .long sz, .int cm, .ref 76, .ref 77, .ref 78, .ref 79, .ref 80, .ref 81, .int tu, .ref 82, .ref 83, .ref 84, .ref 85])
abbrev xIA (k : Nat) (f : Nat → Int32) : xE := .inl (k, .inl f)
abbrev xLA (k : Nat) (f : Nat → Int64) : xE := .inl (k, .inr (.inl f))
/-- the reference's cells as its constructor leaves them -/
def xIm (h : xHp) : Prop := h 64 = some (xMo 0 0 0 0 0 0 0 0 0 0 0 0 0 (-1) 0) ∧ h 65 = some (xIA 14 fun _ => 0) ∧ h 66 = some (xIA 14 fun _ => 0) ∧ h 67 = some (xIA 14 fun _ => 0) ∧ h 68 = some (xIA 24 fun _ => 0) ∧ h 69 = some (xIA 24 fun _ => 0) ∧ h 70 = some (xIA 336 fun _ => 0) ∧ h 71 = some (xIA 24 fun _ => 0) ∧ h 72 = some (xIA 24 fun _ => 0) ∧ h 73 = some (xIA 24 fun _ => 0) ∧ h 74 = some (xIA 24 fun _ => 0) ∧ h 75 = some (xIA 24 fun _ => 0) ∧ h 76 = some (xLA 64 fun _ => 0) ∧ h 77 = some (xLA 64 fun _ => 0) ∧ h 78 = some (xLA 64 fun _ => 0) ∧ h 79 = some (xLA 64 fun _ => 0) ∧ h 80 = some (xLA 14 fun _ => 0) ∧ h 81 = some (xLA 14 fun _ => 0) ∧ h 82 = some (xIA 896 fun _ => 0) ∧ h 83 = some (xIA 64 fun _ => 0) ∧ h 84 = some (xIA 4 fun _ => 0) ∧ h 85 = some (xIA 4 fun _ => 0)
set_option maxRecDepth 10000 in
theorem c_Model_init (h : xHp) : xCall xmX6_init 100 21 1798 [.ref 64] 65 (xup h 64 (.inr (6, (List.range 36).map (fun j => defaultValue (xty 6 j))))) (fun r n' h' => r = none ∧ n' = 86 ∧ xIm h' ∧ ∀ j, j < 64 → h' j = h j) := by
  have hq : xup h 64 (.inr (6, (List.range 36).map (fun j => defaultValue (xty 6 j)))) 64 = some (.inr (6, [.int 0, .null, .null, .null, .int 0, .int 0, .int 0, .int 0, .int 0, .null, .null, .null, .null, .null, .null, .null, .int 0, .int 0, .int 0, .null, .long 0, .long 0, .long 0, .long 0, .int 0, .null, .null, .null, .null, .null, .null, .int 0, .null, .null, .null, .null])) := xup_s
  have ho : ∀ j, j < 64 → xup h 64 (.inr (6, (List.range 36).map (fun j => defaultValue (xty 6 j)))) j = h j := fun j hj => xup_n (by omega)
  generalize xup h 64 (.inr (6, (List.range 36).map (fun j => defaultValue (xty 6 j)))) = h1 at hq ho ⊢
  refine xCall.of xgX6_init rfl ?_
  repeat (first | refine tt_op rfl rfl ?_ | refine tt_get rfl (by first | assumption | rfl) (by rfl) ?_ | refine tt_obj rfl ?_ | refine tt_iald rfl (by assumption) (by assumption) ?_ | refine tt_lald rfl (by assumption) (by assumption) ?_)
  refine tt_newI (N := 14) rfl (by decide) (by decide) (by decide) (Nat.le_of_ble_eq_true rfl) (Nat.le_of_ble_eq_true rfl) ?_
  refine tt_put rfl (by rw [xup_n (by omega)]; exact hq) rfl (by decide) (by rfl) (by rfl) rfl ?_
  repeat (first | refine tt_op rfl rfl ?_ | refine tt_get rfl (by first | assumption | rfl) (by rfl) ?_ | refine tt_obj rfl ?_ | refine tt_iald rfl (by assumption) (by assumption) ?_ | refine tt_lald rfl (by assumption) (by assumption) ?_)
  refine tt_newI (N := 14) rfl (by decide) (by decide) (by decide) (Nat.le_of_ble_eq_true rfl) (Nat.le_of_ble_eq_true rfl) ?_
  refine tt_put rfl (by rw [xup_n (by omega)]; exact xup_s) rfl (by decide) (by rfl) (by rfl) rfl ?_
  repeat (first | refine tt_op rfl rfl ?_ | refine tt_get rfl (by first | assumption | rfl) (by rfl) ?_ | refine tt_obj rfl ?_ | refine tt_iald rfl (by assumption) (by assumption) ?_ | refine tt_lald rfl (by assumption) (by assumption) ?_)
  refine tt_newI (N := 14) rfl (by decide) (by decide) (by decide) (Nat.le_of_ble_eq_true rfl) (Nat.le_of_ble_eq_true rfl) ?_
  refine tt_put rfl (by rw [xup_n (by omega)]; exact xup_s) rfl (by decide) (by rfl) (by rfl) rfl ?_
  repeat (first | refine tt_op rfl rfl ?_ | refine tt_get rfl (by first | assumption | rfl) (by rfl) ?_ | refine tt_obj rfl ?_ | refine tt_iald rfl (by assumption) (by assumption) ?_ | refine tt_lald rfl (by assumption) (by assumption) ?_)
  refine tt_newI (N := 24) rfl (by decide) (by decide) (by decide) (Nat.le_of_ble_eq_true rfl) (Nat.le_of_ble_eq_true rfl) ?_
  refine tt_put rfl (by rw [xup_n (by omega)]; exact xup_s) rfl (by decide) (by rfl) (by rfl) rfl ?_
  repeat (first | refine tt_op rfl rfl ?_ | refine tt_get rfl (by first | assumption | rfl) (by rfl) ?_ | refine tt_obj rfl ?_ | refine tt_iald rfl (by assumption) (by assumption) ?_ | refine tt_lald rfl (by assumption) (by assumption) ?_)
  refine tt_newI (N := 24) rfl (by decide) (by decide) (by decide) (Nat.le_of_ble_eq_true rfl) (Nat.le_of_ble_eq_true rfl) ?_
  refine tt_put rfl (by rw [xup_n (by omega)]; exact xup_s) rfl (by decide) (by rfl) (by rfl) rfl ?_
  repeat (first | refine tt_op rfl rfl ?_ | refine tt_get rfl (by first | assumption | rfl) (by rfl) ?_ | refine tt_obj rfl ?_ | refine tt_iald rfl (by assumption) (by assumption) ?_ | refine tt_lald rfl (by assumption) (by assumption) ?_)
  refine tt_newI (N := 336) rfl (by decide) (by decide) (by decide) (Nat.le_of_ble_eq_true rfl) (Nat.le_of_ble_eq_true rfl) ?_
  refine tt_put rfl (by rw [xup_n (by omega)]; exact xup_s) rfl (by decide) (by rfl) (by rfl) rfl ?_
  repeat (first | refine tt_op rfl rfl ?_ | refine tt_get rfl (by first | assumption | rfl) (by rfl) ?_ | refine tt_obj rfl ?_ | refine tt_iald rfl (by assumption) (by assumption) ?_ | refine tt_lald rfl (by assumption) (by assumption) ?_)
  refine tt_newI (N := 24) rfl (by decide) (by decide) (by decide) (Nat.le_of_ble_eq_true rfl) (Nat.le_of_ble_eq_true rfl) ?_
  refine tt_put rfl (by rw [xup_n (by omega)]; exact xup_s) rfl (by decide) (by rfl) (by rfl) rfl ?_
  repeat (first | refine tt_op rfl rfl ?_ | refine tt_get rfl (by first | assumption | rfl) (by rfl) ?_ | refine tt_obj rfl ?_ | refine tt_iald rfl (by assumption) (by assumption) ?_ | refine tt_lald rfl (by assumption) (by assumption) ?_)
  refine tt_newI (N := 24) rfl (by decide) (by decide) (by decide) (Nat.le_of_ble_eq_true rfl) (Nat.le_of_ble_eq_true rfl) ?_
  refine tt_put rfl (by rw [xup_n (by omega)]; exact xup_s) rfl (by decide) (by rfl) (by rfl) rfl ?_
  repeat (first | refine tt_op rfl rfl ?_ | refine tt_get rfl (by first | assumption | rfl) (by rfl) ?_ | refine tt_obj rfl ?_ | refine tt_iald rfl (by assumption) (by assumption) ?_ | refine tt_lald rfl (by assumption) (by assumption) ?_)
  refine tt_newI (N := 24) rfl (by decide) (by decide) (by decide) (Nat.le_of_ble_eq_true rfl) (Nat.le_of_ble_eq_true rfl) ?_
  refine tt_put rfl (by rw [xup_n (by omega)]; exact xup_s) rfl (by decide) (by rfl) (by rfl) rfl ?_
  repeat (first | refine tt_op rfl rfl ?_ | refine tt_get rfl (by first | assumption | rfl) (by rfl) ?_ | refine tt_obj rfl ?_ | refine tt_iald rfl (by assumption) (by assumption) ?_ | refine tt_lald rfl (by assumption) (by assumption) ?_)
  refine tt_newI (N := 24) rfl (by decide) (by decide) (by decide) (Nat.le_of_ble_eq_true rfl) (Nat.le_of_ble_eq_true rfl) ?_
  refine tt_put rfl (by rw [xup_n (by omega)]; exact xup_s) rfl (by decide) (by rfl) (by rfl) rfl ?_
  repeat (first | refine tt_op rfl rfl ?_ | refine tt_get rfl (by first | assumption | rfl) (by rfl) ?_ | refine tt_obj rfl ?_ | refine tt_iald rfl (by assumption) (by assumption) ?_ | refine tt_lald rfl (by assumption) (by assumption) ?_)
  refine tt_newI (N := 24) rfl (by decide) (by decide) (by decide) (Nat.le_of_ble_eq_true rfl) (Nat.le_of_ble_eq_true rfl) ?_
  refine tt_put rfl (by rw [xup_n (by omega)]; exact xup_s) rfl (by decide) (by rfl) (by rfl) rfl ?_
  repeat (first | refine tt_op rfl rfl ?_ | refine tt_get rfl (by first | assumption | rfl) (by rfl) ?_ | refine tt_obj rfl ?_ | refine tt_iald rfl (by assumption) (by assumption) ?_ | refine tt_lald rfl (by assumption) (by assumption) ?_)
  refine tt_put rfl (xup_s) rfl (by decide) (by rfl) (by rfl) rfl ?_
  repeat (first | refine tt_op rfl rfl ?_ | refine tt_get rfl (by first | assumption | rfl) (by rfl) ?_ | refine tt_obj rfl ?_ | refine tt_iald rfl (by assumption) (by assumption) ?_ | refine tt_lald rfl (by assumption) (by assumption) ?_)
  refine tt_newL (N := 64) rfl (by decide) (by decide) (by decide) (Nat.le_of_ble_eq_true rfl) (Nat.le_of_ble_eq_true rfl) ?_
  refine tt_put rfl (by rw [xup_n (by omega)]; exact xup_s) rfl (by decide) (by rfl) (by rfl) rfl ?_
  repeat (first | refine tt_op rfl rfl ?_ | refine tt_get rfl (by first | assumption | rfl) (by rfl) ?_ | refine tt_obj rfl ?_ | refine tt_iald rfl (by assumption) (by assumption) ?_ | refine tt_lald rfl (by assumption) (by assumption) ?_)
  refine tt_newL (N := 64) rfl (by decide) (by decide) (by decide) (Nat.le_of_ble_eq_true rfl) (Nat.le_of_ble_eq_true rfl) ?_
  refine tt_put rfl (by rw [xup_n (by omega)]; exact xup_s) rfl (by decide) (by rfl) (by rfl) rfl ?_
  repeat (first | refine tt_op rfl rfl ?_ | refine tt_get rfl (by first | assumption | rfl) (by rfl) ?_ | refine tt_obj rfl ?_ | refine tt_iald rfl (by assumption) (by assumption) ?_ | refine tt_lald rfl (by assumption) (by assumption) ?_)
  refine tt_newL (N := 64) rfl (by decide) (by decide) (by decide) (Nat.le_of_ble_eq_true rfl) (Nat.le_of_ble_eq_true rfl) ?_
  refine tt_put rfl (by rw [xup_n (by omega)]; exact xup_s) rfl (by decide) (by rfl) (by rfl) rfl ?_
  repeat (first | refine tt_op rfl rfl ?_ | refine tt_get rfl (by first | assumption | rfl) (by rfl) ?_ | refine tt_obj rfl ?_ | refine tt_iald rfl (by assumption) (by assumption) ?_ | refine tt_lald rfl (by assumption) (by assumption) ?_)
  refine tt_newL (N := 64) rfl (by decide) (by decide) (by decide) (Nat.le_of_ble_eq_true rfl) (Nat.le_of_ble_eq_true rfl) ?_
  refine tt_put rfl (by rw [xup_n (by omega)]; exact xup_s) rfl (by decide) (by rfl) (by rfl) rfl ?_
  repeat (first | refine tt_op rfl rfl ?_ | refine tt_get rfl (by first | assumption | rfl) (by rfl) ?_ | refine tt_obj rfl ?_ | refine tt_iald rfl (by assumption) (by assumption) ?_ | refine tt_lald rfl (by assumption) (by assumption) ?_)
  refine tt_newL (N := 14) rfl (by decide) (by decide) (by decide) (Nat.le_of_ble_eq_true rfl) (Nat.le_of_ble_eq_true rfl) ?_
  refine tt_put rfl (by rw [xup_n (by omega)]; exact xup_s) rfl (by decide) (by rfl) (by rfl) rfl ?_
  repeat (first | refine tt_op rfl rfl ?_ | refine tt_get rfl (by first | assumption | rfl) (by rfl) ?_ | refine tt_obj rfl ?_ | refine tt_iald rfl (by assumption) (by assumption) ?_ | refine tt_lald rfl (by assumption) (by assumption) ?_)
  refine tt_newL (N := 14) rfl (by decide) (by decide) (by decide) (Nat.le_of_ble_eq_true rfl) (Nat.le_of_ble_eq_true rfl) ?_
  refine tt_put rfl (by rw [xup_n (by omega)]; exact xup_s) rfl (by decide) (by rfl) (by rfl) rfl ?_
  repeat (first | refine tt_op rfl rfl ?_ | refine tt_get rfl (by first | assumption | rfl) (by rfl) ?_ | refine tt_obj rfl ?_ | refine tt_iald rfl (by assumption) (by assumption) ?_ | refine tt_lald rfl (by assumption) (by assumption) ?_)
  refine tt_newI (N := 896) rfl (by decide) (by decide) (by decide) (Nat.le_of_ble_eq_true rfl) (Nat.le_of_ble_eq_true rfl) ?_
  refine tt_put rfl (by rw [xup_n (by omega)]; exact xup_s) rfl (by decide) (by rfl) (by rfl) rfl ?_
  repeat (first | refine tt_op rfl rfl ?_ | refine tt_get rfl (by first | assumption | rfl) (by rfl) ?_ | refine tt_obj rfl ?_ | refine tt_iald rfl (by assumption) (by assumption) ?_ | refine tt_lald rfl (by assumption) (by assumption) ?_)
  refine tt_newI (N := 64) rfl (by decide) (by decide) (by decide) (Nat.le_of_ble_eq_true rfl) (Nat.le_of_ble_eq_true rfl) ?_
  refine tt_put rfl (by rw [xup_n (by omega)]; exact xup_s) rfl (by decide) (by rfl) (by rfl) rfl ?_
  repeat (first | refine tt_op rfl rfl ?_ | refine tt_get rfl (by first | assumption | rfl) (by rfl) ?_ | refine tt_obj rfl ?_ | refine tt_iald rfl (by assumption) (by assumption) ?_ | refine tt_lald rfl (by assumption) (by assumption) ?_)
  refine tt_newI (N := 4) rfl (by decide) (by decide) (by decide) (Nat.le_of_ble_eq_true rfl) (Nat.le_of_ble_eq_true rfl) ?_
  refine tt_put rfl (by rw [xup_n (by omega)]; exact xup_s) rfl (by decide) (by rfl) (by rfl) rfl ?_
  repeat (first | refine tt_op rfl rfl ?_ | refine tt_get rfl (by first | assumption | rfl) (by rfl) ?_ | refine tt_obj rfl ?_ | refine tt_iald rfl (by assumption) (by assumption) ?_ | refine tt_lald rfl (by assumption) (by assumption) ?_)
  refine tt_newI (N := 4) rfl (by decide) (by decide) (by decide) (Nat.le_of_ble_eq_true rfl) (Nat.le_of_ble_eq_true rfl) ?_
  refine tt_put rfl (by rw [xup_n (by omega)]; exact xup_s) rfl (by decide) (by rfl) (by rfl) rfl ?_
  refine tt_return rfl rfl (Nat.le_of_ble_eq_true rfl) (Nat.le_of_ble_eq_true rfl) ?_
  refine ⟨rfl, rfl, ⟨xup_s, ?_, ?_, ?_, ?_, ?_, ?_, ?_, ?_, ?_, ?_, ?_, ?_, ?_, ?_, ?_, ?_, ?_, ?_, ?_, ?_, ?_⟩, fun j hj => ?_⟩
  case refine_22 =>
    simp (disch := omega) only [xup_n]
    exact ho j hj
  all_goals simp (disch := omega) only [xup_n, xup_s]
end
section
/-! Numbers as whole numbers: every int is Int32.ofInt of one, every long Int64.ofInt -/
def R3 (z : Int) : Prop := -2147483648 ≤ z ∧ z ≤ 2147483647
def R6 (z : Int) : Prop := -9223372036854775808 ≤ z ∧ z ≤ 9223372036854775807
theorem R3.t {z : Int} (h : R3 z) : (Int32.ofInt z).toInt = z := Int32.toInt_ofInt_of_le (by have := h.1; omega) (by have := h.2; omega)
theorem R6.t {z : Int} (h : R6 z) : (Int64.ofInt z).toInt = z := Int64.toInt_ofInt_of_le (by have := h.1; omega) (by have := h.2; omega)
theorem R3.of (x : Int32) : R3 x.toInt := ⟨by have := x.le_toInt; omega, by have := x.toInt_lt; omega⟩
theorem R6.of (x : Int64) : R6 x.toInt := ⟨by have := x.le_toInt; omega, by have := x.toInt_lt; omega⟩
theorem z3_of (x : Int32) : Int32.ofInt x.toInt = x := Int32.ofInt_toInt x
theorem z6_of (x : Int64) : Int64.ofInt x.toInt = x := Int64.ofInt_toInt x
theorem z3_eq {a b : Int} (ha : R3 a) (hb : R3 b) : Int32.ofInt a = Int32.ofInt b ↔ a = b := by rw [← Int32.toInt_inj, ha.t, hb.t]
theorem z3_lt {a b : Int} (ha : R3 a) (hb : R3 b) : Int32.ofInt a < Int32.ofInt b ↔ a < b := by rw [Int32.lt_iff_toInt_lt, ha.t, hb.t]
theorem z3_le {a b : Int} (ha : R3 a) (hb : R3 b) : Int32.ofInt a ≤ Int32.ofInt b ↔ a ≤ b := by rw [Int32.le_iff_toInt_le, ha.t, hb.t]
theorem z6_eq {a b : Int} (ha : R6 a) (hb : R6 b) : Int64.ofInt a = Int64.ofInt b ↔ a = b := by rw [← Int64.toInt_inj, ha.t, hb.t]
theorem z6_lt {a b : Int} (ha : R6 a) (hb : R6 b) : Int64.ofInt a < Int64.ofInt b ↔ a < b := by rw [Int64.lt_iff_toInt_lt, ha.t, hb.t]
theorem z6_le {a b : Int} (ha : R6 a) (hb : R6 b) : Int64.ofInt a ≤ Int64.ofInt b ↔ a ≤ b := by rw [Int64.le_iff_toInt_le, ha.t, hb.t]
theorem z3_nI (k : Nat) : nI k = Int32.ofInt (k : Int) := (Int32.ofInt_eq_ofNat (n := k)).symm
theorem z3_clamp {k : Nat} (h : k < 2147483648) : (Int32.ofInt (k : Int)).toNatClampNeg = k := by rw [← z3_nI]; exact nI_clamp h
theorem z3_in {k N : Nat} (h : k < N) (hN : N < 2147483648) : vp_in (Int32.ofInt (k : Int)) N := by rw [← z3_nI]; exact vp_in_nI h hN
theorem z_i2l {z : Int} (h : R3 z) : (Int32.ofInt z).toInt64 = Int64.ofInt z := by
  apply Int64.toInt_inj.mp
  rw [Int32.toInt_toInt64, h.t, R6.t ⟨by have := h.1; omega, by have := h.2; omega⟩]
def zcd (c : ClassFile.Cond) (a b : Int) : Prop := match c with
  | .eq => a = b
  | .ne => a ≠ b
  | .lt => a < b
  | .ge => b ≤ a
  | .gt => b < a
  | .le => a ≤ b
theorem z_xcd {c : ClassFile.Cond} {a b : Int} (ha : R3 a) (hb : R3 b) : xcd c (Int32.ofInt a) (Int32.ofInt b) ↔ zcd c a b := by
  cases c
  · exact z3_eq ha hb
  · exact not_congr (z3_eq ha hb)
  · exact z3_lt ha hb
  · exact z3_le hb ha
  · exact z3_lt hb ha
  · exact z3_le ha hb
theorem z_lcd {c : ClassFile.Cond} {a b : Int} (ha : R6 a) (hb : R6 b) : xcd c (lg_cmp (Int64.ofInt a) (Int64.ofInt b)) 0 ↔ zcd c a b := by
  unfold lg_cmp
  simp only [gt_iff_lt, z6_lt hb ha, z6_eq ha hb]
  rcases Int.lt_trichotomy a b with q | q | q
  · rw [if_neg (by omega), if_neg (by omega)]
    cases c
    · exact ⟨fun h => absurd (show (-1 : Int32) = 0 from h) (by decide), fun h => absurd (show a = b from h) (by omega)⟩
    · exact ⟨fun _ => show a ≠ b by omega, fun _ => (by decide : ¬ (-1 : Int32) = 0)⟩
    · exact ⟨fun _ => q, fun _ => (by decide : (-1 : Int32) < 0)⟩
    · exact ⟨fun h => absurd (show (0 : Int32) ≤ -1 from h) (by decide), fun h => absurd (show b ≤ a from h) (by omega)⟩
    · exact ⟨fun h => absurd (show (0 : Int32) < -1 from h) (by decide), fun h => absurd (show b < a from h) (by omega)⟩
    · exact ⟨fun _ => show a ≤ b by omega, fun _ => (by decide : (-1 : Int32) ≤ 0)⟩
  · rw [if_neg (by omega), if_pos q]
    cases c
    · exact ⟨fun _ => q, fun _ => rfl⟩
    · exact ⟨fun h => absurd rfl h, fun h => absurd q h⟩
    · exact ⟨fun h => absurd (show (0 : Int32) < 0 from h) (by decide), fun h => absurd (show a < b from h) (by omega)⟩
    · exact ⟨fun _ => show b ≤ a by omega, fun _ => (by decide : (0 : Int32) ≤ 0)⟩
    · exact ⟨fun h => absurd (show (0 : Int32) < 0 from h) (by decide), fun h => absurd (show b < a from h) (by omega)⟩
    · exact ⟨fun _ => show a ≤ b by omega, fun _ => (by decide : (0 : Int32) ≤ 0)⟩
  · rw [if_pos q]
    cases c
    · exact ⟨fun h => absurd (show (1 : Int32) = 0 from h) (by decide), fun h => absurd (show a = b from h) (by omega)⟩
    · exact ⟨fun _ => show a ≠ b by omega, fun _ => (by decide : ¬ (1 : Int32) = 0)⟩
    · exact ⟨fun h => absurd (show (1 : Int32) < 0 from h) (by decide), fun h => absurd (show a < b from h) (by omega)⟩
    · exact ⟨fun _ => show b ≤ a by omega, fun _ => (by decide : (0 : Int32) ≤ 1)⟩
    · exact ⟨fun _ => q, fun _ => (by decide : (0 : Int32) < 1)⟩
    · exact ⟨fun h => absurd (show (1 : Int32) ≤ 0 from h) (by decide), fun h => absurd (show a ≤ b from h) (by omega)⟩
abbrev zI (z : Int) : Value := .int (Int32.ofInt z)
abbrev zJ (z : Int) : Value := .long (Int64.ofInt z)
abbrev zA (N : Nat) (F : Nat → Int) : xE := .inl (N, .inl (fun j => Int32.ofInt (F j)))
abbrev zL (N : Nat) (F : Nat → Int) : xE := .inl (N, .inr (.inl (fun j => Int64.ofInt (F j))))
abbrev zR (N : Nat) (f : Nat → Option Nat) : xE := .inl (N, .inr (.inr (.inr (.inr f))))
def zup (F : Nat → Int) (k : Nat) (v : Int) : Nat → Int := fun j => if j = k then v else F j
theorem zup_i (F : Nat → Int) (k : Nat) (v : Int) : upd (fun j => Int32.ofInt (F j)) k (Int32.ofInt v) = fun j => Int32.ofInt (zup F k v j) := by
  funext j
  by_cases hj : j = k
  · simp [upd, zup, hj]
  · simp [upd, zup, hj]
theorem zup_l (F : Nat → Int) (k : Nat) (v : Int) : vp_updL (fun j => Int64.ofInt (F j)) k (Int64.ofInt v) = fun j => Int64.ofInt (zup F k v j) := by
  funext j
  by_cases hj : j = k
  · simp [vp_updL, zup, hj]
  · simp [vp_updL, zup, hj]
section XZ
variable {M : xM} {B : xB} {pc nx b hh i p1 b1 hh1 : Nat} {a a1 : Int} {l : xL} {st : List Value} {n : Nat} {h : xHp} {Q : xQt} {x y z : Int}
theorem z_iadd (hf : xfe M pc = some (.iadd, nx, a, b, hh)) (k : xT M B nx l (zI (x + y) :: st) n h Q) : xT M B pc l (zI y :: zI x :: st) n h Q := tt_op hf rfl (by rw [← Int32.ofInt_add]; exact k)
theorem z_isub (hf : xfe M pc = some (.isub, nx, a, b, hh)) (k : xT M B nx l (zI (x - y) :: st) n h Q) : xT M B pc l (zI y :: zI x :: st) n h Q := tt_op hf rfl (by rw [← Int32.ofInt_sub]; exact k)
theorem z_imul (hf : xfe M pc = some (.imul, nx, a, b, hh)) (k : xT M B nx l (zI (x * y) :: st) n h Q) : xT M B pc l (zI y :: zI x :: st) n h Q := tt_op hf rfl (by rw [← Int32.ofInt_mul]; exact k)
theorem z_ineg (hf : xfe M pc = some (.ineg, nx, a, b, hh)) (k : xT M B nx l (zI (-x) :: st) n h Q) : xT M B pc l (zI x :: st) n h Q := tt_op hf rfl (by rw [← Int32.ofInt_neg]; exact k)
theorem z_ladd (hf : xfe M pc = some (.ladd, nx, a, b, hh)) (k : xT M B nx l (zJ (x + y) :: st) n h Q) : xT M B pc l (zJ y :: zJ x :: st) n h Q := tt_op hf rfl (by rw [← Int64.ofInt_add]; exact k)
theorem z_lsub (hf : xfe M pc = some (.lsub, nx, a, b, hh)) (k : xT M B nx l (zJ (x - y) :: st) n h Q) : xT M B pc l (zJ y :: zJ x :: st) n h Q := tt_op hf rfl (by rw [← Int64.ofInt_sub]; exact k)
theorem z_lmul (hf : xfe M pc = some (.lmul, nx, a, b, hh)) (k : xT M B nx l (zJ (x * y) :: st) n h Q) : xT M B pc l (zJ y :: zJ x :: st) n h Q := tt_op hf rfl (by rw [← Int64.ofInt_mul]; exact k)
theorem z_lneg (hf : xfe M pc = some (.lneg, nx, a, b, hh)) (k : xT M B nx l (zJ (-x) :: st) n h Q) : xT M B pc l (zJ x :: st) n h Q := tt_op hf rfl (by rw [← Int64.ofInt_neg]; exact k)
theorem z_il (hf : xfe M pc = some (.i2l, nx, a, b, hh)) (hx : R3 x) (k : xT M B nx l (zJ x :: st) n h Q) : xT M B pc l (zI x :: st) n h Q := tt_op hf rfl (by rw [z_i2l hx]; exact k)
theorem z_iinc {l' : xL} {j : Nat} {c : Int} (hf : xfe M pc = some (.iinc j c, nx, a, b, hh)) (hg : xgt l b = some (zI x)) (hl : xs1 l b (zI (x + c)) = l') (k : xT M B nx l' st n h Q) : xT M B pc l st n h Q := tt_op hf (by simp only [xop, hg]; rw [← Int32.ofInt_add]) (by rw [hl]; exact k)
theorem z_if {cd : ClassFile.Cond} {off : Int} (hf : xfe M pc = some (.ifCond cd off, nx, a, b, hh)) (hx : R3 x) (k1 : zcd cd x 0 → xT M B b l st n h Q) (k2 : ¬ zcd cd x 0 → xT M B nx l st n h Q) : xT M B pc l (zI x :: st) n h Q :=
  tt_if hf (fun c => k1 ((z_xcd hx ⟨by decide, by decide⟩).mp c)) (fun c => k2 (fun q => c ((z_xcd hx ⟨by decide, by decide⟩).mpr q)))
theorem z_icmp {cd : ClassFile.Cond} {off : Int} (hf : xfe M pc = some (.if_icmp cd off, nx, a, b, hh)) (hx : R3 x) (hy : R3 y) (k1 : zcd cd x y → xT M B b l st n h Q) (k2 : ¬ zcd cd x y → xT M B nx l st n h Q) : xT M B pc l (zI y :: zI x :: st) n h Q :=
  tt_icmp hf (fun c => k1 ((z_xcd hx hy).mp c)) (fun c => k2 (fun q => c ((z_xcd hx hy).mpr q)))
theorem z_lif {cd : ClassFile.Cond} {off : Int} (hf0 : xfe M pc = some (.lcmp, p1, a1, b1, hh1)) (hf : xfe M p1 = some (.ifCond cd off, nx, a, b, hh)) (hx : R6 x) (hy : R6 y) (k1 : zcd cd x y → xT M B b l st n h Q) (k2 : ¬ zcd cd x y → xT M B nx l st n h Q) : xT M B pc l (zJ y :: zJ x :: st) n h Q :=
  tt_op hf0 rfl (tt_if hf (fun c => k1 ((z_lcd hx hy).mp c)) (fun c => k2 (fun q => c ((z_lcd hx hy).mpr q))))
theorem z_iald {q N j : Nat} {F : Nat → Int} (hf : xfe M pc = some (.iaload, nx, a, b, hh)) (hq : h q = some (zA N F)) (hj : x = (j : Int)) (hi : j < N) (hN : N < 2147483648) (k : xT M B nx l (zI (F j) :: st) n h Q) : xT M B pc l (zI x :: .ref q :: st) n h Q := by
  subst hj
  exact tt_iald hf hq (z3_in hi hN) (by rw [z3_clamp (by omega)]; exact k)
theorem z_lald {q N j : Nat} {F : Nat → Int} (hf : xfe M pc = some (.laload, nx, a, b, hh)) (hq : h q = some (zL N F)) (hj : x = (j : Int)) (hi : j < N) (hN : N < 2147483648) (k : xT M B nx l (zJ (F j) :: st) n h Q) : xT M B pc l (zI x :: .ref q :: st) n h Q := by
  subst hj
  exact tt_lald hf hq (z3_in hi hN) (by rw [z3_clamp (by omega)]; exact k)
theorem z_aald {q N j r : Nat} {f : Nat → Option Nat} (hf : xfe M pc = some (.aaload, nx, a, b, hh)) (hq : h q = some (zR N f)) (hj : x = (j : Int)) (hi : j < N) (hN : N < 2147483648) (hv : f j = some r) (k : xT M B nx l (.ref r :: st) n h Q) : xT M B pc l (zI x :: .ref q :: st) n h Q := by
  subst hj
  exact tt_aald hf hq (z3_in hi hN) (by rw [z3_clamp (by omega)]; exact hv) k
theorem z_iast {q N j : Nat} {F : Nat → Int} (hf : xfe M pc = some (.iastore, nx, a, b, hh)) (hq : h q = some (zA N F)) (hj : x = (j : Int)) (hi : j < N) (hN : N < 2147483648) (k : xT M B nx l st n (xup h q (zA N (zup F j y))) Q) : xT M B pc l (zI y :: zI x :: .ref q :: st) n h Q := by
  subst hj
  exact tt_iast hf hq (z3_in hi hN) (by rw [z3_clamp (by omega), zup_i]; exact k)
theorem z_last {q N j : Nat} {F : Nat → Int} (hf : xfe M pc = some (.lastore, nx, a, b, hh)) (hq : h q = some (zL N F)) (hj : x = (j : Int)) (hi : j < N) (hN : N < 2147483648) (k : xT M B nx l st n (xup h q (zL N (zup F j y))) Q) : xT M B pc l (zJ y :: zI x :: .ref q :: st) n h Q := by
  subst hj
  exact tt_last hf hq (z3_in hi hN) (by rw [z3_clamp (by omega), zup_l]; exact k)
end XZ
/-- the answers of a test -/
abbrev zB (p : Prop) [Decidable p] : Value := zI (if p then 1 else 0)
end
section
/-! Points, and the cloud's methods -/
abbrev V3 : Type := Int × Int × Int
def dot (u v : V3) : Int := u.1 * v.1 + u.2.1 * v.2.1 + u.2.2 * v.2.2
def vsub (u v : V3) : V3 := (u.1 - v.1, u.2.1 - v.2.1, u.2.2 - v.2.2)
def vcr (u v : V3) : V3 := (u.2.1 * v.2.2 - u.2.2 * v.2.1, u.2.2 * v.1 - u.1 * v.2.2, u.1 * v.2.1 - u.2.1 * v.1)
def vbd (k : Int) (u : V3) : Prop := (-k ≤ u.1 ∧ u.1 ≤ k) ∧ (-k ≤ u.2.1 ∧ u.2.1 ≤ k) ∧ -k ≤ u.2.2 ∧ u.2.2 ≤ k
def swg (P : Nat → V3) (p q r : Nat) (d : V3) : Int := dot d (vcr (vsub (P q) (P p)) (vsub (P r) (P p)))
def spr (P : Nat → V3) (p q : Nat) (d : V3) : Int := dot (vcr (vsub (P q) (P p)) d) (vcr (vsub (P q) (P p)) d)
def dst (P : Nat → V3) (p q : Nat) : Int := dot (vsub (P q) (P p)) (vsub (P q) (P p))
def bxs (P : Nat → V3) (p q r s : Nat) : Int := swg P p q r (vsub (P s) (P p))
/-- the cloud's cells -/
def xCl (h : xHp) (m : Nat) (P : Nat → V3) : Prop := h 1 = some (.inr (0, [zI m, .ref 2, .ref 3, .ref 4])) ∧ h 2 = some (zA 14 fun j => (P j).1) ∧ h 3 = some (zA 14 fun j => (P j).2.1) ∧ h 4 = some (zA 14 fun j => (P j).2.2) ∧ m ≤ 14 ∧ ∀ j, j < 14 → vbd 20 (P j)
set_option maxRecDepth 10000 in
theorem c_isPoint (k : Nat) (hk : k < 14) (n : Nat) (h : xHp) : xPure xmX5_isPoint 1 [zI k] n h (zI 1) := by
  refine xCall.of xgX5_isPoint rfl ?_
  refine tt_op rfl rfl ?_
  refine z_if rfl (by first | assumption | (unfold R3; omega)) (fun c => absurd c (by simp only [zcd] <;> omega)) (fun c => ?_)
  refine tt_op rfl rfl ?_
  refine tt_op rfl rfl ?_
  refine z_icmp rfl (by first | assumption | (unfold R3; omega)) (by first | assumption | (unfold R3; omega)) (fun c => absurd c (by simp only [zcd] <;> omega)) (fun c => ?_)
  refine tt_op rfl rfl ?_
  refine tt_goto rfl ?_
  refine tt_ireturn rfl rfl (by rfl) (Nat.le_of_ble_eq_true rfl) (Nat.le_of_ble_eq_true rfl) ?_
  exact ⟨rfl, rfl, rfl⟩
section CL
variable {h : xHp} {m : Nat} {P : Nat → V3} {n : Nat}
set_option maxRecDepth 10000 in
theorem c_sum (H : xCl h m P) (k : Nat) (hk : k < 14) (a b c : Int) : xPure xmX0_sum 2 [.ref 1, zI k, zJ a, zJ b, zJ c] n h (zJ (dot (a, b, c) (P k))) := by
  obtain ⟨h1, h2, h3, h4, hm, hb⟩ := H
  obtain ⟨b1, b2, b3⟩ := hb k hk
  refine xCall.of xgX0_sum rfl ?_
  refine tt_op rfl rfl ?_
  refine tt_pS rfl rfl rfl rfl (c_isPoint k hk n h) ?_
  refine z_if rfl (by first | assumption | (unfold R3; omega)) (fun c => absurd c (by simp only [zcd] <;> omega)) (fun c => ?_)
  refine tt_op rfl rfl ?_
  refine tt_op rfl rfl ?_
  refine tt_get rfl (by assumption) (by rfl) ?_
  refine tt_op rfl rfl ?_
  refine z_iald rfl (by assumption) rfl (by omega) (by decide) ?_
  refine z_il rfl (by first | assumption | (unfold R3; omega)) ?_
  refine z_lmul rfl ?_
  refine tt_op rfl rfl ?_
  refine tt_op rfl rfl ?_
  refine tt_get rfl (by assumption) (by rfl) ?_
  refine tt_op rfl rfl ?_
  refine z_iald rfl (by assumption) rfl (by omega) (by decide) ?_
  refine z_il rfl (by first | assumption | (unfold R3; omega)) ?_
  refine z_lmul rfl ?_
  refine z_ladd rfl ?_
  refine tt_op rfl rfl ?_
  refine tt_op rfl rfl ?_
  refine tt_get rfl (by assumption) (by rfl) ?_
  refine tt_op rfl rfl ?_
  refine z_iald rfl (by assumption) rfl (by omega) (by decide) ?_
  refine z_il rfl (by first | assumption | (unfold R3; omega)) ?_
  refine z_lmul rfl ?_
  refine z_ladd rfl ?_
  refine tt_goto rfl ?_
  refine tt_lreturn rfl rfl (Nat.le_of_ble_eq_true rfl) (Nat.le_of_ble_eq_true rfl) ?_
  exact ⟨rfl, rfl, rfl⟩
set_option maxRecDepth 10000 in
set_option maxHeartbeats 1000000 in
theorem c_swing (H : xCl h m P) (p q r : Nat) (hp : p < 14) (hq : q < 14) (hr : r < 14) (a b c : Int) : xPure xmX0_swing 2 [.ref 1, zI p, zI q, zI r, zJ a, zJ b, zJ c] n h (zJ (swg P p q r (a, b, c))) := by
  obtain ⟨h1, h2, h3, h4, hm, hb⟩ := H
  obtain ⟨p1, p2, p3⟩ := hb p hp
  obtain ⟨q1, q2, q3⟩ := hb q hq
  obtain ⟨r1, r2, r3⟩ := hb r hr
  refine xCall.of xgX0_swing rfl ?_
  refine tt_op rfl rfl ?_
  refine tt_pS rfl rfl rfl rfl (c_isPoint p hp n h) ?_
  refine z_if rfl (by first | assumption | (unfold R3; omega)) (fun c => absurd c (by simp only [zcd] <;> omega)) (fun c => ?_)
  refine tt_op rfl rfl ?_
  refine tt_pS rfl rfl rfl rfl (c_isPoint q hq n h) ?_
  refine z_if rfl (by first | assumption | (unfold R3; omega)) (fun c => absurd c (by simp only [zcd] <;> omega)) (fun c => ?_)
  refine tt_op rfl rfl ?_
  refine tt_pS rfl rfl rfl rfl (c_isPoint r hr n h) ?_
  refine z_if rfl (by first | assumption | (unfold R3; omega)) (fun c => ?_) (fun c => absurd (by simp only [zcd] <;> omega) c)
  refine tt_op rfl rfl ?_
  refine tt_get rfl (by assumption) (by rfl) ?_
  refine tt_op rfl rfl ?_
  refine z_iald rfl (by assumption) rfl (by omega) (by decide) ?_
  refine tt_op rfl rfl ?_
  refine tt_get rfl (by assumption) (by rfl) ?_
  refine tt_op rfl rfl ?_
  refine z_iald rfl (by assumption) rfl (by omega) (by decide) ?_
  refine z_isub rfl ?_
  refine z_il rfl (by first | assumption | (unfold R3; omega)) ?_
  refine tt_op rfl rfl ?_
  refine tt_op rfl rfl ?_
  refine tt_get rfl (by assumption) (by rfl) ?_
  refine tt_op rfl rfl ?_
  refine z_iald rfl (by assumption) rfl (by omega) (by decide) ?_
  refine tt_op rfl rfl ?_
  refine tt_get rfl (by assumption) (by rfl) ?_
  refine tt_op rfl rfl ?_
  refine z_iald rfl (by assumption) rfl (by omega) (by decide) ?_
  refine z_isub rfl ?_
  refine z_il rfl (by first | assumption | (unfold R3; omega)) ?_
  refine tt_op rfl rfl ?_
  refine tt_op rfl rfl ?_
  refine tt_get rfl (by assumption) (by rfl) ?_
  refine tt_op rfl rfl ?_
  refine z_iald rfl (by assumption) rfl (by omega) (by decide) ?_
  refine tt_op rfl rfl ?_
  refine tt_get rfl (by assumption) (by rfl) ?_
  refine tt_op rfl rfl ?_
  refine z_iald rfl (by assumption) rfl (by omega) (by decide) ?_
  refine z_isub rfl ?_
  refine z_il rfl (by first | assumption | (unfold R3; omega)) ?_
  refine tt_op rfl rfl ?_
  refine tt_op rfl rfl ?_
  refine tt_get rfl (by assumption) (by rfl) ?_
  refine tt_op rfl rfl ?_
  refine z_iald rfl (by assumption) rfl (by omega) (by decide) ?_
  refine tt_op rfl rfl ?_
  refine tt_get rfl (by assumption) (by rfl) ?_
  refine tt_op rfl rfl ?_
  refine z_iald rfl (by assumption) rfl (by omega) (by decide) ?_
  refine z_isub rfl ?_
  refine z_il rfl (by first | assumption | (unfold R3; omega)) ?_
  refine tt_op rfl rfl ?_
  refine tt_op rfl rfl ?_
  refine tt_get rfl (by assumption) (by rfl) ?_
  refine tt_op rfl rfl ?_
  refine z_iald rfl (by assumption) rfl (by omega) (by decide) ?_
  refine tt_op rfl rfl ?_
  refine tt_get rfl (by assumption) (by rfl) ?_
  refine tt_op rfl rfl ?_
  refine z_iald rfl (by assumption) rfl (by omega) (by decide) ?_
  refine z_isub rfl ?_
  refine z_il rfl (by first | assumption | (unfold R3; omega)) ?_
  refine tt_op rfl rfl ?_
  refine tt_op rfl rfl ?_
  refine tt_get rfl (by assumption) (by rfl) ?_
  refine tt_op rfl rfl ?_
  refine z_iald rfl (by assumption) rfl (by omega) (by decide) ?_
  refine tt_op rfl rfl ?_
  refine tt_get rfl (by assumption) (by rfl) ?_
  refine tt_op rfl rfl ?_
  refine z_iald rfl (by assumption) rfl (by omega) (by decide) ?_
  refine z_isub rfl ?_
  refine z_il rfl (by first | assumption | (unfold R3; omega)) ?_
  refine tt_op rfl rfl ?_
  refine tt_op rfl rfl ?_
  refine tt_op rfl rfl ?_
  refine tt_op rfl rfl ?_
  refine z_lmul rfl ?_
  refine tt_op rfl rfl ?_
  refine tt_op rfl rfl ?_
  refine z_lmul rfl ?_
  refine z_lsub rfl ?_
  refine z_lmul rfl ?_
  refine tt_op rfl rfl ?_
  refine tt_op rfl rfl ?_
  refine tt_op rfl rfl ?_
  refine z_lmul rfl ?_
  refine tt_op rfl rfl ?_
  refine tt_op rfl rfl ?_
  refine z_lmul rfl ?_
  refine z_lsub rfl ?_
  refine z_lmul rfl ?_
  refine z_ladd rfl ?_
  refine tt_op rfl rfl ?_
  refine tt_op rfl rfl ?_
  refine tt_op rfl rfl ?_
  refine z_lmul rfl ?_
  refine tt_op rfl rfl ?_
  refine tt_op rfl rfl ?_
  refine z_lmul rfl ?_
  refine z_lsub rfl ?_
  refine z_lmul rfl ?_
  refine z_ladd rfl ?_
  refine tt_lreturn rfl rfl (Nat.le_of_ble_eq_true rfl) (Nat.le_of_ble_eq_true rfl) ?_
  exact ⟨rfl, rfl, rfl⟩
set_option maxRecDepth 10000 in
set_option maxHeartbeats 1000000 in
theorem c_spread (H : xCl h m P) (p q : Nat) (hp : p < 14) (hq : q < 14) (a b c : Int) : xPure xmX0_spread 2 [.ref 1, zI p, zI q, zJ a, zJ b, zJ c] n h (zJ (spr P p q (a, b, c))) := by
  obtain ⟨h1, h2, h3, h4, hm, hb⟩ := H
  obtain ⟨p1, p2, p3⟩ := hb p hp
  obtain ⟨q1, q2, q3⟩ := hb q hq
  refine xCall.of xgX0_spread rfl ?_
  refine tt_op rfl rfl ?_
  refine tt_pS rfl rfl rfl rfl (c_isPoint p hp n h) ?_
  refine z_if rfl (by first | assumption | (unfold R3; omega)) (fun c => absurd c (by simp only [zcd] <;> omega)) (fun c => ?_)
  refine tt_op rfl rfl ?_
  refine tt_pS rfl rfl rfl rfl (c_isPoint q hq n h) ?_
  refine z_if rfl (by first | assumption | (unfold R3; omega)) (fun c => ?_) (fun c => absurd (by simp only [zcd] <;> omega) c)
  refine tt_op rfl rfl ?_
  refine tt_get rfl (by assumption) (by rfl) ?_
  refine tt_op rfl rfl ?_
  refine z_iald rfl (by assumption) rfl (by omega) (by decide) ?_
  refine tt_op rfl rfl ?_
  refine tt_get rfl (by assumption) (by rfl) ?_
  refine tt_op rfl rfl ?_
  refine z_iald rfl (by assumption) rfl (by omega) (by decide) ?_
  refine z_isub rfl ?_
  refine z_il rfl (by first | assumption | (unfold R3; omega)) ?_
  refine tt_op rfl rfl ?_
  refine tt_op rfl rfl ?_
  refine tt_get rfl (by assumption) (by rfl) ?_
  refine tt_op rfl rfl ?_
  refine z_iald rfl (by assumption) rfl (by omega) (by decide) ?_
  refine tt_op rfl rfl ?_
  refine tt_get rfl (by assumption) (by rfl) ?_
  refine tt_op rfl rfl ?_
  refine z_iald rfl (by assumption) rfl (by omega) (by decide) ?_
  refine z_isub rfl ?_
  refine z_il rfl (by first | assumption | (unfold R3; omega)) ?_
  refine tt_op rfl rfl ?_
  refine tt_op rfl rfl ?_
  refine tt_get rfl (by assumption) (by rfl) ?_
  refine tt_op rfl rfl ?_
  refine z_iald rfl (by assumption) rfl (by omega) (by decide) ?_
  refine tt_op rfl rfl ?_
  refine tt_get rfl (by assumption) (by rfl) ?_
  refine tt_op rfl rfl ?_
  refine z_iald rfl (by assumption) rfl (by omega) (by decide) ?_
  refine z_isub rfl ?_
  refine z_il rfl (by first | assumption | (unfold R3; omega)) ?_
  refine tt_op rfl rfl ?_
  refine tt_op rfl rfl ?_
  refine tt_op rfl rfl ?_
  refine z_lmul rfl ?_
  refine tt_op rfl rfl ?_
  refine tt_op rfl rfl ?_
  refine z_lmul rfl ?_
  refine z_lsub rfl ?_
  refine tt_op rfl rfl ?_
  refine tt_op rfl rfl ?_
  refine tt_op rfl rfl ?_
  refine z_lmul rfl ?_
  refine tt_op rfl rfl ?_
  refine tt_op rfl rfl ?_
  refine z_lmul rfl ?_
  refine z_lsub rfl ?_
  refine tt_op rfl rfl ?_
  refine tt_op rfl rfl ?_
  refine tt_op rfl rfl ?_
  refine z_lmul rfl ?_
  refine tt_op rfl rfl ?_
  refine tt_op rfl rfl ?_
  refine z_lmul rfl ?_
  refine z_lsub rfl ?_
  refine tt_op rfl rfl ?_
  refine tt_op rfl rfl ?_
  refine tt_op rfl rfl ?_
  refine z_lmul rfl ?_
  refine tt_op rfl rfl ?_
  refine tt_op rfl rfl ?_
  refine z_lmul rfl ?_
  refine z_ladd rfl ?_
  refine tt_op rfl rfl ?_
  refine tt_op rfl rfl ?_
  refine z_lmul rfl ?_
  refine z_ladd rfl ?_
  refine tt_lreturn rfl rfl (Nat.le_of_ble_eq_true rfl) (Nat.le_of_ble_eq_true rfl) ?_
  exact ⟨rfl, rfl, rfl⟩
set_option maxRecDepth 10000 in
theorem c_distance (H : xCl h m P) (p q : Nat) (hp : p < 14) (hq : q < 14) : xPure xmX0_distance 2 [.ref 1, zI p, zI q] n h (zI (dst P p q)) := by
  obtain ⟨h1, h2, h3, h4, hm, hb⟩ := H
  refine xCall.of xgX0_distance rfl ?_
  refine tt_op rfl rfl ?_
  refine tt_pS rfl rfl rfl rfl (c_isPoint p hp n h) ?_
  refine z_if rfl (by first | assumption | (unfold R3; omega)) (fun c => absurd c (by simp only [zcd] <;> omega)) (fun c => ?_)
  refine tt_op rfl rfl ?_
  refine tt_pS rfl rfl rfl rfl (c_isPoint q hq n h) ?_
  refine z_if rfl (by first | assumption | (unfold R3; omega)) (fun c => ?_) (fun c => absurd (by simp only [zcd] <;> omega) c)
  refine tt_op rfl rfl ?_
  refine tt_get rfl (by assumption) (by rfl) ?_
  refine tt_op rfl rfl ?_
  refine z_iald rfl (by assumption) rfl (by omega) (by decide) ?_
  refine tt_op rfl rfl ?_
  refine tt_get rfl (by assumption) (by rfl) ?_
  refine tt_op rfl rfl ?_
  refine z_iald rfl (by assumption) rfl (by omega) (by decide) ?_
  refine z_isub rfl ?_
  refine tt_op rfl rfl ?_
  refine tt_op rfl rfl ?_
  refine tt_get rfl (by assumption) (by rfl) ?_
  refine tt_op rfl rfl ?_
  refine z_iald rfl (by assumption) rfl (by omega) (by decide) ?_
  refine tt_op rfl rfl ?_
  refine tt_get rfl (by assumption) (by rfl) ?_
  refine tt_op rfl rfl ?_
  refine z_iald rfl (by assumption) rfl (by omega) (by decide) ?_
  refine z_isub rfl ?_
  refine tt_op rfl rfl ?_
  refine tt_op rfl rfl ?_
  refine tt_get rfl (by assumption) (by rfl) ?_
  refine tt_op rfl rfl ?_
  refine z_iald rfl (by assumption) rfl (by omega) (by decide) ?_
  refine tt_op rfl rfl ?_
  refine tt_get rfl (by assumption) (by rfl) ?_
  refine tt_op rfl rfl ?_
  refine z_iald rfl (by assumption) rfl (by omega) (by decide) ?_
  refine z_isub rfl ?_
  refine tt_op rfl rfl ?_
  refine tt_op rfl rfl ?_
  refine tt_op rfl rfl ?_
  refine z_imul rfl ?_
  refine tt_op rfl rfl ?_
  refine tt_op rfl rfl ?_
  refine z_imul rfl ?_
  refine z_iadd rfl ?_
  refine tt_op rfl rfl ?_
  refine tt_op rfl rfl ?_
  refine z_imul rfl ?_
  refine z_iadd rfl ?_
  refine tt_ireturn rfl rfl (by rfl) (Nat.le_of_ble_eq_true rfl) (Nat.le_of_ble_eq_true rfl) ?_
  exact ⟨rfl, rfl, rfl⟩
set_option maxRecDepth 10000 in
theorem c_box (H : xCl h m P) (p q r s : Nat) (hp : p < 14) (hq : q < 14) (hr : r < 14) (hs : s < 14) : xPure xmX0_box 3 [.ref 1, zI p, zI q, zI r, zI s] n h (zJ (bxs P p q r s)) := by
  have H' := H
  obtain ⟨h1, h2, h3, h4, hm, hb⟩ := H
  obtain ⟨p1, p2, p3⟩ := hb p hp
  obtain ⟨s1, s2, s3⟩ := hb s hs
  refine xCall.of xgX0_box rfl ?_
  refine tt_op rfl rfl ?_
  refine tt_pS rfl rfl rfl rfl (c_isPoint p hp n h) ?_
  refine z_if rfl (by first | assumption | (unfold R3; omega)) (fun c => absurd c (by simp only [zcd] <;> omega)) (fun c => ?_)
  refine tt_op rfl rfl ?_
  refine tt_pS rfl rfl rfl rfl (c_isPoint s hs n h) ?_
  refine z_if rfl (by first | assumption | (unfold R3; omega)) (fun c => ?_) (fun c => absurd (by simp only [zcd] <;> omega) c)
  refine tt_op rfl rfl ?_
  refine tt_op rfl rfl ?_
  refine tt_op rfl rfl ?_
  refine tt_op rfl rfl ?_
  refine tt_op rfl rfl ?_
  refine tt_get rfl (by assumption) (by rfl) ?_
  refine tt_op rfl rfl ?_
  refine z_iald rfl (by assumption) rfl (by omega) (by decide) ?_
  refine tt_op rfl rfl ?_
  refine tt_get rfl (by assumption) (by rfl) ?_
  refine tt_op rfl rfl ?_
  refine z_iald rfl (by assumption) rfl (by omega) (by decide) ?_
  refine z_isub rfl ?_
  refine z_il rfl (by first | assumption | (unfold R3; omega)) ?_
  refine tt_op rfl rfl ?_
  refine tt_get rfl (by assumption) (by rfl) ?_
  refine tt_op rfl rfl ?_
  refine z_iald rfl (by assumption) rfl (by omega) (by decide) ?_
  refine tt_op rfl rfl ?_
  refine tt_get rfl (by assumption) (by rfl) ?_
  refine tt_op rfl rfl ?_
  refine z_iald rfl (by assumption) rfl (by omega) (by decide) ?_
  refine z_isub rfl ?_
  refine z_il rfl (by first | assumption | (unfold R3; omega)) ?_
  refine tt_op rfl rfl ?_
  refine tt_get rfl (by assumption) (by rfl) ?_
  refine tt_op rfl rfl ?_
  refine z_iald rfl (by assumption) rfl (by omega) (by decide) ?_
  refine tt_op rfl rfl ?_
  refine tt_get rfl (by assumption) (by rfl) ?_
  refine tt_op rfl rfl ?_
  refine z_iald rfl (by assumption) rfl (by omega) (by decide) ?_
  refine z_isub rfl ?_
  refine z_il rfl (by first | assumption | (unfold R3; omega)) ?_
  refine tt_pV rfl rfl rfl h1 rfl (c_swing H' p q r hp hq hr _ _ _) ?_
  refine tt_lreturn rfl rfl (Nat.le_of_ble_eq_true rfl) (Nat.le_of_ble_eq_true rfl) ?_
  exact ⟨rfl, rfl, rfl⟩
def vax (u : V3) (k : Nat) : Int := if k = 0 then u.1 else if k = 1 then u.2.1 else u.2.2
set_option maxRecDepth 10000 in
theorem c_number (H : xCl h m P) (k ax : Nat) (hk : k < 14) (ha : ax < 3) : xPure xmX0_number 2 [.ref 1, zI k, zI ax] n h (zI (vax (P k) ax)) := by
  obtain ⟨h1, h2, h3, h4, hm, hb⟩ := H
  refine xCall.of xgX0_number rfl ?_
  refine tt_op rfl rfl ?_
  refine tt_pS rfl rfl rfl rfl (c_isPoint k hk n h) ?_
  refine z_if rfl (by first | assumption | (unfold R3; omega)) (fun c => ?_) (fun c => absurd (by simp only [zcd] <;> omega) c)
  refine tt_op rfl rfl ?_
  refine z_if rfl (by first | assumption | (unfold R3; omega)) (fun c => ?_) (fun c => ?_)
  · simp only [zcd] at c
    refine tt_op rfl rfl ?_
    refine tt_op rfl rfl ?_
    refine z_icmp rfl (by first | assumption | (unfold R3; omega)) (by first | assumption | (unfold R3; omega)) (fun c => ?_) (fun c => ?_)
    · simp only [zcd] at c
      refine tt_op rfl rfl ?_
      refine tt_get rfl (by assumption) (by rfl) ?_
      refine tt_op rfl rfl ?_
      refine z_iald rfl (by assumption) rfl (by omega) (by decide) ?_
      refine tt_ireturn rfl rfl (by rfl) (Nat.le_of_ble_eq_true rfl) (Nat.le_of_ble_eq_true rfl) ?_
      refine ⟨?_, rfl, rfl⟩
      simp only [vax]
      rw [if_neg (by omega), if_neg (by omega)]
    · simp only [zcd] at c
      refine tt_op rfl rfl ?_
      refine tt_get rfl (by assumption) (by rfl) ?_
      refine tt_op rfl rfl ?_
      refine z_iald rfl (by assumption) rfl (by omega) (by decide) ?_
      refine tt_goto rfl ?_
      refine tt_ireturn rfl rfl (by rfl) (Nat.le_of_ble_eq_true rfl) (Nat.le_of_ble_eq_true rfl) ?_
      refine ⟨?_, rfl, rfl⟩
      simp only [vax]
      rw [if_neg (by omega), if_pos (by omega)]
  · simp only [zcd] at c
    refine tt_op rfl rfl ?_
    refine tt_get rfl (by assumption) (by rfl) ?_
    refine tt_op rfl rfl ?_
    refine z_iald rfl (by assumption) rfl (by omega) (by decide) ?_
    refine tt_goto rfl ?_
    refine tt_ireturn rfl rfl (by rfl) (Nat.le_of_ble_eq_true rfl) (Nat.le_of_ble_eq_true rfl) ?_
    refine ⟨?_, rfl, rfl⟩
    simp only [vax]
    rw [if_pos (by omega)]
/-- whether a point is among the first ones -/
def hasP (P : Nat → V3) (m : Nat) (u : V3) : Prop := ∃ k, k < m ∧ P k = u
set_option maxRecDepth 10000 in
theorem c_has_loop (H : xCl h m P) (u : V3) (hu : vbd 20 u) (v : Value) (hv1 : hasP P m u → v = zI 1) (hv0 : ¬ hasP P m u → v = zI 0) : ∀ (j k : Nat), k + j = m → (∀ i, i < k → P i ≠ u) → xT xmX0_has (2, 0, 0, 0, 0) 3 [some (.ref 1), some (zI u.1), some (zI u.2.1), some (zI u.2.2), some (zI k)] [] n h (fun r n' h' => r = some v ∧ n' = n ∧ h' = h) := by
  obtain ⟨h1, h2, h3, h4, hm, hb⟩ := H
  obtain ⟨u1, u2, u3⟩ := hu
  intro j
  induction j with
  | zero =>
    intro k hk hno
    refine tt_op rfl rfl ?_
    refine tt_op rfl rfl ?_
    refine tt_get rfl (by assumption) (by rfl) ?_
    refine z_icmp rfl (by first | assumption | (unfold R3; omega)) (by first | assumption | (unfold R3; omega)) (fun c => ?_) (fun c => absurd (by simp only [zcd] <;> omega) c)
    refine tt_op rfl rfl ?_
    refine tt_ireturn rfl rfl (by rfl) (Nat.le_of_ble_eq_true rfl) (Nat.le_of_ble_eq_true rfl) ?_
    refine ⟨congrArg some (hv0 ?_).symm, rfl, rfl⟩
    rintro ⟨i, hi, e⟩
    exact hno i (by omega) e
  | succ j ih =>
    intro k hk hno
    obtain ⟨k1, k2, k3⟩ := hb k (by omega)
    have nx : P k ≠ u → xT xmX0_has (2, 0, 0, 0, 0) 54 [some (.ref 1), some (zI u.1), some (zI u.2.1), some (zI u.2.2), some (zI k)] [] n h (fun r n' h' => r = some v ∧ n' = n ∧ h' = h) := by
      intro hne
      refine z_iinc rfl rfl rfl ?_
      refine tt_goto rfl ?_
      exact ih (k + 1) (by omega) (fun i hi => by
        rcases Nat.lt_or_ge i k with q | q
        · exact hno i q
        · rw [show i = k by omega]; exact hne)
    refine tt_op rfl rfl ?_
    refine tt_op rfl rfl ?_
    refine tt_get rfl (by assumption) (by rfl) ?_
    refine z_icmp rfl (by first | assumption | (unfold R3; omega)) (by first | assumption | (unfold R3; omega)) (fun c => absurd c (by simp only [zcd] <;> omega)) (fun c => ?_)
    refine tt_op rfl rfl ?_
    refine tt_op rfl rfl ?_
    refine z_icmp rfl (by first | assumption | (unfold R3; omega)) (by first | assumption | (unfold R3; omega)) (fun c => absurd c (by simp only [zcd] <;> omega)) (fun c => ?_)
    refine tt_op rfl rfl ?_
    refine tt_get rfl (by assumption) (by rfl) ?_
    refine tt_op rfl rfl ?_
    refine z_iald rfl (by assumption) rfl (by omega) (by decide) ?_
    refine tt_op rfl rfl ?_
    refine z_icmp rfl (by first | assumption | (unfold R3; omega)) (by first | assumption | (unfold R3; omega)) (fun c1 => ?_) (fun c1 => ?_)
    · exact nx (fun e => by simp only [zcd] at c1; exact c1 (by rw [e]))
    refine tt_op rfl rfl ?_
    refine tt_get rfl (by assumption) (by rfl) ?_
    refine tt_op rfl rfl ?_
    refine z_iald rfl (by assumption) rfl (by omega) (by decide) ?_
    refine tt_op rfl rfl ?_
    refine z_icmp rfl (by first | assumption | (unfold R3; omega)) (by first | assumption | (unfold R3; omega)) (fun c2 => ?_) (fun c2 => ?_)
    · exact nx (fun e => by simp only [zcd] at c2; exact c2 (by rw [e]))
    refine tt_op rfl rfl ?_
    refine tt_get rfl (by assumption) (by rfl) ?_
    refine tt_op rfl rfl ?_
    refine z_iald rfl (by assumption) rfl (by omega) (by decide) ?_
    refine tt_op rfl rfl ?_
    refine z_icmp rfl (by first | assumption | (unfold R3; omega)) (by first | assumption | (unfold R3; omega)) (fun c3 => ?_) (fun c3 => ?_)
    · exact nx (fun e => by simp only [zcd] at c3; exact c3 (by rw [e]))
    refine tt_op rfl rfl ?_
    refine tt_ireturn rfl rfl (by rfl) (Nat.le_of_ble_eq_true rfl) (Nat.le_of_ble_eq_true rfl) ?_
    refine ⟨congrArg some (hv1 ⟨k, by omega, ?_⟩).symm, rfl, rfl⟩
    simp only [zcd, ne_eq, Decidable.not_not] at c1 c2 c3
    exact Prod.ext c1 (Prod.ext c2 c3)
set_option maxRecDepth 10000 in
theorem c_has (H : xCl h m P) (u : V3) (hu : vbd 20 u) (v : Value) (hv1 : hasP P m u → v = zI 1) (hv0 : ¬ hasP P m u → v = zI 0) : xPure xmX0_has 2 [.ref 1, zI u.1, zI u.2.1, zI u.2.2] n h v := by
  refine xCall.of xgX0_has rfl ?_
  refine tt_op rfl rfl ?_
  refine tt_op rfl rfl ?_
  exact c_has_loop H u hu v hv1 hv0 m 0 (by omega) (fun i hi => absurd hi (by omega))
end CL
end
section
/-! Bits as natural numbers; the static helpers -/
theorem sl31 : ∀ k, k < 32 → ((nI k &&& 31).toBitVec.smod 32).toNat = k := by decide
theorem nz_and (a b : Nat) : nI a &&& nI b = nI (a &&& b) := by
  apply Int32.toBitVec.inj
  rw [Int32.toBitVec_and]
  show BitVec.ofNat 32 a &&& BitVec.ofNat 32 b = BitVec.ofNat 32 (a &&& b)
  rw [BitVec.ofNat_and]
theorem nz_or (a b : Nat) : nI a ||| nI b = nI (a ||| b) := by
  apply Int32.toBitVec.inj
  rw [Int32.toBitVec_or]
  show BitVec.ofNat 32 a ||| BitVec.ofNat 32 b = BitVec.ofNat 32 (a ||| b)
  rw [BitVec.ofNat_or]
/-- what is in a and not in b -/
def bdf (a b : Nat) : Nat := a ^^^ (a &&& b)
theorem bdf_bit (a b k : Nat) : (bdf a b).testBit k = (a.testBit k && !b.testBit k) := by
  simp only [bdf, Nat.testBit_xor, Nat.testBit_and]
  cases a.testBit k <;> cases b.testBit k <;> rfl
theorem nz_dif (a b : Nat) : nI a &&& (nI b ^^^ (-1)) = nI (bdf a b) := by
  apply Int32.toBitVec.inj
  rw [Int32.toBitVec_and, Int32.toBitVec_xor]
  show BitVec.ofNat 32 a &&& (BitVec.ofNat 32 b ^^^ BitVec.allOnes 32) = BitVec.ofNat 32 (a ^^^ (a &&& b))
  apply BitVec.eq_of_getLsbD_eq
  intro i hi
  simp only [BitVec.getLsbD_and, BitVec.getLsbD_xor, BitVec.getLsbD_ofNat, BitVec.getLsbD_allOnes, hi, decide_true, Bool.true_and, Nat.testBit_xor, Nat.testBit_and]
  cases a.testBit i <;> cases b.testBit i <;> rfl
theorem bit_div (n k : Nat) : ((n / 2 ^ k % 2 : Nat) : Int) = if n.testBit k = true then 1 else 0 := by
  rw [Nat.testBit_eq_decide_div_mod_eq]
  by_cases h : n / 2 ^ k % 2 = 1
  · simp [h]
  · have h0 : n / 2 ^ k % 2 = 0 := by omega
    simp [h0]
theorem z6_lN (k : Nat) : lN k = Int64.ofInt (k : Int) := (Int64.ofInt_eq_ofNat (n := k)).symm
section XBIT
variable {M : xM} {B : xB} {pc nx b hh i p1 p2 b1 b2 hh1 hh2 : Nat} {a a1 a2 : Int} {l : xL} {st : List Value} {n : Nat} {h : xHp} {Q : xQt} {v k w : Nat}
theorem z_tb (hf1 : xfe M pc = some (.ishr, p1, a1, b1, hh1)) (hf2 : xfe M p1 = some (.iconst 1, p2, 1, b2, hh2)) (hf3 : xfe M p2 = some (.iand, nx, a, b, hh)) (hk : k < 32) (hv : v < 2147483648) (kk : xT M B nx l (zI (if v.testBit k = true then 1 else 0) :: st) n h Q) : xT M B pc l (zI k :: zI v :: st) n h Q := by
  refine tt_op hf1 rfl (tt_op hf2 rfl (tt_op hf3 rfl ?_))
  rw [← z3_nI k, ← z3_nI v, pk_shrN hv _ k (sl31 k hk), show (Int32.ofInt 1) = (1 : Int32) from rfl, pk_andN (Nat.lt_of_le_of_lt (Nat.div_le_self _ _) (by omega)) 1 (by decide), z3_nI, show ((v / 2 ^ k % 2 ^ 1 : Nat) : Int) = _ from bit_div v k]
  exact kk
theorem z_shl1 (hf : xfe M pc = some (.ishl, nx, a, b, hh)) (hk : k < 31) (kk : xT M B nx l (zI ((2 ^ k : Nat) : Int) :: st) n h Q) : xT M B pc l (zI k :: zI 1 :: st) n h Q := by
  refine tt_op hf rfl ?_
  have hp : 2 ^ k < 2 ^ 31 := Nat.pow_lt_pow_right (by decide) hk
  rw [← z3_nI k, show Int32.ofInt 1 = nI 1 from rfl, pk_shlN _ k (sl31 k (by omega)) (by omega), Nat.one_mul, z3_nI]
  exact kk
theorem z_ior (hf : xfe M pc = some (.ior, nx, a, b, hh)) (kk : xT M B nx l (zI ((v ||| w : Nat) : Int) :: st) n h Q) : xT M B pc l (zI w :: zI v :: st) n h Q := by
  refine tt_op hf rfl ?_
  rw [← z3_nI v, ← z3_nI w, nz_or, z3_nI]
  exact kk
theorem z_iand (hf : xfe M pc = some (.iand, nx, a, b, hh)) (kk : xT M B nx l (zI ((v &&& w : Nat) : Int) :: st) n h Q) : xT M B pc l (zI w :: zI v :: st) n h Q := by
  refine tt_op hf rfl ?_
  rw [← z3_nI v, ← z3_nI w, nz_and, z3_nI]
  exact kk
theorem z_dif (hf1 : xfe M pc = some (.iconst (-1), p1, -1, b1, hh1)) (hf2 : xfe M p1 = some (.ixor, p2, a2, b2, hh2)) (hf3 : xfe M p2 = some (.iand, nx, a, b, hh)) (kk : xT M B nx l (zI ((bdf v w : Nat) : Int) :: st) n h Q) : xT M B pc l (zI w :: zI v :: st) n h Q := by
  refine tt_op hf1 rfl (tt_op hf2 rfl (tt_op hf3 rfl ?_))
  rw [← z3_nI v, ← z3_nI w, show Int32.ofInt (-1) = (-1 : Int32) from rfl, nz_dif, z3_nI]
  exact kk
theorem z_lrem (hf : xfe M pc = some (.lrem, nx, a, b, hh)) (h0 : 0 < w) (hv : v < 9223372036854775808) (hw : w < 9223372036854775808) (kk : xT M B nx l (zJ ((v % w : Nat) : Int) :: st) n h Q) : xT M B pc l (zJ w :: zJ v :: st) n h Q := by
  refine tt_lrem hf ?_ ?_
  · rw [show (0 : Int64) = Int64.ofInt 0 from rfl, z6_eq ⟨by omega, by omega⟩ ⟨by decide, by decide⟩]
    omega
  · rw [← z6_lN v, ← z6_lN w, pk_lRem hv h0 hw, z6_lN]
    exact kk
theorem z_irem (hf : xfe M pc = some (.irem, nx, a, b, hh)) (h0 : 0 < w) (hv : v < 2147483648) (hw : w < 2147483648) (kk : xT M B nx l (zI ((v % w : Nat) : Int) :: st) n h Q) : xT M B pc l (zI w :: zI v :: st) n h Q := by
  refine tt_irem hf ?_ ?_
  · rw [show (0 : Int32) = Int32.ofInt 0 from rfl, z3_eq ⟨by omega, by omega⟩ ⟨by decide, by decide⟩]
    omega
  · rw [← z3_nI v, ← z3_nI w, pk_rem hv h0 hw, z3_nI]
    exact kk
theorem z_ldiv {x y : Int} (hf : xfe M pc = some (.ldiv, nx, a, b, hh)) (h0 : y ≠ 0) (hx : R6 x) (hx2 : x ≠ -9223372036854775808) (hy : R6 y) (kk : xT M B nx l (zJ (x.tdiv y) :: st) n h Q) : xT M B pc l (zJ y :: zJ x :: st) n h Q := by
  refine tt_ldiv hf ?_ ?_
  · rw [show (0 : Int64) = Int64.ofInt 0 from rfl, z6_eq hy ⟨by decide, by decide⟩]
    exact h0
  · rw [← Int64.ofInt_tdiv hx.1 hx.2 hy.1 hy.2]
    exact kk
theorem z_idiv {x y : Int} (hf : xfe M pc = some (.idiv, nx, a, b, hh)) (h0 : y ≠ 0) (hx : R3 x) (hx2 : x ≠ -2147483648) (hy : R3 y) (kk : xT M B nx l (zI (x.tdiv y) :: st) n h Q) : xT M B pc l (zI y :: zI x :: st) n h Q := by
  refine tt_idiv hf ?_ ?_
  · rw [show (0 : Int32) = Int32.ofInt 0 from rfl, z3_eq hy ⟨by decide, by decide⟩]
    exact h0
  · rw [← Int32.ofInt_tdiv hx.1 hx.2 hy.1 hy.2]
    exact kk
theorem z_abs {d mc ms cu su : Nat} {x : Int} (hf : xfe M pc = some (.invokestatic i, nx, a, 144, hh)) (hx : R6 x) (kk : xT M (d, mc, ms, cu, su) nx l (zJ (x.natAbs : Int) :: st) n h Q) (hd : 1 ≤ d := by exact Nat.le_of_ble_eq_true rfl) (h1 : cu ≤ mc := by exact Nat.le_of_ble_eq_true rfl) (h2 : su ≤ ms := by exact Nat.le_of_ble_eq_true rfl) (hW : xcat st ≤ 8 := by exact Nat.le_of_ble_eq_true rfl) : xT M (d, mc, ms, cu, su) pc l (zJ x :: st) n h Q := by
  refine tt_abs hf ?_ hd h1 h2 hW
  have e : (if 0 < Int64.ofInt x then Int64.ofInt x else -Int64.ofInt x) = Int64.ofInt (x.natAbs : Int) := by
    have hq : (0 : Int64) < Int64.ofInt x ↔ 0 < x := z6_lt (a := 0) ⟨by decide, by decide⟩ hx
    by_cases hp : 0 < x
    · rw [if_pos (hq.mpr hp), show (x.natAbs : Int) = x by omega]
    · rw [if_neg (fun z => hp (hq.mp z)), ← Int64.ofInt_neg, show (x.natAbs : Int) = -x by omega]
  rw [e]
  exact kk
end XBIT
/-- Euclid's steps end -/
def euE : Nat → Nat → Nat → Prop
  | 0, _, b => b = 0
  | k + 1, a, b => b = 0 ∨ euE k b (a % b)
theorem euE_of : ∀ (j a b : Nat), b < 2 ^ j → euE (2 * j) a b
  | 0, a, b, h => by simp at h; exact h
  | j + 1, a, b, h => by
    rw [show 2 * (j + 1) = 2 * j + 1 + 1 by omega]
    by_cases hb : b = 0
    · exact Or.inl hb
    refine Or.inr ?_
    by_cases hr : a % b = 0
    · exact Or.inl hr
    refine Or.inr (euE_of j _ _ ?_)
    have h1 : a % b < b := Nat.mod_lt _ (by omega)
    have h2 : b % (a % b) < a % b := Nat.mod_lt _ (by omega)
    have h3 : b % (a % b) ≤ b - a % b := by
      rw [Nat.mod_eq_sub_mod (by omega)]
      exact Nat.mod_le _ _
    have h4 : 2 ^ (j + 1) = 2 * 2 ^ j := by rw [Nat.pow_succ]; omega
    omega
set_option maxRecDepth 10000 in
theorem c_div_loop (G n : Nat) (h : xHp) (x0 x2 : Int) : ∀ (k s u w : Nat) (l9 : Option Value), s + k = 128 → euE k u w → Nat.gcd u w = G → u < 9223372036854775808 → w < 9223372036854775808 → xT xmX5_divisor (2, 0, 0, 0, 0) 15 [some (zJ x0), none, some (zJ x2), none, some (zJ u), none, some (zJ w), none, some (zI s), l9, none] [] n h (fun r n' h' => r = some (zJ G) ∧ n' = n ∧ h' = h) := by
  intro k
  induction k with
  | zero =>
    intro s u w l9 hs he hg hu hw
    refine tt_op rfl rfl ?_
    refine tt_op rfl rfl ?_
    refine z_icmp rfl (by first | assumption | (unfold R3; omega)) (by first | assumption | (unfold R3; omega)) (fun c => ?_) (fun c => absurd (by simp only [zcd] <;> omega) c)
    refine tt_op rfl rfl ?_
    refine tt_lreturn rfl rfl (Nat.le_of_ble_eq_true rfl) (Nat.le_of_ble_eq_true rfl) ?_
    have he : w = 0 := he
    subst he
    rw [Nat.gcd_zero_right] at hg
    subst hg
    exact ⟨rfl, rfl, rfl⟩
  | succ k ih =>
    intro s u w l9 hs he hg hu hw
    refine tt_op rfl rfl ?_
    refine tt_op rfl rfl ?_
    refine z_icmp rfl (by first | assumption | (unfold R3; omega)) (by first | assumption | (unfold R3; omega)) (fun c => absurd c (by simp only [zcd] <;> omega)) (fun c => ?_)
    refine tt_op rfl rfl ?_
    refine tt_op rfl rfl ?_
    refine z_lif rfl rfl ⟨by omega, by omega⟩ ⟨by decide, by decide⟩ (fun c => ?_) (fun c => ?_)
    · simp only [zcd] at c
      refine tt_op rfl rfl ?_
      refine tt_lreturn rfl rfl (Nat.le_of_ble_eq_true rfl) (Nat.le_of_ble_eq_true rfl) ?_
      have hw0 : w = 0 := by omega
      subst hw0
      rw [Nat.gcd_zero_right] at hg
      subst hg
      exact ⟨rfl, rfl, rfl⟩
    · simp only [zcd] at c
      refine tt_op rfl rfl ?_
      refine tt_op rfl rfl ?_
      refine z_lrem rfl (by omega) hu hw ?_
      refine tt_op rfl rfl ?_
      refine tt_op rfl rfl ?_
      refine tt_op rfl rfl ?_
      refine tt_op rfl rfl ?_
      refine tt_op rfl rfl ?_
      refine z_iinc rfl rfl rfl ?_
      refine tt_goto rfl ?_
      refine ih (s + 1) w (u % w) _ (by omega) (he.resolve_left (by omega)) ?_ hw (Nat.lt_trans (Nat.mod_lt _ (by omega)) hw)
      rw [← hg, Nat.gcd_comm u w, Nat.gcd_rec w u, Nat.gcd_comm]
set_option maxRecDepth 10000 in
theorem c_divisor (x y : Int) (hx : -4611686018427387904 ≤ x ∧ x ≤ 4611686018427387904) (hy : -4611686018427387904 ≤ y ∧ y ≤ 4611686018427387904) (n : Nat) (h : xHp) : xPure xmX5_divisor 2 [zJ x, zJ y] n h (zJ (Int.gcd x y)) := by
  refine xCall.of xgX5_divisor rfl ?_
  refine tt_op rfl rfl ?_
  refine z_abs rfl ⟨by omega, by omega⟩ ?_
  refine tt_op rfl rfl ?_
  refine tt_op rfl rfl ?_
  refine z_abs rfl ⟨by omega, by omega⟩ ?_
  refine tt_op rfl rfl ?_
  refine tt_op rfl rfl ?_
  refine tt_op rfl rfl ?_
  exact c_div_loop _ n h x y 128 0 x.natAbs y.natAbs none rfl (euE_of 64 _ _ (by omega)) rfl (by omega) (by omega)
set_option maxRecDepth 10000 in
theorem c_fraction (x y : Int) (pt : Nat) (hx : -4611686018427387904 ≤ x ∧ x ≤ 4611686018427387904) (hy : 0 < y ∧ y ≤ 4611686018427387904) (hp : pt < 2) (n : Nat) (h : xHp) : xPure xmX5_fraction 3 [zJ x, zJ y, zI pt] n h (zJ ((if pt = 0 then x else y).tdiv (Int.gcd x y))) := by
  have hg0 : 0 < Int.gcd x y := Int.gcd_pos_of_ne_zero_right x (by omega)
  have hgy : (Int.gcd x y : Int) ≤ y := Int.le_of_dvd hy.1 (Int.gcd_dvd_right x y)
  refine xCall.of xgX5_fraction rfl ?_
  refine tt_op rfl rfl ?_
  refine tt_op rfl rfl ?_
  refine tt_pS rfl rfl rfl rfl (c_divisor x y hx ⟨by omega, by omega⟩ n h) ?_
  refine tt_op rfl rfl ?_
  refine tt_op rfl rfl ?_
  refine tt_op rfl rfl ?_
  refine z_lif rfl rfl ⟨by omega, by omega⟩ ⟨by decide, by decide⟩ (fun c => ?_) (fun c => absurd (by simp only [zcd]; omega) c)
  refine tt_op rfl rfl ?_
  have hdiv : ∀ z : Int, R6 z → z ≠ -9223372036854775808 → xT xmX5_fraction (3, 0, 0, 0, 0) 28 [some (zJ x), none, some (zJ y), none, some (zI pt), some (zJ (Int.gcd x y)), none] [zJ z] n h (fun r n' h' => r = some (zJ (z.tdiv (Int.gcd x y))) ∧ n' = n ∧ h' = h) := by
    intro z hz hz2
    refine tt_op rfl rfl ?_
    refine z_ldiv rfl (by omega) hz hz2 ⟨by omega, by omega⟩ ?_
    refine tt_lreturn rfl rfl (Nat.le_of_ble_eq_true rfl) (Nat.le_of_ble_eq_true rfl) ?_
    exact ⟨rfl, rfl, rfl⟩
  refine z_if rfl (by first | assumption | (unfold R3; omega)) (fun c => ?_) (fun c => ?_)
  · simp only [zcd] at c
    rw [if_neg (by omega)]
    refine tt_op rfl rfl ?_
    exact hdiv y ⟨by omega, by omega⟩ (by omega)
  · simp only [zcd] at c
    rw [if_pos (by omega)]
    refine tt_op rfl rfl ?_
    refine tt_goto rfl ?_
    exact hdiv x ⟨by omega, by omega⟩ (by omega)
/-- at most so far from 0 -/
def zwi (x k : Int) : Prop := -k ≤ x ∧ x ≤ k
set_option maxRecDepth 10000 in
theorem c_within (x k : Int) (hx : R3 x) (hk : 0 ≤ k ∧ k ≤ 2147483647) (v : Value) (hv1 : zwi x k → v = zI 1) (hv0 : ¬ zwi x k → v = zI 0) (n : Nat) (h : xHp) : xPure xmX5_within 1 [zI x, zI k] n h v := by
  refine xCall.of xgX5_within rfl ?_
  refine tt_op rfl rfl ?_
  refine tt_op rfl rfl ?_
  refine z_ineg rfl ?_
  refine z_icmp rfl hx ⟨by omega, by omega⟩ (fun c => ?_) (fun c => ?_)
  · simp only [zcd] at c
    refine tt_op rfl rfl ?_
    refine tt_ireturn rfl rfl (by rfl) (Nat.le_of_ble_eq_true rfl) (Nat.le_of_ble_eq_true rfl) ?_
    exact ⟨congrArg some (hv0 (fun q => by unfold zwi at q; omega)).symm, rfl, rfl⟩
  · simp only [zcd] at c
    refine tt_op rfl rfl ?_
    refine tt_op rfl rfl ?_
    refine z_icmp rfl hx ⟨by omega, by omega⟩ (fun c2 => ?_) (fun c2 => ?_)
    · simp only [zcd] at c2
      refine tt_op rfl rfl ?_
      refine tt_ireturn rfl rfl (by rfl) (Nat.le_of_ble_eq_true rfl) (Nat.le_of_ble_eq_true rfl) ?_
      exact ⟨congrArg some (hv0 (fun q => by unfold zwi at q; omega)).symm, rfl, rfl⟩
    · simp only [zcd] at c2
      refine tt_op rfl rfl ?_
      refine tt_goto rfl ?_
      refine tt_ireturn rfl rfl (by rfl) (Nat.le_of_ble_eq_true rfl) (Nat.le_of_ble_eq_true rfl) ?_
      exact ⟨congrArg some (hv1 (by unfold zwi; omega)).symm, rfl, rfl⟩
set_option maxRecDepth 10000 in
theorem c_isAxis (x : Int) (hx : R3 x) (v : Value) (hv1 : 0 ≤ x ∧ x ≤ 2 → v = zI 1) (hv0 : ¬ (0 ≤ x ∧ x ≤ 2) → v = zI 0) (n : Nat) (h : xHp) : xPure xmX5_isAxis 1 [zI x] n h v := by
  refine xCall.of xgX5_isAxis rfl ?_
  refine tt_op rfl rfl ?_
  refine z_if rfl (by first | assumption | (unfold R3; omega)) (fun c => ?_) (fun c => ?_)
  · simp only [zcd] at c
    refine tt_op rfl rfl ?_
    refine tt_ireturn rfl rfl (by rfl) (Nat.le_of_ble_eq_true rfl) (Nat.le_of_ble_eq_true rfl) ?_
    exact ⟨congrArg some (hv0 (by omega)).symm, rfl, rfl⟩
  · simp only [zcd] at c
    refine tt_op rfl rfl ?_
    refine tt_op rfl rfl ?_
    refine z_icmp rfl (by first | assumption | (unfold R3; omega)) (by first | assumption | (unfold R3; omega)) (fun c2 => ?_) (fun c2 => ?_)
    · simp only [zcd] at c2
      refine tt_op rfl rfl ?_
      refine tt_ireturn rfl rfl (by rfl) (Nat.le_of_ble_eq_true rfl) (Nat.le_of_ble_eq_true rfl) ?_
      exact ⟨congrArg some (hv0 (by omega)).symm, rfl, rfl⟩
    · simp only [zcd] at c2
      refine tt_op rfl rfl ?_
      refine tt_goto rfl ?_
      refine tt_ireturn rfl rfl (by rfl) (Nat.le_of_ble_eq_true rfl) (Nat.le_of_ble_eq_true rfl) ?_
      exact ⟨congrArg some (hv1 (by omega)).symm, rfl, rfl⟩
set_option maxRecDepth 10000 in
theorem c_isPart (x : Int) (hx : R3 x) (v : Value) (hv1 : x = 0 ∨ x = 1 → v = zI 1) (hv0 : ¬ (x = 0 ∨ x = 1) → v = zI 0) (n : Nat) (h : xHp) : xPure xmX5_isPart 1 [zI x] n h v := by
  refine xCall.of xgX5_isPart rfl ?_
  refine tt_op rfl rfl ?_
  refine z_if rfl (by first | assumption | (unfold R3; omega)) (fun c => ?_) (fun c => ?_)
  · simp only [zcd] at c
    refine tt_op rfl rfl ?_
    refine tt_goto rfl ?_
    refine tt_ireturn rfl rfl (by rfl) (Nat.le_of_ble_eq_true rfl) (Nat.le_of_ble_eq_true rfl) ?_
    exact ⟨congrArg some (hv1 (by omega)).symm, rfl, rfl⟩
  · simp only [zcd] at c
    refine tt_op rfl rfl ?_
    refine tt_op rfl rfl ?_
    refine z_icmp rfl (by first | assumption | (unfold R3; omega)) (by first | assumption | (unfold R3; omega)) (fun c2 => ?_) (fun c2 => ?_)
    · simp only [zcd] at c2
      refine tt_op rfl rfl ?_
      refine tt_ireturn rfl rfl (by rfl) (Nat.le_of_ble_eq_true rfl) (Nat.le_of_ble_eq_true rfl) ?_
      exact ⟨congrArg some (hv0 (by omega)).symm, rfl, rfl⟩
    · simp only [zcd] at c2
      refine tt_op rfl rfl ?_
      refine tt_goto rfl ?_
      refine tt_ireturn rfl rfl (by rfl) (Nat.le_of_ble_eq_true rfl) (Nat.le_of_ble_eq_true rfl) ?_
      exact ⟨congrArg some (hv1 (by omega)).symm, rfl, rfl⟩
/-- a direction that is not refused -/
def isDir (a b c : Int) : Prop := (a ≠ 0 ∨ b ≠ 0 ∨ c ≠ 0) ∧ zwi a 20 ∧ zwi b 20 ∧ zwi c 20
set_option maxRecDepth 10000 in
theorem c_isDir (x y z : Int) (hx : R3 x) (hy : R3 y) (hz : R3 z) (v : Value) (hv1 : isDir x y z → v = zI 1) (hv0 : ¬ isDir x y z → v = zI 0) (n : Nat) (h : xHp) : xPure xmX5_isDirection 2 [zI x, zI y, zI z] n h v := by
  refine xCall.of xgX5_isDirection rfl ?_
  have fin0 : ∀ l, ¬ isDir x y z → xT xmX5_isDirection (2, 0, 0, 0, 0) 53 l [] n h (fun r n' h' => r = some v ∧ n' = n ∧ h' = h) := by
    intro l hn
    refine tt_op rfl rfl ?_
    refine tt_ireturn rfl rfl (by rfl) (Nat.le_of_ble_eq_true rfl) (Nat.le_of_ble_eq_true rfl) ?_
    exact ⟨congrArg some (hv0 hn).symm, rfl, rfl⟩
  have some1 : (x ≠ 0 ∨ y ≠ 0 ∨ z ≠ 0) → xT xmX5_isDirection (2, 0, 0, 0, 0) 12 [some (zI x), some (zI y), some (zI z), none] [] n h (fun r n' h' => r = some v ∧ n' = n ∧ h' = h) := by
    intro hs
    refine tt_op rfl rfl ?_
    refine tt_goto rfl ?_
    refine tt_op rfl rfl ?_
    refine tt_op rfl rfl ?_
    refine z_if rfl (by first | assumption | (unfold R3; omega)) (fun c => absurd c (by simp only [zcd] <;> omega)) (fun c => ?_)
    refine tt_op rfl rfl ?_
    refine tt_op rfl rfl ?_
    by_cases w1 : zwi x 20
    · refine tt_pS rfl rfl rfl rfl (c_within x 20 hx ⟨by decide, by decide⟩ (zI 1) (fun _ => rfl) (fun q => absurd w1 q) n h) ?_
      refine z_if rfl (by first | assumption | (unfold R3; omega)) (fun c => absurd c (by simp only [zcd] <;> omega)) (fun c => ?_)
      refine tt_op rfl rfl ?_
      refine tt_op rfl rfl ?_
      by_cases w2 : zwi y 20
      · refine tt_pS rfl rfl rfl rfl (c_within y 20 hy ⟨by decide, by decide⟩ (zI 1) (fun _ => rfl) (fun q => absurd w2 q) n h) ?_
        refine z_if rfl (by first | assumption | (unfold R3; omega)) (fun c => absurd c (by simp only [zcd] <;> omega)) (fun c => ?_)
        refine tt_op rfl rfl ?_
        refine tt_op rfl rfl ?_
        by_cases w3 : zwi z 20
        · refine tt_pS rfl rfl rfl rfl (c_within z 20 hz ⟨by decide, by decide⟩ (zI 1) (fun _ => rfl) (fun q => absurd w3 q) n h) ?_
          refine z_if rfl (by first | assumption | (unfold R3; omega)) (fun c => absurd c (by simp only [zcd] <;> omega)) (fun c => ?_)
          refine tt_op rfl rfl ?_
          refine tt_goto rfl ?_
          refine tt_ireturn rfl rfl (by rfl) (Nat.le_of_ble_eq_true rfl) (Nat.le_of_ble_eq_true rfl) ?_
          exact ⟨congrArg some (hv1 ⟨hs, w1, w2, w3⟩).symm, rfl, rfl⟩
        · refine tt_pS rfl rfl rfl rfl (c_within z 20 hz ⟨by decide, by decide⟩ (zI 0) (fun q => absurd q w3) (fun _ => rfl) n h) ?_
          refine z_if rfl (by first | assumption | (unfold R3; omega)) (fun c => ?_) (fun c => absurd (by simp only [zcd] <;> omega) c)
          exact fin0 _ (fun q => w3 q.2.2.2)
      · refine tt_pS rfl rfl rfl rfl (c_within y 20 hy ⟨by decide, by decide⟩ (zI 0) (fun q => absurd q w2) (fun _ => rfl) n h) ?_
        refine z_if rfl (by first | assumption | (unfold R3; omega)) (fun c => ?_) (fun c => absurd (by simp only [zcd] <;> omega) c)
        exact fin0 _ (fun q => w2 q.2.2.1)
    · refine tt_pS rfl rfl rfl rfl (c_within x 20 hx ⟨by decide, by decide⟩ (zI 0) (fun q => absurd q w1) (fun _ => rfl) n h) ?_
      refine z_if rfl (by first | assumption | (unfold R3; omega)) (fun c => ?_) (fun c => absurd (by simp only [zcd] <;> omega) c)
      exact fin0 _ (fun q => w1 q.2.1)
  refine tt_op rfl rfl ?_
  refine z_if rfl (by first | assumption | (unfold R3; omega)) (fun c1 => ?_) (fun c1 => ?_)
  · simp only [zcd] at c1
    exact some1 (Or.inl c1)
  simp only [zcd] at c1
  refine tt_op rfl rfl ?_
  refine z_if rfl (by first | assumption | (unfold R3; omega)) (fun c2 => ?_) (fun c2 => ?_)
  · simp only [zcd] at c2
    exact some1 (Or.inr (Or.inl c2))
  simp only [zcd] at c2
  refine tt_op rfl rfl ?_
  refine z_if rfl (by first | assumption | (unfold R3; omega)) (fun c3 => ?_) (fun c3 => ?_)
  · simp only [zcd] at c3
    refine tt_op rfl rfl ?_
    refine tt_op rfl rfl ?_
    refine tt_op rfl rfl ?_
    refine z_if rfl (by first | assumption | (unfold R3; omega)) (fun c => ?_) (fun c => absurd (by simp only [zcd] <;> omega) c)
    exact fin0 _ (fun q => by obtain ⟨q, -⟩ := q; omega)
  simp only [zcd] at c3
  exact some1 (Or.inr (Or.inr c3))
/-- the least bit -/
def tzR : Nat → Nat → Nat → Nat
  | 0, k, _ => k
  | f + 1, k, n => if n.testBit k = true then k else tzR f (k + 1) n
def tz (n : Nat) : Nat := tzR 14 0 n
theorem tzR_spec (n : Nat) : ∀ f k, (∃ j, k ≤ j ∧ j < k + f ∧ n.testBit j = true) → n.testBit (tzR f k n) = true ∧ tzR f k n < k + f ∧ k ≤ tzR f k n ∧ ∀ j, k ≤ j → j < tzR f k n → n.testBit j = false
  | 0, k, h => by obtain ⟨j, h1, h2, -⟩ := h; omega
  | f + 1, k, h => by
    unfold tzR
    by_cases hk : n.testBit k = true
    · rw [if_pos hk]
      exact ⟨hk, by omega, by omega, fun j h1 h2 => absurd h2 (by omega)⟩
    · rw [if_neg hk]
      obtain ⟨j, h1, h2, h3⟩ := h
      have hj : k ≠ j := fun e => hk (by rw [e]; exact h3)
      obtain ⟨a1, a2, a3, a4⟩ := tzR_spec n f (k + 1) ⟨j, by omega, by omega, h3⟩
      refine ⟨a1, by omega, by omega, fun i i1 i2 => ?_⟩
      by_cases hi : i = k
      · subst hi; simpa using hk
      · exact a4 i (by omega) i2
theorem tz_low0 : ∀ i, i < 128 → ∀ j, j < 128 → 0 < 128 * i + j → (nI (128 * i + j) ^^^ (-1)) &&& (nI (128 * i + j) - 1) = nI (2 ^ tz (128 * i + j) - 1) ∧ tz (128 * i + j) < 14 := by decide +kernel
theorem tz_low (n : Nat) (hn : n < 16384) (h0 : 0 < n) : (nI n ^^^ (-1)) &&& (nI n - 1) = nI (2 ^ tz n - 1) ∧ tz n < 14 := by
  have h := tz_low0 (n / 128) (by omega) (n % 128) (by omega)
  rw [show 128 * (n / 128) + n % 128 = n by omega] at h
  exact h h0
set_option maxRecDepth 10000 in
set_option maxHeartbeats 2000000 in
theorem c_ntz (w : Nat) (hw : w < 16384) (h0 : 0 < w) (n : Nat) (h : xHp) : xPure xmJ6_numberOfTrailingZeros_0f7a4 1 [zI w] n h (zI (tz w)) := by
  obtain ⟨e1, e2⟩ := tz_low w hw h0
  have go : ∀ (k : Nat), k < 14 → xT xmJ6_numberOfTrailingZeros_0f7a4 (1, 0, 0, 0, 0) 8 [some (.int (nI (2 ^ k - 1))), none] [] n h (fun r n' h' => r = some (zI k) ∧ n' = n ∧ h' = h) := by
    intro k hk
    match k, hk with
    | 0, _ =>
      refine tt_op rfl rfl ?_
      refine tt_if rfl (fun c => absurd (show (0 : Int32) < nI 0 from c) (by decide)) (fun c => ?_)
      refine tt_op rfl rfl ?_
      refine tt_op rfl rfl ?_
      refine tt_op rfl rfl ?_
      refine tt_ireturn rfl rfl (by rfl) (Nat.le_of_ble_eq_true rfl) (Nat.le_of_ble_eq_true rfl) ⟨congrArg some (congrArg Value.int (by decide)), rfl, rfl⟩
    | 1, _ =>
      refine tt_op rfl rfl ?_
      refine tt_if rfl (fun c => ?_) (fun c => absurd (show (0 : Int32) < nI 1 by decide) c)
      refine tt_op rfl rfl ?_
      refine tt_op rfl rfl ?_
      refine tt_op rfl rfl ?_
      refine tt_op rfl rfl ?_
      refine tt_icmp rfl (fun c => ?_) (fun c => absurd (show nI 1 ≤ Int32.ofInt 65536 by decide) c)
      refine tt_op rfl rfl ?_
      refine tt_op rfl rfl ?_
      refine tt_icmp rfl (fun c => ?_) (fun c => absurd (show nI 1 ≤ Int32.ofInt 256 by decide) c)
      refine tt_op rfl rfl ?_
      refine tt_op rfl rfl ?_
      refine tt_icmp rfl (fun c => ?_) (fun c => absurd (show nI 1 ≤ Int32.ofInt 16 by decide) c)
      refine tt_op rfl rfl ?_
      refine tt_op rfl rfl ?_
      refine tt_icmp rfl (fun c => ?_) (fun c => absurd (show nI 1 ≤ Int32.ofInt 4 by decide) c)
      refine tt_op rfl rfl ?_
      refine tt_op rfl rfl ?_
      refine tt_op rfl rfl ?_
      refine tt_op rfl rfl ?_
      refine tt_op rfl rfl ?_
      refine tt_ireturn rfl rfl (by rfl) (Nat.le_of_ble_eq_true rfl) (Nat.le_of_ble_eq_true rfl) ⟨congrArg some (congrArg Value.int (by decide)), rfl, rfl⟩
    | 2, _ =>
      refine tt_op rfl rfl ?_
      refine tt_if rfl (fun c => ?_) (fun c => absurd (show (0 : Int32) < nI 3 by decide) c)
      refine tt_op rfl rfl ?_
      refine tt_op rfl rfl ?_
      refine tt_op rfl rfl ?_
      refine tt_op rfl rfl ?_
      refine tt_icmp rfl (fun c => ?_) (fun c => absurd (show nI 3 ≤ Int32.ofInt 65536 by decide) c)
      refine tt_op rfl rfl ?_
      refine tt_op rfl rfl ?_
      refine tt_icmp rfl (fun c => ?_) (fun c => absurd (show nI 3 ≤ Int32.ofInt 256 by decide) c)
      refine tt_op rfl rfl ?_
      refine tt_op rfl rfl ?_
      refine tt_icmp rfl (fun c => ?_) (fun c => absurd (show nI 3 ≤ Int32.ofInt 16 by decide) c)
      refine tt_op rfl rfl ?_
      refine tt_op rfl rfl ?_
      refine tt_icmp rfl (fun c => ?_) (fun c => absurd (show nI 3 ≤ Int32.ofInt 4 by decide) c)
      refine tt_op rfl rfl ?_
      refine tt_op rfl rfl ?_
      refine tt_op rfl rfl ?_
      refine tt_op rfl rfl ?_
      refine tt_op rfl rfl ?_
      refine tt_ireturn rfl rfl (by rfl) (Nat.le_of_ble_eq_true rfl) (Nat.le_of_ble_eq_true rfl) ⟨congrArg some (congrArg Value.int (by decide)), rfl, rfl⟩
    | 3, _ =>
      refine tt_op rfl rfl ?_
      refine tt_if rfl (fun c => ?_) (fun c => absurd (show (0 : Int32) < nI 7 by decide) c)
      refine tt_op rfl rfl ?_
      refine tt_op rfl rfl ?_
      refine tt_op rfl rfl ?_
      refine tt_op rfl rfl ?_
      refine tt_icmp rfl (fun c => ?_) (fun c => absurd (show nI 7 ≤ Int32.ofInt 65536 by decide) c)
      refine tt_op rfl rfl ?_
      refine tt_op rfl rfl ?_
      refine tt_icmp rfl (fun c => ?_) (fun c => absurd (show nI 7 ≤ Int32.ofInt 256 by decide) c)
      refine tt_op rfl rfl ?_
      refine tt_op rfl rfl ?_
      refine tt_icmp rfl (fun c => ?_) (fun c => absurd (show nI 7 ≤ Int32.ofInt 16 by decide) c)
      refine tt_op rfl rfl ?_
      refine tt_op rfl rfl ?_
      refine tt_icmp rfl (fun c => absurd (show nI 7 ≤ Int32.ofInt 4 from c) (by decide)) (fun c => ?_)
      refine tt_op rfl rfl ?_
      refine tt_op rfl rfl ?_
      refine tt_op rfl rfl ?_
      refine tt_op rfl rfl ?_
      refine tt_op rfl rfl ?_
      refine tt_op rfl rfl ?_
      refine tt_op rfl rfl ?_
      refine tt_op rfl rfl ?_
      refine tt_op rfl rfl ?_
      refine tt_op rfl rfl ?_
      refine tt_ireturn rfl rfl (by rfl) (Nat.le_of_ble_eq_true rfl) (Nat.le_of_ble_eq_true rfl) ⟨congrArg some (congrArg Value.int (by decide)), rfl, rfl⟩
    | 4, _ =>
      refine tt_op rfl rfl ?_
      refine tt_if rfl (fun c => ?_) (fun c => absurd (show (0 : Int32) < nI 15 by decide) c)
      refine tt_op rfl rfl ?_
      refine tt_op rfl rfl ?_
      refine tt_op rfl rfl ?_
      refine tt_op rfl rfl ?_
      refine tt_icmp rfl (fun c => ?_) (fun c => absurd (show nI 15 ≤ Int32.ofInt 65536 by decide) c)
      refine tt_op rfl rfl ?_
      refine tt_op rfl rfl ?_
      refine tt_icmp rfl (fun c => ?_) (fun c => absurd (show nI 15 ≤ Int32.ofInt 256 by decide) c)
      refine tt_op rfl rfl ?_
      refine tt_op rfl rfl ?_
      refine tt_icmp rfl (fun c => ?_) (fun c => absurd (show nI 15 ≤ Int32.ofInt 16 by decide) c)
      refine tt_op rfl rfl ?_
      refine tt_op rfl rfl ?_
      refine tt_icmp rfl (fun c => absurd (show nI 15 ≤ Int32.ofInt 4 from c) (by decide)) (fun c => ?_)
      refine tt_op rfl rfl ?_
      refine tt_op rfl rfl ?_
      refine tt_op rfl rfl ?_
      refine tt_op rfl rfl ?_
      refine tt_op rfl rfl ?_
      refine tt_op rfl rfl ?_
      refine tt_op rfl rfl ?_
      refine tt_op rfl rfl ?_
      refine tt_op rfl rfl ?_
      refine tt_op rfl rfl ?_
      refine tt_ireturn rfl rfl (by rfl) (Nat.le_of_ble_eq_true rfl) (Nat.le_of_ble_eq_true rfl) ⟨congrArg some (congrArg Value.int (by decide)), rfl, rfl⟩
    | 5, _ =>
      refine tt_op rfl rfl ?_
      refine tt_if rfl (fun c => ?_) (fun c => absurd (show (0 : Int32) < nI 31 by decide) c)
      refine tt_op rfl rfl ?_
      refine tt_op rfl rfl ?_
      refine tt_op rfl rfl ?_
      refine tt_op rfl rfl ?_
      refine tt_icmp rfl (fun c => ?_) (fun c => absurd (show nI 31 ≤ Int32.ofInt 65536 by decide) c)
      refine tt_op rfl rfl ?_
      refine tt_op rfl rfl ?_
      refine tt_icmp rfl (fun c => ?_) (fun c => absurd (show nI 31 ≤ Int32.ofInt 256 by decide) c)
      refine tt_op rfl rfl ?_
      refine tt_op rfl rfl ?_
      refine tt_icmp rfl (fun c => absurd (show nI 31 ≤ Int32.ofInt 16 from c) (by decide)) (fun c => ?_)
      refine tt_op rfl rfl ?_
      refine tt_op rfl rfl ?_
      refine tt_op rfl rfl ?_
      refine tt_op rfl rfl ?_
      refine tt_op rfl rfl ?_
      refine tt_op rfl rfl ?_
      refine tt_op rfl rfl ?_
      refine tt_icmp rfl (fun c => ?_) (fun c => absurd (show ((nI 31).toUInt32 >>> ((Int32.ofInt 4).toUInt32 &&& Int32.toUInt32 31)).toInt32 ≤ Int32.ofInt 4 by decide) c)
      refine tt_op rfl rfl ?_
      refine tt_op rfl rfl ?_
      refine tt_op rfl rfl ?_
      refine tt_op rfl rfl ?_
      refine tt_op rfl rfl ?_
      refine tt_ireturn rfl rfl (by rfl) (Nat.le_of_ble_eq_true rfl) (Nat.le_of_ble_eq_true rfl) ⟨congrArg some (congrArg Value.int (by decide)), rfl, rfl⟩
    | 6, _ =>
      refine tt_op rfl rfl ?_
      refine tt_if rfl (fun c => ?_) (fun c => absurd (show (0 : Int32) < nI 63 by decide) c)
      refine tt_op rfl rfl ?_
      refine tt_op rfl rfl ?_
      refine tt_op rfl rfl ?_
      refine tt_op rfl rfl ?_
      refine tt_icmp rfl (fun c => ?_) (fun c => absurd (show nI 63 ≤ Int32.ofInt 65536 by decide) c)
      refine tt_op rfl rfl ?_
      refine tt_op rfl rfl ?_
      refine tt_icmp rfl (fun c => ?_) (fun c => absurd (show nI 63 ≤ Int32.ofInt 256 by decide) c)
      refine tt_op rfl rfl ?_
      refine tt_op rfl rfl ?_
      refine tt_icmp rfl (fun c => absurd (show nI 63 ≤ Int32.ofInt 16 from c) (by decide)) (fun c => ?_)
      refine tt_op rfl rfl ?_
      refine tt_op rfl rfl ?_
      refine tt_op rfl rfl ?_
      refine tt_op rfl rfl ?_
      refine tt_op rfl rfl ?_
      refine tt_op rfl rfl ?_
      refine tt_op rfl rfl ?_
      refine tt_icmp rfl (fun c => ?_) (fun c => absurd (show ((nI 63).toUInt32 >>> ((Int32.ofInt 4).toUInt32 &&& Int32.toUInt32 31)).toInt32 ≤ Int32.ofInt 4 by decide) c)
      refine tt_op rfl rfl ?_
      refine tt_op rfl rfl ?_
      refine tt_op rfl rfl ?_
      refine tt_op rfl rfl ?_
      refine tt_op rfl rfl ?_
      refine tt_ireturn rfl rfl (by rfl) (Nat.le_of_ble_eq_true rfl) (Nat.le_of_ble_eq_true rfl) ⟨congrArg some (congrArg Value.int (by decide)), rfl, rfl⟩
    | 7, _ =>
      refine tt_op rfl rfl ?_
      refine tt_if rfl (fun c => ?_) (fun c => absurd (show (0 : Int32) < nI 127 by decide) c)
      refine tt_op rfl rfl ?_
      refine tt_op rfl rfl ?_
      refine tt_op rfl rfl ?_
      refine tt_op rfl rfl ?_
      refine tt_icmp rfl (fun c => ?_) (fun c => absurd (show nI 127 ≤ Int32.ofInt 65536 by decide) c)
      refine tt_op rfl rfl ?_
      refine tt_op rfl rfl ?_
      refine tt_icmp rfl (fun c => ?_) (fun c => absurd (show nI 127 ≤ Int32.ofInt 256 by decide) c)
      refine tt_op rfl rfl ?_
      refine tt_op rfl rfl ?_
      refine tt_icmp rfl (fun c => absurd (show nI 127 ≤ Int32.ofInt 16 from c) (by decide)) (fun c => ?_)
      refine tt_op rfl rfl ?_
      refine tt_op rfl rfl ?_
      refine tt_op rfl rfl ?_
      refine tt_op rfl rfl ?_
      refine tt_op rfl rfl ?_
      refine tt_op rfl rfl ?_
      refine tt_op rfl rfl ?_
      refine tt_icmp rfl (fun c => absurd (show ((nI 127).toUInt32 >>> ((Int32.ofInt 4).toUInt32 &&& Int32.toUInt32 31)).toInt32 ≤ Int32.ofInt 4 from c) (by decide)) (fun c => ?_)
      refine tt_op rfl rfl ?_
      refine tt_op rfl rfl ?_
      refine tt_op rfl rfl ?_
      refine tt_op rfl rfl ?_
      refine tt_op rfl rfl ?_
      refine tt_op rfl rfl ?_
      refine tt_op rfl rfl ?_
      refine tt_op rfl rfl ?_
      refine tt_op rfl rfl ?_
      refine tt_op rfl rfl ?_
      refine tt_ireturn rfl rfl (by rfl) (Nat.le_of_ble_eq_true rfl) (Nat.le_of_ble_eq_true rfl) ⟨congrArg some (congrArg Value.int (by decide)), rfl, rfl⟩
    | 8, _ =>
      refine tt_op rfl rfl ?_
      refine tt_if rfl (fun c => ?_) (fun c => absurd (show (0 : Int32) < nI 255 by decide) c)
      refine tt_op rfl rfl ?_
      refine tt_op rfl rfl ?_
      refine tt_op rfl rfl ?_
      refine tt_op rfl rfl ?_
      refine tt_icmp rfl (fun c => ?_) (fun c => absurd (show nI 255 ≤ Int32.ofInt 65536 by decide) c)
      refine tt_op rfl rfl ?_
      refine tt_op rfl rfl ?_
      refine tt_icmp rfl (fun c => ?_) (fun c => absurd (show nI 255 ≤ Int32.ofInt 256 by decide) c)
      refine tt_op rfl rfl ?_
      refine tt_op rfl rfl ?_
      refine tt_icmp rfl (fun c => absurd (show nI 255 ≤ Int32.ofInt 16 from c) (by decide)) (fun c => ?_)
      refine tt_op rfl rfl ?_
      refine tt_op rfl rfl ?_
      refine tt_op rfl rfl ?_
      refine tt_op rfl rfl ?_
      refine tt_op rfl rfl ?_
      refine tt_op rfl rfl ?_
      refine tt_op rfl rfl ?_
      refine tt_icmp rfl (fun c => absurd (show ((nI 255).toUInt32 >>> ((Int32.ofInt 4).toUInt32 &&& Int32.toUInt32 31)).toInt32 ≤ Int32.ofInt 4 from c) (by decide)) (fun c => ?_)
      refine tt_op rfl rfl ?_
      refine tt_op rfl rfl ?_
      refine tt_op rfl rfl ?_
      refine tt_op rfl rfl ?_
      refine tt_op rfl rfl ?_
      refine tt_op rfl rfl ?_
      refine tt_op rfl rfl ?_
      refine tt_op rfl rfl ?_
      refine tt_op rfl rfl ?_
      refine tt_op rfl rfl ?_
      refine tt_ireturn rfl rfl (by rfl) (Nat.le_of_ble_eq_true rfl) (Nat.le_of_ble_eq_true rfl) ⟨congrArg some (congrArg Value.int (by decide)), rfl, rfl⟩
    | 9, _ =>
      refine tt_op rfl rfl ?_
      refine tt_if rfl (fun c => ?_) (fun c => absurd (show (0 : Int32) < nI 511 by decide) c)
      refine tt_op rfl rfl ?_
      refine tt_op rfl rfl ?_
      refine tt_op rfl rfl ?_
      refine tt_op rfl rfl ?_
      refine tt_icmp rfl (fun c => ?_) (fun c => absurd (show nI 511 ≤ Int32.ofInt 65536 by decide) c)
      refine tt_op rfl rfl ?_
      refine tt_op rfl rfl ?_
      refine tt_icmp rfl (fun c => absurd (show nI 511 ≤ Int32.ofInt 256 from c) (by decide)) (fun c => ?_)
      refine tt_op rfl rfl ?_
      refine tt_op rfl rfl ?_
      refine tt_op rfl rfl ?_
      refine tt_op rfl rfl ?_
      refine tt_op rfl rfl ?_
      refine tt_op rfl rfl ?_
      refine tt_op rfl rfl ?_
      refine tt_icmp rfl (fun c => ?_) (fun c => absurd (show ((nI 511).toUInt32 >>> ((Int32.ofInt 8).toUInt32 &&& Int32.toUInt32 31)).toInt32 ≤ Int32.ofInt 16 by decide) c)
      refine tt_op rfl rfl ?_
      refine tt_op rfl rfl ?_
      refine tt_icmp rfl (fun c => ?_) (fun c => absurd (show ((nI 511).toUInt32 >>> ((Int32.ofInt 8).toUInt32 &&& Int32.toUInt32 31)).toInt32 ≤ Int32.ofInt 4 by decide) c)
      refine tt_op rfl rfl ?_
      refine tt_op rfl rfl ?_
      refine tt_op rfl rfl ?_
      refine tt_op rfl rfl ?_
      refine tt_op rfl rfl ?_
      refine tt_ireturn rfl rfl (by rfl) (Nat.le_of_ble_eq_true rfl) (Nat.le_of_ble_eq_true rfl) ⟨congrArg some (congrArg Value.int (by decide)), rfl, rfl⟩
    | 10, _ =>
      refine tt_op rfl rfl ?_
      refine tt_if rfl (fun c => ?_) (fun c => absurd (show (0 : Int32) < nI 1023 by decide) c)
      refine tt_op rfl rfl ?_
      refine tt_op rfl rfl ?_
      refine tt_op rfl rfl ?_
      refine tt_op rfl rfl ?_
      refine tt_icmp rfl (fun c => ?_) (fun c => absurd (show nI 1023 ≤ Int32.ofInt 65536 by decide) c)
      refine tt_op rfl rfl ?_
      refine tt_op rfl rfl ?_
      refine tt_icmp rfl (fun c => absurd (show nI 1023 ≤ Int32.ofInt 256 from c) (by decide)) (fun c => ?_)
      refine tt_op rfl rfl ?_
      refine tt_op rfl rfl ?_
      refine tt_op rfl rfl ?_
      refine tt_op rfl rfl ?_
      refine tt_op rfl rfl ?_
      refine tt_op rfl rfl ?_
      refine tt_op rfl rfl ?_
      refine tt_icmp rfl (fun c => ?_) (fun c => absurd (show ((nI 1023).toUInt32 >>> ((Int32.ofInt 8).toUInt32 &&& Int32.toUInt32 31)).toInt32 ≤ Int32.ofInt 16 by decide) c)
      refine tt_op rfl rfl ?_
      refine tt_op rfl rfl ?_
      refine tt_icmp rfl (fun c => ?_) (fun c => absurd (show ((nI 1023).toUInt32 >>> ((Int32.ofInt 8).toUInt32 &&& Int32.toUInt32 31)).toInt32 ≤ Int32.ofInt 4 by decide) c)
      refine tt_op rfl rfl ?_
      refine tt_op rfl rfl ?_
      refine tt_op rfl rfl ?_
      refine tt_op rfl rfl ?_
      refine tt_op rfl rfl ?_
      refine tt_ireturn rfl rfl (by rfl) (Nat.le_of_ble_eq_true rfl) (Nat.le_of_ble_eq_true rfl) ⟨congrArg some (congrArg Value.int (by decide)), rfl, rfl⟩
    | 11, _ =>
      refine tt_op rfl rfl ?_
      refine tt_if rfl (fun c => ?_) (fun c => absurd (show (0 : Int32) < nI 2047 by decide) c)
      refine tt_op rfl rfl ?_
      refine tt_op rfl rfl ?_
      refine tt_op rfl rfl ?_
      refine tt_op rfl rfl ?_
      refine tt_icmp rfl (fun c => ?_) (fun c => absurd (show nI 2047 ≤ Int32.ofInt 65536 by decide) c)
      refine tt_op rfl rfl ?_
      refine tt_op rfl rfl ?_
      refine tt_icmp rfl (fun c => absurd (show nI 2047 ≤ Int32.ofInt 256 from c) (by decide)) (fun c => ?_)
      refine tt_op rfl rfl ?_
      refine tt_op rfl rfl ?_
      refine tt_op rfl rfl ?_
      refine tt_op rfl rfl ?_
      refine tt_op rfl rfl ?_
      refine tt_op rfl rfl ?_
      refine tt_op rfl rfl ?_
      refine tt_icmp rfl (fun c => ?_) (fun c => absurd (show ((nI 2047).toUInt32 >>> ((Int32.ofInt 8).toUInt32 &&& Int32.toUInt32 31)).toInt32 ≤ Int32.ofInt 16 by decide) c)
      refine tt_op rfl rfl ?_
      refine tt_op rfl rfl ?_
      refine tt_icmp rfl (fun c => absurd (show ((nI 2047).toUInt32 >>> ((Int32.ofInt 8).toUInt32 &&& Int32.toUInt32 31)).toInt32 ≤ Int32.ofInt 4 from c) (by decide)) (fun c => ?_)
      refine tt_op rfl rfl ?_
      refine tt_op rfl rfl ?_
      refine tt_op rfl rfl ?_
      refine tt_op rfl rfl ?_
      refine tt_op rfl rfl ?_
      refine tt_op rfl rfl ?_
      refine tt_op rfl rfl ?_
      refine tt_op rfl rfl ?_
      refine tt_op rfl rfl ?_
      refine tt_op rfl rfl ?_
      refine tt_ireturn rfl rfl (by rfl) (Nat.le_of_ble_eq_true rfl) (Nat.le_of_ble_eq_true rfl) ⟨congrArg some (congrArg Value.int (by decide)), rfl, rfl⟩
    | 12, _ =>
      refine tt_op rfl rfl ?_
      refine tt_if rfl (fun c => ?_) (fun c => absurd (show (0 : Int32) < nI 4095 by decide) c)
      refine tt_op rfl rfl ?_
      refine tt_op rfl rfl ?_
      refine tt_op rfl rfl ?_
      refine tt_op rfl rfl ?_
      refine tt_icmp rfl (fun c => ?_) (fun c => absurd (show nI 4095 ≤ Int32.ofInt 65536 by decide) c)
      refine tt_op rfl rfl ?_
      refine tt_op rfl rfl ?_
      refine tt_icmp rfl (fun c => absurd (show nI 4095 ≤ Int32.ofInt 256 from c) (by decide)) (fun c => ?_)
      refine tt_op rfl rfl ?_
      refine tt_op rfl rfl ?_
      refine tt_op rfl rfl ?_
      refine tt_op rfl rfl ?_
      refine tt_op rfl rfl ?_
      refine tt_op rfl rfl ?_
      refine tt_op rfl rfl ?_
      refine tt_icmp rfl (fun c => ?_) (fun c => absurd (show ((nI 4095).toUInt32 >>> ((Int32.ofInt 8).toUInt32 &&& Int32.toUInt32 31)).toInt32 ≤ Int32.ofInt 16 by decide) c)
      refine tt_op rfl rfl ?_
      refine tt_op rfl rfl ?_
      refine tt_icmp rfl (fun c => absurd (show ((nI 4095).toUInt32 >>> ((Int32.ofInt 8).toUInt32 &&& Int32.toUInt32 31)).toInt32 ≤ Int32.ofInt 4 from c) (by decide)) (fun c => ?_)
      refine tt_op rfl rfl ?_
      refine tt_op rfl rfl ?_
      refine tt_op rfl rfl ?_
      refine tt_op rfl rfl ?_
      refine tt_op rfl rfl ?_
      refine tt_op rfl rfl ?_
      refine tt_op rfl rfl ?_
      refine tt_op rfl rfl ?_
      refine tt_op rfl rfl ?_
      refine tt_op rfl rfl ?_
      refine tt_ireturn rfl rfl (by rfl) (Nat.le_of_ble_eq_true rfl) (Nat.le_of_ble_eq_true rfl) ⟨congrArg some (congrArg Value.int (by decide)), rfl, rfl⟩
    | 13, _ =>
      refine tt_op rfl rfl ?_
      refine tt_if rfl (fun c => ?_) (fun c => absurd (show (0 : Int32) < nI 8191 by decide) c)
      refine tt_op rfl rfl ?_
      refine tt_op rfl rfl ?_
      refine tt_op rfl rfl ?_
      refine tt_op rfl rfl ?_
      refine tt_icmp rfl (fun c => ?_) (fun c => absurd (show nI 8191 ≤ Int32.ofInt 65536 by decide) c)
      refine tt_op rfl rfl ?_
      refine tt_op rfl rfl ?_
      refine tt_icmp rfl (fun c => absurd (show nI 8191 ≤ Int32.ofInt 256 from c) (by decide)) (fun c => ?_)
      refine tt_op rfl rfl ?_
      refine tt_op rfl rfl ?_
      refine tt_op rfl rfl ?_
      refine tt_op rfl rfl ?_
      refine tt_op rfl rfl ?_
      refine tt_op rfl rfl ?_
      refine tt_op rfl rfl ?_
      refine tt_icmp rfl (fun c => absurd (show ((nI 8191).toUInt32 >>> ((Int32.ofInt 8).toUInt32 &&& Int32.toUInt32 31)).toInt32 ≤ Int32.ofInt 16 from c) (by decide)) (fun c => ?_)
      refine tt_op rfl rfl ?_
      refine tt_op rfl rfl ?_
      refine tt_op rfl rfl ?_
      refine tt_op rfl rfl ?_
      refine tt_op rfl rfl ?_
      refine tt_op rfl rfl ?_
      refine tt_op rfl rfl ?_
      refine tt_icmp rfl (fun c => ?_) (fun c => absurd (show ((((nI 8191).toUInt32 >>> ((Int32.ofInt 8).toUInt32 &&& Int32.toUInt32 31)).toInt32).toUInt32 >>> ((Int32.ofInt 4).toUInt32 &&& Int32.toUInt32 31)).toInt32 ≤ Int32.ofInt 4 by decide) c)
      refine tt_op rfl rfl ?_
      refine tt_op rfl rfl ?_
      refine tt_op rfl rfl ?_
      refine tt_op rfl rfl ?_
      refine tt_op rfl rfl ?_
      refine tt_ireturn rfl rfl (by rfl) (Nat.le_of_ble_eq_true rfl) (Nat.le_of_ble_eq_true rfl) ⟨congrArg some (congrArg Value.int (by decide)), rfl, rfl⟩
    | k + 14, hk => exact absurd hk (by omega)
  refine xCall.of xgJ6_numberOfTrailingZeros_0f7a4 rfl ?_
  refine tt_op rfl rfl ?_
  refine tt_op rfl rfl ?_
  refine tt_op rfl rfl ?_
  refine tt_op rfl rfl ?_
  refine tt_op rfl rfl ?_
  refine tt_op rfl rfl ?_
  refine tt_op rfl rfl ?_
  refine tt_op rfl rfl ?_
  have := go (tz w) e2
  rw [← e1, z3_nI] at this
  exact this
end
section
/-! Outlines -/
theorem mul_bd {a b A B : Int} (ha : -A ≤ a ∧ a ≤ A) (hb : -B ≤ b ∧ b ≤ B) : -(A * B) ≤ a * b ∧ a * b ≤ A * B := by
  have hA : 0 ≤ A := by omega
  have hB : 0 ≤ B := by omega
  have h1 : 0 ≤ (A - a) * (B + b) := Int.mul_nonneg (by omega) (by omega)
  have h2 : 0 ≤ (A + a) * (B - b) := Int.mul_nonneg (by omega) (by omega)
  have h3 : 0 ≤ (A - a) * (B - b) := Int.mul_nonneg (by omega) (by omega)
  have h4 : 0 ≤ (A + a) * (B + b) := Int.mul_nonneg (by omega) (by omega)
  simp only [Int.sub_mul, Int.add_mul, Int.mul_sub, Int.mul_add] at h1 h2 h3 h4
  omega
theorem vbd_sub {u v : V3} (hu : vbd 20 u) (hv : vbd 20 v) : vbd 40 (vsub u v) := by
  unfold vbd vsub at *
  dsimp only
  omega
theorem vbd_cr {u v : V3} {A B : Int} (hu : vbd A u) (hv : vbd B v) : vbd (2 * (A * B)) (vcr u v) := by
  obtain ⟨u1, u2, u3⟩ := hu
  obtain ⟨v1, v2, v3⟩ := hv
  have a1 := mul_bd u2 v3
  have a2 := mul_bd u3 v2
  have a3 := mul_bd u3 v1
  have a4 := mul_bd u1 v3
  have a5 := mul_bd u1 v2
  have a6 := mul_bd u2 v1
  unfold vbd vcr
  dsimp only
  omega
theorem dot_bd {u v : V3} {A B : Int} (hu : vbd A u) (hv : vbd B v) : -(3 * (A * B)) ≤ dot u v ∧ dot u v ≤ 3 * (A * B) := by
  obtain ⟨u1, u2, u3⟩ := hu
  obtain ⟨v1, v2, v3⟩ := hv
  have a1 := mul_bd u1 v1
  have a2 := mul_bd u2 v2
  have a3 := mul_bd u3 v3
  unfold dot
  omega
theorem vbd_le {u : V3} {A B : Int} (h : vbd A u) (hAB : A ≤ B) : vbd B u := by
  unfold vbd at *
  omega
/-- all points within the bounds -/
def pbd (P : Nat → V3) : Prop := ∀ j, j < 14 → vbd 20 (P j)
theorem swg_bd {P : Nat → V3} {p q r : Nat} {d : V3} (hb : pbd P) (hp : p < 14) (hq : q < 14) (hr : r < 14) (hd : vbd 3200 d) : R6 (swg P p q r d) := by
  have h := dot_bd hd (vbd_cr (vbd_sub (hb q hq) (hb p hp)) (vbd_sub (hb r hr) (hb p hp)))
  unfold R6 swg
  omega
theorem spr_bd {P : Nat → V3} {p q : Nat} {d : V3} (hb : pbd P) (hp : p < 14) (hq : q < 14) (hd : vbd 3200 d) : R6 (spr P p q d) := by
  have h1 := vbd_cr (vbd_sub (hb q hq) (hb p hp)) hd
  have h := dot_bd h1 h1
  unfold R6 spr
  omega
/-- an outline's cell -/
abbrev oC (d : V3) (lv : Int) (se me le rw : Nat) : xE := .inr (3, [.ref 1, zJ d.1, zJ d.2.1, zJ d.2.2, zJ lv, zI se, zI me, zI le, .ref rw])
theorem xup_xup {h : xHp} {q : Nat} {e e' : xE} : xup (xup h q e) q e' = xup h q e' := by
  funext j
  by_cases hj : j = q
  · simp [xup, hj]
  · simp [xup, hj]
theorem xup_same {h : xHp} {q : Nat} {e : xE} (hq : h q = some e) : xup h q e = h := by
  funext j
  by_cases hj : j = q
  · subst hj; simp [xup, hq]
  · simp [xup, hj]
theorem xup_comm {h : xHp} {q q' : Nat} {e e' : xE} (hn : q ≠ q') : xup (xup h q e) q' e' = xup (xup h q' e') q e := by
  funext j
  by_cases hj : j = q
  · subst hj; simp [xup, hn]
  · simp [xup, hj]
theorem xCl_up {h : xHp} {m : Nat} {P : Nat → V3} {q : Nat} {e : xE} (hq : 5 ≤ q) (H : xCl h m P) : xCl (xup h q e) m P := by
  obtain ⟨h1, h2, h3, h4, hr⟩ := H
  refine ⟨?_, ?_, ?_, ?_, hr⟩
  all_goals (rw [xup_n (by omega)]; assumption)
section OL
variable {h : xHp} {m : Nat} {P : Nat → V3} {n : Nat}
set_option maxRecDepth 10000 in
theorem c_look (q : Nat) (d0 d : V3) (lv : Int) (se0 se me le rw : Nat) (hq : h q = some (oC d0 lv se0 me le rw)) : xCall xmX3_look 1 0 0 [.ref q, zJ d.1, zJ d.2.1, zJ d.2.2, zI se] n h (fun r n' h' => r = none ∧ n' = n ∧ h' = xup h q (oC d lv se me le rw)) := by
  refine xCall.of xgX3_look rfl ?_
  refine tt_op rfl rfl ?_
  refine tt_op rfl rfl ?_
  refine tt_put rfl (hq) rfl (by decide) (by rfl) (by rfl) rfl ?_
  refine tt_op rfl rfl ?_
  refine tt_op rfl rfl ?_
  refine tt_put rfl (xup_s) rfl (by decide) (by rfl) (by rfl) rfl ?_
  refine tt_op rfl rfl ?_
  refine tt_op rfl rfl ?_
  refine tt_put rfl (xup_s) rfl (by decide) (by rfl) (by rfl) rfl ?_
  refine tt_op rfl rfl ?_
  refine tt_op rfl rfl ?_
  refine tt_put rfl (xup_s) rfl (by decide) (by rfl) (by rfl) rfl ?_
  refine tt_return rfl rfl (Nat.le_of_ble_eq_true rfl) (Nat.le_of_ble_eq_true rfl) ?_
  refine ⟨rfl, rfl, ?_⟩
  rw [xup_xup, xup_xup, xup_xup]
  rfl
/-- which sides points lie on (bit 0 below, bit 1 above), and those in the plane -/
def sdR (P : Nat → V3) (d : V3) (lv : Int) : Nat → Nat → Nat → Nat → Nat × Nat
  | 0, _, s, w => (s, w)
  | k + 1, i, s, w => if s = 3 then (s, w) else if dot d (P i) - lv = 0 then sdR P d lv k (i + 1) s (w ||| 2 ^ i) else sdR P d lv k (i + 1) (s ||| (if dot d (P i) - lv < 0 then 1 else 2)) w
theorem or_lt4 : ∀ s, s < 4 → s ||| 1 < 4 ∧ s ||| 2 < 4 := by decide
set_option maxRecDepth 10000 in
set_option maxHeartbeats 1000000 in
theorem c_sides_loop (H : xCl h m P) (q : Nat) (hq5 : 5 ≤ q) (d : V3) (lv : Int) (me le rw : Nat) (hd : vbd 3200 d) (hlv : -1000000 ≤ lv ∧ lv ≤ 1000000) : ∀ (k i s w : Nat) (l3 : Option Value), i + k = m → s < 4 → xT xmX3_sidesTaken (3, 0, 0, 0, 0) 4 [some (.ref q), some (zI s), some (zI i), l3, none] [] n (xup h q (oC d lv w me le rw)) (fun r n' h' => r = some (zI (sdR P d lv k i s w).1) ∧ n' = n ∧ h' = xup h q (oC d lv (sdR P d lv k i s w).2 me le rw)) := by
  have hm := H.2.2.2.2.1
  have hb := H.2.2.2.2.2
  intro k
  induction k with
  | zero =>
    intro i s w l3 hi hs
    have hq := (xup_s : xup h q (oC d lv w me le rw) q = _)
    have h1 := (xCl_up (e := oC d lv w me le rw) hq5 H).1
    refine tt_op rfl rfl ?_
    refine tt_op rfl rfl ?_
    refine tt_get rfl (by assumption) (by rfl) ?_
    refine tt_get rfl (by assumption) (by rfl) ?_
    refine z_icmp rfl (by first | assumption | (unfold R3; omega)) (by first | assumption | (unfold R3; omega)) (fun c => ?_) (fun c => absurd (by simp only [zcd] <;> omega) c)
    refine tt_op rfl rfl ?_
    refine tt_ireturn rfl rfl (by rfl) (Nat.le_of_ble_eq_true rfl) (Nat.le_of_ble_eq_true rfl) ?_
    exact ⟨rfl, rfl, rfl⟩
  | succ k ih =>
    intro i s w l3 hi hs
    have hq := (xup_s : xup h q (oC d lv w me le rw) q = _)
    have H1 := xCl_up (e := oC d lv w me le rw) hq5 H
    have h1 := H1.1
    unfold sdR
    refine tt_op rfl rfl ?_
    refine tt_op rfl rfl ?_
    refine tt_get rfl (by assumption) (by rfl) ?_
    refine tt_get rfl (by assumption) (by rfl) ?_
    refine z_icmp rfl (by first | assumption | (unfold R3; omega)) (by first | assumption | (unfold R3; omega)) (fun c => absurd c (by simp only [zcd] <;> omega)) (fun c => ?_)
    refine tt_op rfl rfl ?_
    refine tt_op rfl rfl ?_
    refine z_icmp rfl (by first | assumption | (unfold R3; omega)) (by first | assumption | (unfold R3; omega)) (fun c1 => ?_) (fun c1 => ?_)
    · simp only [zcd] at c1
      rw [if_pos (by omega)]
      refine tt_op rfl rfl ?_
      refine tt_ireturn rfl rfl (by rfl) (Nat.le_of_ble_eq_true rfl) (Nat.le_of_ble_eq_true rfl) ?_
      exact ⟨rfl, rfl, rfl⟩
    simp only [zcd] at c1
    rw [if_neg (by omega)]
    refine tt_op rfl rfl ?_
    refine tt_get rfl (by assumption) (by rfl) ?_
    refine tt_op rfl rfl ?_
    refine tt_op rfl rfl ?_
    refine tt_get rfl (by assumption) (by rfl) ?_
    refine tt_op rfl rfl ?_
    refine tt_get rfl (by assumption) (by rfl) ?_
    refine tt_op rfl rfl ?_
    refine tt_get rfl (by assumption) (by rfl) ?_
    refine tt_pV rfl rfl rfl h1 rfl (c_sum H1 i (by omega) _ _ _) ?_
    refine tt_op rfl rfl ?_
    refine tt_get rfl (by assumption) (by rfl) ?_
    refine z_lsub rfl ?_
    refine tt_op rfl rfl ?_
    refine tt_op rfl rfl ?_
    refine tt_op rfl rfl ?_
    have hdt := dot_bd hd (hb i (by omega))
    have hR : R6 (dot d (P i) - lv) := by unfold R6; omega
    refine z_lif rfl rfl hR ⟨by decide, by decide⟩ (fun c2 => ?_) (fun c2 => ?_)
    · have c2 : ¬ dot d (P i) - lv = 0 := c2
      rw [if_neg c2]
      refine tt_op rfl rfl ?_
      refine tt_op rfl rfl ?_
      refine tt_op rfl rfl ?_
      refine z_lif rfl rfl hR ⟨by decide, by decide⟩ (fun c3 => ?_) (fun c3 => ?_)
      · have c3 : 0 ≤ dot d (P i) - lv := c3
        rw [if_neg (by omega)]
        refine tt_op rfl rfl ?_
        refine z_ior (w := 2) rfl ?_
        refine tt_op rfl rfl ?_
        refine z_iinc rfl rfl rfl ?_
        refine tt_goto rfl ?_
        exact ih (i + 1) (s ||| 2) w _ (by omega) (or_lt4 s hs).2
      · have c3 : ¬ 0 ≤ dot d (P i) - lv := c3
        rw [if_pos (by omega)]
        refine tt_op rfl rfl ?_
        refine tt_goto rfl ?_
        refine z_ior (w := 1) rfl ?_
        refine tt_op rfl rfl ?_
        refine z_iinc rfl rfl rfl ?_
        refine tt_goto rfl ?_
        exact ih (i + 1) (s ||| 1) w _ (by omega) (or_lt4 s hs).1
    · have c2 : ¬ dot d (P i) - lv ≠ 0 := c2
      rw [if_pos (by omega)]
      refine tt_op rfl rfl ?_
      refine tt_op rfl rfl ?_
      refine tt_get rfl (by assumption) (by rfl) ?_
      refine tt_op rfl rfl ?_
      refine tt_op rfl rfl ?_
      refine z_shl1 rfl (by omega) ?_
      refine z_ior rfl ?_
      refine tt_put rfl (hq) rfl (by decide) (by rfl) (by rfl) rfl ?_
      refine tt_goto rfl ?_
      rw [xup_xup]
      refine z_iinc rfl rfl rfl ?_
      refine tt_goto rfl ?_
      exact ih (i + 1) s (w ||| 2 ^ i) _ (by omega) hs
set_option maxRecDepth 10000 in
theorem c_sides (H : xCl h m P) (q : Nat) (hq5 : 5 ≤ q) (d : V3) (lv : Int) (se me le rw : Nat) (hd : vbd 3200 d) (hlv : -1000000 ≤ lv ∧ lv ≤ 1000000) (hq : h q = some (oC d lv se me le rw)) : xCall xmX3_sidesTaken 3 0 0 [.ref q] n h (fun r n' h' => r = some (zI (sdR P d lv m 0 0 se).1) ∧ n' = n ∧ h' = xup h q (oC d lv (sdR P d lv m 0 0 se).2 me le rw)) := by
  refine xCall.of xgX3_sidesTaken rfl ?_
  refine tt_op rfl rfl ?_
  refine tt_op rfl rfl ?_
  refine tt_op rfl rfl ?_
  refine tt_op rfl rfl ?_
  have := c_sides_loop (n := n) H q hq5 d lv me le rw hd hlv m 0 0 se none (by omega) (by decide)
  rw [xup_same hq] at this
  exact this
def vneg (d : V3) : V3 := (-d.1, -d.2.1, -d.2.2)
set_option maxRecDepth 10000 in
theorem c_outw (q s : Nat) (hs : s < 4) (d : V3) (lv : Int) (se me le rw : Nat) (hq : h q = some (oC d lv se me le rw)) : xCall xmX3_turnOutward 3 0 0 [.ref q, zI s] n h (fun r n' h' => r = some (zI (if s = 1 ∨ s = 2 then 1 else 0)) ∧ n' = n ∧ h' = xup h q (if s = 2 then oC (vneg d) (-lv) se me le rw else oC d lv se me le rw)) := by
  refine xCall.of xgX3_turnOutward rfl ?_
  refine tt_op rfl rfl ?_
  refine tt_op rfl rfl ?_
  refine z_icmp rfl (by first | assumption | (unfold R3; omega)) (by first | assumption | (unfold R3; omega)) (fun c1 => ?_) (fun c1 => ?_)
  · simp only [zcd] at c1
    rw [if_neg (show ¬ s = 2 by omega), xup_same hq]
    refine tt_op rfl rfl ?_
    refine tt_op rfl rfl ?_
    refine z_icmp rfl (by first | assumption | (unfold R3; omega)) (by first | assumption | (unfold R3; omega)) (fun c2 => ?_) (fun c2 => ?_)
    · simp only [zcd] at c2
      rw [if_pos (Or.inl (show s = 1 by omega))]
      refine tt_op rfl rfl ?_
      refine tt_goto rfl ?_
      refine tt_ireturn rfl rfl (by rfl) (Nat.le_of_ble_eq_true rfl) (Nat.le_of_ble_eq_true rfl) ?_
      exact ⟨rfl, rfl, rfl⟩
    · simp only [zcd] at c2
      rw [if_neg (show ¬ (s = 1 ∨ s = 2) by omega)]
      refine tt_op rfl rfl ?_
      refine tt_op rfl rfl ?_
      refine z_icmp rfl (by first | assumption | (unfold R3; omega)) (by first | assumption | (unfold R3; omega)) (fun c => ?_) (fun c => absurd (by simp only [zcd] <;> omega) c)
      refine tt_op rfl rfl ?_
      refine tt_ireturn rfl rfl (by rfl) (Nat.le_of_ble_eq_true rfl) (Nat.le_of_ble_eq_true rfl) ?_
      exact ⟨rfl, rfl, rfl⟩
  · simp only [zcd, ne_eq, Decidable.not_not] at c1
    have hs2 : s = 2 := by omega
    subst hs2
    rw [if_pos rfl, if_pos (Or.inr rfl)]
    refine tt_op rfl rfl ?_
    refine tt_op rfl rfl ?_
    refine tt_get rfl (by assumption) (by rfl) ?_
    refine z_lneg rfl ?_
    refine tt_op rfl rfl ?_
    refine tt_get rfl (by assumption) (by rfl) ?_
    refine z_lneg rfl ?_
    refine tt_op rfl rfl ?_
    refine tt_get rfl (by assumption) (by rfl) ?_
    refine z_lneg rfl ?_
    refine tt_op rfl rfl ?_
    refine tt_get rfl (by assumption) (by rfl) ?_
    refine tt_callV (M' := xmX3_look) rfl rfl rfl hq rfl (c_look q d (vneg d) lv se se me le rw hq) ?_
    rintro r n' h' ⟨rfl, rfl, rfl⟩
    have hq1 := (xup_s : xup h q (oC (vneg d) lv se me le rw) q = _)
    refine tt_op rfl rfl ?_
    refine tt_op rfl rfl ?_
    refine tt_get rfl (by assumption) (by rfl) ?_
    refine z_lneg rfl ?_
    refine tt_put rfl (xup_s) rfl (by decide) (by rfl) (by rfl) rfl ?_
    rw [xup_xup]
    refine tt_op rfl rfl ?_
    refine tt_op rfl rfl ?_
    refine z_icmp rfl (by first | assumption | (unfold R3; omega)) (by first | assumption | (unfold R3; omega)) (fun c => absurd c (by simp only [zcd] <;> omega)) (fun c => ?_)
    refine tt_op rfl rfl ?_
    refine tt_op rfl rfl ?_
    refine z_icmp rfl (by first | assumption | (unfold R3; omega)) (by first | assumption | (unfold R3; omega)) (fun c => absurd c (by simp only [zcd] <;> omega)) (fun c => ?_)
    refine tt_op rfl rfl ?_
    refine tt_goto rfl ?_
    refine tt_ireturn rfl rfl (by rfl) (Nat.le_of_ble_eq_true rfl) (Nat.le_of_ble_eq_true rfl) ?_
    exact ⟨rfl, rfl, rfl⟩
/-- the least seen point, then that which is farthest from it -/
def rmR (P : Nat → V3) (d : V3) (S fr : Nat) : Nat → Nat → Nat → Int → Nat
  | 0, _, b, _ => b
  | k + 1, i, b, w => if S.testBit i = true ∧ w < spr P fr i d then rmR P d S fr k (i + 1) i (spr P fr i d) else rmR P d S fr k (i + 1) b w
def rmF (P : Nat → V3) (d : V3) (S : Nat) : Nat := rmR P d S (tz S) 14 0 (tz S) 0
set_option maxRecDepth 10000 in
set_option maxHeartbeats 1000000 in
theorem c_rim_loop (H : xCl h m P) (q : Nat) (d : V3) (lv : Int) (S me le rw fr : Nat) (hS : S < 16384) (hfr : fr < 14) (hd : vbd 3200 d) (hq : h q = some (oC d lv S me le rw)) : ∀ (k i b : Nat) (w : Int) (l6 : Option Value), i + k = 14 → R6 w → xT xmX3_rim (3, 0, 0, 0, 0) 15 [some (.ref q), some (zI fr), some (zI b), some (zJ w), none, some (zI i), l6, none] [] n h (fun r n' h' => r = some (zI (rmR P d S fr k i b w)) ∧ n' = n ∧ h' = h) := by
  have hb := H.2.2.2.2.2
  have h1 := H.1
  intro k
  induction k with
  | zero =>
    intro i b w l6 hi hw
    refine tt_op rfl rfl ?_
    refine tt_op rfl rfl ?_
    refine z_icmp rfl (by first | assumption | (unfold R3; omega)) (by first | assumption | (unfold R3; omega)) (fun c => ?_) (fun c => absurd (by simp only [zcd] <;> omega) c)
    refine tt_op rfl rfl ?_
    refine tt_ireturn rfl rfl (by rfl) (Nat.le_of_ble_eq_true rfl) (Nat.le_of_ble_eq_true rfl) ?_
    exact ⟨rfl, rfl, rfl⟩
  | succ k ih =>
    intro i b w l6 hi hw
    have hR := spr_bd hb hfr (show i < 14 by omega) hd
    unfold rmR
    generalize hE : (if S.testBit i = true ∧ w < spr P fr i d then rmR P d S fr k (i + 1) i (spr P fr i d) else rmR P d S fr k (i + 1) b w) = E
    refine tt_op rfl rfl ?_
    refine tt_op rfl rfl ?_
    refine z_icmp rfl (by first | assumption | (unfold R3; omega)) (by first | assumption | (unfold R3; omega)) (fun c => absurd c (by simp only [zcd] <;> omega)) (fun c => ?_)
    refine tt_op rfl rfl ?_
    refine tt_get rfl (by assumption) (by rfl) ?_
    refine tt_op rfl rfl ?_
    refine tt_op rfl rfl ?_
    refine tt_op rfl rfl ?_
    refine tt_get rfl (by assumption) (by rfl) ?_
    refine tt_op rfl rfl ?_
    refine tt_get rfl (by assumption) (by rfl) ?_
    refine tt_op rfl rfl ?_
    refine tt_get rfl (by assumption) (by rfl) ?_
    refine tt_pV rfl rfl rfl h1 rfl (c_spread H fr i hfr (by omega) _ _ _) ?_
    refine tt_op rfl rfl ?_
    refine tt_op rfl rfl ?_
    refine tt_get rfl (by assumption) (by rfl) ?_
    refine tt_op rfl rfl ?_
    refine z_tb rfl rfl rfl (by omega) (by omega) ?_
    have nx : ¬ (S.testBit i = true ∧ w < spr P fr i d) → xT xmX3_rim (3, 0, 0, 0, 0) 71 [some (.ref q), some (zI fr), some (zI b), some (zJ w), none, some (zI i), some (zJ (spr P fr i d)), none] [] n h (fun r n' h' => r = some (zI E) ∧ n' = n ∧ h' = h) := by
      intro hne
      rw [← hE, if_neg hne]
      refine z_iinc rfl rfl rfl ?_
      refine tt_goto rfl ?_
      exact ih (i + 1) b w _ (by omega) hw
    refine z_if rfl (by split <;> exact ⟨by decide, by decide⟩) (fun c1 => ?_) (fun c1 => ?_)
    · refine nx (fun z => ?_)
      simp only [zcd, z.1, if_true] at c1
      omega
    · have hbit : S.testBit i = true := by
        cases hx : S.testBit i with
        | true => rfl
        | false => simp [zcd, hx] at c1
      refine tt_op rfl rfl ?_
      refine tt_op rfl rfl ?_
      refine z_lif rfl rfl hR hw (fun c2 => ?_) (fun c2 => ?_)
      · have c2 : spr P fr i d ≤ w := c2
        exact nx (fun z => by omega)
      · have c2 : ¬ spr P fr i d ≤ w := c2
        rw [← hE, if_pos ⟨hbit, by omega⟩]
        refine tt_op rfl rfl ?_
        refine tt_op rfl rfl ?_
        refine tt_op rfl rfl ?_
        refine tt_op rfl rfl ?_
        refine z_iinc rfl rfl rfl ?_
        refine tt_goto rfl ?_
        exact ih (i + 1) i (spr P fr i d) _ (by omega) hR
theorem tz_lt {S : Nat} (hS : S < 16384) (h0 : 0 < S) : tz S < 14 := (tz_low S hS h0).2
set_option maxRecDepth 10000 in
theorem c_rim (H : xCl h m P) (q : Nat) (d : V3) (lv : Int) (S me le rw : Nat) (hS : S < 16384) (h0 : 0 < S) (hd : vbd 3200 d) (hq : h q = some (oC d lv S me le rw)) : xPure xmX3_rim 3 [.ref q] n h (zI (rmF P d S)) := by
  refine xCall.of xgX3_rim rfl ?_
  refine tt_op rfl rfl ?_
  refine tt_get rfl (by assumption) (by rfl) ?_
  refine tt_pS rfl rfl rfl rfl (c_ntz S hS h0 n h) ?_
  refine tt_op rfl rfl ?_
  refine tt_op rfl rfl ?_
  refine tt_op rfl rfl ?_
  refine tt_op rfl rfl ?_
  refine tt_op rfl rfl ?_
  refine tt_op rfl rfl ?_
  refine tt_op rfl rfl ?_
  exact c_rim_loop H q d lv S me le rw (tz S) hS (tz_lt hS h0) hd hq 14 0 (tz S) 0 none rfl ⟨by decide, by decide⟩
/-- the corner behind p -/
def flR (P : Nat → V3) (d : V3) (S p : Nat) : Nat → Nat → Nat → Int → Nat
  | 0, _, q, _ => q
  | k + 1, r, q, w => if S.testBit r = true ∧ spr P p r d ≠ 0 ∧ (w = 0 ∨ swg P p q r d < 0 ∨ (swg P p q r d = 0 ∧ w < spr P p r d)) then flR P d S p k (r + 1) r (spr P p r d) else flR P d S p k (r + 1) q w
def flF (P : Nat → V3) (d : V3) (S p : Nat) : Nat := flR P d S p 14 0 p 0
theorem flR_lt {P : Nat → V3} {d : V3} {S p : Nat} : ∀ (k r q : Nat) (w : Int), r + k = 14 → q < 14 → flR P d S p k r q w < 14
  | 0, r, q, w, hr, hq => hq
  | k + 1, r, q, w, hr, hq => by
    unfold flR
    split
    · exact flR_lt k (r + 1) r _ (by omega) (by omega)
    · exact flR_lt k (r + 1) q w (by omega) hq
set_option maxRecDepth 10000 in
set_option maxHeartbeats 1000000 in
theorem c_fol_loop (H : xCl h m P) (o : Nat) (d : V3) (lv : Int) (S me le rw p : Nat) (hS : S < 16384) (hp : p < 14) (hd : vbd 3200 d) (ho : h o = some (oC d lv S me le rw)) : ∀ (k r q : Nat) (w : Int) (l6 l8 : Option Value), r + k = 14 → q < 14 → R6 w → xT xmX3_following (3, 0, 0, 0, 0) 7 [some (.ref o), some (zI p), some (zI q), some (zJ w), none, some (zI r), l6, none, l8, none] [] n h (fun r' n' h' => r' = some (zI (flR P d S p k r q w)) ∧ n' = n ∧ h' = h) := by
  have hb := H.2.2.2.2.2
  have h1 := H.1
  intro k
  induction k with
  | zero =>
    intro r q w l6 l8 hr hq hw
    refine tt_op rfl rfl ?_
    refine tt_op rfl rfl ?_
    refine z_icmp rfl (by first | assumption | (unfold R3; omega)) (by first | assumption | (unfold R3; omega)) (fun c => ?_) (fun c => absurd (by simp only [zcd] <;> omega) c)
    refine tt_op rfl rfl ?_
    refine tt_ireturn rfl rfl (by rfl) (Nat.le_of_ble_eq_true rfl) (Nat.le_of_ble_eq_true rfl) ?_
    exact ⟨rfl, rfl, rfl⟩
  | succ k ih =>
    intro r q w l6 l8 hr hq hw
    have hR := spr_bd hb hp (show r < 14 by omega) hd
    have hW := swg_bd hb hp hq (show r < 14 by omega) hd
    have R0 : R6 0 := ⟨by decide, by decide⟩
    unfold flR
    generalize hE : (if S.testBit r = true ∧ spr P p r d ≠ 0 ∧ (w = 0 ∨ swg P p q r d < 0 ∨ (swg P p q r d = 0 ∧ w < spr P p r d)) then flR P d S p k (r + 1) r (spr P p r d) else flR P d S p k (r + 1) q w) = E
    refine tt_op rfl rfl ?_
    refine tt_op rfl rfl ?_
    refine z_icmp rfl (by first | assumption | (unfold R3; omega)) (by first | assumption | (unfold R3; omega)) (fun c => absurd c (by simp only [zcd] <;> omega)) (fun c => ?_)
    refine tt_op rfl rfl ?_
    refine tt_get rfl (by assumption) (by rfl) ?_
    refine tt_op rfl rfl ?_
    refine tt_op rfl rfl ?_
    refine tt_op rfl rfl ?_
    refine tt_get rfl (by assumption) (by rfl) ?_
    refine tt_op rfl rfl ?_
    refine tt_get rfl (by assumption) (by rfl) ?_
    refine tt_op rfl rfl ?_
    refine tt_get rfl (by assumption) (by rfl) ?_
    refine tt_pV rfl rfl rfl h1 rfl (c_spread H p r hp (by omega) _ _ _) ?_
    refine tt_op rfl rfl ?_
    refine tt_op rfl rfl ?_
    refine tt_get rfl (by assumption) (by rfl) ?_
    refine tt_op rfl rfl ?_
    refine z_tb rfl rfl rfl (by omega) (by omega) ?_
    have nx : ∀ l8', E = flR P d S p k (r + 1) q w → xT xmX3_following (3, 0, 0, 0, 0) 118 [some (.ref o), some (zI p), some (zI q), some (zJ w), none, some (zI r), some (zJ (spr P p r d)), none, l8', none] [] n h (fun r' n' h' => r' = some (zI E) ∧ n' = n ∧ h' = h) := by
      intro l8' hne
      rw [hne]
      refine z_iinc rfl rfl rfl ?_
      refine tt_goto rfl ?_
      exact ih (r + 1) q w _ _ (by omega) hq hw
    refine z_if rfl (by split <;> exact ⟨by decide, by decide⟩) (fun c1 => ?_) (fun c1 => ?_)
    · refine nx _ ?_
      rw [← hE, if_neg (fun z => ?_)]
      simp only [zcd, z.1, if_true] at c1
      omega
    have hbit : S.testBit r = true := by
      cases hx : S.testBit r with
      | true => rfl
      | false => simp [zcd, hx] at c1
    refine tt_op rfl rfl ?_
    refine tt_op rfl rfl ?_
    refine z_lif rfl rfl hR R0 (fun c2 => ?_) (fun c2 => ?_)
    rotate_left
    · have c2 : ¬ spr P p r d ≠ 0 := c2
      refine tt_goto rfl ?_
      exact nx _ (by rw [← hE, if_neg (fun z => c2 z.2.1)])
    have c2 : spr P p r d ≠ 0 := c2
    refine tt_op rfl rfl ?_
    refine tt_get rfl (by assumption) (by rfl) ?_
    refine tt_op rfl rfl ?_
    refine tt_op rfl rfl ?_
    refine tt_op rfl rfl ?_
    refine tt_op rfl rfl ?_
    refine tt_get rfl (by assumption) (by rfl) ?_
    refine tt_op rfl rfl ?_
    refine tt_get rfl (by assumption) (by rfl) ?_
    refine tt_op rfl rfl ?_
    refine tt_get rfl (by assumption) (by rfl) ?_
    refine tt_pV rfl rfl rfl h1 rfl (c_swing H p q r hp hq (by omega) _ _ _) ?_
    refine tt_op rfl rfl ?_
    refine tt_op rfl rfl ?_
    refine tt_op rfl rfl ?_
    have tk : (w = 0 ∨ swg P p q r d < 0 ∨ (swg P p q r d = 0 ∧ w < spr P p r d)) → xT xmX3_following (3, 0, 0, 0, 0) 112 [some (.ref o), some (zI p), some (zI q), some (zJ w), none, some (zI r), some (zJ (spr P p r d)), none, some (zJ (swg P p q r d)), none] [] n h (fun r' n' h' => r' = some (zI E) ∧ n' = n ∧ h' = h) := by
      intro hyes
      rw [← hE, if_pos ⟨hbit, c2, hyes⟩]
      refine tt_op rfl rfl ?_
      refine tt_op rfl rfl ?_
      refine tt_op rfl rfl ?_
      refine tt_op rfl rfl ?_
      refine z_iinc rfl rfl rfl ?_
      refine tt_goto rfl ?_
      exact ih (r + 1) r (spr P p r d) _ _ (by omega) (by omega) hR
    refine z_lif rfl rfl hw R0 (fun c3 => tk (Or.inl c3)) (fun c3 => ?_)
    have c3 : ¬ w = 0 := c3
    refine tt_op rfl rfl ?_
    refine tt_op rfl rfl ?_
    refine z_lif rfl rfl hW R0 (fun c4 => tk (Or.inr (Or.inl c4))) (fun c4 => ?_)
    have c4 : ¬ swg P p q r d < 0 := c4
    refine tt_op rfl rfl ?_
    refine tt_op rfl rfl ?_
    refine z_lif rfl rfl hW R0 (fun c5 => ?_) (fun c5 => ?_)
    · have c5 : swg P p q r d ≠ 0 := c5
      exact nx _ (by rw [← hE, if_neg (fun z => by omega)])
    have c5 : ¬ swg P p q r d ≠ 0 := c5
    refine tt_op rfl rfl ?_
    refine tt_op rfl rfl ?_
    refine z_lif rfl rfl hR hw (fun c6 => ?_) (fun c6 => ?_)
    · have c6 : spr P p r d ≤ w := c6
      exact nx _ (by rw [← hE, if_neg (fun z => by omega)])
    · have c6 : ¬ spr P p r d ≤ w := c6
      exact tk (Or.inr (Or.inr ⟨by omega, by omega⟩))
set_option maxRecDepth 10000 in
theorem c_following (H : xCl h m P) (o : Nat) (d : V3) (lv : Int) (S me le rw p : Nat) (hS : S < 16384) (hp : p < 14) (hd : vbd 3200 d) (ho : h o = some (oC d lv S me le rw)) : xPure xmX3_following 3 [.ref o, zI p] n h (zI (flF P d S p)) := by
  refine xCall.of xgX3_following rfl ?_
  refine tt_op rfl rfl ?_
  refine tt_op rfl rfl ?_
  refine tt_op rfl rfl ?_
  refine tt_op rfl rfl ?_
  refine tt_op rfl rfl ?_
  refine tt_op rfl rfl ?_
  exact c_fol_loop H o d lv S me le rw p hS hp hd ho 14 0 p 0 none none rfl hp ⟨by decide, by decide⟩
theorem flF_lt {P : Nat → V3} {d : V3} {S p : Nat} (hp : p < 14) : flF P d S p < 14 := flR_lt 14 0 p 0 rfl hp
/-- the row round by the left: row, those met, how many -/
def trR (P : Nat → V3) (d : V3) (S st : Nat) : Nat → Nat → Nat → (Nat → Int) → Nat → (Nat → Int) × Nat × Nat
  | 0, s, _, row, me => (row, me, s)
  | k + 1, s, p, row, me => if spr P st (flF P d S p) d = 0 then (zup row s p, me ||| 2 ^ p, s + 1) else trR P d S st k (s + 1) (flF P d S p) (zup row s p) (me ||| 2 ^ p)
set_option maxRecDepth 10000 in
set_option maxHeartbeats 1000000 in
theorem c_trace_loop (H : xCl h m P) (o : Nat) (ho5 : 5 ≤ o) (d : V3) (lv : Int) (S rw st : Nat) (hrw : 5 ≤ rw) (hne : rw ≠ o) (hS : S < 16384) (hst : st < 14) (hd : vbd 3200 d) : ∀ (k s p le : Nat) (row : Nat → Int) (me : Nat), s + k = 14 → p < 14 → (k = 0 → le = s) → xT xmX3_trace (4, 0, 0, 0, 0) 14 [some (.ref o), some (zI st), some (zI p), some (zI s)] [] n (xup (xup h rw (zA 14 row)) o (oC d lv S me le rw)) (fun r n' h' => r = none ∧ n' = n ∧ h' = xup (xup h rw (zA 14 (trR P d S st k s p row me).1)) o (oC d lv S (trR P d S st k s p row me).2.1 (trR P d S st k s p row me).2.2 rw)) := by
  have hb := H.2.2.2.2.2
  intro k
  induction k with
  | zero =>
    intro s p le row me hs hp hle
    refine tt_op rfl rfl ?_
    refine tt_op rfl rfl ?_
    refine z_icmp rfl (by first | assumption | (unfold R3; omega)) (by first | assumption | (unfold R3; omega)) (fun c => ?_) (fun c => absurd (by simp only [zcd] <;> omega) c)
    refine tt_return rfl rfl (Nat.le_of_ble_eq_true rfl) (Nat.le_of_ble_eq_true rfl) ?_
    refine ⟨rfl, rfl, ?_⟩
    rw [hle rfl]
    rfl
  | succ k ih =>
    intro s p le row me hs hp hle
    have hO := (xup_s : xup (xup h rw (zA 14 row)) o (oC d lv S me le rw) o = _)
    have hRw : xup (xup h rw (zA 14 row)) o (oC d lv S me le rw) rw = some (zA 14 row) := by rw [xup_n hne]; exact xup_s
    unfold trR
    refine tt_op rfl rfl ?_
    refine tt_op rfl rfl ?_
    refine z_icmp rfl (by first | assumption | (unfold R3; omega)) (by first | assumption | (unfold R3; omega)) (fun c => absurd c (by simp only [zcd] <;> omega)) (fun c => ?_)
    refine tt_op rfl rfl ?_
    refine tt_get rfl (by assumption) (by rfl) ?_
    refine tt_op rfl rfl ?_
    refine tt_op rfl rfl ?_
    refine z_iast rfl hRw rfl (by omega) (by decide) ?_
    have hO := (show xup (xup (xup h rw (zA 14 row)) o (oC d lv S me le rw)) rw (zA 14 (zup row s p)) o = some (oC d lv S me le rw) by rw [xup_n (Ne.symm hne)]; exact xup_s)
    refine tt_op rfl rfl ?_
    refine tt_op rfl rfl ?_
    refine tt_get rfl (by assumption) (by rfl) ?_
    refine tt_op rfl rfl ?_
    refine tt_op rfl rfl ?_
    refine z_shl1 rfl (by omega) ?_
    refine z_ior rfl ?_
    refine tt_put rfl (hO) rfl (by decide) (by rfl) (by rfl) rfl ?_
    refine tt_op rfl rfl ?_
    refine tt_op rfl rfl ?_
    refine tt_op rfl rfl ?_
    refine z_iadd rfl ?_
    refine tt_put rfl (xup_s) rfl (by decide) (by rfl) (by rfl) rfl ?_
    rw [xup_xup, xup_comm (Ne.symm hne), xup_xup, xup_xup]
    have H1 : xCl (xup (xup h rw (zA 14 (zup row s p))) o (oC d lv S (me ||| 2 ^ p) (s + 1) rw)) m P := xCl_up ho5 (xCl_up hrw H)
    have h1 := H1.1
    have hO := (xup_s : xup (xup h rw (zA 14 (zup row s p))) o (oC d lv S (me ||| 2 ^ p) (s + 1) rw) o = _)
    refine tt_op rfl rfl ?_
    refine tt_op rfl rfl ?_
    refine tt_pV rfl rfl rfl hO rfl (c_following H1 o d lv S _ _ rw p hS hp hd hO) ?_
    refine tt_op rfl rfl ?_
    refine tt_op rfl rfl ?_
    refine tt_get rfl (by assumption) (by rfl) ?_
    refine tt_op rfl rfl ?_
    refine tt_op rfl rfl ?_
    refine tt_op rfl rfl ?_
    refine tt_get rfl (by assumption) (by rfl) ?_
    refine tt_op rfl rfl ?_
    refine tt_get rfl (by assumption) (by rfl) ?_
    refine tt_op rfl rfl ?_
    refine tt_get rfl (by assumption) (by rfl) ?_
    refine tt_pV rfl rfl rfl h1 rfl (c_spread H1 st (flF P d S p) hst (flF_lt hp) _ _ _) ?_
    refine tt_op rfl rfl ?_
    refine z_lif rfl rfl (spr_bd hb hst (flF_lt hp) hd) ⟨by decide, by decide⟩ (fun c => ?_) (fun c => ?_)
    · have c : spr P st (flF P d S p) d ≠ 0 := c
      rw [if_neg c]
      refine z_iinc rfl rfl rfl ?_
      refine tt_goto rfl ?_
      exact ih (s + 1) (flF P d S p) (s + 1) _ _ (by omega) (flF_lt hp) (fun _ => rfl)
    · have c : ¬ spr P st (flF P d S p) d ≠ 0 := c
      rw [if_pos (by omega)]
      refine tt_return rfl rfl (Nat.le_of_ble_eq_true rfl) (Nat.le_of_ble_eq_true rfl) ?_
      exact ⟨rfl, rfl, rfl⟩
set_option maxRecDepth 10000 in
theorem c_trace (H : xCl h m P) (o : Nat) (ho5 : 5 ≤ o) (d : V3) (lv : Int) (S me0 le0 rw st : Nat) (row : Nat → Int) (hrw : 5 ≤ rw) (hne : rw ≠ o) (hS : S < 16384) (hst : st < 14) (hd : vbd 3200 d) (ho : h o = some (oC d lv S me0 le0 rw)) (hrow : h rw = some (zA 14 row)) : xCall xmX3_trace 4 0 0 [.ref o, zI st] n h (fun r n' h' => r = none ∧ n' = n ∧ h' = xup (xup h rw (zA 14 (trR P d S st 14 0 st row 0).1)) o (oC d lv S (trR P d S st 14 0 st row 0).2.1 (trR P d S st 14 0 st row 0).2.2 rw)) := by
  refine xCall.of xgX3_trace rfl ?_
  refine tt_op rfl rfl ?_
  refine tt_op rfl rfl ?_
  refine tt_put rfl (ho) rfl (by decide) (by rfl) (by rfl) rfl ?_
  refine tt_op rfl rfl ?_
  refine tt_op rfl rfl ?_
  refine tt_put rfl (xup_s) rfl (by decide) (by rfl) (by rfl) rfl ?_
  rw [xup_xup]
  refine tt_op rfl rfl ?_
  refine tt_op rfl rfl ?_
  refine tt_op rfl rfl ?_
  refine tt_op rfl rfl ?_
  have := c_trace_loop (n := n) H o ho5 d lv S rw st hrw hne hS hst hd 14 0 st 0 row 0 rfl hst (fun q => absurd q (by decide))
  rw [xup_same hrow] at this
  exact this
/-- which row comes first -/
def ldR (ra rb : Nat → Int) (la lb : Nat) : Nat → Nat → Bool
  | 0, _ => decide (la < lb)
  | f + 1, k => if la ≤ k ∨ lb ≤ k then decide (la < lb) else if ra k = rb k then ldR ra rb la lb f (k + 1) else decide (ra k < rb k)
set_option maxRecDepth 10000 in
set_option maxHeartbeats 1000000 in
theorem c_leads_loop (o o2 : Nat) (d d2 : V3) (lv lv2 : Int) (S S2 me me2 la lb rw rw2 : Nat) (ra rb : Nat → Int) (hla : la ≤ 14) (hlb : lb ≤ 14) (hRa : ∀ k, k < 14 → R3 (ra k)) (hRb : ∀ k, k < 14 → R3 (rb k)) (ho : h o = some (oC d lv S me la rw)) (ho2 : h o2 = some (oC d2 lv2 S2 me2 lb rw2)) (hr : h rw = some (zA 14 ra)) (hr2 : h rw2 = some (zA 14 rb)) : ∀ (f k : Nat), k + f = 14 → xT xmX3_leads (1, 0, 0, 0, 0) 2 [some (.ref o), some (.ref o2), some (zI k)] [] n h (fun r n' h' => r = some (zI (if ldR ra rb la lb f k = true then 1 else 0)) ∧ n' = n ∧ h' = h) := by
  have fin : ∀ k, xT xmX3_leads (1, 0, 0, 0, 0) 66 [some (.ref o), some (.ref o2), some (zI k)] [] n h (fun r n' h' => r = some (zI (if decide (la < lb) = true then 1 else 0)) ∧ n' = n ∧ h' = h) := by
    intro k
    refine tt_op rfl rfl ?_
    refine tt_get rfl (by assumption) (by rfl) ?_
    refine tt_op rfl rfl ?_
    refine tt_get rfl (by assumption) (by rfl) ?_
    refine z_icmp rfl (by first | assumption | (unfold R3; omega)) (by first | assumption | (unfold R3; omega)) (fun c => ?_) (fun c => ?_)
    · simp only [zcd] at c
      rw [if_neg (by simp; omega)]
      refine tt_op rfl rfl ?_
      refine tt_ireturn rfl rfl (by rfl) (Nat.le_of_ble_eq_true rfl) (Nat.le_of_ble_eq_true rfl) ?_
      exact ⟨rfl, rfl, rfl⟩
    · simp only [zcd] at c
      rw [if_pos (by simp; omega)]
      refine tt_op rfl rfl ?_
      refine tt_goto rfl ?_
      refine tt_ireturn rfl rfl (by rfl) (Nat.le_of_ble_eq_true rfl) (Nat.le_of_ble_eq_true rfl) ?_
      exact ⟨rfl, rfl, rfl⟩
  intro f
  induction f with
  | zero =>
    intro k hk
    refine tt_op rfl rfl ?_
    refine tt_op rfl rfl ?_
    refine tt_get rfl (by assumption) (by rfl) ?_
    refine z_icmp rfl (by first | assumption | (unfold R3; omega)) (by first | assumption | (unfold R3; omega)) (fun c1 => ?_) (fun c1 => ?_)
    · exact fin k
    refine tt_op rfl rfl ?_
    refine tt_op rfl rfl ?_
    refine tt_get rfl (by assumption) (by rfl) ?_
    refine z_icmp rfl (by first | assumption | (unfold R3; omega)) (by first | assumption | (unfold R3; omega)) (fun c2 => ?_) (fun c2 => ?_)
    · exact fin k
    refine tt_op rfl rfl ?_
    refine tt_op rfl rfl ?_
    refine z_icmp rfl (by first | assumption | (unfold R3; omega)) (by first | assumption | (unfold R3; omega)) (fun c => ?_) (fun c => absurd (by simp only [zcd] <;> omega) c)
    exact fin k
  | succ f ih =>
    intro k hk
    unfold ldR
    refine tt_op rfl rfl ?_
    refine tt_op rfl rfl ?_
    refine tt_get rfl (by assumption) (by rfl) ?_
    refine z_icmp rfl (by first | assumption | (unfold R3; omega)) (by first | assumption | (unfold R3; omega)) (fun c1 => ?_) (fun c1 => ?_)
    · simp only [zcd] at c1
      rw [if_pos (Or.inl (by omega))]
      exact fin k
    simp only [zcd] at c1
    refine tt_op rfl rfl ?_
    refine tt_op rfl rfl ?_
    refine tt_get rfl (by assumption) (by rfl) ?_
    refine z_icmp rfl (by first | assumption | (unfold R3; omega)) (by first | assumption | (unfold R3; omega)) (fun c2 => ?_) (fun c2 => ?_)
    · simp only [zcd] at c2
      rw [if_pos (Or.inr (by omega))]
      exact fin k
    simp only [zcd] at c2
    rw [if_neg (show ¬ (la ≤ k ∨ lb ≤ k) by omega)]
    refine tt_op rfl rfl ?_
    refine tt_op rfl rfl ?_
    refine z_icmp rfl (by first | assumption | (unfold R3; omega)) (by first | assumption | (unfold R3; omega)) (fun c => absurd c (by simp only [zcd] <;> omega)) (fun c => ?_)
    refine tt_op rfl rfl ?_
    refine tt_get rfl (by assumption) (by rfl) ?_
    refine tt_op rfl rfl ?_
    refine z_iald rfl (by assumption) rfl (by omega) (by decide) ?_
    refine tt_op rfl rfl ?_
    refine tt_get rfl (by assumption) (by rfl) ?_
    refine tt_op rfl rfl ?_
    refine z_iald rfl (by assumption) rfl (by omega) (by decide) ?_
    refine z_icmp rfl (hRa k (by omega)) (hRb k (by omega)) (fun c3 => ?_) (fun c3 => ?_)
    · have c3 : ra k = rb k := c3
      rw [if_pos c3]
      refine z_iinc rfl rfl rfl ?_
      refine tt_goto rfl ?_
      exact ih (k + 1) (by omega)
    · have c3 : ¬ ra k = rb k := c3
      rw [if_neg c3]
      refine tt_op rfl rfl ?_
      refine tt_get rfl (by assumption) (by rfl) ?_
      refine tt_op rfl rfl ?_
      refine z_iald rfl (by assumption) rfl (by omega) (by decide) ?_
      refine tt_op rfl rfl ?_
      refine tt_get rfl (by assumption) (by rfl) ?_
      refine tt_op rfl rfl ?_
      refine z_iald rfl (by assumption) rfl (by omega) (by decide) ?_
      refine z_icmp rfl (hRa k (by omega)) (hRb k (by omega)) (fun c4 => ?_) (fun c4 => ?_)
      · have c4 : rb k ≤ ra k := c4
        rw [if_neg (by simp; omega)]
        refine tt_op rfl rfl ?_
        refine tt_ireturn rfl rfl (by rfl) (Nat.le_of_ble_eq_true rfl) (Nat.le_of_ble_eq_true rfl) ?_
        exact ⟨rfl, rfl, rfl⟩
      · have c4 : ¬ rb k ≤ ra k := c4
        rw [if_pos (by simp; omega)]
        refine tt_op rfl rfl ?_
        refine tt_goto rfl ?_
        refine tt_ireturn rfl rfl (by rfl) (Nat.le_of_ble_eq_true rfl) (Nat.le_of_ble_eq_true rfl) ?_
        exact ⟨rfl, rfl, rfl⟩
set_option maxRecDepth 10000 in
theorem c_leads (o o2 : Nat) (d d2 : V3) (lv lv2 : Int) (S S2 me me2 la lb rw rw2 : Nat) (ra rb : Nat → Int) (hla : la ≤ 14) (hlb : lb ≤ 14) (hRa : ∀ k, k < 14 → R3 (ra k)) (hRb : ∀ k, k < 14 → R3 (rb k)) (ho : h o = some (oC d lv S me la rw)) (ho2 : h o2 = some (oC d2 lv2 S2 me2 lb rw2)) (hr : h rw = some (zA 14 ra)) (hr2 : h rw2 = some (zA 14 rb)) : xPure xmX3_leads 1 [.ref o, .ref o2] n h (zI (if ldR ra rb la lb 14 0 = true then 1 else 0)) := by
  refine xCall.of xgX3_leads rfl ?_
  refine tt_op rfl rfl ?_
  refine tt_op rfl rfl ?_
  exact c_leads_loop o o2 d d2 lv lv2 S S2 me me2 la lb rw rw2 ra rb hla hlb hRa hRb ho ho2 hr hr2 14 0 rfl
/-- the plane of three points -/
def nrm (P : Nat → V3) (p q r : Nat) : V3 := (swg P p q r (1, 0, 0), swg P p q r (0, 1, 0), swg P p q r (0, 0, 1))
def gcd3 (u : V3) : Nat := Int.gcd (Int.gcd u.1 u.2.1 : Int) u.2.2
def prim (u : V3) : V3 := (u.1.tdiv (gcd3 u), u.2.1.tdiv (gcd3 u), u.2.2.tdiv (gcd3 u))
theorem gcd_le (x y : Int) : Int.gcd x y ≤ x.natAbs + y.natAbs := by
  show Nat.gcd x.natAbs y.natAbs ≤ _
  rcases Nat.eq_zero_or_pos x.natAbs with q | q
  · rw [q, Nat.gcd_zero_left]; omega
  · have := Nat.gcd_le_left y.natAbs q; omega
theorem nrm_bd {P : Nat → V3} {p q r : Nat} (hb : pbd P) (hp : p < 14) (hq : q < 14) (hr : r < 14) : vbd 3200 (nrm P p q r) := by
  have h := vbd_cr (vbd_sub (hb q hq) (hb p hp)) (vbd_sub (hb r hr) (hb p hp))
  unfold vbd at h
  unfold vbd nrm swg dot
  dsimp only
  omega
theorem tdiv_bd {x : Int} {g : Nat} (hx : -3200 ≤ x ∧ x ≤ 3200) : -3200 ≤ x.tdiv g ∧ x.tdiv g ≤ 3200 := by
  have h : (x.tdiv g).natAbs ≤ x.natAbs := by rw [Int.natAbs_tdiv]; exact Nat.div_le_self _ _
  omega
theorem prim_bd {u : V3} (h : vbd 3200 u) : vbd 3200 (prim u) := by
  obtain ⟨h1, h2, h3⟩ := h
  exact ⟨tdiv_bd h1, tdiv_bd h2, tdiv_bd h3⟩
theorem sdR_lt (P : Nat → V3) (d : V3) (lv : Int) : ∀ (k i s w : Nat), s < 4 → (sdR P d lv k i s w).1 < 4
  | 0, i, s, w, hs => hs
  | k + 1, i, s, w, hs => by
    unfold sdR
    split
    · exact hs
    · split
      · exact sdR_lt P d lv k (i + 1) s _ hs
      · refine sdR_lt P d lv k (i + 1) _ w ?_
        split
        · exact (or_lt4 s hs).1
        · exact (or_lt4 s hs).2
/-- what looking at three points' plane gives: whether a face lies in it, its normal, its level, its points -/
def fcS (P : Nat → V3) (m p q r : Nat) : Nat × Nat := sdR P (prim (nrm P p q r)) (dot (prim (nrm P p q r)) (P p)) m 0 0 0
def fcD (P : Nat → V3) (m p q r : Nat) : V3 := if (fcS P m p q r).1 = 2 then vneg (prim (nrm P p q r)) else prim (nrm P p q r)
def fcL (P : Nat → V3) (m p q r : Nat) : Int := if (fcS P m p q r).1 = 2 then -dot (prim (nrm P p q r)) (P p) else dot (prim (nrm P p q r)) (P p)
def fcOk (P : Nat → V3) (m p q r : Nat) : Prop := gcd3 (nrm P p q r) ≠ 0 ∧ ((fcS P m p q r).1 = 1 ∨ (fcS P m p q r).1 = 2)
set_option maxRecDepth 10000 in
set_option maxHeartbeats 1000000 in
theorem c_face (H : xCl h m P) (o : Nat) (ho5 : 5 ≤ o) (p q r : Nat) (hp : p < 14) (hq : q < 14) (hr : r < 14) (d0 : V3) (lv0 : Int) (se0 me le rw : Nat) (ho : h o = some (oC d0 lv0 se0 me le rw)) : xCall xmX3_face 5 0 0 [.ref o, zI p, zI q, zI r] n h (fun res n' h' => n' = n ∧ ((fcOk P m p q r ∧ res = some (zI 1) ∧ h' = xup h o (oC (fcD P m p q r) (fcL P m p q r) (fcS P m p q r).2 me le rw)) ∨ (¬ fcOk P m p q r ∧ res = some (zI 0) ∧ ∃ d lv se, ((d = d0 ∧ lv = lv0 ∧ se = se0) ∨ (d = prim (nrm P p q r) ∧ lv = dot (prim (nrm P p q r)) (P p) ∧ se = (fcS P m p q r).2)) ∧ h' = xup h o (oC d lv se me le rw)))) := by
  have hb := H.2.2.2.2.2
  have h1 := H.1
  have hN := nrm_bd hb hp hq hr
  have hN' := hN
  obtain ⟨n1, n2, n3⟩ := hN
  refine xCall.of xgX3_face rfl ?_
  refine tt_op rfl rfl ?_
  refine tt_get rfl (by assumption) (by rfl) ?_
  refine tt_op rfl rfl ?_
  refine tt_op rfl rfl ?_
  refine tt_op rfl rfl ?_
  refine tt_op rfl rfl ?_
  refine tt_op rfl rfl ?_
  refine tt_op rfl rfl ?_
  refine tt_pV rfl rfl rfl h1 rfl (c_swing H p q r hp hq hr _ _ _) ?_
  refine tt_op rfl rfl ?_
  refine tt_op rfl rfl ?_
  refine tt_get rfl (by assumption) (by rfl) ?_
  refine tt_op rfl rfl ?_
  refine tt_op rfl rfl ?_
  refine tt_op rfl rfl ?_
  refine tt_op rfl rfl ?_
  refine tt_op rfl rfl ?_
  refine tt_op rfl rfl ?_
  refine tt_pV rfl rfl rfl h1 rfl (c_swing H p q r hp hq hr _ _ _) ?_
  refine tt_op rfl rfl ?_
  refine tt_op rfl rfl ?_
  refine tt_get rfl (by assumption) (by rfl) ?_
  refine tt_op rfl rfl ?_
  refine tt_op rfl rfl ?_
  refine tt_op rfl rfl ?_
  refine tt_op rfl rfl ?_
  refine tt_op rfl rfl ?_
  refine tt_op rfl rfl ?_
  refine tt_pV rfl rfl rfl h1 rfl (c_swing H p q r hp hq hr _ _ _) ?_
  refine tt_op rfl rfl ?_
  refine tt_op rfl rfl ?_
  refine tt_op rfl rfl ?_
  have g1 := gcd_le (nrm P p q r).1 (nrm P p q r).2.1
  refine tt_pS rfl rfl rfl rfl (c_divisor (nrm P p q r).1 (nrm P p q r).2.1 ⟨by omega, by omega⟩ ⟨by omega, by omega⟩ n h) ?_
  refine tt_op rfl rfl ?_
  refine tt_pS rfl rfl rfl rfl (c_divisor _ (nrm P p q r).2.2 ⟨by omega, by omega⟩ ⟨by omega, by omega⟩ n h) ?_
  have g2 := gcd_le (Int.gcd (nrm P p q r).1 (nrm P p q r).2.1 : Int) (nrm P p q r).2.2
  have hg : gcd3 (nrm P p q r) ≤ 100000 := by unfold gcd3; omega
  refine tt_op rfl rfl ?_
  refine tt_op rfl rfl ?_
  refine tt_op rfl rfl ?_
  refine z_lif rfl rfl (show R6 (gcd3 (nrm P p q r) : Int) by unfold R6; omega) ⟨by decide, by decide⟩ (fun c => ?_) (fun c => ?_)
  rotate_left
  · have c : ¬ (gcd3 (nrm P p q r) : Int) ≠ 0 := c
    refine tt_op rfl rfl ?_
    refine tt_ireturn rfl rfl (by rfl) (Nat.le_of_ble_eq_true rfl) (Nat.le_of_ble_eq_true rfl) ?_
    exact ⟨rfl, Or.inr ⟨fun z => z.1 (by omega), rfl, d0, lv0, se0, Or.inl ⟨rfl, rfl, rfl⟩, (xup_same ho).symm⟩⟩
  have c : (gcd3 (nrm P p q r) : Int) ≠ 0 := c
  have RG : R6 (gcd3 (nrm P p q r) : Int) := by unfold R6; omega
  refine tt_op rfl rfl ?_
  refine tt_op rfl rfl ?_
  refine tt_op rfl rfl ?_
  refine z_ldiv (x := (nrm P p q r).1) (y := (gcd3 (nrm P p q r) : Int)) rfl c (by unfold R6; omega) (by omega) RG ?_
  refine tt_op rfl rfl ?_
  refine tt_op rfl rfl ?_
  refine z_ldiv (x := (nrm P p q r).2.1) (y := (gcd3 (nrm P p q r) : Int)) rfl c (by unfold R6; omega) (by omega) RG ?_
  refine tt_op rfl rfl ?_
  refine tt_op rfl rfl ?_
  refine z_ldiv (x := (nrm P p q r).2.2) (y := (gcd3 (nrm P p q r) : Int)) rfl c (by unfold R6; omega) (by omega) RG ?_
  refine tt_op rfl rfl ?_
  refine tt_callV (M' := xmX3_look) rfl rfl rfl ho rfl (c_look o d0 (prim (nrm P p q r)) lv0 se0 0 me le rw ho) ?_
  rintro r1 n1' h1' ⟨rfl, rfl, rfl⟩
  have hD := prim_bd hN'
  generalize hd : prim (nrm P p q r) = d at hD
  have H1 := xCl_up (e := oC d lv0 0 me le rw) ho5 H
  have k1 := H1.1
  have hO := (xup_s : xup h o (oC d lv0 0 me le rw) o = _)
  refine tt_op rfl rfl ?_
  refine tt_op rfl rfl ?_
  refine tt_get rfl (by assumption) (by rfl) ?_
  refine tt_op rfl rfl ?_
  refine tt_op rfl rfl ?_
  refine tt_get rfl (by assumption) (by rfl) ?_
  refine tt_op rfl rfl ?_
  refine tt_get rfl (by assumption) (by rfl) ?_
  refine tt_op rfl rfl ?_
  refine tt_get rfl (by assumption) (by rfl) ?_
  refine tt_pV rfl rfl rfl k1 rfl (c_sum H1 p hp _ _ _) ?_
  refine tt_put rfl (hO) rfl (by decide) (by rfl) (by rfl) rfl ?_
  rw [xup_xup]
  have hlv := dot_bd hD (hb p hp)
  have H2 := xCl_up (e := oC d (dot d (P p)) 0 me le rw) ho5 H
  have hO := (xup_s : xup h o (oC d (dot d (P p)) 0 me le rw) o = _)
  refine tt_op rfl rfl ?_
  refine tt_op rfl rfl ?_
  refine tt_callV (M' := xmX3_sidesTaken) rfl rfl rfl hO rfl (c_sides H2 o ho5 d (dot d (P p)) 0 me le rw hD ⟨by omega, by omega⟩ hO) ?_
  rintro r2 n2' h2' ⟨rfl, rfl, rfl⟩
  rw [xup_xup]
  have hO := (xup_s : xup h o (oC d (dot d (P p)) (sdR P d (dot d (P p)) m 0 0 0).2 me le rw) o = _)
  refine tt_callV (M' := xmX3_turnOutward) rfl rfl rfl hO rfl (c_outw o _ (sdR_lt P d (dot d (P p)) m 0 0 0 (by decide)) d (dot d (P p)) _ me le rw hO) ?_
  rintro r3 n3' h3' ⟨rfl, rfl, rfl⟩
  rw [xup_xup]
  refine tt_ireturn rfl rfl (by split <;> rfl) (Nat.le_of_ble_eq_true rfl) (Nat.le_of_ble_eq_true rfl) ?_
  refine ⟨rfl, ?_⟩
  have hS : fcS P m p q r = sdR P d (dot d (P p)) m 0 0 0 := by unfold fcS; rw [hd]
  by_cases hok : (sdR P d (dot d (P p)) m 0 0 0).1 = 1 ∨ (sdR P d (dot d (P p)) m 0 0 0).1 = 2
  · refine Or.inl ⟨⟨by omega, by rw [hS]; exact hok⟩, by rw [if_pos hok], ?_⟩
    unfold fcD fcL
    rw [hS, hd]
    by_cases h2 : (sdR P d (dot d (P p)) m 0 0 0).1 = 2
    · rw [if_pos h2, if_pos h2, if_pos h2]
    · rw [if_neg h2, if_neg h2, if_neg h2]
  · refine Or.inr ⟨fun z => hok (by rw [← hS]; exact z.2), by rw [if_neg hok], ?_⟩
    by_cases h2 : (sdR P d (dot d (P p)) m 0 0 0).1 = 2
    · exact absurd (Or.inr h2) hok
    · exact ⟨d, dot d (P p), (sdR P d (dot d (P p)) m 0 0 0).2, Or.inr ⟨rfl, rfl, by rw [hS]⟩, by rw [if_neg h2]⟩
end OL
end
section
/-! The hull: its cells, its faces one by one -/
/-- a face's data: normal, level, points of its plane, corners, how many, the row -/
abbrev FD : Type := V3 × Int × Nat × Nat × Nat × (Nat → Nat)
abbrev fdC (x : FD) (rw : Nat) : xE := oC x.1 x.2.1 x.2.2.1 x.2.2.2.1 x.2.2.2.2.1 rw
abbrev fdA (x : FD) : xE := zA 14 fun k => (x.2.2.2.2.2 k : Int)
def fdV (x : FD) : Prop := vbd 3200 x.1 ∧ (-1000000 ≤ x.2.1 ∧ x.2.1 ≤ 1000000) ∧ x.2.2.1 < 16384 ∧ x.2.2.2.1 < 16384 ∧ x.2.2.2.2.1 ≤ 14 ∧ ∀ k, k < 14 → x.2.2.2.2.2 k < 14
/-- the outlines in the order of the row of them -/
def xHf (h : xHp) (ad : Nat → Nat) (f : Nat → FD) : Prop := (∃ rd : Nat → Option Nat, h 6 = some (zR 24 rd) ∧ ∀ i, i < 24 → rd i = some (ad i)) ∧ (∀ i, i < 24 → 9 ≤ ad i ∧ ad i ≤ 55 ∧ ad i % 2 = 1) ∧ (∀ i j, i < 24 → j < 24 → ad i = ad j → i = j) ∧ (∀ i, i < 24 → h (ad i) = some (fdC (f i) (ad i + 1)) ∧ h (ad i + 1) = some (fdA (f i))) ∧ ∀ i, i < 24 → fdV (f i)
/-- the hull's own cell -/
abbrev huC (F E CB : Nat) (six : Int) : xE := .inr (1, [.ref 1, .ref 6, zI F, zI E, zI CB, .ref 7, zJ six, .ref 8])
section HU
variable {h : xHp} {m : Nat} {P : Nat → V3} {n : Nat} {ad : Nat → Nat} {f : Nat → FD} {F E CB : Nat} {six : Int}
set_option maxRecDepth 10000 in
theorem c_isCorner (h5 : h 5 = some (huC F E CB six)) (k : Nat) (hk : k < 14) (hCB : CB < 16384) : xPure xmX1_isCorner 2 [.ref 5, zI k] n h (zI (if CB.testBit k = true then 1 else 0)) := by
  refine xCall.of xgX1_isCorner rfl ?_
  refine tt_op rfl rfl ?_
  refine tt_pS rfl rfl rfl rfl (c_isPoint k hk n h) ?_
  refine z_if rfl (by first | assumption | (unfold R3; omega)) (fun c => absurd c (by simp only [zcd] <;> omega)) (fun c => ?_)
  refine tt_op rfl rfl ?_
  refine tt_get rfl (by assumption) (by rfl) ?_
  refine tt_op rfl rfl ?_
  refine z_tb rfl rfl rfl (by omega) (by omega) ?_
  refine z_if rfl (by split <;> exact ⟨by decide, by decide⟩) (fun c1 => ?_) (fun c1 => ?_)
  · cases hx : CB.testBit k with
    | true => simp [zcd, hx] at c1
    | false =>
      refine tt_op rfl rfl ?_
      refine tt_ireturn rfl rfl (by rfl) (Nat.le_of_ble_eq_true rfl) (Nat.le_of_ble_eq_true rfl) ?_
      exact ⟨rfl, rfl, rfl⟩
  · cases hx : CB.testBit k with
    | false => simp [zcd, hx] at c1
    | true =>
      refine tt_op rfl rfl ?_
      refine tt_goto rfl ?_
      refine tt_ireturn rfl rfl (by rfl) (Nat.le_of_ble_eq_true rfl) (Nat.le_of_ble_eq_true rfl) ?_
      exact ⟨rfl, rfl, rfl⟩
set_option maxRecDepth 10000 in
theorem c_isPoint_no (z : Int) (hz : R3 z) (hn : ¬ (0 ≤ z ∧ z < 14)) (n : Nat) (h : xHp) : xPure xmX5_isPoint 1 [zI z] n h (zI 0) := by
  refine xCall.of xgX5_isPoint rfl ?_
  refine tt_op rfl rfl ?_
  refine z_if rfl (by first | assumption | (unfold R3; omega)) (fun c1 => ?_) (fun c1 => ?_)
  · refine tt_op rfl rfl ?_
    refine tt_ireturn rfl rfl (by rfl) (Nat.le_of_ble_eq_true rfl) (Nat.le_of_ble_eq_true rfl) ?_
    exact ⟨rfl, rfl, rfl⟩
  simp only [zcd] at c1
  refine tt_op rfl rfl ?_
  refine tt_op rfl rfl ?_
  refine z_icmp rfl (by first | assumption | (unfold R3; omega)) (by first | assumption | (unfold R3; omega)) (fun c => ?_) (fun c => absurd (by simp only [zcd] <;> omega) c)
  refine tt_op rfl rfl ?_
  refine tt_ireturn rfl rfl (by rfl) (Nat.le_of_ble_eq_true rfl) (Nat.le_of_ble_eq_true rfl) ?_
  exact ⟨rfl, rfl, rfl⟩
set_option maxRecDepth 10000 in
theorem c_isCorner_no (z : Int) (hz : R3 z) (hn : ¬ (0 ≤ z ∧ z < 14)) : xPure xmX1_isCorner 2 [.ref 5, zI z] n h (zI 0) := by
  refine xCall.of xgX1_isCorner rfl ?_
  refine tt_op rfl rfl ?_
  refine tt_pS rfl rfl rfl rfl (c_isPoint_no z hz hn n h) ?_
  refine z_if rfl (by first | assumption | (unfold R3; omega)) (fun c => ?_) (fun c => absurd (by simp only [zcd] <;> omega) c)
  refine tt_op rfl rfl ?_
  refine tt_ireturn rfl rfl (by rfl) (Nat.le_of_ble_eq_true rfl) (Nat.le_of_ble_eq_true rfl) ?_
  exact ⟨rfl, rfl, rfl⟩
set_option maxRecDepth 10000 in
theorem c_hasFace (h5 : h 5 = some (huC F E CB six)) (hF : F ≤ 24) (z : Int) (hz : R3 z) (v : Value) (hv1 : 0 ≤ z ∧ z < F → v = zI 1) (hv0 : ¬ (0 ≤ z ∧ z < F) → v = zI 0) : xPure xmX1_hasFace 1 [.ref 5, zI z] n h v := by
  refine xCall.of xgX1_hasFace rfl ?_
  refine tt_op rfl rfl ?_
  refine z_if rfl (by first | assumption | (unfold R3; omega)) (fun c1 => ?_) (fun c1 => ?_)
  · simp only [zcd] at c1
    refine tt_op rfl rfl ?_
    refine tt_ireturn rfl rfl (by rfl) (Nat.le_of_ble_eq_true rfl) (Nat.le_of_ble_eq_true rfl) ?_
    exact ⟨congrArg some (hv0 (by omega)).symm, rfl, rfl⟩
  simp only [zcd] at c1
  refine tt_op rfl rfl ?_
  refine tt_op rfl rfl ?_
  refine tt_get rfl (by assumption) (by rfl) ?_
  refine z_icmp rfl (by first | assumption | (unfold R3; omega)) (by first | assumption | (unfold R3; omega)) (fun c2 => ?_) (fun c2 => ?_)
  · simp only [zcd] at c2
    refine tt_op rfl rfl ?_
    refine tt_ireturn rfl rfl (by rfl) (Nat.le_of_ble_eq_true rfl) (Nat.le_of_ble_eq_true rfl) ?_
    exact ⟨congrArg some (hv0 (by omega)).symm, rfl, rfl⟩
  simp only [zcd] at c2
  refine tt_op rfl rfl ?_
  refine tt_op rfl rfl ?_
  refine z_icmp rfl (by first | assumption | (unfold R3; omega)) (by first | assumption | (unfold R3; omega)) (fun c => absurd c (by simp only [zcd] <;> omega)) (fun c => ?_)
  refine tt_op rfl rfl ?_
  refine tt_goto rfl ?_
  refine tt_ireturn rfl rfl (by rfl) (Nat.le_of_ble_eq_true rfl) (Nat.le_of_ble_eq_true rfl) ?_
  exact ⟨congrArg some (hv1 (by omega)).symm, rfl, rfl⟩
/-- whether some face's plane has all these points -/
def knR (f : Nat → FD) (w : Nat) : Nat → Nat → Bool
  | 0, _ => false
  | k + 1, i => if (f i).2.2.1 &&& w = w then true else knR f w k (i + 1)
set_option maxRecDepth 10000 in
theorem c_known_loop (h5 : h 5 = some (huC F E CB six)) (H : xHf h ad f) (hF : F ≤ 24) (w : Nat) (hw : w < 16384) : ∀ (k i : Nat), i + k = F → xT xmX1_isKnown (1, 0, 0, 0, 0) 2 [some (.ref 5), some (zI w), some (zI i)] [] n h (fun r n' h' => r = some (zI (if knR f w k i = true then 1 else 0)) ∧ n' = n ∧ h' = h) := by
  obtain ⟨⟨rd, h6, hrd⟩, hA, hI, hC, hV⟩ := H
  intro k
  induction k with
  | zero =>
    intro i hi
    refine tt_op rfl rfl ?_
    refine tt_op rfl rfl ?_
    refine tt_get rfl (by assumption) (by rfl) ?_
    refine z_icmp rfl (by first | assumption | (unfold R3; omega)) (by first | assumption | (unfold R3; omega)) (fun c => ?_) (fun c => absurd (by simp only [zcd] <;> omega) c)
    refine tt_op rfl rfl ?_
    refine tt_ireturn rfl rfl (by rfl) (Nat.le_of_ble_eq_true rfl) (Nat.le_of_ble_eq_true rfl) ?_
    exact ⟨rfl, rfl, rfl⟩
  | succ k ih =>
    intro i hi
    have hO := (hC i (by omega)).1
    have hse := (hV i (by omega)).2.2.1
    unfold knR
    refine tt_op rfl rfl ?_
    refine tt_op rfl rfl ?_
    refine tt_get rfl (by assumption) (by rfl) ?_
    refine z_icmp rfl (by first | assumption | (unfold R3; omega)) (by first | assumption | (unfold R3; omega)) (fun c => absurd c (by simp only [zcd] <;> omega)) (fun c => ?_)
    refine tt_op rfl rfl ?_
    refine tt_op rfl rfl ?_
    refine z_icmp rfl (by first | assumption | (unfold R3; omega)) (by first | assumption | (unfold R3; omega)) (fun c => absurd c (by simp only [zcd] <;> omega)) (fun c => ?_)
    refine tt_op rfl rfl ?_
    refine tt_get rfl (by assumption) (by rfl) ?_
    refine tt_op rfl rfl ?_
    refine z_aald rfl h6 rfl (by omega) (by decide) (hrd i (by omega)) ?_
    refine tt_get rfl (by assumption) (by rfl) ?_
    refine tt_op rfl rfl ?_
    refine z_iand rfl ?_
    refine tt_op rfl rfl ?_
    have hlt : (f i).2.2.1 &&& w < 16384 := Nat.lt_of_le_of_lt Nat.and_le_left hse
    refine z_icmp rfl (by first | assumption | (unfold R3; omega)) (by first | assumption | (unfold R3; omega)) (fun c1 => ?_) (fun c1 => ?_)
    · simp only [zcd] at c1
      rw [if_neg (show ¬ (f i).2.2.1 &&& w = w by omega)]
      refine z_iinc rfl rfl rfl ?_
      refine tt_goto rfl ?_
      exact ih (i + 1) (by omega)
    · simp only [zcd] at c1
      rw [if_pos (show (f i).2.2.1 &&& w = w by omega)]
      refine tt_op rfl rfl ?_
      refine tt_ireturn rfl rfl (by rfl) (Nat.le_of_ble_eq_true rfl) (Nat.le_of_ble_eq_true rfl) ?_
      exact ⟨rfl, rfl, rfl⟩
set_option maxRecDepth 10000 in
theorem c_isKnown (h5 : h 5 = some (huC F E CB six)) (H : xHf h ad f) (hF : F ≤ 24) (w : Nat) (hw : w < 16384) : xPure xmX1_isKnown 1 [.ref 5, zI w] n h (zI (if knR f w F 0 = true then 1 else 0)) := by
  refine xCall.of xgX1_isKnown rfl ?_
  refine tt_op rfl rfl ?_
  refine tt_op rfl rfl ?_
  exact c_known_loop h5 H hF w hw F 0 (by omega)
/-- the late face goes down to its place -/
def sw2 {α : Type} (f : Nat → α) (k : Nat) : Nat → α := fun j => if j = k then f (k + 1) else if j = k + 1 then f k else f j
def fld (x y : FD) : Bool := ldR (fun k => (x.2.2.2.2.2 k : Int)) (fun k => (y.2.2.2.2.2 k : Int)) x.2.2.2.2.1 y.2.2.2.2.1 14 0
def stR (f : Nat → FD) : Nat → Nat → FD
  | 0 => f
  | k + 1 => if fld (f (k + 1)) (f k) = true then stR (sw2 f k) k else f
theorem xHf_sw {k : Nat} (hk : k + 1 < 24) (H : xHf h ad f) (rd : Nat → Option Nat) (hrd : ∀ i, i < 24 → rd i = some (ad i)) : xHf (xup h 6 (zR 24 (va_up (va_up rd (k + 1) (some (ad k))) k (some (ad (k + 1)))))) (sw2 ad k) (sw2 f k) := by
  obtain ⟨-, hA, hI, hC, hV⟩ := H
  have key : ∀ i, i < 24 → ∃ j, j < 24 ∧ sw2 ad k i = ad j ∧ sw2 f k i = f j := fun i hi => by
    unfold sw2
    by_cases h1 : i = k
    · exact ⟨k + 1, hk, by simp [h1], by simp [h1]⟩
    · by_cases h2 : i = k + 1
      · exact ⟨k, by omega, by simp [h2], by simp [h2]⟩
      · exact ⟨i, hi, by simp [h1, h2], by simp [h1, h2]⟩
  refine ⟨⟨_, xup_s, fun i hi => ?_⟩, fun i hi => ?_, fun i j hi hj hij => ?_, fun i hi => ?_, fun i hi => ?_⟩
  · simp only [va_up, sw2]
    by_cases h1 : i = k
    · simp [h1]
    · by_cases h2 : i = k + 1
      · simp [h2]
      · simp [h1, h2, hrd i hi]
  · obtain ⟨j, h1, h2, -⟩ := key i hi
    rw [h2]; exact hA j h1
  · unfold sw2 at hij
    have inj := hI
    by_cases a1 : i = k <;> by_cases b1 : j = k
    · omega
    · by_cases b2 : j = k + 1
      · simp only [a1, b2, if_pos, if_neg (show ¬ k + 1 = k by omega)] at hij
        have := hI (k + 1) k hk (by omega) hij
        omega
      · simp only [a1, if_pos, if_neg b1, if_neg b2] at hij
        have := hI (k + 1) j hk hj hij
        omega
    · by_cases a2 : i = k + 1
      · simp only [b1, a2, if_pos, if_neg (show ¬ k + 1 = k by omega)] at hij
        have := hI k (k + 1) (by omega) hk hij
        omega
      · simp only [b1, if_pos, if_neg a1, if_neg a2] at hij
        have := hI i (k + 1) hi hk hij
        omega
    · by_cases a2 : i = k + 1 <;> by_cases b2 : j = k + 1
      · omega
      · simp only [if_neg a1, if_neg b1, if_pos a2, if_neg b2] at hij
        have := hI k j (by omega) hj hij
        omega
      · simp only [if_neg a1, if_neg b1, if_neg a2, if_pos b2] at hij
        have := hI i k hi (by omega) hij
        omega
      · simp only [if_neg a1, if_neg b1, if_neg a2, if_neg b2] at hij
        exact hI i j hi hj hij
  · obtain ⟨j, h1, h2, h3⟩ := key i hi
    have := hA j h1
    rw [h2, h3, xup_n (by omega), xup_n (by omega)]
    exact hC j h1
  · obtain ⟨j, h1, h2, h3⟩ := key i hi
    rw [h3]; exact hV j h1
set_option maxRecDepth 10000 in
set_option maxHeartbeats 1000000 in
theorem c_settle_loop (h0 : xHp) : ∀ (k : Nat) (h : xHp) (ad : Nat → Nat) (f : Nat → FD) (l2 : Option Value), k < 24 → h 5 = some (huC F E CB six) → xHf h ad f → (∀ j, j ≠ 6 → h j = h0 j) → xT xmX1_settle (2, 0, 0, 0, 0) 7 [some (.ref 5), some (zI k), l2] [] n h (fun r n' h' => r = none ∧ n' = n ∧ (∃ ad', xHf h' ad' (stR f k)) ∧ ∀ j, j ≠ 6 → h' j = h0 j) := by
  intro k
  induction k with
  | zero =>
    intro h ad f l2 hk h5 H ho
    refine tt_op rfl rfl ?_
    refine z_if rfl (by first | assumption | (unfold R3; omega)) (fun c => ?_) (fun c => absurd (by simp only [zcd] <;> omega) c)
    refine tt_return rfl rfl (Nat.le_of_ble_eq_true rfl) (Nat.le_of_ble_eq_true rfl) ?_
    exact ⟨rfl, rfl, ⟨ad, H⟩, ho⟩
  | succ k ih =>
    intro h ad f l2 hk h5 H ho
    have H' := H
    obtain ⟨⟨rd, h6, hrd⟩, hA, hI, hC, hV⟩ := H
    obtain ⟨o1, r1⟩ := hC (k + 1) hk
    obtain ⟨o2, r2⟩ := hC k (by omega)
    have v1 := (hV (k + 1) hk).2.2.2.2
    have v2 := (hV k (by omega)).2.2.2.2
    have hix : ((k + 1 : Nat) : Int) - 1 = (k : Int) := by omega
    unfold stR
    refine tt_op rfl rfl ?_
    refine z_if rfl (by first | assumption | (unfold R3; omega)) (fun c => absurd c (by simp only [zcd] <;> omega)) (fun c => ?_)
    refine tt_op rfl rfl ?_
    refine tt_op rfl rfl ?_
    refine z_icmp rfl (by first | assumption | (unfold R3; omega)) (by first | assumption | (unfold R3; omega)) (fun c => absurd c (by simp only [zcd] <;> omega)) (fun c => ?_)
    refine tt_op rfl rfl ?_
    refine tt_get rfl (by assumption) (by rfl) ?_
    refine tt_op rfl rfl ?_
    refine z_aald rfl h6 rfl hk (by decide) (hrd _ hk) ?_
    refine tt_op rfl rfl ?_
    refine tt_op rfl rfl ?_
    refine tt_op rfl rfl ?_
    refine tt_get rfl (by assumption) (by rfl) ?_
    refine tt_op rfl rfl ?_
    refine tt_op rfl rfl ?_
    refine z_isub rfl ?_
    refine z_aald rfl h6 hix (by omega) (by decide) (hrd k (by omega)) ?_
    refine tt_pV rfl rfl rfl o1 rfl (c_leads _ _ _ _ _ _ _ _ _ _ _ _ _ _ _ _ v1.1 v2.1 (fun i hi => by have := v1.2 i hi; unfold R3; omega) (fun i hi => by have := v2.2 i hi; unfold R3; omega) o1 o2 r1 r2) ?_
    have hE : ldR (fun k_1 => ((f (k + 1)).2.2.2.2.2 k_1 : Int)) (fun k_1 => ((f k).2.2.2.2.2 k_1 : Int)) (f (k + 1)).2.2.2.2.1 (f k).2.2.2.2.1 14 0 = fld (f (k + 1)) (f k) := rfl
    rw [hE]
    refine z_if rfl (by split <;> exact ⟨by decide, by decide⟩) (fun c1 => ?_) (fun c1 => ?_)
    · cases hx : fld (f (k + 1)) (f k) with
      | false => simp [zcd, hx] at c1
      | true =>
        refine tt_op rfl rfl ?_
        refine tt_get rfl (by assumption) (by rfl) ?_
        refine tt_op rfl rfl ?_
        refine tt_op rfl rfl ?_
        refine tt_get rfl (by assumption) (by rfl) ?_
        refine tt_op rfl rfl ?_
        refine tt_op rfl rfl ?_
        refine z_isub rfl ?_
        refine z_aald rfl h6 hix (by omega) (by decide) (hrd k (by omega)) ?_
        refine tt_aast rfl h6 (z3_in hk (by decide)) o2 ?_
        rw [z3_clamp (by omega)]
        have o1' : xup h 6 (zR 24 (va_up rd (k + 1) (some (ad k)))) (ad (k + 1)) = some (fdC (f (k + 1)) (ad (k + 1) + 1)) := by rw [xup_n (by have := hA (k + 1) hk; omega)]; exact o1
        have h5' : xup h 6 (zR 24 (va_up rd (k + 1) (some (ad k)))) 5 = some (huC F E CB six) := by rw [xup_n (by omega)]; exact h5
        refine tt_op rfl rfl ?_
        refine tt_get rfl (by assumption) (by rfl) ?_
        refine tt_op rfl rfl ?_
        refine tt_op rfl rfl ?_
        refine z_isub rfl ?_
        refine tt_op rfl rfl ?_
        rw [hix]
        refine tt_aast rfl xup_s (z3_in (show k < 24 by omega) (by decide)) o1' ?_
        rw [z3_clamp (by omega), xup_xup]
        refine z_iinc rfl rfl rfl ?_
        refine tt_goto rfl ?_
        rw [show ((k + 1 : Nat) : Int) + -1 = (k : Int) by omega]
        simp only [if_true]
        exact ih _ (sw2 ad k) (sw2 f k) _ (by omega) (by rw [xup_n (by omega)]; exact h5) (xHf_sw hk H' rd hrd) (fun j hj => by rw [xup_n hj]; exact ho j hj)
    · cases hx : fld (f (k + 1)) (f k) with
      | true => simp [zcd, hx] at c1
      | false =>
        refine tt_return rfl rfl (Nat.le_of_ble_eq_true rfl) (Nat.le_of_ble_eq_true rfl) ?_
        refine ⟨rfl, rfl, ⟨ad, ?_⟩, ho⟩
        simpa using H'
set_option maxRecDepth 10000 in
theorem c_settle (h5 : h 5 = some (huC F E CB six)) (H : xHf h ad f) (hF : 0 < F ∧ F ≤ 24) : xCall xmX1_settle 2 0 0 [.ref 5] n h (fun r n' h' => r = none ∧ n' = n ∧ (∃ ad', xHf h' ad' (stR f (F - 1))) ∧ ∀ j, j ≠ 6 → h' j = h j) := by
  refine xCall.of xgX1_settle rfl ?_
  refine tt_op rfl rfl ?_
  refine tt_get rfl (by assumption) (by rfl) ?_
  refine tt_op rfl rfl ?_
  refine z_isub rfl ?_
  refine tt_op rfl rfl ?_
  rw [show (F : Int) - 1 = ((F - 1 : Nat) : Int) by omega]
  exact c_settle_loop h (F - 1) h ad f none (by omega) h5 H (fun _ _ => rfl)
end HU
end
section
/-! One plane more -/
def nup {α : Type} (f : Nat → α) (k : Nat) (v : α) : Nat → α := fun j => if j = k then v else f j
theorem nup_s {α : Type} {f : Nat → α} {k : Nat} {v : α} : nup f k v k = v := by simp [nup]
theorem nup_n {α : Type} {f : Nat → α} {k j : Nat} {v : α} (h : j ≠ k) : nup f k v j = f j := by simp [nup, h]
def trN (P : Nat → V3) (d : V3) (S st : Nat) : Nat → Nat → Nat → (Nat → Nat) → Nat → (Nat → Nat) × Nat × Nat
  | 0, s, _, row, me => (row, me, s)
  | k + 1, s, p, row, me => if spr P st (flF P d S p) d = 0 then (nup row s p, me ||| 2 ^ p, s + 1) else trN P d S st k (s + 1) (flF P d S p) (nup row s p) (me ||| 2 ^ p)
theorem zup_nup (row : Nat → Nat) (s p : Nat) : zup (fun j => (row j : Int)) s (p : Int) = fun j => ((nup row s p j : Nat) : Int) := by
  funext j
  by_cases h : j = s
  · simp [zup, nup, h]
  · simp [zup, nup, h]
theorem trN_eq (P : Nat → V3) (d : V3) (S st : Nat) : ∀ (k s p : Nat) (row : Nat → Nat) (me : Nat), trR P d S st k s p (fun j => (row j : Int)) me = (fun j => ((trN P d S st k s p row me).1 j : Int), (trN P d S st k s p row me).2.1, (trN P d S st k s p row me).2.2)
  | 0, s, p, row, me => rfl
  | k + 1, s, p, row, me => by
    unfold trR trN
    split
    · rw [zup_nup]
    · rw [zup_nup, trN_eq P d S st k]
theorem bits_or {a b : Nat} (ha : a < 16384) (hb : b < 16384) : a ||| b < 16384 := Nat.or_lt_two_pow (n := 14) ha hb
theorem bits_pow {p : Nat} (hp : p < 14) : 2 ^ p < 16384 := Nat.pow_lt_pow_right (a := 2) (by decide) hp
theorem trN_ok (P : Nat → V3) (d : V3) (S st : Nat) : ∀ (k s p : Nat) (row : Nat → Nat) (me : Nat), s + k = 14 → p < 14 → me < 16384 → (∀ j, j < 14 → row j < 14) → (trN P d S st k s p row me).2.1 < 16384 ∧ (trN P d S st k s p row me).2.2 ≤ 14 ∧ (∀ j, j < 14 → (trN P d S st k s p row me).1 j < 14) ∧ (∀ j, me.testBit j = true → (trN P d S st k s p row me).2.1.testBit j = true) ∧ (0 < k → (trN P d S st k s p row me).2.1.testBit p = true)
  | 0, s, p, row, me, hs, hp, hm, hr => ⟨hm, show s ≤ 14 by omega, hr, fun _ h => h, fun h => absurd h (by omega)⟩
  | k + 1, s, p, row, me, hs, hp, hm, hr => by
    have hm' : me ||| 2 ^ p < 16384 := bits_or hm (bits_pow hp)
    have hr' : ∀ j, j < 14 → nup row s p j < 14 := fun j hj => by
      unfold nup
      split
      · exact hp
      · exact hr j hj
    unfold trN
    split
    · refine ⟨hm', by show s + 1 ≤ 14; omega, hr', fun j hj => ?_, fun _ => ?_⟩
      · show (me ||| 2 ^ p).testBit j = true
        rw [Nat.testBit_or, hj]; rfl
      · show (me ||| 2 ^ p).testBit p = true
        rw [Nat.testBit_or, Nat.testBit_two_pow_self, Bool.or_true]
    · obtain ⟨a1, a2, a3, a4, a5⟩ := trN_ok P d S st k (s + 1) (flF P d S p) (nup row s p) (me ||| 2 ^ p) (by omega) (flF_lt hp) hm' hr'
      refine ⟨a1, a2, a3, fun j hj => a4 j ?_, fun _ => a4 p ?_⟩
      · rw [Nat.testBit_or, hj]; rfl
      · rw [Nat.testBit_or, Nat.testBit_two_pow_self, Bool.or_true]
/-- what stands in the row beforehand doesn't count -/
theorem trN_row (P : Nat → V3) (d : V3) (S st : Nat) : ∀ (k s p : Nat) (row row' : Nat → Nat) (me : Nat), (∀ j, j < s → row j = row' j) → (trN P d S st k s p row me).2 = (trN P d S st k s p row' me).2 ∧ ∀ j, j < (trN P d S st k s p row me).2.2 → (trN P d S st k s p row me).1 j = (trN P d S st k s p row' me).1 j
  | 0, s, p, row, row', me, hr => ⟨rfl, hr⟩
  | k + 1, s, p, row, row', me, hr => by
    have hr' : ∀ j, j < s + 1 → nup row s p j = nup row' s p j := fun j hj => by
      unfold nup
      split
      · rfl
      · exact hr j (by omega)
    unfold trN
    split
    · exact ⟨rfl, hr'⟩
    · exact trN_row P d S st k (s + 1) _ _ _ _ hr'
/-- the points taken as seen -/
theorem sdR_seen (P : Nat → V3) (d : V3) (lv : Int) : ∀ (k i s w : Nat), s < 4 → (sdR P d lv k i s w).1 ≠ 3 → ∀ j, (sdR P d lv k i s w).2.testBit j = (w.testBit j || decide (i ≤ j ∧ j < i + k ∧ dot d (P j) - lv = 0))
  | 0, i, s, w, hs, h3, j => by
    show w.testBit j = _
    rw [show decide (i ≤ j ∧ j < i + 0 ∧ dot d (P j) - lv = 0) = false from decide_eq_false (by omega), Bool.or_false]
  | k + 1, i, s, w, hs, h3, j => by
    unfold sdR at h3 ⊢
    by_cases c1 : s = 3
    · rw [if_pos c1] at h3; exact absurd c1 h3
    rw [if_neg c1] at h3 ⊢
    by_cases c2 : dot d (P i) - lv = 0
    · rw [if_pos c2] at h3 ⊢
      rw [sdR_seen P d lv k (i + 1) s _ hs h3 j, Nat.testBit_or, Nat.testBit_two_pow]
      by_cases hj : i = j
      · subst hj
        simp [c2]
      · rw [show (decide (i = j)) = false from decide_eq_false hj, Bool.or_false]
        congr 1
        apply decide_eq_decide.mpr
        omega
    · rw [if_neg c2] at h3 ⊢
      rw [sdR_seen P d lv k (i + 1) _ w (by split; exact (or_lt4 s hs).1; exact (or_lt4 s hs).2) h3 j]
      congr 1
      apply decide_eq_decide.mpr
      constructor
      · rintro ⟨a1, a2, a3⟩; exact ⟨by omega, by omega, a3⟩
      · rintro ⟨a1, a2, a3⟩
        refine ⟨?_, by omega, a3⟩
        rcases Nat.lt_or_ge i j with q | q
        · omega
        · exact absurd a3 (by rw [show j = i by omega]; exact c2)
theorem sdR_w (P : Nat → V3) (d : V3) (lv : Int) : ∀ (k i s w : Nat), i + k ≤ 14 → w < 16384 → (sdR P d lv k i s w).2 < 16384
  | 0, i, s, w, hi, hw => hw
  | k + 1, i, s, w, hi, hw => by
    unfold sdR
    split
    · exact hw
    · split
      · exact sdR_w P d lv k (i + 1) s _ (by omega) (bits_or hw (bits_pow (by omega)))
      · exact sdR_w P d lv k (i + 1) _ w (by omega) hw
theorem fcS_pos {P : Nat → V3} {m p q r : Nat} (hp : p < m) (hok : fcOk P m p q r) : 0 < (fcS P m p q r).2 := by
  have h3 : (fcS P m p q r).1 ≠ 3 := by have := hok.2; omega
  have := sdR_seen P (prim (nrm P p q r)) (dot (prim (nrm P p q r)) (P p)) m 0 0 0 (by decide) h3 p
  rw [show decide (0 ≤ p ∧ p < 0 + m ∧ dot (prim (nrm P p q r)) (P p) - dot (prim (nrm P p q r)) (P p) = 0) = true from decide_eq_true ⟨by omega, by omega, by omega⟩, Bool.or_true] at this
  rcases Nat.eq_zero_or_pos (fcS P m p q r).2 with z | z
  · unfold fcS at z
    rw [z, Nat.zero_testBit] at this
    cases this
  · exact z
/-- a new face's data -/
def nfT (P : Nat → V3) (d : V3) (S : Nat) (row : Nat → Nat) : (Nat → Nat) × Nat × Nat := trN P d S (tz (trN P d S (rmF P d S) 14 0 (rmF P d S) row 0).2.1) 14 0 (tz (trN P d S (rmF P d S) 14 0 (rmF P d S) row 0).2.1) (trN P d S (rmF P d S) 14 0 (rmF P d S) row 0).1 0
def nfD (P : Nat → V3) (m p q r : Nat) (row : Nat → Nat) : FD := (fcD P m p q r, fcL P m p q r, (fcS P m p q r).2, (nfT P (fcD P m p q r) (fcS P m p q r).2 row).2.1, (nfT P (fcD P m p q r) (fcS P m p q r).2 row).2.2, (nfT P (fcD P m p q r) (fcS P m p q r).2 row).1)
theorem rmR_lt {P : Nat → V3} {d : V3} {S fr : Nat} : ∀ (k i b : Nat) (w : Int), i + k = 14 → b < 14 → rmR P d S fr k i b w < 14
  | 0, i, b, w, hi, hb => hb
  | k + 1, i, b, w, hi, hb => by
    unfold rmR
    split
    · exact rmR_lt k (i + 1) i _ (by omega) (by omega)
    · exact rmR_lt k (i + 1) b w (by omega) hb
theorem rmF_lt {P : Nat → V3} {d : V3} {S : Nat} (hS : S < 16384) (h0 : 0 < S) : rmF P d S < 14 := rmR_lt 14 0 _ _ rfl (tz_lt hS h0)
theorem bit_pos {w j : Nat} (h : w.testBit j = true) : 0 < w := by
  rcases Nat.eq_zero_or_pos w with z | z
  · rw [z, Nat.zero_testBit] at h; cases h
  · exact z
theorem nfT_ok {P : Nat → V3} {d : V3} {S : Nat} {row : Nat → Nat} (hS : S < 16384) (h0 : 0 < S) (hr : ∀ j, j < 14 → row j < 14) : (0 < (trN P d S (rmF P d S) 14 0 (rmF P d S) row 0).2.1 ∧ (trN P d S (rmF P d S) 14 0 (rmF P d S) row 0).2.1 < 16384) ∧ (nfT P d S row).2.1 < 16384 ∧ (nfT P d S row).2.2 ≤ 14 ∧ ∀ j, j < 14 → (nfT P d S row).1 j < 14 := by
  obtain ⟨a1, a2, a3, a4, a5⟩ := trN_ok P d S (rmF P d S) 14 0 (rmF P d S) row 0 rfl (rmF_lt hS h0) (by decide) hr
  have hpos := bit_pos (a5 (by decide))
  obtain ⟨b1, b2, b3, -, -⟩ := trN_ok P d S (tz (trN P d S (rmF P d S) 14 0 (rmF P d S) row 0).2.1) 14 0 (tz (trN P d S (rmF P d S) 14 0 (rmF P d S) row 0).2.1) (trN P d S (rmF P d S) 14 0 (rmF P d S) row 0).1 0 rfl (tz_lt a1 hpos) (by decide) a3
  exact ⟨⟨hpos, a1⟩, b1, b2, b3⟩
theorem fcD_bd {P : Nat → V3} {m p q r : Nat} (hb : pbd P) (hp : p < 14) (hq : q < 14) (hr : r < 14) : vbd 3200 (fcD P m p q r) ∧ -1000000 ≤ fcL P m p q r ∧ fcL P m p q r ≤ 1000000 := by
  have h1 := prim_bd (nrm_bd hb hp hq hr)
  have h2 := dot_bd h1 (hb p hp)
  unfold fcD fcL
  split
  · refine ⟨?_, by omega, by omega⟩
    unfold vbd vneg at *
    dsimp only
    omega
  · exact ⟨h1, by omega, by omega⟩
/-- a cell of an outline, and its row, are written -/
theorem xHf_put {h : xHp} {ad : Nat → Nat} {f : Nat → FD} {F : Nat} (hF : F < 24) (H : xHf h ad f) (x : FD) (hx : fdV x) : xHf (xup (xup h (ad F + 1) (fdA x)) (ad F) (fdC x (ad F + 1))) ad (nup f F x) := by
  obtain ⟨⟨rd, h6, hrd⟩, hA, hI, hC, hV⟩ := H
  have hAF := hA F hF
  refine ⟨⟨rd, ?_, hrd⟩, hA, hI, fun i hi => ?_, fun i hi => ?_⟩
  · rw [xup_n (by omega), xup_n (by omega)]; exact h6
  · have hAi := hA i hi
    by_cases e : i = F
    · subst e
      rw [nup_s, xup_s, xup_n (by omega), xup_s]
      exact ⟨rfl, rfl⟩
    · have hne : ad i ≠ ad F := fun z => e (hI i F hi hF z)
      rw [nup_n e, xup_n hne, xup_n (by omega), xup_n (by omega), xup_n (by omega)]
      exact hC i hi
  · by_cases e : i = F
    · subst e; rw [nup_s]; exact hx
    · rw [nup_n e]; exact hV i hi
section TF
variable {h : xHp} {m : Nat} {P : Nat → V3} {n : Nat} {ad : Nat → Nat} {f : Nat → FD} {F E CB : Nat} {six : Int}
/-- the step of the machine: how many faces, and the outlines -/
def tfS (P : Nat → V3) (m p q r : Nat) (F : Nat) (f : Nat → FD) : Nat × (Nat → FD) := if 24 ≤ F ∨ knR f (2 ^ p ||| 2 ^ q ||| 2 ^ r) F 0 = true then (F, f) else if gcd3 (nrm P p q r) ≠ 0 ∧ ((fcS P m p q r).1 = 1 ∨ (fcS P m p q r).1 = 2) then (F + 1, stR (nup f F (nfD P m p q r (f F).2.2.2.2.2)) F) else (F, f)
set_option maxRecDepth 10000 in
set_option maxHeartbeats 2000000 in
theorem c_tryFace (h5 : h 5 = some (huC F E CB six)) (HC : xCl h m P) (H : xHf h ad f) (hF : F ≤ 24) (p q r : Nat) (hp : p < m) (hq : q < m) (hr : r < m) : xCall xmX1_tryFace 6 0 0 [.ref 5, zI p, zI q, zI r] n h (fun res n' h' => res = none ∧ n' = n ∧ h' 5 = some (huC (tfS P m p q r F f).1 E CB six) ∧ (∃ ad' f', xHf h' ad' f' ∧ ∀ i, i < (tfS P m p q r F f).1 → f' i = (tfS P m p q r F f).2 i) ∧ ∀ j, (j < 5 ∨ j = 7 ∨ j = 8 ∨ 57 ≤ j) → h' j = h j) := by
  have hm := HC.2.2.2.2.1
  have hb := HC.2.2.2.2.2
  have hw : 2 ^ p ||| 2 ^ q ||| 2 ^ r < 16384 := bits_or (bits_or (bits_pow (by omega)) (bits_pow (by omega))) (bits_pow (by omega))
  refine xCall.of xgX1_tryFace rfl ?_
  unfold tfS
  refine tt_op rfl rfl ?_
  refine tt_get rfl (by assumption) (by rfl) ?_
  refine tt_op rfl rfl ?_
  refine z_icmp rfl (by first | assumption | (unfold R3; omega)) (by first | assumption | (unfold R3; omega)) (fun c1 => ?_) (fun c1 => ?_)
  · simp only [zcd] at c1
    rw [if_pos (Or.inl (show 24 ≤ F by omega))]
    refine tt_return rfl rfl (Nat.le_of_ble_eq_true rfl) (Nat.le_of_ble_eq_true rfl) ?_
    exact ⟨rfl, rfl, h5, ⟨ad, f, H, fun _ _ => rfl⟩, fun _ _ => rfl⟩
  simp only [zcd] at c1
  refine tt_op rfl rfl ?_
  refine tt_op rfl rfl ?_
  refine tt_op rfl rfl ?_
  refine z_shl1 rfl (by omega) ?_
  refine tt_op rfl rfl ?_
  refine tt_op rfl rfl ?_
  refine z_shl1 rfl (by omega) ?_
  refine z_ior rfl ?_
  refine tt_op rfl rfl ?_
  refine tt_op rfl rfl ?_
  refine z_shl1 rfl (by omega) ?_
  refine z_ior rfl ?_
  refine tt_pV rfl rfl rfl h5 rfl (c_isKnown h5 H hF _ hw) ?_
  refine z_if rfl (by split <;> exact ⟨by decide, by decide⟩) (fun c2 => ?_) (fun c2 => ?_)
  rotate_left
  · have hk : knR f (2 ^ p ||| 2 ^ q ||| 2 ^ r) F 0 = true := by
      cases hx : knR f (2 ^ p ||| 2 ^ q ||| 2 ^ r) F 0 with
      | true => rfl
      | false => simp [zcd, hx] at c2
    rw [if_pos (Or.inr hk)]
    refine tt_return rfl rfl (Nat.le_of_ble_eq_true rfl) (Nat.le_of_ble_eq_true rfl) ?_
    exact ⟨rfl, rfl, h5, ⟨ad, f, H, fun _ _ => rfl⟩, fun _ _ => rfl⟩
  have hk : ¬ (24 ≤ F ∨ knR f (2 ^ p ||| 2 ^ q ||| 2 ^ r) F 0 = true) := by
    rintro (z | z)
    · omega
    · simp [zcd, z] at c2
  rw [if_neg hk]
  have H' := H
  obtain ⟨⟨rd, h6, hrd⟩, hA, hI, hC, hV⟩ := H
  have hF' : F < 24 := by omega
  obtain ⟨o1, r1⟩ := hC F hF'
  have hAF := hA F hF'
  have hVF := hV F hF'
  refine tt_op rfl rfl ?_
  refine tt_get rfl (by assumption) (by rfl) ?_
  refine tt_op rfl rfl ?_
  refine tt_get rfl (by assumption) (by rfl) ?_
  refine z_aald rfl h6 rfl hF' (by decide) (hrd F hF') ?_
  refine tt_op rfl rfl ?_
  refine tt_op rfl rfl ?_
  refine tt_op rfl rfl ?_
  refine tt_op rfl rfl ?_
  refine tt_op rfl rfl ?_
  refine tt_callV (M' := xmX3_face) rfl rfl rfl o1 rfl (c_face HC (ad F) (by omega) p q r (by omega) (by omega) (by omega) _ _ _ _ _ _ o1) ?_
  rintro res n1 h1 ⟨rfl, ⟨hok, rfl, rfl⟩ | ⟨hok, rfl, d, lv, se, hse, rfl⟩⟩
  rotate_left
  · refine z_if rfl (by first | assumption | (unfold R3; omega)) (fun c => ?_) (fun c => absurd (by simp only [zcd] <;> omega) c)
    rw [if_neg (show ¬ (gcd3 (nrm P p q r) ≠ 0 ∧ ((fcS P m p q r).1 = 1 ∨ (fcS P m p q r).1 = 2)) from hok)]
    refine tt_return rfl rfl (Nat.le_of_ble_eq_true rfl) (Nat.le_of_ble_eq_true rfl) ?_
    have hx : fdV (d, lv, se, (f F).2.2.2.1, (f F).2.2.2.2.1, (f F).2.2.2.2.2) := by
      obtain ⟨v1, v2, v3, v4, v5, v6⟩ := hVF
      rcases hse with ⟨rfl, rfl, rfl⟩ | ⟨rfl, rfl, rfl⟩
      · exact ⟨v1, v2, v3, v4, v5, v6⟩
      · have b1 := prim_bd (nrm_bd hb (show p < 14 by omega) (show q < 14 by omega) (show r < 14 by omega))
        have b2 := dot_bd b1 (hb p (by omega))
        have b3 : -1000000 ≤ dot (prim (nrm P p q r)) (P p) ∧ dot (prim (nrm P p q r)) (P p) ≤ 1000000 := by omega
        exact ⟨b1, b3, sdR_w P _ _ m 0 0 0 (by omega) (by decide), v4, v5, v6⟩
    have hput := xHf_put hF' H' _ hx
    rw [xup_same r1] at hput
    refine ⟨rfl, rfl, ?_, ⟨ad, _, hput, fun i hi => nup_n (by have : i < F := hi; omega)⟩, fun j hj => xup_n (by omega)⟩
    rw [xup_n (by omega)]; exact h5
  rw [if_pos (show gcd3 (nrm P p q r) ≠ 0 ∧ ((fcS P m p q r).1 = 1 ∨ (fcS P m p q r).1 = 2) from hok)]
  refine z_if rfl (by first | assumption | (unfold R3; omega)) (fun c => absurd c (by simp only [zcd] <;> omega)) (fun c => ?_)
  obtain ⟨hD, hL⟩ := fcD_bd (m := m) hb (show p < 14 by omega) (show q < 14 by omega) (show r < 14 by omega)
  have hS0 := fcS_pos hp hok
  have hS : (fcS P m p q r).2 < 16384 := sdR_w P _ _ m 0 0 0 (by omega) (by decide)
  obtain ⟨v1, v2, v3, v4, v5, v6⟩ := hVF
  obtain ⟨⟨t1, t2⟩, t3, t4, t5⟩ := nfT_ok (P := P) (d := fcD P m p q r) hS hS0 v6
  have hrm := rmF_lt (P := P) (d := fcD P m p q r) hS hS0
  have hNF : nfD P m p q r (f F).2.2.2.2.2 = (fcD P m p q r, fcL P m p q r, (fcS P m p q r).2, (nfT P (fcD P m p q r) (fcS P m p q r).2 (f F).2.2.2.2.2).2.1, (nfT P (fcD P m p q r) (fcS P m p q r).2 (f F).2.2.2.2.2).2.2, (nfT P (fcD P m p q r) (fcS P m p q r).2 (f F).2.2.2.2.2).1) := rfl
  generalize hX : nfD P m p q r (f F).2.2.2.2.2 = X at hNF
  generalize hd : fcD P m p q r = d at *
  generalize hl : fcL P m p q r = lv at *
  generalize hs : (fcS P m p q r).2 = S at *
  generalize hrow : (f F).2.2.2.2.2 = row at *
  generalize hme : (f F).2.2.2.1 = me at *
  generalize hle : (f F).2.2.2.2.1 = le at *
  have K1 := xCl_up (e := oC d lv S me le (ad F + 1)) (show 5 ≤ ad F by omega) HC
  have o1 := (xup_s : xup h (ad F) (oC d lv S me le (ad F + 1)) (ad F) = _)
  have r1' : xup h (ad F) (oC d lv S me le (ad F + 1)) (ad F + 1) = some (zA 14 fun k => (row k : Int)) := by rw [xup_n (by omega), ← hrow]; exact r1
  refine tt_op rfl rfl ?_
  refine tt_op rfl rfl ?_
  refine tt_pV rfl rfl rfl o1 rfl (c_rim K1 (ad F) d lv S _ _ _ hS hS0 hD o1) ?_
  refine tt_callV (M' := xmX3_trace) rfl rfl rfl o1 rfl (c_trace K1 (ad F) (by omega) d lv S _ _ (ad F + 1) (rmF P d S) _ (by omega) (by omega) hS hrm hD o1 r1') ?_
  rintro res2 n2 h2 ⟨rfl, rfl, rfl⟩
  rw [trN_eq]
  dsimp only
  rw [xup_comm (show ad F ≠ ad F + 1 by omega), xup_xup]
  have K2 := xCl_up (e := oC d lv S (trN P d S (rmF P d S) 14 0 (rmF P d S) row 0).2.1 (trN P d S (rmF P d S) 14 0 (rmF P d S) row 0).2.2 (ad F + 1)) (show 5 ≤ ad F by omega) (xCl_up (e := zA 14 fun j => ((trN P d S (rmF P d S) 14 0 (rmF P d S) row 0).1 j : Int)) (show 5 ≤ ad F + 1 by omega) HC)
  have o2 := (xup_s : xup (xup h (ad F + 1) (zA 14 fun j => ((trN P d S (rmF P d S) 14 0 (rmF P d S) row 0).1 j : Int))) (ad F) (oC d lv S (trN P d S (rmF P d S) 14 0 (rmF P d S) row 0).2.1 (trN P d S (rmF P d S) 14 0 (rmF P d S) row 0).2.2 (ad F + 1)) (ad F) = _)
  have r2 : xup (xup h (ad F + 1) (zA 14 fun j => ((trN P d S (rmF P d S) 14 0 (rmF P d S) row 0).1 j : Int))) (ad F) (oC d lv S (trN P d S (rmF P d S) 14 0 (rmF P d S) row 0).2.1 (trN P d S (rmF P d S) 14 0 (rmF P d S) row 0).2.2 (ad F + 1)) (ad F + 1) = some (zA 14 fun j => ((trN P d S (rmF P d S) 14 0 (rmF P d S) row 0).1 j : Int)) := by rw [xup_n (by omega)]; exact xup_s
  refine tt_op rfl rfl ?_
  refine tt_op rfl rfl ?_
  refine tt_get rfl (by assumption) (by rfl) ?_
  refine tt_pS rfl rfl rfl rfl (c_ntz _ t2 t1 _ _) ?_
  refine tt_callV (M' := xmX3_trace) rfl rfl rfl o2 rfl (c_trace K2 (ad F) (by omega) d lv S _ _ (ad F + 1) _ _ (by omega) (by omega) hS (tz_lt t2 t1) hD o2 r2) ?_
  rintro res3 n3 h3 ⟨rfl, rfl, rfl⟩
  rw [trN_eq]
  dsimp only
  rw [xup_comm (show ad F ≠ ad F + 1 by omega), xup_xup, xup_xup]
  have hXv : fdV X := by rw [hNF]; exact ⟨hD, hL, hS, t3, t4, t5⟩
  have hput := xHf_put hF' H' X hXv
  have hcell : xup (xup h (ad F + 1) (zA 14 fun j => ((trN P d S (tz (trN P d S (rmF P d S) 14 0 (rmF P d S) row 0).2.1) 14 0 (tz (trN P d S (rmF P d S) 14 0 (rmF P d S) row 0).2.1) (trN P d S (rmF P d S) 14 0 (rmF P d S) row 0).1 0).1 j : Int))) (ad F) (oC d lv S (trN P d S (tz (trN P d S (rmF P d S) 14 0 (rmF P d S) row 0).2.1) 14 0 (tz (trN P d S (rmF P d S) 14 0 (rmF P d S) row 0).2.1) (trN P d S (rmF P d S) 14 0 (rmF P d S) row 0).1 0).2.1 (trN P d S (tz (trN P d S (rmF P d S) 14 0 (rmF P d S) row 0).2.1) 14 0 (tz (trN P d S (rmF P d S) 14 0 (rmF P d S) row 0).2.1) (trN P d S (rmF P d S) 14 0 (rmF P d S) row 0).1 0).2.2 (ad F + 1)) = xup (xup h (ad F + 1) (fdA X)) (ad F) (fdC X (ad F + 1)) := by rw [hNF]; rfl
  rw [hcell]
  have h5' : xup (xup h (ad F + 1) (fdA X)) (ad F) (fdC X (ad F + 1)) 5 = some (huC F E CB six) := by rw [xup_n (by omega), xup_n (by omega)]; exact h5
  refine tt_op rfl rfl ?_
  refine tt_op rfl rfl ?_
  refine tt_get rfl (by assumption) (by rfl) ?_
  refine tt_op rfl rfl ?_
  refine z_iadd rfl ?_
  refine tt_put rfl (h5') rfl (by decide) (by rfl) (by rfl) rfl ?_
  have h5'' := (xup_s : xup (xup (xup h (ad F + 1) (fdA X)) (ad F) (fdC X (ad F + 1))) 5 (huC (F + 1) E CB six) 5 = _)
  have hput2 : xHf (xup (xup (xup h (ad F + 1) (fdA X)) (ad F) (fdC X (ad F + 1))) 5 (huC (F + 1) E CB six)) ad (nup f F X) := by
    obtain ⟨⟨rd', g6, grd⟩, gA, gI, gC, gV⟩ := hput
    refine ⟨⟨rd', by rw [xup_n (by omega)]; exact g6, grd⟩, gA, gI, fun i hi => ?_, gV⟩
    have := gA i hi
    rw [xup_n (q := 5) (j := ad i) (by omega), xup_n (q := 5) (j := ad i + 1) (by omega)]
    exact gC i hi
  refine tt_op rfl rfl ?_
  refine tt_callV (M' := xmX1_settle) rfl rfl rfl h5'' rfl (c_settle h5'' hput2 ⟨by omega, by omega⟩) ?_
  rintro res4 n4 h4 ⟨rfl, rfl, ⟨ad4, g4⟩, e4⟩
  refine tt_return rfl rfl (Nat.le_of_ble_eq_true rfl) (Nat.le_of_ble_eq_true rfl) ?_
  refine ⟨rfl, rfl, ?_, ⟨ad4, _, g4, fun i hi => rfl⟩, fun j hj => ?_⟩
  · rw [e4 5 (by omega)]; exact xup_s
  · rw [e4 j (by omega), xup_n (by omega), xup_n (by omega), xup_n (by omega)]
end TF
end
section
/-! Corners and edges; the weight -/
theorem xHf_up {h : xHp} {ad : Nat → Nat} {f : Nat → FD} {q : Nat} {e : xE} (hq : q < 9 ∧ q ≠ 6 ∨ 57 ≤ q) (H : xHf h ad f) : xHf (xup h q e) ad f := by
  obtain ⟨⟨rd, g6, grd⟩, gA, gI, gC, gV⟩ := H
  refine ⟨⟨rd, by rw [xup_n (by omega)]; exact g6, grd⟩, gA, gI, fun i hi => ?_, gV⟩
  have := gA i hi
  rw [xup_n (q := q) (j := ad i) (by omega), xup_n (q := q) (j := ad i + 1) (by omega)]
  exact gC i hi
abbrev bA (b : Nat → Nat) : xE := zA 14 fun j => (b j : Int)
def nxk (x : FD) (k : Nat) : Nat := if k + 1 < x.2.2.2.2.1 then k + 1 else 0
def bsK (x : FD) : Nat → Nat → (Nat → Nat) → Nat → Nat
  | 0, _, b => b
  | j + 1, k, b => bsK x j (k + 1) (nup b (x.2.2.2.2.2 k) (b (x.2.2.2.2.2 k) ||| 2 ^ x.2.2.2.2.2 (nxk x k)))
def jnR (f : Nat → FD) : Nat → Nat → Nat → Nat → (Nat → Nat) → Nat × Nat × (Nat → Nat)
  | 0, _, cb, sd, b => (cb, sd, b)
  | k + 1, i, cb, sd, b => jnR f k (i + 1) (cb ||| (f i).2.2.2.1) (sd + (f i).2.2.2.2.1) (bsK (f i) (f i).2.2.2.2.1 0 b)
theorem bsK_ag (x : FD) (hx : fdV x) : ∀ (j k : Nat) (b b' : Nat → Nat), k + j ≤ 14 → (∀ i, i < 14 → b i = b' i) → ∀ i, i < 14 → bsK x j k b i = bsK x j k b' i
  | 0, k, b, b', hk, hb, i, hi => hb i hi
  | j + 1, k, b, b', hk, hb, i, hi => by
    refine bsK_ag x hx j (k + 1) _ _ (by omega) (fun i' hi' => ?_) i hi
    unfold nup
    rw [hb _ (hx.2.2.2.2.2 k (by omega))]
    split
    · rfl
    · exact hb i' hi'
theorem jnR_ag (f : Nat → FD) : ∀ (k i cb sd : Nat) (b b' : Nat → Nat), (∀ j, j < i + k → fdV (f j)) → (∀ j, j < 14 → b j = b' j) → (jnR f k i cb sd b).1 = (jnR f k i cb sd b').1 ∧ (jnR f k i cb sd b).2.1 = (jnR f k i cb sd b').2.1 ∧ ∀ j, j < 14 → (jnR f k i cb sd b).2.2 j = (jnR f k i cb sd b').2.2 j
  | 0, i, cb, sd, b, b', hv, hb => ⟨rfl, rfl, hb⟩
  | k + 1, i, cb, sd, b, b', hv, hb => by
    refine jnR_ag f k (i + 1) _ _ _ _ (fun j hj => hv j (by omega)) (bsK_ag _ (hv i (by omega)) _ 0 _ _ ?_ hb)
    have := (hv i (by omega)).2.2.2.2.1
    omega
section JN
variable {h : xHp} {m : Nat} {P : Nat → V3} {n : Nat} {ad : Nat → Nat} {f : Nat → FD} {F E CB : Nat} {six : Int}
set_option maxRecDepth 10000 in
theorem c_join_zero (h5 : h 5 = some (huC F E CB six)) (Q : xQt) (l2 l3 l4 l5 l6 : Option Value) (hQ : ∀ b : Nat → Nat, (∀ j, j < 14 → b j = 0) → xT xmX1_join (2, 0, 0, 0, 0) 21 [some (.ref 5), some (zI (14 : Nat)), l2, l3, l4, l5, l6] [] n (xup h 7 (bA b)) Q) : ∀ (k i : Nat) (b : Nat → Nat), i + k = 14 → (∀ j, j < i → b j = 0) → xT xmX1_join (2, 0, 0, 0, 0) 2 [some (.ref 5), some (zI i), l2, l3, l4, l5, l6] [] n (xup h 7 (bA b)) Q := by
  intro k
  induction k with
  | zero =>
    intro i b hi hb
    have : i = 14 := by omega
    subst this
    refine tt_op rfl rfl ?_
    refine tt_op rfl rfl ?_
    refine z_icmp rfl (by first | assumption | (unfold R3; omega)) (by first | assumption | (unfold R3; omega)) (fun c => ?_) (fun c => absurd (by simp only [zcd] <;> omega) c)
    exact hQ b hb
  | succ k ih =>
    intro i b hi hb
    have h5' : xup h 7 (bA b) 5 = some (huC F E CB six) := by rw [xup_n (by omega)]; exact h5
    refine tt_op rfl rfl ?_
    refine tt_op rfl rfl ?_
    refine z_icmp rfl (by first | assumption | (unfold R3; omega)) (by first | assumption | (unfold R3; omega)) (fun c => absurd c (by simp only [zcd] <;> omega)) (fun c => ?_)
    refine tt_op rfl rfl ?_
    refine tt_get rfl (by assumption) (by rfl) ?_
    refine tt_op rfl rfl ?_
    refine tt_op rfl rfl ?_
    refine z_iast rfl xup_s rfl (by omega) (by decide) ?_
    rw [xup_xup, show (zup (fun j => (b j : Int)) i 0) = fun j => ((nup b i 0 j : Nat) : Int) from zup_nup b i 0]
    refine z_iinc rfl rfl rfl ?_
    refine tt_goto rfl ?_
    exact ih (i + 1) (nup b i 0) (by omega) (fun j hj => by
      unfold nup
      split
      · rfl
      · exact hb j (by omega))
set_option maxRecDepth 10000 in
set_option maxHeartbeats 1000000 in
theorem c_join_row (x : FD) (hx : fdV x) (o i sd : Nat) (Q : xQt) (ho9 : 9 ≤ o) (ho : h o = some (fdC x (o + 1))) (hr : h (o + 1) = some (fdA x)) (h5 : h 5 = some (huC F E CB six))
    (hQ : ∀ (l5 l6 : Option Value) (k : Nat), xT xmX1_join (2, 0, 0, 0, 0) 162 [some (.ref 5), some (zI sd), some (zI i), some (.ref o), some (zI k), l5, l6] [] n h Q → True) :
    ∀ (j k : Nat) (b : Nat → Nat) (l5 l6 : Option Value), k + j = x.2.2.2.2.1 → (∀ l5 l6, xT xmX1_join (2, 0, 0, 0, 0) 162 [some (.ref 5), some (zI sd), some (zI i), some (.ref o), some (zI x.2.2.2.2.1), l5, l6] [] n (xup h 7 (bA (bsK x j k b))) Q) → xT xmX1_join (2, 0, 0, 0, 0) 74 [some (.ref 5), some (zI sd), some (zI i), some (.ref o), some (zI k), l5, l6] [] n (xup h 7 (bA b)) Q := by
  obtain ⟨v1, v2, v3, v4, v5, v6⟩ := hx
  intro j
  induction j with
  | zero =>
    intro k b l5 l6 hk hfin
    have ho' : xup h 7 (bA b) o = some (fdC x (o + 1)) := by rw [xup_n (by omega)]; exact ho
    have hk' : k = x.2.2.2.2.1 := by omega
    subst hk'
    refine tt_op rfl rfl ?_
    refine tt_op rfl rfl ?_
    refine tt_get rfl (by assumption) (by rfl) ?_
    refine z_icmp rfl (by first | assumption | (unfold R3; omega)) (by first | assumption | (unfold R3; omega)) (fun c => ?_) (fun c => absurd (by simp only [zcd] <;> omega) c)
    exact hfin l5 l6
  | succ j ih =>
    intro k b l5 l6 hk hfin
    have ho' : xup h 7 (bA b) o = some (fdC x (o + 1)) := by rw [xup_n (by omega)]; exact ho
    have hr' : xup h 7 (bA b) (o + 1) = some (fdA x) := by rw [xup_n (by omega)]; exact hr
    have h5' : xup h 7 (bA b) 5 = some (huC F E CB six) := by rw [xup_n (by omega)]; exact h5
    have hrk := v6 k (by omega)
    have hnk : nxk x k < 14 := by unfold nxk; split <;> omega
    have hrn := v6 (nxk x k) hnk
    refine tt_op rfl rfl ?_
    refine tt_op rfl rfl ?_
    refine tt_get rfl (by assumption) (by rfl) ?_
    refine z_icmp rfl (by first | assumption | (unfold R3; omega)) (by first | assumption | (unfold R3; omega)) (fun c => absurd c (by simp only [zcd] <;> omega)) (fun c => ?_)
    refine tt_op rfl rfl ?_
    refine tt_op rfl rfl ?_
    refine z_icmp rfl (by first | assumption | (unfold R3; omega)) (by first | assumption | (unfold R3; omega)) (fun c => absurd c (by simp only [zcd] <;> omega)) (fun c => ?_)
    refine tt_op rfl rfl ?_
    refine tt_get rfl (by assumption) (by rfl) ?_
    refine tt_op rfl rfl ?_
    refine z_iald rfl (by assumption) rfl (by omega) (by decide) ?_
    refine tt_op rfl rfl ?_
    refine tt_op rfl rfl ?_
    refine tt_get rfl (by assumption) (by rfl) ?_
    refine tt_op rfl rfl ?_
    refine tt_op rfl rfl ?_
    refine z_iadd rfl ?_
    refine tt_op rfl rfl ?_
    refine tt_get rfl (by assumption) (by rfl) ?_
    have tail : xT xmX1_join (2, 0, 0, 0, 0) 131 [some (.ref 5), some (zI sd), some (zI i), some (.ref o), some (zI k), some (zI (x.2.2.2.2.2 k)), l6] [zI (nxk x k : Nat), .ref (o + 1)] n (xup h 7 (bA b)) Q := by
      refine z_iald rfl hr' rfl hnk (by decide) ?_
      refine tt_op rfl rfl ?_
      refine tt_op rfl rfl ?_
      refine tt_pS rfl rfl rfl rfl (c_isPoint _ hrk _ _) ?_
      refine z_if rfl (by first | assumption | (unfold R3; omega)) (fun c => absurd c (by simp only [zcd] <;> omega)) (fun c => ?_)
      refine tt_op rfl rfl ?_
      refine tt_get rfl h5' (by rfl) ?_
      refine tt_op rfl rfl ?_
      refine tt_op rfl rfl ?_
      refine z_iald rfl xup_s rfl hrk (by decide) ?_
      refine tt_op rfl rfl ?_
      refine tt_op rfl rfl ?_
      refine z_shl1 rfl (by omega) ?_
      refine z_ior rfl ?_
      refine z_iast rfl xup_s rfl hrk (by decide) ?_
      rw [xup_xup, zup_nup]
      refine z_iinc rfl rfl rfl ?_
      refine tt_goto rfl ?_
      exact ih (k + 1) _ _ _ (by omega) hfin
    refine z_icmp rfl (by first | assumption | (unfold R3; omega)) (by first | assumption | (unfold R3; omega)) (fun c1 => ?_) (fun c1 => ?_)
    · simp only [zcd] at c1
      have e : nxk x k = 0 := by unfold nxk; rw [if_neg (by omega)]
      rw [e] at tail
      refine tt_op rfl rfl ?_
      exact tail
    · simp only [zcd] at c1
      have e : nxk x k = k + 1 := by unfold nxk; rw [if_pos (by omega)]
      rw [e] at tail
      refine tt_op rfl rfl ?_
      refine tt_op rfl rfl ?_
      refine z_iadd rfl ?_
      refine tt_op rfl rfl ?_
      refine z_icmp rfl (by first | assumption | (unfold R3; omega)) (by first | assumption | (unfold R3; omega)) (fun c => absurd c (by simp only [zcd] <;> omega)) (fun c => ?_)
      refine tt_op rfl rfl ?_
      refine tt_op rfl rfl ?_
      refine z_iadd rfl ?_
      refine tt_goto rfl ?_
      exact tail
set_option maxRecDepth 10000 in
set_option maxHeartbeats 1000000 in
theorem c_join_loop (H : xHf h ad f) (hF : F ≤ 24) : ∀ (k i CB' sd : Nat) (b : Nat → Nat) (l3 l4 l5 l6 : Option Value), i + k = F → CB' < 16384 → sd ≤ 14 * i → xT xmX1_join (2, 0, 0, 0, 0) 30 [some (.ref 5), some (zI sd), some (zI i), l3, l4, l5, l6] [] n (xup (xup h 7 (bA b)) 5 (huC F E CB' six)) (fun r n' h' => r = none ∧ n' = n ∧ h' = xup (xup h 7 (bA (jnR f k i CB' sd b).2.2)) 5 (huC F ((jnR f k i CB' sd b).2.1 / 2) (jnR f k i CB' sd b).1 six)) := by
  have H' := H
  obtain ⟨⟨rd, g6, grd⟩, gA, gI, gC, gV⟩ := H
  intro k
  induction k with
  | zero =>
    intro i CB' sd b l3 l4 l5 l6 hi hcb hsd
    have h5' := (xup_s : xup (xup h 7 (bA b)) 5 (huC F E CB' six) 5 = _)
    refine tt_op rfl rfl ?_
    refine tt_op rfl rfl ?_
    refine tt_get rfl (by assumption) (by rfl) ?_
    refine z_icmp rfl (by first | assumption | (unfold R3; omega)) (by first | assumption | (unfold R3; omega)) (fun c => ?_) (fun c => absurd (by simp only [zcd] <;> omega) c)
    refine tt_op rfl rfl ?_
    refine tt_op rfl rfl ?_
    refine tt_op rfl rfl ?_
    refine z_idiv (x := (sd : Int)) (y := 2) rfl (by decide) (by unfold R3; omega) (by omega) ⟨by decide, by decide⟩ ?_
    refine tt_put rfl (h5') rfl (by decide) (by rfl) (by rfl) rfl ?_
    refine tt_return rfl rfl (Nat.le_of_ble_eq_true rfl) (Nat.le_of_ble_eq_true rfl) ?_
    refine ⟨rfl, rfl, ?_⟩
    rw [xup_xup, show ((sd : Int)).tdiv 2 = ((sd / 2 : Nat) : Int) from rfl]
    rfl
  | succ k ih =>
    intro i CB' sd b l3 l4 l5 l6 hi hcb hsd
    have h5' := (xup_s : xup (xup h 7 (bA b)) 5 (huC F E CB' six) 5 = _)
    have hAi := gA i (by omega)
    obtain ⟨o1, r1⟩ := gC i (by omega)
    have hv := gV i (by omega)
    have h6' : xup (xup h 7 (bA b)) 5 (huC F E CB' six) 6 = some (zR 24 rd) := by rw [xup_n (by omega), xup_n (by omega)]; exact g6
    have o1' : xup (xup h 7 (bA b)) 5 (huC F E CB' six) (ad i) = some (fdC (f i) (ad i + 1)) := by rw [xup_n (by omega), xup_n (by omega)]; exact o1
    refine tt_op rfl rfl ?_
    refine tt_op rfl rfl ?_
    refine tt_get rfl (by assumption) (by rfl) ?_
    refine z_icmp rfl (by first | assumption | (unfold R3; omega)) (by first | assumption | (unfold R3; omega)) (fun c => absurd c (by simp only [zcd] <;> omega)) (fun c => ?_)
    refine tt_op rfl rfl ?_
    refine tt_op rfl rfl ?_
    refine z_icmp rfl (by first | assumption | (unfold R3; omega)) (by first | assumption | (unfold R3; omega)) (fun c => absurd c (by simp only [zcd] <;> omega)) (fun c => ?_)
    refine tt_op rfl rfl ?_
    refine tt_get rfl (by assumption) (by rfl) ?_
    refine tt_op rfl rfl ?_
    refine z_aald rfl h6' rfl (by omega) (by decide) (grd i (by omega)) ?_
    refine tt_op rfl rfl ?_
    refine tt_op rfl rfl ?_
    refine tt_op rfl rfl ?_
    refine tt_get rfl (by assumption) (by rfl) ?_
    refine tt_op rfl rfl ?_
    refine tt_get rfl (by assumption) (by rfl) ?_
    refine z_ior rfl ?_
    refine tt_put rfl (h5') rfl (by decide) (by rfl) (by rfl) rfl ?_
    rw [xup_xup]
    have o2 : xup (xup h 7 (bA b)) 5 (huC F E (CB' ||| (f i).2.2.2.1) six) (ad i) = some (fdC (f i) (ad i + 1)) := by rw [xup_n (by omega), xup_n (by omega)]; exact o1
    refine tt_op rfl rfl ?_
    refine tt_op rfl rfl ?_
    refine tt_get rfl (by assumption) (by rfl) ?_
    refine z_iadd rfl ?_
    refine tt_op rfl rfl ?_
    refine tt_op rfl rfl ?_
    refine tt_op rfl rfl ?_
    rw [xup_comm (show (7 : Nat) ≠ 5 by omega)]
    refine c_join_row (h := xup h 5 (huC F E (CB' ||| (f i).2.2.2.1) six)) (f i) hv (ad i) i (sd + (f i).2.2.2.2.1) _ (by omega) (by rw [xup_n (by omega)]; exact o1) (by rw [xup_n (by omega)]; exact r1) xup_s (fun _ _ _ _ => trivial) (f i).2.2.2.2.1 0 b _ _ (by omega) (fun l5 l6 => ?_)
    rw [xup_comm (show (5 : Nat) ≠ 7 by omega)]
    refine z_iinc rfl rfl rfl ?_
    refine tt_goto rfl ?_
    have hle := hv.2.2.2.2.1
    exact ih (i + 1) _ _ _ _ _ _ _ (by omega) (bits_or hcb hv.2.2.2.1) (by omega)
set_option maxRecDepth 10000 in
theorem c_join (h5 : h 5 = some (huC F E CB six)) (H : xHf h ad f) (hF : F ≤ 24) (b0 : Nat → Nat) (h7 : h 7 = some (bA b0)) : xCall xmX1_join 2 0 0 [.ref 5] n h (fun r n' h' => r = none ∧ n' = n ∧ ∃ b, (∀ j, j < 14 → b j = (jnR f F 0 0 0 (fun _ => 0)).2.2 j) ∧ h' = xup (xup h 7 (bA b)) 5 (huC F ((jnR f F 0 0 0 (fun _ => 0)).2.1 / 2) (jnR f F 0 0 0 (fun _ => 0)).1 six)) := by
  refine xCall.of xgX1_join rfl ?_
  refine tt_op rfl rfl ?_
  refine tt_op rfl rfl ?_
  rw [← xup_same h7]
  refine c_join_zero h5 _ none none none none none (fun b hb => ?_) 14 0 b0 rfl (fun j hj => absurd hj (by omega))
  refine tt_op rfl rfl ?_
  refine tt_op rfl rfl ?_
  refine tt_put rfl (by rw [xup_n (by omega)]; exact h5) rfl (by decide) (by rfl) (by rfl) rfl ?_
  refine tt_op rfl rfl ?_
  refine tt_op rfl rfl ?_
  refine tt_op rfl rfl ?_
  refine tt_op rfl rfl ?_
  obtain ⟨e1, e2, e3⟩ := jnR_ag f F 0 0 0 b (fun _ => 0) (fun j hj => H.2.2.2.2 j (by omega)) hb
  refine xT.mono (c_join_loop (E := E) (six := six) H hF F 0 0 0 b none none none none (by omega) (by decide) (by omega)) (fun r n' h' hq => ?_)
  obtain ⟨rfl, rfl, rfl⟩ := hq
  refine ⟨rfl, rfl, _, e3, ?_⟩
  rw [e1, e2, xup_same h7]
end JN
end
section
/-! The weight, and the whole building -/
abbrev mA (mo : Nat → Int) : xE := zL 3 mo
/-- one body with point 0 -/
def wPt (P : Nat → V3) (p q r : Nat) : Int := -bxs P p q r 0
def wMo (P : Nat → V3) (p q r : Nat) (mo : Nat → Int) : Nat → Int := fun ax => if ax < 3 then mo ax + wPt P p q r * (vax (P p) ax + vax (P q) ax + vax (P r) ax + vax (P 0) ax) else mo ax
theorem vax_bd {u : V3} (hu : vbd 20 u) (ax : Nat) : -20 ≤ vax u ax ∧ vax u ax ≤ 20 := by
  obtain ⟨h1, h2, h3⟩ := hu
  unfold vax
  split
  · exact h1
  · split
    · exact h2
    · exact h3
section WG
variable {h : xHp} {m : Nat} {P : Nat → V3} {n : Nat} {ad : Nat → Nat} {f : Nat → FD} {F E CB : Nat} {six : Int}
set_option maxRecDepth 10000 in
set_option maxHeartbeats 1000000 in
theorem c_weigh1_loop (HC : xCl h m P) (p q r : Nat) (hp : p < 14) (hq : q < 14) (hr : r < 14) (h5 : h 5 = some (huC F E CB six)) (mo0 : Nat → Int) : ∀ (k ax : Nat) (mo : Nat → Int) (l7 : Option Value), ax + k = 3 → (∀ j, j < ax → mo j = wMo P p q r mo0 j) → (∀ j, ax ≤ j → mo j = mo0 j) → xT xmX1_weighOne (4, 0, 0, 0, 0) 28 [some (.ref 5), some (zI p), some (zI q), some (zI r), some (zJ (wPt P p q r)), none, some (zI ax), l7] [] n (xup h 8 (mA mo)) (fun res n' h' => res = none ∧ n' = n ∧ h' = xup h 8 (mA (wMo P p q r mo0))) := by
  have hb := HC.2.2.2.2.2
  intro k
  induction k with
  | zero =>
    intro ax mo l7 hax h1 h2
    refine tt_op rfl rfl ?_
    refine tt_op rfl rfl ?_
    refine z_icmp rfl (by first | assumption | (unfold R3; omega)) (by first | assumption | (unfold R3; omega)) (fun c => ?_) (fun c => absurd (by simp only [zcd] <;> omega) c)
    refine tt_return rfl rfl (Nat.le_of_ble_eq_true rfl) (Nat.le_of_ble_eq_true rfl) ?_
    refine ⟨rfl, rfl, ?_⟩
    congr 2
    have e : mo = wMo P p q r mo0 := by
      funext j
      rcases Nat.lt_or_ge j ax with z | z
      · exact h1 j z
      · rw [h2 j z]; unfold wMo; rw [if_neg (by omega)]
    rw [e]
  | succ k ih =>
    intro ax mo l7 hax h1 h2
    have K := xCl_up (e := mA mo) (show 5 ≤ 8 by omega) HC
    have k1 := K.1
    have h5' : xup h 8 (mA mo) 5 = some (huC F E CB six) := by rw [xup_n (by omega)]; exact h5
    have b1 := vax_bd (hb p hp) ax
    have b2 := vax_bd (hb q hq) ax
    have b3 := vax_bd (hb r hr) ax
    have b4 := vax_bd (hb 0 (by omega)) ax
    refine tt_op rfl rfl ?_
    refine tt_op rfl rfl ?_
    refine z_icmp rfl (by first | assumption | (unfold R3; omega)) (by first | assumption | (unfold R3; omega)) (fun c => absurd c (by simp only [zcd] <;> omega)) (fun c => ?_)
    refine tt_op rfl rfl ?_
    refine tt_get rfl (by assumption) (by rfl) ?_
    refine tt_op rfl rfl ?_
    refine tt_op rfl rfl ?_
    refine tt_pV rfl rfl rfl k1 rfl (c_number K p ax hp (by omega)) ?_
    refine tt_op rfl rfl ?_
    refine tt_get rfl (by assumption) (by rfl) ?_
    refine tt_op rfl rfl ?_
    refine tt_op rfl rfl ?_
    refine tt_pV rfl rfl rfl k1 rfl (c_number K q ax hq (by omega)) ?_
    refine z_iadd rfl ?_
    refine tt_op rfl rfl ?_
    refine tt_get rfl (by assumption) (by rfl) ?_
    refine tt_op rfl rfl ?_
    refine tt_op rfl rfl ?_
    refine tt_pV rfl rfl rfl k1 rfl (c_number K r ax hr (by omega)) ?_
    refine z_iadd rfl ?_
    refine tt_op rfl rfl ?_
    refine tt_op rfl rfl ?_
    refine tt_get rfl (by assumption) (by rfl) ?_
    refine tt_op rfl rfl ?_
    refine tt_op rfl rfl ?_
    refine z_lald rfl xup_s rfl (by omega) (by decide) ?_
    refine tt_op rfl rfl ?_
    refine tt_op rfl rfl ?_
    refine tt_op rfl rfl ?_
    refine tt_get rfl (by assumption) (by rfl) ?_
    refine tt_op rfl rfl ?_
    refine tt_op rfl rfl ?_
    refine tt_pV rfl rfl rfl k1 rfl (c_number K 0 ax (by omega) (by omega)) ?_
    refine z_iadd rfl ?_
    refine z_il rfl (by first | assumption | (unfold R3; omega)) ?_
    refine z_lmul rfl ?_
    refine z_ladd rfl ?_
    refine z_last rfl xup_s rfl (by omega) (by decide) ?_
    rw [xup_xup]
    refine z_iinc rfl rfl rfl ?_
    refine tt_goto rfl ?_
    refine ih (ax + 1) _ _ (by omega) (fun j hj => ?_) (fun j hj => ?_)
    · unfold zup
      by_cases e : j = ax
      · rw [if_pos e, e, h2 ax (by omega)]
        unfold wMo
        rw [if_pos (by omega)]
      · rw [if_neg e]; exact h1 j (by omega)
    · unfold zup
      rw [if_neg (by omega)]; exact h2 j (by omega)
set_option maxRecDepth 10000 in
theorem c_weighOne (HC : xCl h m P) (p q r : Nat) (hp : p < 14) (hq : q < 14) (hr : r < 14) (h5 : h 5 = some (huC F E CB six)) (mo : Nat → Int) (h8 : h 8 = some (mA mo)) : xCall xmX1_weighOne 4 0 0 [.ref 5, zI p, zI q, zI r] n h (fun res n' h' => res = none ∧ n' = n ∧ h' = xup (xup h 8 (mA (wMo P p q r mo))) 5 (huC F E CB (six + wPt P p q r))) := by
  refine xCall.of xgX1_weighOne rfl ?_
  have k1 := HC.1
  refine tt_op rfl rfl ?_
  refine tt_get rfl (by assumption) (by rfl) ?_
  refine tt_op rfl rfl ?_
  refine tt_op rfl rfl ?_
  refine tt_op rfl rfl ?_
  refine tt_op rfl rfl ?_
  refine tt_pV rfl rfl rfl k1 rfl (c_box HC p q r 0 hp hq hr (by omega)) ?_
  refine z_lneg rfl ?_
  refine tt_op rfl rfl ?_
  refine tt_op rfl rfl ?_
  refine tt_op rfl rfl ?_
  refine tt_get rfl (by assumption) (by rfl) ?_
  refine tt_op rfl rfl ?_
  refine z_ladd rfl ?_
  refine tt_put rfl (h5) rfl (by decide) (by rfl) (by rfl) rfl ?_
  refine tt_op rfl rfl ?_
  refine tt_op rfl rfl ?_
  have K := xCl_up (e := huC F E CB (six + wPt P p q r)) (show 5 ≤ 5 by omega) HC
  have := c_weigh1_loop (n := n) K p q r hp hq hr xup_s mo 3 0 mo none rfl (fun j hj => absurd hj (by omega)) (fun _ _ => rfl)
  rw [xup_same (show xup h 5 (huC F E CB (six + wPt P p q r)) 8 = some (mA mo) by rw [xup_n (by omega)]; exact h8)] at this
  refine xT.mono this (fun res n' h' hq => ?_)
  obtain ⟨rfl, rfl, rfl⟩ := hq
  exact ⟨rfl, rfl, xup_comm (by omega)⟩
/-- the weight of one face, then of all -/
def wgK (P : Nat → V3) (x : FD) : Nat → Nat → Int → (Nat → Int) → Int × (Nat → Int)
  | 0, _, s, mo => (s, mo)
  | j + 1, k, s, mo => wgK P x j (k + 1) (s + wPt P (x.2.2.2.2.2 0) (x.2.2.2.2.2 (k - 1)) (x.2.2.2.2.2 k)) (wMo P (x.2.2.2.2.2 0) (x.2.2.2.2.2 (k - 1)) (x.2.2.2.2.2 k) mo)
def wgR (P : Nat → V3) (f : Nat → FD) : Nat → Nat → Int → (Nat → Int) → Int × (Nat → Int)
  | 0, _, s, mo => (s, mo)
  | k + 1, i, s, mo => wgR P f k (i + 1) (wgK P (f i) ((f i).2.2.2.2.1 - 2) 2 s mo).1 (wgK P (f i) ((f i).2.2.2.2.1 - 2) 2 s mo).2
set_option maxRecDepth 10000 in
set_option maxHeartbeats 1000000 in
theorem c_weigh_row (HC : xCl h m P) (x : FD) (hx : fdV x) (o i : Nat) (Q : xQt) (ho9 : 9 ≤ o) (ho : h o = some (fdC x (o + 1))) (hr : h (o + 1) = some (fdA x)) :
    ∀ (j k : Nat) (s : Int) (mo : Nat → Int), 2 ≤ k → k + j = max x.2.2.2.2.1 2 → (xT xmX1_weigh (5, 0, 0, 0, 0) 95 [some (.ref 5), some (zI i), some (.ref o), some (zI (k + j : Nat))] [] n (xup (xup h 8 (mA (wgK P x j k s mo).2)) 5 (huC F E CB (wgK P x j k s mo).1)) Q) → xT xmX1_weigh (5, 0, 0, 0, 0) 51 [some (.ref 5), some (zI i), some (.ref o), some (zI k)] [] n (xup (xup h 8 (mA mo)) 5 (huC F E CB s)) Q := by
  obtain ⟨v1, v2, v3, v4, v5, v6⟩ := hx
  intro j
  induction j with
  | zero =>
    intro k s mo hk2 hk hfin
    have ho' : xup (xup h 8 (mA mo)) 5 (huC F E CB s) o = some (fdC x (o + 1)) := by rw [xup_n (by omega), xup_n (by omega)]; exact ho
    refine tt_op rfl rfl ?_
    refine tt_op rfl rfl ?_
    refine tt_get rfl (by assumption) (by rfl) ?_
    refine z_icmp rfl (by first | assumption | (unfold R3; omega)) (by first | assumption | (unfold R3; omega)) (fun c => ?_) (fun c => absurd (by simp only [zcd] <;> omega) c)
    exact hfin
  | succ j ih =>
    intro k s mo hk2 hk hfin
    have ho' : xup (xup h 8 (mA mo)) 5 (huC F E CB s) o = some (fdC x (o + 1)) := by rw [xup_n (by omega), xup_n (by omega)]; exact ho
    have hr' : xup (xup h 8 (mA mo)) 5 (huC F E CB s) (o + 1) = some (fdA x) := by rw [xup_n (by omega), xup_n (by omega)]; exact hr
    have K := xCl_up (e := huC F E CB s) (show 5 ≤ 5 by omega) (xCl_up (e := mA mo) (show 5 ≤ 8 by omega) HC)
    have h5' := (xup_s : xup (xup h 8 (mA mo)) 5 (huC F E CB s) 5 = _)
    have h8' : xup (xup h 8 (mA mo)) 5 (huC F E CB s) 8 = some (mA mo) := by rw [xup_n (by omega)]; exact xup_s
    refine tt_op rfl rfl ?_
    refine tt_op rfl rfl ?_
    refine tt_get rfl (by assumption) (by rfl) ?_
    refine z_icmp rfl (by first | assumption | (unfold R3; omega)) (by first | assumption | (unfold R3; omega)) (fun c => absurd c (by simp only [zcd] <;> omega)) (fun c => ?_)
    refine tt_op rfl rfl ?_
    refine tt_op rfl rfl ?_
    refine z_icmp rfl (by first | assumption | (unfold R3; omega)) (by first | assumption | (unfold R3; omega)) (fun c => absurd c (by simp only [zcd] <;> omega)) (fun c => ?_)
    refine tt_op rfl rfl ?_
    refine tt_op rfl rfl ?_
    refine tt_get rfl ho' (by rfl) ?_
    refine tt_op rfl rfl ?_
    refine z_iald (j := 0) rfl hr' rfl (by omega) (by decide) ?_
    refine tt_op rfl rfl ?_
    refine tt_get rfl ho' (by rfl) ?_
    refine tt_op rfl rfl ?_
    refine tt_op rfl rfl ?_
    refine z_isub rfl ?_
    refine z_iald (j := k - 1) rfl hr' (by omega) (by omega) (by decide) ?_
    refine tt_op rfl rfl ?_
    refine tt_get rfl (by assumption) (by rfl) ?_
    refine tt_op rfl rfl ?_
    refine z_iald rfl (by assumption) rfl (by omega) (by decide) ?_
    refine tt_callV (M' := xmX1_weighOne) rfl rfl rfl h5' rfl (c_weighOne K _ _ _ (v6 0 (by omega)) (v6 (k - 1) (by omega)) (v6 k (by omega)) h5' mo h8') ?_
    rintro res n1 h1 ⟨rfl, rfl, rfl⟩
    rw [xup_comm (show (5 : Nat) ≠ 8 by omega), xup_xup, xup_xup]
    refine z_iinc rfl rfl rfl ?_
    refine tt_goto rfl ?_
    refine ih (k + 1) _ _ (by omega) (by omega) ?_
    rw [show k + 1 + j = k + (j + 1) by omega]
    exact hfin
set_option maxRecDepth 10000 in
set_option maxHeartbeats 1000000 in
theorem c_weigh_loop (HC : xCl h m P) (H : xHf h ad f) (hF : F ≤ 24) : ∀ (k i : Nat) (s : Int) (mo : Nat → Int) (l2 l3 : Option Value), i + k = F → xT xmX1_weigh (5, 0, 0, 0, 0) 28 [some (.ref 5), some (zI i), l2, l3] [] n (xup (xup h 8 (mA mo)) 5 (huC F E CB s)) (fun r n' h' => r = none ∧ n' = n ∧ h' = xup (xup h 8 (mA (wgR P f k i s mo).2)) 5 (huC F E CB (wgR P f k i s mo).1)) := by
  obtain ⟨⟨rd, g6, grd⟩, gA, gI, gC, gV⟩ := H
  intro k
  induction k with
  | zero =>
    intro i s mo l2 l3 hi
    have h5' := (xup_s : xup (xup h 8 (mA mo)) 5 (huC F E CB s) 5 = _)
    refine tt_op rfl rfl ?_
    refine tt_op rfl rfl ?_
    refine tt_get rfl (by assumption) (by rfl) ?_
    refine z_icmp rfl (by first | assumption | (unfold R3; omega)) (by first | assumption | (unfold R3; omega)) (fun c => ?_) (fun c => absurd (by simp only [zcd] <;> omega) c)
    refine tt_return rfl rfl (Nat.le_of_ble_eq_true rfl) (Nat.le_of_ble_eq_true rfl) ?_
    exact ⟨rfl, rfl, rfl⟩
  | succ k ih =>
    intro i s mo l2 l3 hi
    have h5' := (xup_s : xup (xup h 8 (mA mo)) 5 (huC F E CB s) 5 = _)
    have hAi := gA i (by omega)
    obtain ⟨o1, r1⟩ := gC i (by omega)
    have hv := gV i (by omega)
    have hle := hv.2.2.2.2.1
    have h6' : xup (xup h 8 (mA mo)) 5 (huC F E CB s) 6 = some (zR 24 rd) := by rw [xup_n (by omega), xup_n (by omega)]; exact g6
    refine tt_op rfl rfl ?_
    refine tt_op rfl rfl ?_
    refine tt_get rfl (by assumption) (by rfl) ?_
    refine z_icmp rfl (by first | assumption | (unfold R3; omega)) (by first | assumption | (unfold R3; omega)) (fun c => absurd c (by simp only [zcd] <;> omega)) (fun c => ?_)
    refine tt_op rfl rfl ?_
    refine tt_op rfl rfl ?_
    refine z_icmp rfl (by first | assumption | (unfold R3; omega)) (by first | assumption | (unfold R3; omega)) (fun c => absurd c (by simp only [zcd] <;> omega)) (fun c => ?_)
    refine tt_op rfl rfl ?_
    refine tt_get rfl (by assumption) (by rfl) ?_
    refine tt_op rfl rfl ?_
    refine z_aald rfl h6' rfl (by omega) (by decide) (grd i (by omega)) ?_
    refine tt_op rfl rfl ?_
    refine tt_op rfl rfl ?_
    refine tt_op rfl rfl ?_
    refine c_weigh_row HC (f i) hv (ad i) i _ (by omega) o1 r1 ((f i).2.2.2.2.1 - 2) 2 s mo (by omega) (by omega) ?_
    refine z_iinc rfl rfl rfl ?_
    refine tt_goto rfl ?_
    exact ih (i + 1) _ _ _ _ (by omega)
set_option maxRecDepth 10000 in
theorem c_weigh (h5 : h 5 = some (huC F E CB six)) (HC : xCl h m P) (H : xHf h ad f) (hF : F ≤ 24) (mo0 : Nat → Int) (h8 : h 8 = some (mA mo0)) : xCall xmX1_weigh 5 0 0 [.ref 5] n h (fun r n' h' => r = none ∧ n' = n ∧ ∃ mo : Nat → Int, (∀ j, j < 3 → mo j = 0) ∧ h' = xup (xup h 8 (mA (wgR P f F 0 0 mo).2)) 5 (huC F E CB (wgR P f F 0 0 mo).1)) := by
  refine xCall.of xgX1_weigh rfl ?_
  refine tt_op rfl rfl ?_
  refine tt_op rfl rfl ?_
  refine tt_put rfl (h5) rfl (by decide) (by rfl) (by rfl) rfl ?_
  have g8 : xup h 5 (huC F E CB 0) 8 = some (mA mo0) := by rw [xup_n (by omega)]; exact h8
  refine tt_op rfl rfl ?_
  refine tt_get rfl xup_s (by rfl) ?_
  refine tt_op rfl rfl ?_
  refine tt_op rfl rfl ?_
  refine z_last (j := 0) rfl g8 rfl (by omega) (by decide) ?_
  refine tt_op rfl rfl ?_
  refine tt_get rfl (show xup (xup h 5 (huC F E CB 0)) 8 _ 5 = some (huC F E CB 0) by rw [xup_n (by omega)]; exact xup_s) (by rfl) ?_
  refine tt_op rfl rfl ?_
  refine tt_op rfl rfl ?_
  refine z_last (j := 1) rfl xup_s rfl (by omega) (by decide) ?_
  rw [xup_xup]
  refine tt_op rfl rfl ?_
  refine tt_get rfl (show xup (xup h 5 (huC F E CB 0)) 8 _ 5 = some (huC F E CB 0) by rw [xup_n (by omega)]; exact xup_s) (by rfl) ?_
  refine tt_op rfl rfl ?_
  refine tt_op rfl rfl ?_
  refine z_last (j := 2) rfl xup_s rfl (by omega) (by decide) ?_
  rw [xup_xup, xup_comm (show (5 : Nat) ≠ 8 by omega)]
  refine tt_op rfl rfl ?_
  refine tt_op rfl rfl ?_
  refine xT.mono (c_weigh_loop (E := E) (CB := CB) HC H hF F 0 0 (zup (zup (zup mo0 0 0) 1 0) 2 0) none none (by omega)) (fun r n' h' hq => ?_)
  obtain ⟨rfl, rfl, rfl⟩ := hq
  refine ⟨rfl, rfl, _, fun j hj => ?_, rfl⟩
  unfold zup
  split
  · rfl
  · split
    · rfl
    · split
      · rfl
      · omega
end WG
end
section
/-! The building, by its mirror -/
/-- alike, as far as the row goes -/
def feq (x y : FD) : Prop := x.1 = y.1 ∧ x.2.1 = y.2.1 ∧ x.2.2.1 = y.2.2.1 ∧ x.2.2.2.1 = y.2.2.2.1 ∧ x.2.2.2.2.1 = y.2.2.2.2.1 ∧ ∀ k, k < x.2.2.2.2.1 → x.2.2.2.2.2 k = y.2.2.2.2.2 k
theorem feq.rf (x : FD) : feq x x := ⟨rfl, rfl, rfl, rfl, rfl, fun _ _ => rfl⟩
theorem feq.tr {x y z : FD} (h : feq x y) (h' : feq y z) : feq x z := by
  obtain ⟨a1, a2, a3, a4, a5, a6⟩ := h
  obtain ⟨b1, b2, b3, b4, b5, b6⟩ := h'
  exact ⟨a1.trans b1, a2.trans b2, a3.trans b3, a4.trans b4, a5.trans b5, fun k hk => (a6 k hk).trans (b6 k (by rw [← a5]; exact hk))⟩
theorem ldR_ag {ra rb ra' rb' : Nat → Int} {la lb : Nat} (ha : ∀ k, k < la → ra k = ra' k) (hb : ∀ k, k < lb → rb k = rb' k) : ∀ (f k : Nat), ldR ra rb la lb f k = ldR ra' rb' la lb f k
  | 0, k => rfl
  | f + 1, k => by
    unfold ldR
    by_cases h : la ≤ k ∨ lb ≤ k
    · rw [if_pos h, if_pos h]
    · rw [if_neg h, if_neg h, ha k (by omega), hb k (by omega), ldR_ag ha hb f (k + 1)]
theorem fld_ag {x y x' y' : FD} (h1 : feq x x') (h2 : feq y y') : fld x y = fld x' y' := by
  obtain ⟨-, -, -, -, a5, a6⟩ := h1
  obtain ⟨-, -, -, -, b5, b6⟩ := h2
  unfold fld
  rw [← a5, ← b5]
  exact ldR_ag (fun k hk => by rw [a6 k hk]) (fun k hk => by rw [b6 k hk]) 14 0
theorem stR_ag : ∀ (k : Nat) (f g : Nat → FD), (∀ i, i ≤ k → feq (f i) (g i)) → ∀ i, i ≤ k → feq (stR f k i) (stR g k i)
  | 0, f, g, h, i, hi => h i hi
  | k + 1, f, g, h, i, hi => by
    unfold stR
    rw [← fld_ag (h (k + 1) (by omega)) (h k (by omega))]
    split
    · rcases Nat.lt_or_ge k i with z | z
      · have hi' : i = k + 1 := by omega
        subst hi'
        have out : ∀ (f : Nat → FD), stR (sw2 f k) k (k + 1) = f k := by
          intro f
          have gen : ∀ (j : Nat) (f : Nat → FD) (i : Nat), j < i → stR f j i = f i := by
            intro j
            induction j with
            | zero => intro f i hi; rfl
            | succ j ih =>
              intro f i hi
              unfold stR
              split
              · rw [ih _ i (by omega)]
                unfold sw2
                rw [if_neg (by omega), if_neg (by omega)]
              · rfl
          rw [gen k _ (k + 1) (by omega)]
          unfold sw2
          rw [if_neg (by omega), if_pos rfl]
        rw [out, out]
        exact h k (by omega)
      · refine stR_ag k _ _ (fun j hj => ?_) i z
        unfold sw2
        by_cases e : j = k
        · rw [if_pos e, if_pos e]; exact h (k + 1) (by omega)
        · rw [if_neg e, if_neg e, if_neg (by omega), if_neg (by omega)]; exact h j (by omega)
    · exact h i hi
theorem knR_ag {f g : Nat → FD} {w : Nat} : ∀ (k i : Nat), (∀ j, j < i + k → feq (f j) (g j)) → knR f w k i = knR g w k i
  | 0, i, h => rfl
  | k + 1, i, h => by
    unfold knR
    rw [(h i (by omega)).2.2.1, knR_ag k (i + 1) (fun j hj => h j (by omega))]
theorem nfT_ag (P : Nat → V3) (d : V3) (S : Nat) (row row' : Nat → Nat) : (nfT P d S row).2 = (nfT P d S row').2 ∧ ∀ j, j < (nfT P d S row).2.2 → (nfT P d S row).1 j = (nfT P d S row').1 j := by
  have h1 := (trN_row P d S (rmF P d S) 14 0 (rmF P d S) row row' 0 (fun j hj => absurd hj (by omega))).1
  unfold nfT
  generalize trN P d S (rmF P d S) 14 0 (rmF P d S) row 0 = A at h1 ⊢
  generalize trN P d S (rmF P d S) 14 0 (rmF P d S) row' 0 = A' at h1 ⊢
  rw [h1]
  exact trN_row P d S (tz A'.2.1) 14 0 (tz A'.2.1) A.1 A'.1 0 (fun j hj => absurd hj (by omega))
theorem feq_mk {d : V3} {lv : Int} {S me le me' le' : Nat} {row row' : Nat → Nat} (h1 : me = me') (h2 : le = le') (h3 : ∀ k, k < le → row k = row' k) : feq (d, lv, S, me, le, row) (d, lv, S, me', le', row') := ⟨rfl, rfl, rfl, h1, h2, h3⟩
theorem nfD_mk {d : V3} {lv : Int} {S : Nat} {A A' : (Nat → Nat) × Nat × Nat} (h1 : A.2 = A'.2) (h3 : ∀ k, k < A.2.2 → A.1 k = A'.1 k) : feq (d, lv, S, A.2.1, A.2.2, A.1) (d, lv, S, A'.2.1, A'.2.2, A'.1) := feq_mk (by rw [h1]) (by rw [h1]) h3
theorem nfD_ag (P : Nat → V3) (m p q r : Nat) (row row' : Nat → Nat) : feq (nfD P m p q r row) (nfD P m p q r row') := nfD_mk (nfT_ag P (fcD P m p q r) (fcS P m p q r).2 row row').1 (nfT_ag P (fcD P m p q r) (fcS P m p q r).2 row row').2
/-- the mirror of one step -/
def tfC (P : Nat → V3) (m p q r : Nat) (s : Nat × (Nat → FD)) : Nat × (Nat → FD) := if 24 ≤ s.1 ∨ knR s.2 (2 ^ p ||| 2 ^ q ||| 2 ^ r) s.1 0 = true then s else if gcd3 (nrm P p q r) ≠ 0 ∧ ((fcS P m p q r).1 = 1 ∨ (fcS P m p q r).1 = 2) then (s.1 + 1, stR (nup s.2 s.1 (nfD P m p q r (fun _ => 0))) s.1) else s
theorem tf_ag {P : Nat → V3} {m p q r F : Nat} {f g : Nat → FD} (h : ∀ i, i < F → feq (f i) (g i)) : (tfS P m p q r F f).1 = (tfC P m p q r (F, g)).1 ∧ ∀ i, i < (tfS P m p q r F f).1 → feq ((tfS P m p q r F f).2 i) ((tfC P m p q r (F, g)).2 i) := by
  unfold tfS tfC
  dsimp only
  rw [← knR_ag (f := f) (g := g) F 0 (fun j hj => h j (by omega))]
  split
  · exact ⟨rfl, h⟩
  · split
    · refine ⟨rfl, fun i hi => stR_ag F _ _ (fun j hj => ?_) i (by have : i < F + 1 := hi; omega)⟩
      unfold nup
      split
      · exact nfD_ag P m p q r _ _
      · exact h j (by omega)
    · exact ⟨rfl, h⟩
theorem tfC_le {P : Nat → V3} {m p q r : Nat} {s : Nat × (Nat → FD)} (h : s.1 ≤ 24) : (tfC P m p q r s).1 ≤ 24 := by
  unfold tfC
  split
  · exact h
  · split
    · show s.1 + 1 ≤ 24; omega
    · exact h
def pR (P : Nat → V3) (m q r : Nat) : Nat → Nat → Nat × (Nat → FD) → Nat × (Nat → FD)
  | 0, _, s => s
  | k + 1, p, s => pR P m q r k (p + 1) (tfC P m p q r s)
def qR (P : Nat → V3) (m r : Nat) : Nat → Nat → Nat × (Nat → FD) → Nat × (Nat → FD)
  | 0, _, s => s
  | k + 1, q, s => qR P m r k (q + 1) (pR P m q r q 0 s)
def rR (P : Nat → V3) (m : Nat) : Nat → Nat → Nat × (Nat → FD) → Nat × (Nat → FD)
  | 0, _, s => s
  | k + 1, r, s => rR P m k (r + 1) (qR P m r (r - 1) 1 s)
/-- all faces of the points -/
def blF (P : Nat → V3) (m : Nat) : Nat × (Nat → FD) := rR P m (m - 2) 2 (0, fun _ => ((0, 0, 0), 0, 0, 0, 0, fun _ => 0))
def bI (E CB : Nat) (six : Int) (h0 h : xHp) (s : Nat × (Nat → FD)) : Prop := h 5 = some (huC s.1 E CB six) ∧ s.1 ≤ 24 ∧ (∃ ad f, xHf h ad f ∧ ∀ i, i < s.1 → feq (f i) (s.2 i)) ∧ ∀ j, (j < 5 ∨ j = 7 ∨ j = 8 ∨ 57 ≤ j) → h j = h0 j
section BL
variable {h0 : xHp} {m : Nat} {P : Nat → V3} {n : Nat} {E CB : Nat} {six : Int}
theorem bI_cl {h : xHp} {s : Nat × (Nat → FD)} (HC : xCl h0 m P) (B : bI E CB six h0 h s) : xCl h m P := by
  obtain ⟨c1, c2, c3, c4, c5⟩ := HC
  have e := B.2.2.2
  exact ⟨by rw [e 1 (by omega)]; exact c1, by rw [e 2 (by omega)]; exact c2, by rw [e 3 (by omega)]; exact c3, by rw [e 4 (by omega)]; exact c4, c5⟩
set_option maxRecDepth 10000 in
theorem c_build_p (HC : xCl h0 m P) (q r : Nat) (hq : q < m) (hr : r < m) (Q : xQt) : ∀ (k p : Nat) (h : xHp) (s : Nat × (Nat → FD)), p + k = q → bI E CB six h0 h s → (∀ h', bI E CB six h0 h' (pR P m q r k p s) → xT xmX1_build (7, 0, 0, 0, 0) 45 [some (.ref 5), some (zI r), some (zI q), some (zI q)] [] n h' Q) → xT xmX1_build (7, 0, 0, 0, 0) 27 [some (.ref 5), some (zI r), some (zI q), some (zI p)] [] n h Q := by
  have hm := HC.2.2.2.2.1
  intro k
  induction k with
  | zero =>
    intro p h s hk hB hfin
    have : p = q := by omega
    subst this
    refine tt_op rfl rfl ?_
    refine tt_op rfl rfl ?_
    refine z_icmp rfl (by first | assumption | (unfold R3; omega)) (by first | assumption | (unfold R3; omega)) (fun c => ?_) (fun c => absurd (by simp only [zcd] <;> omega) c)
    exact hfin h hB
  | succ k ih =>
    intro p h s hk hB hfin
    have K := bI_cl HC hB
    obtain ⟨h5, hs, ⟨ad, f, H, hfe⟩, ho⟩ := hB
    refine tt_op rfl rfl ?_
    refine tt_op rfl rfl ?_
    refine z_icmp rfl (by first | assumption | (unfold R3; omega)) (by first | assumption | (unfold R3; omega)) (fun c => absurd c (by simp only [zcd] <;> omega)) (fun c => ?_)
    refine tt_op rfl rfl ?_
    refine tt_op rfl rfl ?_
    refine tt_op rfl rfl ?_
    refine tt_op rfl rfl ?_
    refine tt_callV (M' := xmX1_tryFace) rfl rfl rfl h5 rfl (c_tryFace h5 K H hs p q r (by omega) hq hr) ?_
    rintro res n1 h1 ⟨rfl, rfl, g5, ⟨ad', f', H', hf'⟩, ho'⟩
    obtain ⟨t1, t2⟩ := tf_ag (P := P) (m := m) (p := p) (q := q) (r := r) hfe
    refine z_iinc rfl rfl rfl ?_
    refine tt_goto rfl ?_
    refine ih (p + 1) h1 (tfC P m p q r s) (by omega) ⟨by rw [g5, t1], tfC_le hs, ⟨ad', f', H', fun i hi => ?_⟩, fun j hj => (ho' j hj).trans (ho j hj)⟩ hfin
    have hi' : i < (tfS P m p q r s.1 f).1 := by rw [t1]; exact hi
    rw [hf' i hi']
    exact t2 i hi'
set_option maxRecDepth 10000 in
theorem c_build_q (HC : xCl h0 m P) (r : Nat) (hr : r < m) (Q : xQt) : ∀ (k q : Nat) (h : xHp) (s : Nat × (Nat → FD)) (l3 : Option Value), q + k = r → bI E CB six h0 h s → (∀ h' l3, bI E CB six h0 h' (qR P m r k q s) → xT xmX1_build (7, 0, 0, 0, 0) 51 [some (.ref 5), some (zI r), some (zI r), l3] [] n h' Q) → xT xmX1_build (7, 0, 0, 0, 0) 20 [some (.ref 5), some (zI r), some (zI q), l3] [] n h Q := by
  have hm := HC.2.2.2.2.1
  intro k
  induction k with
  | zero =>
    intro q h s l3 hk hB hfin
    have : q = r := by omega
    subst this
    refine tt_op rfl rfl ?_
    refine tt_op rfl rfl ?_
    refine z_icmp rfl (by first | assumption | (unfold R3; omega)) (by first | assumption | (unfold R3; omega)) (fun c => ?_) (fun c => absurd (by simp only [zcd] <;> omega) c)
    exact hfin h l3 hB
  | succ k ih =>
    intro q h s l3 hk hB hfin
    refine tt_op rfl rfl ?_
    refine tt_op rfl rfl ?_
    refine z_icmp rfl (by first | assumption | (unfold R3; omega)) (by first | assumption | (unfold R3; omega)) (fun c => absurd c (by simp only [zcd] <;> omega)) (fun c => ?_)
    refine tt_op rfl rfl ?_
    refine tt_op rfl rfl ?_
    refine c_build_p HC q r (by omega) hr Q q 0 h s (by omega) hB (fun h' hB' => ?_)
    refine z_iinc rfl rfl rfl ?_
    refine tt_goto rfl ?_
    exact ih (q + 1) h' _ _ (by omega) hB' hfin
set_option maxRecDepth 10000 in
theorem c_build_r (HC : xCl h0 m P) (Q : xQt) : ∀ (k r : Nat) (h : xHp) (s : Nat × (Nat → FD)) (l2 l3 : Option Value), 2 ≤ r → r + k = max m 2 → bI E CB six h0 h s → (∀ h' (rv l2 l3 : Option Value), bI E CB six h0 h' (rR P m k r s) → xT xmX1_build (7, 0, 0, 0, 0) 57 [some (.ref 5), rv, l2, l3] [] n h' Q) → xT xmX1_build (7, 0, 0, 0, 0) 7 [some (.ref 5), some (zI r), l2, l3] [] n h Q := by
  have hm := HC.2.2.2.2.1
  intro k
  induction k with
  | zero =>
    intro r h s l2 l3 h2 hk hB hfin
    have h5 := hB.1
    have h1 := (bI_cl HC hB).1
    refine tt_op rfl rfl ?_
    refine tt_op rfl rfl ?_
    refine tt_get rfl (by assumption) (by rfl) ?_
    refine tt_get rfl (by assumption) (by rfl) ?_
    refine z_icmp rfl (by first | assumption | (unfold R3; omega)) (by first | assumption | (unfold R3; omega)) (fun c => ?_) (fun c => absurd (by simp only [zcd] <;> omega) c)
    exact hfin h _ l2 l3 hB
  | succ k ih =>
    intro r h s l2 l3 h2 hk hB hfin
    have h5 := hB.1
    have h1 := (bI_cl HC hB).1
    refine tt_op rfl rfl ?_
    refine tt_op rfl rfl ?_
    refine tt_get rfl (by assumption) (by rfl) ?_
    refine tt_get rfl (by assumption) (by rfl) ?_
    refine z_icmp rfl (by first | assumption | (unfold R3; omega)) (by first | assumption | (unfold R3; omega)) (fun c => absurd c (by simp only [zcd] <;> omega)) (fun c => ?_)
    refine tt_op rfl rfl ?_
    refine tt_op rfl rfl ?_
    refine c_build_q HC r (by omega) Q (r - 1) 1 h s l3 (by omega) hB (fun h' l3 hB' => ?_)
    refine z_iinc rfl rfl rfl ?_
    refine tt_goto rfl ?_
    exact ih (r + 1) h' _ _ _ (by omega) (by omega) hB' (fun h'' r' l2 l3 hB'' => hfin h'' r' l2 l3 hB'')
theorem bsK_fe {x y : FD} (h : feq x y) : ∀ (j k : Nat) (b : Nat → Nat), k + j ≤ x.2.2.2.2.1 → bsK x j k b = bsK y j k b
  | 0, k, b, hk => rfl
  | j + 1, k, b, hk => by
    obtain ⟨a1, a2, a3, a4, a5, a6⟩ := id h
    unfold bsK
    have e1 : nxk x k = nxk y k := by unfold nxk; rw [a5]
    have e2 : nxk x k < x.2.2.2.2.1 := by unfold nxk; split <;> omega
    rw [a6 k (by omega), ← e1, a6 (nxk x k) e2]
    exact bsK_fe h j (k + 1) _ (by omega)
theorem jnR_fe {f g : Nat → FD} : ∀ (k i cb sd : Nat) (b : Nat → Nat), (∀ j, j < i + k → feq (f j) (g j)) → jnR f k i cb sd b = jnR g k i cb sd b
  | 0, i, cb, sd, b, h => rfl
  | k + 1, i, cb, sd, b, h => by
    have e := h i (by omega)
    unfold jnR
    rw [e.2.2.2.1, bsK_fe e _ 0 b (by omega), e.2.2.2.2.1]
    exact jnR_fe k (i + 1) _ _ _ (fun j hj => h j (by omega))
theorem wgK_fe {x y : FD} (h : feq x y) : ∀ (j k : Nat) (s : Int) (mo : Nat → Int), (j = 0 ∨ (1 ≤ k ∧ k + j ≤ x.2.2.2.2.1)) → wgK P x j k s mo = wgK P y j k s mo
  | 0, k, s, mo, hk => rfl
  | j + 1, k, s, mo, hk => by
    obtain ⟨a1, a2, a3, a4, a5, a6⟩ := id h
    unfold wgK
    rw [a6 0 (by omega), a6 (k - 1) (by omega), a6 k (by omega)]
    exact wgK_fe h j (k + 1) _ _ (by omega)
theorem wgR_fe {f g : Nat → FD} : ∀ (k i : Nat) (s : Int) (mo : Nat → Int), (∀ j, j < i + k → feq (f j) (g j)) → wgR P f k i s mo = wgR P g k i s mo
  | 0, i, s, mo, h => rfl
  | k + 1, i, s, mo, h => by
    have e := h i (by omega)
    unfold wgR
    rw [wgK_fe e _ 2 s mo (by omega), e.2.2.2.2.1]
    exact wgR_fe k (i + 1) _ _ (fun j hj => h j (by omega))
theorem wgK_mo {x : FD} : ∀ (j k : Nat) (s : Int) (mo mo' : Nat → Int), (∀ i, i < 3 → mo i = mo' i) → (wgK P x j k s mo).1 = (wgK P x j k s mo').1 ∧ ∀ i, i < 3 → (wgK P x j k s mo).2 i = (wgK P x j k s mo').2 i
  | 0, k, s, mo, mo', h => ⟨rfl, h⟩
  | j + 1, k, s, mo, mo', h => wgK_mo j (k + 1) _ _ _ (fun i hi => by unfold wMo; rw [if_pos hi, if_pos hi, h i hi])
theorem wgR_mo {f : Nat → FD} : ∀ (k i : Nat) (s : Int) (mo mo' : Nat → Int), (∀ i, i < 3 → mo i = mo' i) → (wgR P f k i s mo).1 = (wgR P f k i s mo').1 ∧ ∀ j, j < 3 → (wgR P f k i s mo).2 j = (wgR P f k i s mo').2 j
  | 0, i, s, mo, mo', h => ⟨rfl, h⟩
  | k + 1, i, s, mo, mo', h => by
    obtain ⟨e1, e2⟩ := wgK_mo (P := P) (x := f i) ((f i).2.2.2.2.1 - 2) 2 s mo mo' h
    unfold wgR
    rw [e1]
    exact wgR_mo k (i + 1) _ _ _ e2
/-- what the hull holds of the points -/
def hCB (P : Nat → V3) (m : Nat) : Nat := (jnR (blF P m).2 (blF P m).1 0 0 0 (fun _ => 0)).1
def hE (P : Nat → V3) (m : Nat) : Nat := (jnR (blF P m).2 (blF P m).1 0 0 0 (fun _ => 0)).2.1 / 2
def hBs (P : Nat → V3) (m : Nat) : Nat → Nat := (jnR (blF P m).2 (blF P m).1 0 0 0 (fun _ => 0)).2.2
def hSix (P : Nat → V3) (m : Nat) : Int := (wgR P (blF P m).2 (blF P m).1 0 0 (fun _ => 0)).1
def hMo (P : Nat → V3) (m : Nat) : Nat → Int := (wgR P (blF P m).2 (blF P m).1 0 0 (fun _ => 0)).2
/-- the hull stands for these points -/
def xHu (h : xHp) (m : Nat) (P : Nat → V3) : Prop := h 5 = some (huC (blF P m).1 (hE P m) (hCB P m) (hSix P m)) ∧ (blF P m).1 ≤ 24 ∧ (∃ ad f, xHf h ad f ∧ ∀ i, i < (blF P m).1 → feq (f i) ((blF P m).2 i)) ∧ (∃ b, h 7 = some (bA b) ∧ ∀ j, j < 14 → b j = hBs P m j) ∧ ∃ mo, h 8 = some (mA mo) ∧ ∀ j, j < 3 → mo j = hMo P m j
set_option maxRecDepth 10000 in
theorem c_build (HC : xCl h0 m P) (F0 : Nat) (h5 : h0 5 = some (huC F0 E CB six)) (ad : Nat → Nat) (f : Nat → FD) (H : xHf h0 ad f) (b0 : Nat → Nat) (h7 : h0 7 = some (bA b0)) (mo0 : Nat → Int) (h8 : h0 8 = some (mA mo0)) : xCall xmX1_build 7 0 0 [.ref 5] n h0 (fun r n' h' => r = none ∧ n' = n ∧ xHu h' m P ∧ ∀ j, (j < 5 ∨ 57 ≤ j) → h' j = h0 j) := by
  have hm := HC.2.2.2.2.1
  refine xCall.of xgX1_build rfl ?_
  refine tt_op rfl rfl ?_
  refine tt_op rfl rfl ?_
  refine tt_put rfl (h5) rfl (by decide) (by rfl) (by rfl) rfl ?_
  refine tt_op rfl rfl ?_
  refine tt_op rfl rfl ?_
  refine c_build_r (E := E) (CB := CB) (six := six) (h0 := h0) HC _ (m - 2) 2 _ (0, fun _ => ((0, 0, 0), 0, 0, 0, 0, fun _ => 0)) none none (by omega) (by omega) ⟨xup_s, by decide, ⟨ad, f, xHf_up (by omega) H, fun i hi => absurd hi (by show ¬ i < 0; omega)⟩, fun j hj => xup_n (by omega)⟩ (fun h' r l2 l3 hB => ?_)
  have hB : bI E CB six h0 h' (blF P m) := hB
  have K := bI_cl HC hB
  obtain ⟨g5, hs, ⟨ad', f', H', hfe⟩, ho⟩ := hB
  have g7 : h' 7 = some (bA b0) := by rw [ho 7 (by omega)]; exact h7
  refine tt_op rfl rfl ?_
  refine tt_callV (M' := xmX1_join) rfl rfl rfl g5 rfl (c_join g5 H' hs b0 g7) ?_
  rintro res n1 h1 ⟨rfl, rfl, b, hb, rfl⟩
  have ej := jnR_fe (f := f') (g := (blF P m).2) (blF P m).1 0 0 0 (fun _ => 0) (fun j hj => hfe j (by omega))
  rw [ej] at hb ⊢
  have K2 := xCl_up (e := huC (blF P m).1 (hE P m) (hCB P m) six) (show 5 ≤ 5 by omega) (xCl_up (e := bA b) (show 5 ≤ 7 by omega) K)
  have H2 := xHf_up (e := huC (blF P m).1 (hE P m) (hCB P m) six) (q := 5) (by omega) (xHf_up (e := bA b) (q := 7) (by omega) H')
  have g5' := (xup_s : xup (xup h' 7 (bA b)) 5 (huC (blF P m).1 (hE P m) (hCB P m) six) 5 = _)
  have g8 : xup (xup h' 7 (bA b)) 5 (huC (blF P m).1 (hE P m) (hCB P m) six) 8 = some (mA mo0) := by rw [xup_n (by omega), xup_n (by omega), ho 8 (by omega)]; exact h8
  refine tt_op rfl rfl ?_
  refine tt_callV (M' := xmX1_weigh) rfl rfl rfl g5' rfl (c_weigh g5' K2 H2 hs mo0 g8) ?_
  rintro res2 n2 h2 ⟨rfl, rfl, mo, hmo, rfl⟩
  refine tt_return rfl rfl (Nat.le_of_ble_eq_true rfl) (Nat.le_of_ble_eq_true rfl) ?_
  have ew := wgR_fe (P := P) (f := f') (g := (blF P m).2) (blF P m).1 0 0 mo (fun j hj => hfe j (by omega))
  obtain ⟨e1, e2⟩ := wgR_mo (P := P) (f := (blF P m).2) (blF P m).1 0 0 mo (fun _ => 0) hmo
  rw [ew, e1]
  refine ⟨rfl, rfl, ⟨xup_s, hs, ⟨ad', f', xHf_up (by omega) (xHf_up (by omega) H2), hfe⟩, ⟨b, ?_, hb⟩, ⟨_, ?_, e2⟩⟩, fun j hj => ?_⟩
  · rw [xup_n (by omega), xup_n (by omega), xup_n (by omega)]; exact xup_s
  · rw [xup_n (by omega)]; exact xup_s
  · rw [xup_n (by omega), xup_n (by omega), xup_n (by omega), xup_n (by omega)]
    exact ho j (by omega)
end BL
end
section
/-! What the hull is asked -/
theorem dot_bd2 {u v : V3} {A B C : Int} (hu : vbd A u) (hv : vbd B v) (hC : 3 * (A * B) ≤ C) : -C ≤ dot u v ∧ dot u v ≤ C := by
  have := dot_bd hu hv
  omega
section QU
variable {h : xHp} {m : Nat} {P : Nat → V3} {n : Nat} {ad : Nat → Nat} {f : Nat → FD} {F E CB : Nat} {six : Int}
/-- 2 within, 1 on a face, 0 outside -/
def plR (f : Nat → FD) (u : V3) (dn : Int) : Nat → Nat → Nat → Nat
  | 0, _, v => v
  | k + 1, i, v => if 0 < dot (f i).1 u - (f i).2.1 * dn then 0 else plR f u dn k (i + 1) (if dot (f i).1 u - (f i).2.1 * dn = 0 then 1 else v)
set_option maxRecDepth 10000 in
set_option maxHeartbeats 1000000 in
theorem c_place_loop (h5 : h 5 = some (huC F E CB six)) (H : xHf h ad f) (hF : F ≤ 24) (u : V3) (dn : Int) (hu : vbd 100000 u) (hd : 0 ≤ dn ∧ dn ≤ 1000) : ∀ (k i v : Nat) (l11 l12 : Option Value), i + k = F → xT xmX1_place (1, 0, 0, 0, 0) 6 [some (.ref 5), some (zJ u.1), none, some (zJ u.2.1), none, some (zJ u.2.2), none, some (zJ dn), none, some (zI v), some (zI i), l11, l12, none] [] n h (fun r n' h' => r = some (zI (plR f u dn k i v)) ∧ n' = n ∧ h' = h) := by
  obtain ⟨⟨rd, g6, grd⟩, gA, gI, gC, gV⟩ := H
  intro k
  induction k with
  | zero =>
    intro i v l11 l12 hi
    refine tt_op rfl rfl ?_
    refine tt_op rfl rfl ?_
    refine tt_get rfl (by assumption) (by rfl) ?_
    refine z_icmp rfl (by first | assumption | (unfold R3; omega)) (by first | assumption | (unfold R3; omega)) (fun c => ?_) (fun c => absurd (by simp only [zcd] <;> omega) c)
    refine tt_op rfl rfl ?_
    refine tt_ireturn rfl rfl (by rfl) (Nat.le_of_ble_eq_true rfl) (Nat.le_of_ble_eq_true rfl) ?_
    exact ⟨rfl, rfl, rfl⟩
  | succ k ih =>
    intro i v l11 l12 hi
    obtain ⟨o1, r1⟩ := gC i (by omega)
    obtain ⟨v1, v2, -⟩ := gV i (by omega)
    have b1 := dot_bd v1 hu
    have b2 := mul_bd (A := 1000000) (B := 1000) v2 ⟨by omega, hd.2⟩
    have hR : R6 (dot (f i).1 u - (f i).2.1 * dn) := by unfold R6; omega
    unfold plR
    generalize hE : (if 0 < dot (f i).1 u - (f i).2.1 * dn then 0 else plR f u dn k (i + 1) (if dot (f i).1 u - (f i).2.1 * dn = 0 then 1 else v)) = E'
    refine tt_op rfl rfl ?_
    refine tt_op rfl rfl ?_
    refine tt_get rfl (by assumption) (by rfl) ?_
    refine z_icmp rfl (by first | assumption | (unfold R3; omega)) (by first | assumption | (unfold R3; omega)) (fun c => absurd c (by simp only [zcd] <;> omega)) (fun c => ?_)
    refine tt_op rfl rfl ?_
    refine tt_op rfl rfl ?_
    refine z_icmp rfl (by first | assumption | (unfold R3; omega)) (by first | assumption | (unfold R3; omega)) (fun c => absurd c (by simp only [zcd] <;> omega)) (fun c => ?_)
    refine tt_op rfl rfl ?_
    refine tt_get rfl (by assumption) (by rfl) ?_
    refine tt_op rfl rfl ?_
    refine z_aald rfl g6 rfl (by omega) (by decide) (grd i (by omega)) ?_
    refine tt_op rfl rfl ?_
    refine tt_op rfl rfl ?_
    refine tt_get rfl (by assumption) (by rfl) ?_
    refine tt_op rfl rfl ?_
    refine z_lmul rfl ?_
    refine tt_op rfl rfl ?_
    refine tt_get rfl (by assumption) (by rfl) ?_
    refine tt_op rfl rfl ?_
    refine z_lmul rfl ?_
    refine z_ladd rfl ?_
    refine tt_op rfl rfl ?_
    refine tt_get rfl (by assumption) (by rfl) ?_
    refine tt_op rfl rfl ?_
    refine z_lmul rfl ?_
    refine z_ladd rfl ?_
    refine tt_op rfl rfl ?_
    refine tt_get rfl (by assumption) (by rfl) ?_
    refine tt_op rfl rfl ?_
    refine z_lmul rfl ?_
    refine z_lsub rfl ?_
    refine tt_op rfl rfl ?_
    refine tt_op rfl rfl ?_
    refine tt_op rfl rfl ?_
    refine z_lif rfl rfl hR ⟨by decide, by decide⟩ (fun c1 => ?_) (fun c1 => ?_)
    rotate_left
    · have c1 : ¬ dot (f i).1 u - (f i).2.1 * dn ≤ 0 := c1
      rw [if_pos (by omega)] at hE
      subst hE
      refine tt_op rfl rfl ?_
      refine tt_ireturn rfl rfl (by rfl) (Nat.le_of_ble_eq_true rfl) (Nat.le_of_ble_eq_true rfl) ?_
      exact ⟨rfl, rfl, rfl⟩
    have c1 : dot (f i).1 u - (f i).2.1 * dn ≤ 0 := c1
    rw [if_neg (by omega)] at hE
    subst hE
    refine tt_op rfl rfl ?_
    refine tt_op rfl rfl ?_
    refine z_lif rfl rfl hR ⟨by decide, by decide⟩ (fun c2 => ?_) (fun c2 => ?_)
    · have c2 : dot (f i).1 u - (f i).2.1 * dn ≠ 0 := c2
      rw [if_neg c2]
      refine z_iinc rfl rfl rfl ?_
      refine tt_goto rfl ?_
      exact ih (i + 1) v _ _ (by omega)
    · have c2 : ¬ dot (f i).1 u - (f i).2.1 * dn ≠ 0 := c2
      rw [if_pos (by omega)]
      refine tt_op rfl rfl ?_
      refine tt_op rfl rfl ?_
      refine z_iinc rfl rfl rfl ?_
      refine tt_goto rfl ?_
      exact ih (i + 1) 1 _ _ (by omega)
set_option maxRecDepth 10000 in
theorem c_place (h5 : h 5 = some (huC F E CB six)) (H : xHf h ad f) (hF : F ≤ 24) (u : V3) (dn : Int) (hu : vbd 100000 u) (hd : 0 ≤ dn ∧ dn ≤ 1000) : xPure xmX1_place 1 [.ref 5, zJ u.1, zJ u.2.1, zJ u.2.2, zJ dn] n h (zI (plR f u dn F 0 2)) := by
  refine xCall.of xgX1_place rfl ?_
  refine tt_op rfl rfl ?_
  refine tt_op rfl rfl ?_
  refine tt_op rfl rfl ?_
  refine tt_op rfl rfl ?_
  exact c_place_loop h5 H hF u dn hu hd F 0 2 none none (by omega)
theorem plR_fe {f g : Nat → FD} {u : V3} {dn : Int} : ∀ (k i v : Nat), (∀ j, j < i + k → feq (f j) (g j)) → plR f u dn k i v = plR g u dn k i v
  | 0, i, v, h => rfl
  | k + 1, i, v, h => by
    have e := h i (by omega)
    unfold plR
    rw [e.1, e.2.1]
    split
    · rfl
    · exact plR_fe k (i + 1) _ (fun j hj => h j (by omega))
/-- the greatest of the corners -/
def gtR (P : Nat → V3) (CB : Nat) (d : V3) : Nat → Nat → Int → Int
  | 0, _, w => w
  | k + 1, i, w => gtR P CB d k (i + 1) (if CB.testBit i = true then (if dot d (P i) < w then w else dot d (P i)) else w)
set_option maxRecDepth 10000 in
set_option maxHeartbeats 1000000 in
theorem c_great_loop (HC : xCl h m P) (h5 : h 5 = some (huC F E CB six)) (hCB : CB < 16384) (d : V3) (hd : vbd 20 d) : ∀ (k i : Nat) (w : Int), i + k = 14 → (-1000000000000 ≤ w ∧ w ≤ 1000000000000) → xT xmX1_greatest (4, 0, 0, 0, 0) 8 [some (.ref 5), some (zJ d.1), none, some (zJ d.2.1), none, some (zJ d.2.2), none, some (zJ w), none, some (zI i)] [] n h (fun r n' h' => r = some (zJ (gtR P CB d k i w)) ∧ n' = n ∧ h' = h) := by
  have hb := HC.2.2.2.2.2
  have h1 := HC.1
  intro k
  induction k with
  | zero =>
    intro i w hi hw
    refine tt_op rfl rfl ?_
    refine tt_op rfl rfl ?_
    refine z_icmp rfl (by first | assumption | (unfold R3; omega)) (by first | assumption | (unfold R3; omega)) (fun c => ?_) (fun c => absurd (by simp only [zcd] <;> omega) c)
    refine tt_op rfl rfl ?_
    refine tt_lreturn rfl rfl (Nat.le_of_ble_eq_true rfl) (Nat.le_of_ble_eq_true rfl) ?_
    exact ⟨rfl, rfl, rfl⟩
  | succ k ih =>
    intro i w hi hw
    have b1 := dot_bd hd (hb i (by omega))
    unfold gtR
    refine tt_op rfl rfl ?_
    refine tt_op rfl rfl ?_
    refine z_icmp rfl (by first | assumption | (unfold R3; omega)) (by first | assumption | (unfold R3; omega)) (fun c => absurd c (by simp only [zcd] <;> omega)) (fun c => ?_)
    refine tt_op rfl rfl ?_
    refine tt_op rfl rfl ?_
    refine tt_pV rfl rfl rfl h5 rfl (c_isCorner h5 i (by omega) hCB) ?_
    refine z_if rfl (by split <;> exact ⟨by decide, by decide⟩) (fun c1 => ?_) (fun c1 => ?_)
    · cases hx : CB.testBit i with
      | true => simp [zcd, hx] at c1
      | false =>
        simp only [Bool.false_eq_true, if_false]
        refine z_iinc rfl rfl rfl ?_
        refine tt_goto rfl ?_
        exact ih (i + 1) w (by omega) hw
    · cases hx : CB.testBit i with
      | false => simp [zcd, hx] at c1
      | true =>
        simp only [if_true]
        refine tt_op rfl rfl ?_
        refine tt_op rfl rfl ?_
        refine tt_get rfl (by assumption) (by rfl) ?_
        refine tt_op rfl rfl ?_
        refine tt_op rfl rfl ?_
        refine tt_op rfl rfl ?_
        refine tt_op rfl rfl ?_
        refine tt_pV rfl rfl rfl h1 rfl (c_sum HC i (by omega) _ _ _) ?_
        refine tt_max rfl ?_
        have hq : Int64.ofInt (dot d (P i)) < Int64.ofInt w ↔ dot d (P i) < w := z6_lt ⟨by omega, by omega⟩ ⟨by omega, by omega⟩
        by_cases hlt : dot d (P i) < w
        · rw [if_pos (show Int64.ofInt (dot (d.1, d.2.1, d.2.2) (P i)) < Int64.ofInt w from hq.mpr hlt), if_pos hlt]
          refine tt_op rfl rfl ?_
          refine z_iinc rfl rfl rfl ?_
          refine tt_goto rfl ?_
          exact ih (i + 1) w (by omega) hw
        · rw [if_neg (show ¬ Int64.ofInt (dot (d.1, d.2.1, d.2.2) (P i)) < Int64.ofInt w from fun z => hlt (hq.mp z)), if_neg hlt]
          refine tt_op rfl rfl ?_
          refine z_iinc rfl rfl rfl ?_
          refine tt_goto rfl ?_
          exact ih (i + 1) (dot d (P i)) (by omega) ⟨by omega, by omega⟩
set_option maxRecDepth 10000 in
theorem c_greatest (HC : xCl h m P) (h5 : h 5 = some (huC F E CB six)) (hCB : CB < 16384) (d : V3) (hd : vbd 20 d) : xPure xmX1_greatest 4 [.ref 5, zJ d.1, zJ d.2.1, zJ d.2.2] n h (zJ (gtR P CB d 14 0 (-1000000000000))) := by
  refine xCall.of xgX1_greatest rfl ?_
  refine tt_op rfl rfl ?_
  refine tt_op rfl rfl ?_
  refine tt_op rfl rfl ?_
  refine tt_op rfl rfl ?_
  exact c_great_loop HC h5 hCB d hd 14 0 (-1000000000000) rfl ⟨by decide, by decide⟩
/-- the corners with that height -/
def caR (P : Nat → V3) (CB : Nat) (d : V3) (z : Int) : Nat → Nat → Nat → Nat
  | 0, _, w => w
  | k + 1, i, w => caR P CB d z k (i + 1) (if CB.testBit i = true ∧ dot d (P i) = z then w ||| 2 ^ i else w)
set_option maxRecDepth 10000 in
set_option maxHeartbeats 1000000 in
theorem c_cat_loop (HC : xCl h m P) (h5 : h 5 = some (huC F E CB six)) (hCB : CB < 16384) (d : V3) (hd : vbd 20 d) (z : Int) (hz : R6 z) : ∀ (k i w : Nat), i + k = 14 → xT xmX1_cornersAt (4, 0, 0, 0, 0) 6 [some (.ref 5), some (zJ d.1), none, some (zJ d.2.1), none, some (zJ d.2.2), none, some (zJ z), none, some (zI w), some (zI i)] [] n h (fun r n' h' => r = some (zI (caR P CB d z k i w)) ∧ n' = n ∧ h' = h) := by
  have hb := HC.2.2.2.2.2
  have h1 := HC.1
  intro k
  induction k with
  | zero =>
    intro i w hi
    refine tt_op rfl rfl ?_
    refine tt_op rfl rfl ?_
    refine z_icmp rfl (by first | assumption | (unfold R3; omega)) (by first | assumption | (unfold R3; omega)) (fun c => ?_) (fun c => absurd (by simp only [zcd] <;> omega) c)
    refine tt_op rfl rfl ?_
    refine tt_ireturn rfl rfl (by rfl) (Nat.le_of_ble_eq_true rfl) (Nat.le_of_ble_eq_true rfl) ?_
    exact ⟨rfl, rfl, rfl⟩
  | succ k ih =>
    intro i w hi
    have b1 := dot_bd hd (hb i (by omega))
    unfold caR
    have nx : ¬ (CB.testBit i = true ∧ dot d (P i) = z) → xT xmX1_cornersAt (4, 0, 0, 0, 0) 50 [some (.ref 5), some (zJ d.1), none, some (zJ d.2.1), none, some (zJ d.2.2), none, some (zJ z), none, some (zI w), some (zI i)] [] n h (fun r n' h' => r = some (zI (caR P CB d z k (i + 1) (if CB.testBit i = true ∧ dot d (P i) = z then w ||| 2 ^ i else w))) ∧ n' = n ∧ h' = h) := by
      intro hno
      rw [if_neg hno]
      refine z_iinc rfl rfl rfl ?_
      refine tt_goto rfl ?_
      exact ih (i + 1) w (by omega)
    refine tt_op rfl rfl ?_
    refine tt_op rfl rfl ?_
    refine z_icmp rfl (by first | assumption | (unfold R3; omega)) (by first | assumption | (unfold R3; omega)) (fun c => absurd c (by simp only [zcd] <;> omega)) (fun c => ?_)
    refine tt_op rfl rfl ?_
    refine tt_op rfl rfl ?_
    refine tt_pV rfl rfl rfl h5 rfl (c_isCorner h5 i (by omega) hCB) ?_
    refine z_if rfl (by split <;> exact ⟨by decide, by decide⟩) (fun c1 => ?_) (fun c1 => ?_)
    · refine nx (fun y => ?_)
      simp [zcd, y.1] at c1
    · have hbit : CB.testBit i = true := by
        cases hx : CB.testBit i with
        | true => rfl
        | false => simp [zcd, hx] at c1
      refine tt_op rfl rfl ?_
      refine tt_get rfl (by assumption) (by rfl) ?_
      refine tt_op rfl rfl ?_
      refine tt_op rfl rfl ?_
      refine tt_op rfl rfl ?_
      refine tt_op rfl rfl ?_
      refine tt_pV rfl rfl rfl h1 rfl (c_sum HC i (by omega) _ _ _) ?_
      refine tt_op rfl rfl ?_
      refine z_lif rfl rfl (show R6 (dot d (P i)) by unfold R6; omega) hz (fun c2 => ?_) (fun c2 => ?_)
      · have c2 : dot d (P i) ≠ z := c2
        exact nx (fun y => c2 y.2)
      · have c2 : ¬ dot d (P i) ≠ z := c2
        rw [if_pos ⟨hbit, by omega⟩]
        refine tt_op rfl rfl ?_
        refine tt_op rfl rfl ?_
        refine tt_op rfl rfl ?_
        refine z_shl1 rfl (by omega) ?_
        refine z_ior rfl ?_
        refine tt_op rfl rfl ?_
        refine z_iinc rfl rfl rfl ?_
        refine tt_goto rfl ?_
        exact ih (i + 1) _ (by omega)
set_option maxRecDepth 10000 in
theorem c_cornersAt (HC : xCl h m P) (h5 : h 5 = some (huC F E CB six)) (hCB : CB < 16384) (d : V3) (hd : vbd 20 d) (z : Int) (hz : R6 z) : xPure xmX1_cornersAt 4 [.ref 5, zJ d.1, zJ d.2.1, zJ d.2.2, zJ z] n h (zI (caR P CB d z 14 0 0)) := by
  refine xCall.of xgX1_cornersAt rfl ?_
  refine tt_op rfl rfl ?_
  refine tt_op rfl rfl ?_
  refine tt_op rfl rfl ?_
  refine tt_op rfl rfl ?_
  exact c_cat_loop HC h5 hCB d hd z hz 14 0 0 rfl
/-- those beside any of these -/
def baR (b : Nat → Nat) (w : Nat) : Nat → Nat → Nat → Nat
  | 0, _, v => v
  | k + 1, i, v => baR b w k (i + 1) (if w.testBit i = true then v ||| b i else v)
set_option maxRecDepth 10000 in
theorem c_bany_loop (b : Nat → Nat) (h5 : h 5 = some (huC F E CB six)) (h7 : h 7 = some (bA b)) (w : Nat) (hw : w < 16384) : ∀ (k i v : Nat), i + k = 14 → xT xmX1_besideAny (1, 0, 0, 0, 0) 4 [some (.ref 5), some (zI w), some (zI v), some (zI i)] [] n h (fun r n' h' => r = some (zI (baR b w k i v)) ∧ n' = n ∧ h' = h) := by
  intro k
  induction k with
  | zero =>
    intro i v hi
    refine tt_op rfl rfl ?_
    refine tt_op rfl rfl ?_
    refine z_icmp rfl (by first | assumption | (unfold R3; omega)) (by first | assumption | (unfold R3; omega)) (fun c => ?_) (fun c => absurd (by simp only [zcd] <;> omega) c)
    refine tt_op rfl rfl ?_
    refine tt_ireturn rfl rfl (by rfl) (Nat.le_of_ble_eq_true rfl) (Nat.le_of_ble_eq_true rfl) ?_
    exact ⟨rfl, rfl, rfl⟩
  | succ k ih =>
    intro i v hi
    unfold baR
    refine tt_op rfl rfl ?_
    refine tt_op rfl rfl ?_
    refine z_icmp rfl (by first | assumption | (unfold R3; omega)) (by first | assumption | (unfold R3; omega)) (fun c => absurd c (by simp only [zcd] <;> omega)) (fun c => ?_)
    refine tt_op rfl rfl ?_
    refine tt_op rfl rfl ?_
    refine z_tb rfl rfl rfl (by omega) (by omega) ?_
    refine z_if rfl (by split <;> exact ⟨by decide, by decide⟩) (fun c1 => ?_) (fun c1 => ?_)
    · cases hx : w.testBit i with
      | true => simp [zcd, hx] at c1
      | false =>
        simp only [Bool.false_eq_true, if_false]
        refine z_iinc rfl rfl rfl ?_
        refine tt_goto rfl ?_
        exact ih (i + 1) v (by omega)
    · cases hx : w.testBit i with
      | false => simp [zcd, hx] at c1
      | true =>
        simp only [if_true]
        refine tt_op rfl rfl ?_
        refine tt_op rfl rfl ?_
        refine tt_get rfl (by assumption) (by rfl) ?_
        refine tt_op rfl rfl ?_
        refine z_iald rfl (by assumption) rfl (by omega) (by decide) ?_
        refine z_ior rfl ?_
        refine tt_op rfl rfl ?_
        refine z_iinc rfl rfl rfl ?_
        refine tt_goto rfl ?_
        exact ih (i + 1) _ (by omega)
set_option maxRecDepth 10000 in
theorem c_besideAny (b : Nat → Nat) (h5 : h 5 = some (huC F E CB six)) (h7 : h 7 = some (bA b)) (w : Nat) (hw : w < 16384) : xPure xmX1_besideAny 1 [.ref 5, zI w] n h (zI (baR b w 14 0 0)) := by
  refine xCall.of xgX1_besideAny rfl ?_
  refine tt_op rfl rfl ?_
  refine tt_op rfl rfl ?_
  refine tt_op rfl rfl ?_
  refine tt_op rfl rfl ?_
  exact c_bany_loop b h5 h7 w hw 14 0 0 rfl
theorem baR_lt (b : Nat → Nat) (w : Nat) (hb : ∀ j, j < 14 → b j < 16384) : ∀ (k i v : Nat), i + k = 14 → v < 16384 → baR b w k i v < 16384
  | 0, i, v, hi, hv => hv
  | k + 1, i, v, hi, hv => by
    refine baR_lt b w hb k (i + 1) _ (by omega) ?_
    split
    · exact bits_or hv (hb i (by omega))
    · exact hv
/-- the fewest edges -/
def spR (b : Nat → Nat) (to : Nat) : Nat → Nat → Nat → Int
  | 0, _, _ => -1
  | k + 1, s, w => if w.testBit to = true then (s : Int) else spR b to k (s + 1) (w ||| baR b w 14 0 0)
set_option maxRecDepth 10000 in
set_option maxHeartbeats 1000000 in
theorem c_steps_loop (b : Nat → Nat) (h5 : h 5 = some (huC F E CB six)) (h7 : h 7 = some (bA b)) (hb : ∀ j, j < 14 → b j < 16384) (fr to : Nat) (hto : to < 14) : ∀ (k s w : Nat), s + k = 14 → w < 16384 → xT xmX1_steps (2, 0, 0, 0, 0) 7 [some (.ref 5), some (zI fr), some (zI to), some (zI w), some (zI s)] [] n h (fun r n' h' => r = some (zI (spR b to k s w)) ∧ n' = n ∧ h' = h) := by
  intro k
  induction k with
  | zero =>
    intro s w hs hw
    refine tt_op rfl rfl ?_
    refine tt_op rfl rfl ?_
    refine z_icmp rfl (by first | assumption | (unfold R3; omega)) (by first | assumption | (unfold R3; omega)) (fun c => ?_) (fun c => absurd (by simp only [zcd] <;> omega) c)
    refine tt_op rfl rfl ?_
    refine tt_ireturn rfl rfl (by rfl) (Nat.le_of_ble_eq_true rfl) (Nat.le_of_ble_eq_true rfl) ?_
    exact ⟨rfl, rfl, rfl⟩
  | succ k ih =>
    intro s w hs hw
    unfold spR
    refine tt_op rfl rfl ?_
    refine tt_op rfl rfl ?_
    refine z_icmp rfl (by first | assumption | (unfold R3; omega)) (by first | assumption | (unfold R3; omega)) (fun c => absurd c (by simp only [zcd] <;> omega)) (fun c => ?_)
    refine tt_op rfl rfl ?_
    refine tt_op rfl rfl ?_
    refine z_tb rfl rfl rfl (by omega) (by omega) ?_
    refine z_if rfl (by split <;> exact ⟨by decide, by decide⟩) (fun c1 => ?_) (fun c1 => ?_)
    · cases hx : w.testBit to with
      | true => simp [zcd, hx] at c1
      | false =>
        simp only [Bool.false_eq_true, if_false]
        refine tt_op rfl rfl ?_
        refine tt_op rfl rfl ?_
        refine tt_op rfl rfl ?_
        refine tt_pV rfl rfl rfl h5 rfl (c_besideAny b h5 h7 w hw) ?_
        refine z_ior rfl ?_
        refine tt_op rfl rfl ?_
        refine z_iinc rfl rfl rfl ?_
        refine tt_goto rfl ?_
        exact ih (s + 1) _ (by omega) (bits_or hw (baR_lt b w hb 14 0 0 rfl (by decide)))
    · cases hx : w.testBit to with
      | false => simp [zcd, hx] at c1
      | true =>
        simp only [if_true]
        refine tt_op rfl rfl ?_
        refine tt_ireturn rfl rfl (by rfl) (Nat.le_of_ble_eq_true rfl) (Nat.le_of_ble_eq_true rfl) ?_
        exact ⟨rfl, rfl, rfl⟩
set_option maxRecDepth 10000 in
theorem c_steps (b : Nat → Nat) (h5 : h 5 = some (huC F E CB six)) (h7 : h 7 = some (bA b)) (hb : ∀ j, j < 14 → b j < 16384) (fr to : Nat) (hfr : fr < 14) (hto : to < 14) : xPure xmX1_steps 2 [.ref 5, zI fr, zI to] n h (zI (spR b to 14 0 (2 ^ fr))) := by
  refine xCall.of xgX1_steps rfl ?_
  refine tt_op rfl rfl ?_
  refine tt_op rfl rfl ?_
  refine z_shl1 rfl (by omega) ?_
  refine tt_op rfl rfl ?_
  refine tt_op rfl rfl ?_
  refine tt_op rfl rfl ?_
  exact c_steps_loop b h5 h7 hb fr to hto 14 0 (2 ^ fr) rfl (bits_pow hfr)
end QU
end
section
/-! The section -/
theorem cpy_l (F G : Nat → Int) (a b c : Nat) : va_cpy (fun j => Int64.ofInt (F j)) (fun j => Int64.ofInt (G j)) a b c = fun j => Int64.ofInt (va_cpy F G a b c j) := by
  funext j
  unfold va_cpy
  split <;> rfl
theorem cpy_i (F G : Nat → Int) (a b c : Nat) : va_cpy (fun j => Int32.ofInt (F j)) (fun j => Int32.ofInt (G j)) a b c = fun j => Int32.ofInt (va_cpy F G a b c j) := by
  funext j
  unfold va_cpy
  split <;> rfl
theorem z3_neg {k : Nat} (h : k < 2147483648) : ¬ Int32.ofInt (k : Int) < 0 := by
  rw [show (0 : Int32) = Int32.ofInt 0 from rfl, z3_lt ⟨by omega, by omega⟩ ⟨by decide, by decide⟩]
  omega
section XCPY
variable {M : xM} {d mc ms su pc nx b hh i q q' N N' : Nat} {a : Int} {l : xL} {st : List Value} {n : Nat} {h : xHp} {Q : xQt} {F G : Nat → Int} {x y z : Int} {sp dp k : Nat}
theorem z_cpyL (hf : xfe M pc = some (.invokestatic i, nx, a, 1001, hh)) (hq : h q = some (zL N F)) (hq' : h q' = some (zL N' G)) (hx : x = (sp : Int)) (hy : y = (dp : Int)) (hz : z = (k : Int)) (h4 : sp + k ≤ N) (h5 : dp + k ≤ N') (hN : N < 2147483648) (hN' : N' < 2147483648)
    (kk : xT M (d, mc, ms, 0, su) nx l st n (xup h q' (zL N' (va_cpy F G sp dp k))) Q) (hd : 1 ≤ d := by exact Nat.le_of_ble_eq_true rfl) (hW : xcat st ≤ 8 := by exact Nat.le_of_ble_eq_true rfl) : xT M (d, mc, ms, 0, su) pc l (zI z :: zI y :: .ref q' :: zI x :: .ref q :: st) n h Q := by
  subst hx; subst hy; subst hz
  refine tt_cpyL hf hq hq' (z3_neg (by omega)) (z3_neg (by omega)) (z3_neg (by omega)) (by rw [z3_clamp (by omega), z3_clamp (by omega)]; exact h4) (by rw [z3_clamp (by omega), z3_clamp (by omega)]; exact h5) ?_ hd hW
  rw [z3_clamp (by omega), z3_clamp (by omega), z3_clamp (by omega), cpy_l]
  exact kk
theorem z_cpyI (hf : xfe M pc = some (.invokestatic i, nx, a, 1001, hh)) (hq : h q = some (zA N F)) (hq' : h q' = some (zA N' G)) (hx : x = (sp : Int)) (hy : y = (dp : Int)) (hz : z = (k : Int)) (h4 : sp + k ≤ N) (h5 : dp + k ≤ N') (hN : N < 2147483648) (hN' : N' < 2147483648)
    (kk : xT M (d, mc, ms, 0, su) nx l st n (xup h q' (zA N' (va_cpy F G sp dp k))) Q) (hd : 1 ≤ d := by exact Nat.le_of_ble_eq_true rfl) (hW : xcat st ≤ 8 := by exact Nat.le_of_ble_eq_true rfl) : xT M (d, mc, ms, 0, su) pc l (zI z :: zI y :: .ref q' :: zI x :: .ref q :: st) n h Q := by
  subst hx; subst hy; subst hz
  refine tt_cpyI hf hq hq' (z3_neg (by omega)) (z3_neg (by omega)) (z3_neg (by omega)) (by rw [z3_clamp (by omega), z3_clamp (by omega)]; exact h4) (by rw [z3_clamp (by omega), z3_clamp (by omega)]; exact h5) ?_ hd hW
  rw [z3_clamp (by omega), z3_clamp (by omega), z3_clamp (by omega), cpy_i]
  exact kk
end XCPY
abbrev seC (cnt : Nat) : xE := .inr (4, [zI cnt, .ref 58])
/-- what the section's numbers keep to -/
def sBd (N : Nat → Int) : Prop := ∀ j, j < 96 → -1000000 ≤ N j ∧ N j ≤ 1000000
abbrev V4 : Type := V3 × Int
def v4bd (v : V4) : Prop := vbd 1000000 v.1 ∧ -1000000 ≤ v.2 ∧ v.2 ≤ 1000000
/-- whether v comes before corner i -/
def slL (N : Nat → Int) (v : V4) (i : Nat) : Prop := v.1.1 * N (4 * i + 3) - N (4 * i) * v.2 < 0 ∨ (v.1.1 * N (4 * i + 3) - N (4 * i) * v.2 = 0 ∧ (v.1.2.1 * N (4 * i + 3) - N (4 * i + 1) * v.2 < 0 ∨ (v.1.2.1 * N (4 * i + 3) - N (4 * i + 1) * v.2 = 0 ∧ v.1.2.2 * N (4 * i + 3) - N (4 * i + 2) * v.2 < 0)))
section SE
variable {h : xHp} {m : Nat} {P : Nat → V3} {n : Nat} {cnt : Nat} {N : Nat → Int}
set_option maxRecDepth 10000 in
theorem c_snum (h57 : h 57 = some (seC cnt)) (h58 : h 58 = some (zL 96 N)) (i w : Nat) (hi : i < 24) (hw : w < 4) : xPure xmX4_number 1 [.ref 57, zI i, zI w] n h (zJ (N (4 * i + w))) := by
  refine xCall.of xgX4_number rfl ?_
  refine tt_op rfl rfl ?_
  refine z_if rfl (by first | assumption | (unfold R3; omega)) (fun c => absurd c (by simp only [zcd] <;> omega)) (fun c => ?_)
  refine tt_op rfl rfl ?_
  refine tt_op rfl rfl ?_
  refine z_icmp rfl (by first | assumption | (unfold R3; omega)) (by first | assumption | (unfold R3; omega)) (fun c => absurd c (by simp only [zcd] <;> omega)) (fun c => ?_)
  refine tt_op rfl rfl ?_
  refine z_if rfl (by first | assumption | (unfold R3; omega)) (fun c => absurd c (by simp only [zcd] <;> omega)) (fun c => ?_)
  refine tt_op rfl rfl ?_
  refine tt_op rfl rfl ?_
  refine z_icmp rfl (by first | assumption | (unfold R3; omega)) (by first | assumption | (unfold R3; omega)) (fun c => absurd c (by simp only [zcd] <;> omega)) (fun c => ?_)
  refine tt_op rfl rfl ?_
  refine tt_get rfl h57 (by rfl) ?_
  refine tt_op rfl rfl ?_
  refine tt_op rfl rfl ?_
  refine z_imul rfl ?_
  refine tt_op rfl rfl ?_
  refine z_iadd rfl ?_
  refine z_lald (j := 4 * i + w) rfl h58 (by omega) (by omega) (by decide) ?_
  refine tt_goto rfl ?_
  refine tt_lreturn rfl rfl (Nat.le_of_ble_eq_true rfl) (Nat.le_of_ble_eq_true rfl) ?_
  exact ⟨rfl, rfl, rfl⟩
set_option maxRecDepth 10000 in
set_option maxHeartbeats 1000000 in
theorem c_sleads (h57 : h 57 = some (seC cnt)) (h58 : h 58 = some (zL 96 N)) (hN : sBd N) (v : V4) (hv : v4bd v) (i : Nat) (hi : i < 24) (r : Value) (hr1 : slL N v i → r = zI 1) (hr0 : ¬ slL N v i → r = zI 0) : xPure xmX4_leads 2 [.ref 57, zJ v.1.1, zJ v.1.2.1, zJ v.1.2.2, zJ v.2, zI i] n h r := by
  obtain ⟨⟨v1, v2, v3⟩, v4⟩ := hv
  have n0 := hN (4 * i) (by omega)
  have n1 := hN (4 * i + 1) (by omega)
  have n2 := hN (4 * i + 2) (by omega)
  have n3 := hN (4 * i + 3) (by omega)
  have a1 := mul_bd v1 n3
  have a2 := mul_bd v2 n3
  have a3 := mul_bd v3 n3
  have b1 := mul_bd n0 v4
  have b2 := mul_bd n1 v4
  have b3 := mul_bd n2 v4
  have R0 : R6 0 := ⟨by decide, by decide⟩
  have RX : R6 (v.1.1 * N (4 * i + 3) - N (4 * i) * v.2) := by unfold R6; omega
  have RY : R6 (v.1.2.1 * N (4 * i + 3) - N (4 * i + 1) * v.2) := by unfold R6; omega
  have RZ : R6 (v.1.2.2 * N (4 * i + 3) - N (4 * i + 2) * v.2) := by unfold R6; omega
  refine xCall.of xgX4_leads rfl ?_
  refine tt_op rfl rfl ?_
  refine tt_op rfl rfl ?_
  refine tt_op rfl rfl ?_
  refine tt_pV rfl rfl rfl h57 rfl (c_snum h57 h58 i 3 hi (by omega)) ?_
  refine tt_op rfl rfl ?_
  refine tt_op rfl rfl ?_
  refine tt_op rfl rfl ?_
  refine z_lmul rfl ?_
  refine tt_op rfl rfl ?_
  refine tt_op rfl rfl ?_
  refine tt_op rfl rfl ?_
  refine tt_pV rfl rfl rfl h57 rfl (c_snum h57 h58 i 0 hi (by omega)) ?_
  refine tt_op rfl rfl ?_
  refine z_lmul rfl ?_
  refine z_lsub rfl ?_
  refine tt_op rfl rfl ?_
  refine tt_op rfl rfl ?_
  refine tt_op rfl rfl ?_
  refine z_lmul rfl ?_
  refine tt_op rfl rfl ?_
  refine tt_op rfl rfl ?_
  refine tt_op rfl rfl ?_
  refine tt_pV rfl rfl rfl h57 rfl (c_snum h57 h58 i 1 hi (by omega)) ?_
  refine tt_op rfl rfl ?_
  refine z_lmul rfl ?_
  refine z_lsub rfl ?_
  refine tt_op rfl rfl ?_
  refine tt_op rfl rfl ?_
  refine tt_op rfl rfl ?_
  refine z_lmul rfl ?_
  refine tt_op rfl rfl ?_
  refine tt_op rfl rfl ?_
  refine tt_op rfl rfl ?_
  refine tt_pV rfl rfl rfl h57 rfl (c_snum h57 h58 i 2 hi (by omega)) ?_
  refine tt_op rfl rfl ?_
  refine z_lmul rfl ?_
  refine z_lsub rfl ?_
  refine tt_op rfl rfl ?_
  have yes : slL N v i → ∀ l, xT xmX4_leads (2, 0, 0, 0, 0) 96 l [] n h (fun r' n' h' => r' = some r ∧ n' = n ∧ h' = h) := by
    intro hy l
    refine tt_op rfl rfl ?_
    refine tt_goto rfl ?_
    refine tt_ireturn rfl rfl (by rfl) (Nat.le_of_ble_eq_true rfl) (Nat.le_of_ble_eq_true rfl) ?_
    exact ⟨congrArg some (hr1 hy).symm, rfl, rfl⟩
  have no : ¬ slL N v i → ∀ l, xT xmX4_leads (2, 0, 0, 0, 0) 100 l [] n h (fun r' n' h' => r' = some r ∧ n' = n ∧ h' = h) := by
    intro hy l
    refine tt_op rfl rfl ?_
    refine tt_ireturn rfl rfl (by rfl) (Nat.le_of_ble_eq_true rfl) (Nat.le_of_ble_eq_true rfl) ?_
    exact ⟨congrArg some (hr0 hy).symm, rfl, rfl⟩
  unfold slL at yes no
  refine tt_op rfl rfl ?_
  refine tt_op rfl rfl ?_
  refine z_lif rfl rfl RX R0 (fun c1 => yes (Or.inl c1) _) (fun c1 => ?_)
  have c1 : ¬ v.1.1 * N (4 * i + 3) - N (4 * i) * v.2 < 0 := c1
  refine tt_op rfl rfl ?_
  refine tt_op rfl rfl ?_
  refine z_lif rfl rfl RX R0 (fun c2 => no (fun z => ?_) _) (fun c2 => ?_)
  · have c2 : v.1.1 * N (4 * i + 3) - N (4 * i) * v.2 ≠ 0 := c2
    omega
  have c2 : ¬ v.1.1 * N (4 * i + 3) - N (4 * i) * v.2 ≠ 0 := c2
  refine tt_op rfl rfl ?_
  refine tt_op rfl rfl ?_
  refine z_lif rfl rfl RY R0 (fun c3 => yes (Or.inr ⟨by omega, Or.inl c3⟩) _) (fun c3 => ?_)
  have c3 : ¬ v.1.2.1 * N (4 * i + 3) - N (4 * i + 1) * v.2 < 0 := c3
  refine tt_op rfl rfl ?_
  refine tt_op rfl rfl ?_
  refine z_lif rfl rfl RY R0 (fun c4 => no (fun z => ?_) _) (fun c4 => ?_)
  · have c4 : v.1.2.1 * N (4 * i + 3) - N (4 * i + 1) * v.2 ≠ 0 := c4
    omega
  have c4 : ¬ v.1.2.1 * N (4 * i + 3) - N (4 * i + 1) * v.2 ≠ 0 := c4
  refine tt_op rfl rfl ?_
  refine tt_op rfl rfl ?_
  refine z_lif rfl rfl RZ R0 (fun c5 => no (fun z => ?_) _) (fun c5 => yes (Or.inr ⟨by omega, Or.inr ⟨by omega, ?_⟩⟩) _)
  · have c5 : 0 ≤ v.1.2.2 * N (4 * i + 3) - N (4 * i + 2) * v.2 := c5
    omega
  · have c5 : ¬ 0 ≤ v.1.2.2 * N (4 * i + 3) - N (4 * i + 2) * v.2 := c5
    omega
/-- corner v goes in at its place: relation by steps -/
noncomputable def inR (v : V4) : Nat → (Nat → Int) → (Nat → Int) × Nat
  | 0, N => (N, 0)
  | k + 1, N => @ite _ (slL N v k) (Classical.propDecidable _) (inR v k (va_cpy N N (4 * k) (4 * (k + 1)) 4)) (N, k + 1)
def put4 (N : Nat → Int) (k : Nat) (v : V4) : Nat → Int := zup (zup (zup (zup N (4 * k) v.1.1) (4 * k + 1) v.1.2.1) (4 * k + 2) v.1.2.2) (4 * k + 3) v.2
theorem cpy_bd {N : Nat → Int} (hN : sBd N) (k : Nat) (hk : k + 1 < 24) : sBd (va_cpy N N (4 * k) (4 * (k + 1)) 4) := by
  intro j hj
  unfold va_cpy
  split
  · exact hN _ (by omega)
  · exact hN j hj
theorem put4_bd {N : Nat → Int} (hN : sBd N) (k : Nat) (v : V4) (hv : v4bd v) : sBd (put4 N k v) := by
  obtain ⟨⟨v1, v2, v3⟩, v4⟩ := hv
  intro j hj
  unfold put4 zup
  split
  · exact v4
  · split
    · exact v3
    · split
      · exact v2
      · split
        · exact v1
        · exact hN j hj
theorem inR_bd (v : V4) : ∀ (k : Nat) (N : Nat → Int), k < 24 → sBd N → sBd (inR v k N).1 ∧ (inR v k N).2 ≤ k
  | 0, N, hk, hN => ⟨hN, Nat.le_refl _⟩
  | k + 1, N, hk, hN => by
    unfold inR
    split
    · obtain ⟨a, b⟩ := inR_bd v k _ (by omega) (cpy_bd hN k hk)
      exact ⟨a, by omega⟩
    · exact ⟨hN, Nat.le_refl _⟩
set_option maxRecDepth 10000 in
set_option maxHeartbeats 1000000 in
theorem c_ins_loop (v : V4) (hv : v4bd v) (h57 : h 57 = some (seC cnt)) (hc : cnt < 24) (Q : xQt) : ∀ (k : Nat) (N : Nat → Int), k < 24 → sBd N → (∀ (N' : Nat → Int) (k' : Nat), (N', k') = inR v k N → xT xmX4_insert (3, 0, 0, 0, 0) 73 [some (.ref 57), some (zJ v.1.1), none, some (zJ v.1.2.1), none, some (zJ v.1.2.2), none, some (zJ v.2), none, some (zI k')] [] n (xup h 58 (zL 96 N')) Q) → xT xmX4_insert (3, 0, 0, 0, 0) 23 [some (.ref 57), some (zJ v.1.1), none, some (zJ v.1.2.1), none, some (zJ v.1.2.2), none, some (zJ v.2), none, some (zI k)] [] n (xup h 58 (zL 96 N)) Q := by
  intro k
  induction k with
  | zero =>
    intro N hk hN hfin
    refine tt_op rfl rfl ?_
    refine z_if rfl (by first | assumption | (unfold R3; omega)) (fun c => ?_) (fun c => absurd (by simp only [zcd] <;> omega) c)
    exact hfin N 0 rfl
  | succ k ih =>
    intro N hk hN hfin
    have g57 : xup h 58 (zL 96 N) 57 = some (seC cnt) := by rw [xup_n (by omega)]; exact h57
    have g58 := (xup_s : xup h 58 (zL 96 N) 58 = _)
    have hix : ((k + 1 : Nat) : Int) - 1 = (k : Int) := by omega
    refine tt_op rfl rfl ?_
    refine z_if rfl (by first | assumption | (unfold R3; omega)) (fun c => absurd c (by simp only [zcd] <;> omega)) (fun c => ?_)
    refine tt_op rfl rfl ?_
    refine tt_op rfl rfl ?_
    refine tt_op rfl rfl ?_
    refine tt_op rfl rfl ?_
    refine tt_op rfl rfl ?_
    refine tt_op rfl rfl ?_
    refine tt_op rfl rfl ?_
    refine z_isub rfl ?_
    rw [hix]
    by_cases hl : slL N v k
    · refine tt_pV rfl rfl rfl g57 rfl (c_sleads g57 g58 hN v hv k (by omega) (zI 1) (fun _ => rfl) (fun z => absurd hl z)) ?_
      refine z_if rfl (by first | assumption | (unfold R3; omega)) (fun c => absurd c (by simp only [zcd] <;> omega)) (fun c => ?_)
      refine tt_op rfl rfl ?_
      refine tt_get rfl (by assumption) (by rfl) ?_
      refine tt_op rfl rfl ?_
      refine tt_op rfl rfl ?_
      refine tt_op rfl rfl ?_
      refine z_isub rfl ?_
      refine z_imul rfl ?_
      refine tt_op rfl rfl ?_
      refine tt_get rfl (by assumption) (by rfl) ?_
      refine tt_op rfl rfl ?_
      refine tt_op rfl rfl ?_
      refine z_imul rfl ?_
      refine tt_op rfl rfl ?_
      refine z_cpyL (sp := 4 * k) (dp := 4 * (k + 1)) (k := 4) rfl g58 g58 (by omega) (by omega) rfl (by omega) (by omega) (by decide) (by decide) ?_
      rw [xup_xup]
      refine z_iinc rfl rfl rfl ?_
      refine tt_goto rfl ?_
      rw [show ((k + 1 : Nat) : Int) + -1 = (k : Int) by omega]
      refine ih _ (by omega) (cpy_bd hN k hk) (fun N' k' e => hfin N' k' ?_)
      unfold inR
      rw [if_pos hl]
      exact e
    · refine tt_pV rfl rfl rfl g57 rfl (c_sleads g57 g58 hN v hv k (by omega) (zI 0) (fun z => absurd z hl) (fun _ => rfl)) ?_
      refine z_if rfl (by first | assumption | (unfold R3; omega)) (fun c => ?_) (fun c => absurd (by simp only [zcd] <;> omega) c)
      refine hfin N (k + 1) ?_
      unfold inR
      rw [if_neg hl]
/-- one corner more, as long as there is room -/
noncomputable def isv (v : V4) (s : Nat × (Nat → Int)) : Nat × (Nat → Int) := if s.1 < 24 then (s.1 + 1, put4 (inR v s.1 s.2).1 (inR v s.1 s.2).2 v) else s
theorem isv_ok {v : V4} (hv : v4bd v) {s : Nat × (Nat → Int)} (h1 : s.1 ≤ 24) (h2 : sBd s.2) : (isv v s).1 ≤ 24 ∧ sBd (isv v s).2 := by
  unfold isv
  split
  · exact ⟨by show s.1 + 1 ≤ 24; omega, put4_bd (inR_bd v s.1 s.2 (by omega) h2).1 _ v hv⟩
  · exact ⟨h1, h2⟩
abbrev seH (h : xHp) (s : Nat × (Nat → Int)) : xHp := xup (xup h 58 (zL 96 s.2)) 57 (seC s.1)
set_option maxRecDepth 10000 in
set_option maxHeartbeats 1000000 in
theorem c_insert (v : V4) (hv : v4bd v) (s : Nat × (Nat → Int)) (hc : s.1 ≤ 24) (hN : sBd s.2) : xCall xmX4_insert 3 0 0 [.ref 57, zJ v.1.1, zJ v.1.2.1, zJ v.1.2.2, zJ v.2] n (seH h s) (fun r n' h' => r = none ∧ n' = n ∧ h' = seH h (isv v s)) := by
  obtain ⟨cnt, N⟩ := s
  dsimp only at hc hN
  have h57 := (xup_s : seH h (cnt, N) 57 = some (seC cnt))
  refine xCall.of xgX4_insert rfl ?_
  refine tt_op rfl rfl ?_
  refine tt_get rfl (by assumption) (by rfl) ?_
  refine z_if rfl (by first | assumption | (unfold R3; omega)) (fun c => absurd c (by simp only [zcd] <;> omega)) (fun c => ?_)
  refine tt_op rfl rfl ?_
  refine tt_get rfl (by assumption) (by rfl) ?_
  refine tt_op rfl rfl ?_
  refine z_icmp rfl (by first | assumption | (unfold R3; omega)) (by first | assumption | (unfold R3; omega)) (fun c1 => ?_) (fun c1 => ?_)
  rotate_left
  · simp only [zcd] at c1
    refine tt_return rfl rfl (Nat.le_of_ble_eq_true rfl) (Nat.le_of_ble_eq_true rfl) ?_
    refine ⟨rfl, rfl, ?_⟩
    unfold isv
    rw [if_neg (by show ¬ cnt < 24; omega)]
  simp only [zcd] at c1
  refine tt_op rfl rfl ?_
  refine tt_get rfl (by assumption) (by rfl) ?_
  refine tt_op rfl rfl ?_
  have e0 : seH h (cnt, N) = xup (xup h 57 (seC cnt)) 58 (zL 96 N) := xup_comm (by omega)
  rw [e0]
  refine c_ins_loop (h := xup h 57 (seC cnt)) v hv xup_s (by omega) _ cnt N (by omega) hN (fun N' k' e => ?_)
  obtain ⟨b1, b2⟩ := inR_bd v cnt N (by omega) hN
  rw [← e] at b1 b2
  dsimp only at b1 b2
  have G : ∀ X : Nat → Int, xup (xup h 57 (seC cnt)) 58 (zL 96 X) 57 = some (seC cnt) := fun X => by rw [xup_n (by omega)]; exact xup_s
  refine tt_op rfl rfl ?_
  refine tt_get rfl (G _) (by rfl) ?_
  refine tt_op rfl rfl ?_
  refine tt_op rfl rfl ?_
  refine z_imul rfl ?_
  refine tt_op rfl rfl ?_
  refine z_last (j := 4 * k') rfl xup_s (by omega) (by omega) (by decide) ?_
  rw [xup_xup]
  refine tt_op rfl rfl ?_
  refine tt_get rfl (G _) (by rfl) ?_
  refine tt_op rfl rfl ?_
  refine tt_op rfl rfl ?_
  refine z_imul rfl ?_
  refine tt_op rfl rfl ?_
  refine z_iadd rfl ?_
  refine tt_op rfl rfl ?_
  refine z_last (j := 4 * k' + 1) rfl xup_s (by omega) (by omega) (by decide) ?_
  rw [xup_xup]
  refine tt_op rfl rfl ?_
  refine tt_get rfl (G _) (by rfl) ?_
  refine tt_op rfl rfl ?_
  refine tt_op rfl rfl ?_
  refine z_imul rfl ?_
  refine tt_op rfl rfl ?_
  refine z_iadd rfl ?_
  refine tt_op rfl rfl ?_
  refine z_last (j := 4 * k' + 2) rfl xup_s (by omega) (by omega) (by decide) ?_
  rw [xup_xup]
  refine tt_op rfl rfl ?_
  refine tt_get rfl (G _) (by rfl) ?_
  refine tt_op rfl rfl ?_
  refine tt_op rfl rfl ?_
  refine z_imul rfl ?_
  refine tt_op rfl rfl ?_
  refine z_iadd rfl ?_
  refine tt_op rfl rfl ?_
  refine z_last (j := 4 * k' + 3) rfl xup_s (by omega) (by omega) (by decide) ?_
  rw [xup_xup]
  refine tt_op rfl rfl ?_
  refine tt_op rfl rfl ?_
  refine tt_get rfl (G _) (by rfl) ?_
  refine tt_op rfl rfl ?_
  refine z_iadd rfl ?_
  refine tt_put rfl (G _) rfl (by decide) (by rfl) (by rfl) rfl ?_
  refine tt_return rfl rfl (Nat.le_of_ble_eq_true rfl) (Nat.le_of_ble_eq_true rfl) ?_
  refine ⟨rfl, rfl, ?_⟩
  unfold isv
  rw [if_pos (by show cnt < 24; omega)]
  dsimp only
  rw [← e, xup_comm (show (58 : Nat) ≠ 57 by omega), xup_xup, xup_comm (show (57 : Nat) ≠ 58 by omega)]
  rfl
/-- the point between p and q with so much of each -/
def mxV (P : Nat → V3) (p : Nat) (a : Int) (q : Nat) (b : Int) : V4 := ((a * (P p).1 + b * (P q).1, a * (P p).2.1 + b * (P q).2.1, a * (P p).2.2 + b * (P q).2.2), a + b)
theorem mxV_bd {P : Nat → V3} (hb : pbd P) {p q : Nat} (hp : p < 14) (hq : q < 14) {a b : Int} (ha : 0 ≤ a ∧ a ≤ 10000) (hb' : 0 ≤ b ∧ b ≤ 10000) : v4bd (mxV P p a q b) := by
  obtain ⟨p1, p2, p3⟩ := hb p hp
  obtain ⟨q1, q2, q3⟩ := hb q hq
  have A : -10000 ≤ a ∧ a ≤ 10000 := by omega
  have B : -10000 ≤ b ∧ b ≤ 10000 := by omega
  have a1 := mul_bd A p1
  have a2 := mul_bd A p2
  have a3 := mul_bd A p3
  have b1 := mul_bd B q1
  have b2 := mul_bd B q2
  have b3 := mul_bd B q3
  unfold v4bd vbd mxV
  dsimp only
  omega
theorem seH_n {s : Nat × (Nat → Int)} {j : Nat} (h1 : j ≠ 57) (h2 : j ≠ 58) : seH h s j = h j := by
  show xup (xup h 58 (zL 96 s.2)) 57 (seC s.1) j = h j
  rw [xup_n h1, xup_n h2]
theorem xCl_se {s : Nat × (Nat → Int)} (HC : xCl h m P) : xCl (seH h s) m P := xCl_up (by omega) (xCl_up (by omega) HC)
set_option maxRecDepth 10000 in
set_option maxHeartbeats 1000000 in
theorem c_mix (HC : xCl h m P) (p q : Nat) (hp : p < 14) (hq : q < 14) (a b : Int) (ha : 0 ≤ a ∧ a ≤ 10000) (hb' : 0 ≤ b ∧ b ≤ 10000) (s : Nat × (Nat → Int)) (hc : s.1 ≤ 24) (hN : sBd s.2) : xCall xmX4_mix 4 0 0 [.ref 57, .ref 1, zI p, zJ a, zI q, zJ b] n (seH h s) (fun r n' h' => r = none ∧ n' = n ∧ h' = seH h (isv (mxV P p a q b) s)) := by
  have K := xCl_se (s := s) HC
  have k1 := K.1
  have hb := HC.2.2.2.2.2
  have p0 := vax_bd (hb p hp) 0
  have p1 := vax_bd (hb p hp) 1
  have p2 := vax_bd (hb p hp) 2
  have q0 := vax_bd (hb q hq) 0
  have q1 := vax_bd (hb q hq) 1
  have q2 := vax_bd (hb q hq) 2
  have h57 := (xup_s : seH h s 57 = some (seC s.1))
  refine xCall.of xgX4_mix rfl ?_
  refine tt_op rfl rfl ?_
  refine tt_op rfl rfl ?_
  refine tt_op rfl rfl ?_
  refine tt_op rfl rfl ?_
  refine tt_op rfl rfl ?_
  refine tt_pV rfl rfl rfl k1 rfl (c_number K p 0 hp (by omega)) ?_
  refine z_il rfl (by first | assumption | (unfold R3; omega)) ?_
  refine z_lmul rfl ?_
  refine tt_op rfl rfl ?_
  refine tt_op rfl rfl ?_
  refine tt_op rfl rfl ?_
  refine tt_op rfl rfl ?_
  refine tt_pV rfl rfl rfl k1 rfl (c_number K q 0 hq (by omega)) ?_
  refine z_il rfl (by first | assumption | (unfold R3; omega)) ?_
  refine z_lmul rfl ?_
  refine z_ladd rfl ?_
  refine tt_op rfl rfl ?_
  refine tt_op rfl rfl ?_
  refine tt_op rfl rfl ?_
  refine tt_op rfl rfl ?_
  refine tt_pV rfl rfl rfl k1 rfl (c_number K p 1 hp (by omega)) ?_
  refine z_il rfl (by first | assumption | (unfold R3; omega)) ?_
  refine z_lmul rfl ?_
  refine tt_op rfl rfl ?_
  refine tt_op rfl rfl ?_
  refine tt_op rfl rfl ?_
  refine tt_op rfl rfl ?_
  refine tt_pV rfl rfl rfl k1 rfl (c_number K q 1 hq (by omega)) ?_
  refine z_il rfl (by first | assumption | (unfold R3; omega)) ?_
  refine z_lmul rfl ?_
  refine z_ladd rfl ?_
  refine tt_op rfl rfl ?_
  refine tt_op rfl rfl ?_
  refine tt_op rfl rfl ?_
  refine tt_op rfl rfl ?_
  refine tt_pV rfl rfl rfl k1 rfl (c_number K p 2 hp (by omega)) ?_
  refine z_il rfl (by first | assumption | (unfold R3; omega)) ?_
  refine z_lmul rfl ?_
  refine tt_op rfl rfl ?_
  refine tt_op rfl rfl ?_
  refine tt_op rfl rfl ?_
  refine tt_op rfl rfl ?_
  refine tt_pV rfl rfl rfl k1 rfl (c_number K q 2 hq (by omega)) ?_
  refine z_il rfl (by first | assumption | (unfold R3; omega)) ?_
  refine z_lmul rfl ?_
  refine z_ladd rfl ?_
  refine tt_op rfl rfl ?_
  refine tt_op rfl rfl ?_
  refine z_ladd rfl ?_
  refine tt_callV (M' := xmX4_insert) rfl rfl rfl h57 rfl (c_insert (mxV P p a q b) (mxV_bd hb hp hq ha hb') s hc hN) ?_
  rintro r n' h' ⟨rfl, rfl, rfl⟩
  refine tt_return rfl rfl (Nat.le_of_ble_eq_true rfl) (Nat.le_of_ble_eq_true rfl) ?_
  exact ⟨rfl, rfl, rfl⟩
/-- the corners on edges from p to lesser ones, then all -/
noncomputable def slQ (P : Nat → V3) (b : Nat → Nat) (d : V3) (z : Int) (p : Nat) : Nat → Nat → Nat × (Nat → Int) → Nat × (Nat → Int)
  | 0, _, s => s
  | k + 1, q, s => slQ P b d z p k (q + 1) (if ((dot d (P p) - z < 0 ∧ 0 < dot d (P q) - z) ∨ (0 < dot d (P p) - z ∧ dot d (P q) - z < 0)) ∧ (b p).testBit q = true then isv (mxV P p ((dot d (P q) - z).natAbs : Int) q ((dot d (P p) - z).natAbs : Int)) s else s)
noncomputable def slP (P : Nat → V3) (CB : Nat) (b : Nat → Nat) (d : V3) (z : Int) : Nat → Nat → Nat × (Nat → Int) → Nat × (Nat → Int)
  | 0, _, s => s
  | k + 1, p, s => slP P CB b d z k (p + 1) (if CB.testBit p = true then slQ P b d z p p 0 (if dot d (P p) - z = 0 then isv (mxV P p 1 p 0) s else s) else s)
def sOk (s : Nat × (Nat → Int)) : Prop := s.1 ≤ 24 ∧ sBd s.2
set_option maxRecDepth 10000 in
set_option maxHeartbeats 2000000 in
theorem c_slice_q (HC : xCl h m P) {F E CB : Nat} {six : Int} (h5 : h 5 = some (huC F E CB six)) (b : Nat → Nat) (h7 : h 7 = some (bA b)) (hbb : ∀ j, j < 14 → b j < 16384) (d : V3) (hd : vbd 20 d) (z : Int) (hz : -2000 ≤ z ∧ z ≤ 2000) (p : Nat) (hp : p < 14) (Q : xQt) : ∀ (k q : Nat) (s : Nat × (Nat → Int)) (l14 l16 : Option Value), q + k = p → sOk s → (∀ l14 l16, sOk (slQ P b d z p k q s) → xT xmX4_slice (5, 0, 0, 0, 0) 179 [some (.ref 57), some (.ref 5), some (zJ d.1), none, some (zJ d.2.1), none, some (zJ d.2.2), none, some (zJ z), none, some (zI p), some (zJ (dot d (P p) - z)), none, some (zI p), l14, none, l16] [] n (seH h (slQ P b d z p k q s)) Q) → xT xmX4_slice (5, 0, 0, 0, 0) 70 [some (.ref 57), some (.ref 5), some (zJ d.1), none, some (zJ d.2.1), none, some (zJ d.2.2), none, some (zJ z), none, some (zI p), some (zJ (dot d (P p) - z)), none, some (zI q), l14, none, l16] [] n (seH h s) Q := by
  have hb := HC.2.2.2.2.2
  have bp := dot_bd hd (hb p hp)
  have R0 : R6 0 := ⟨by decide, by decide⟩
  have RP : R6 (dot d (P p) - z) := by unfold R6; omega
  intro k
  induction k with
  | zero =>
    intro q s l14 l16 hq hs hfin
    have : q = p := by omega
    subst this
    refine tt_op rfl rfl ?_
    refine tt_op rfl rfl ?_
    refine z_icmp rfl (by first | assumption | (unfold R3; omega)) (by first | assumption | (unfold R3; omega)) (fun c => ?_) (fun c => absurd (by simp only [zcd] <;> omega) c)
    exact hfin l14 l16 hs
  | succ k ih =>
    intro q s l14 l16 hq hs hfin
    have K := xCl_se (s := s) HC
    have k1 := K.1
    have g5 : seH h s 5 = some (huC F E CB six) := by rw [seH_n (by omega) (by omega)]; exact h5
    have g7 : seH h s 7 = some (bA b) := by rw [seH_n (by omega) (by omega)]; exact h7
    have bq := dot_bd hd (hb q (by omega))
    have RQ : R6 (dot d (P q) - z) := by unfold R6; omega
    have hbp := hbb p hp
    have h57 := (xup_s : seH h s 57 = some (seC s.1))
    unfold slQ at hfin
    refine tt_op rfl rfl ?_
    refine tt_op rfl rfl ?_
    refine z_icmp rfl (by first | assumption | (unfold R3; omega)) (by first | assumption | (unfold R3; omega)) (fun c => absurd c (by simp only [zcd] <;> omega)) (fun c => ?_)
    refine tt_op rfl rfl ?_
    refine tt_get rfl (by assumption) (by rfl) ?_
    refine tt_op rfl rfl ?_
    refine tt_op rfl rfl ?_
    refine tt_op rfl rfl ?_
    refine tt_op rfl rfl ?_
    refine tt_pV rfl rfl rfl k1 rfl (c_sum K q (by omega) _ _ _) ?_
    refine tt_op rfl rfl ?_
    refine z_lsub rfl ?_
    refine tt_op rfl rfl ?_
    refine tt_op rfl rfl ?_
    refine tt_op rfl rfl ?_
    have nx : ∀ l16', ¬ (((dot d (P p) - z < 0 ∧ 0 < dot d (P q) - z) ∨ (0 < dot d (P p) - z ∧ dot d (P q) - z < 0)) ∧ (b p).testBit q = true) → xT xmX4_slice (5, 0, 0, 0, 0) 173 [some (.ref 57), some (.ref 5), some (zJ d.1), none, some (zJ d.2.1), none, some (zJ d.2.2), none, some (zJ z), none, some (zI p), some (zJ (dot d (P p) - z)), none, some (zI q), some (zJ (dot d (P q) - z)), none, l16'] [] n (seH h s) Q := by
      intro l16' hno
      rw [if_neg hno] at hfin
      refine z_iinc rfl rfl rfl ?_
      refine tt_goto rfl ?_
      exact ih (q + 1) s _ _ (by omega) hs hfin
    have ap : ((dot d (P p) - z < 0 ∧ 0 < dot d (P q) - z) ∨ (0 < dot d (P p) - z ∧ dot d (P q) - z < 0)) → xT xmX4_slice (5, 0, 0, 0, 0) 124 [some (.ref 57), some (.ref 5), some (zJ d.1), none, some (zJ d.2.1), none, some (zJ d.2.2), none, some (zJ z), none, some (zI p), some (zJ (dot d (P p) - z)), none, some (zI q), some (zJ (dot d (P q) - z)), none, l16] [] n (seH h s) Q := by
      intro hap
      refine tt_op rfl rfl ?_
      refine tt_goto rfl ?_
      refine tt_op rfl rfl ?_
      refine tt_op rfl rfl ?_
      refine z_if rfl (by first | assumption | (unfold R3; omega)) (fun c => absurd c (by simp only [zcd] <;> omega)) (fun c => ?_)
      refine tt_op rfl rfl ?_
      refine tt_get rfl (by assumption) (by rfl) ?_
      refine tt_op rfl rfl ?_
      refine z_iald rfl (by assumption) rfl (by omega) (by decide) ?_
      refine tt_op rfl rfl ?_
      refine z_tb rfl rfl rfl (by omega) (by omega) ?_
      refine z_if rfl (by split <;> exact ⟨by decide, by decide⟩) (fun c1 => ?_) (fun c1 => ?_)
      · refine nx _ (fun y => ?_)
        simp [zcd, y.2] at c1
      · have hbit : (b p).testBit q = true := by
          cases hx : (b p).testBit q with
          | true => rfl
          | false => simp [zcd, hx] at c1
        rw [if_pos ⟨hap, hbit⟩] at hfin
        refine tt_op rfl rfl ?_
        refine tt_op rfl rfl ?_
        refine tt_get rfl (by assumption) (by rfl) ?_
        refine tt_op rfl rfl ?_
        refine tt_op rfl rfl ?_
        refine z_abs rfl RQ ?_
        refine tt_op rfl rfl ?_
        refine tt_op rfl rfl ?_
        refine z_abs rfl RP ?_
        refine tt_callV (M' := xmX4_mix) rfl rfl rfl h57 rfl (c_mix HC p q hp (by omega) _ _ ⟨by omega, by omega⟩ ⟨by omega, by omega⟩ s hs.1 hs.2) ?_
        rintro r n' h' ⟨rfl, rfl, rfl⟩
        refine z_iinc rfl rfl rfl ?_
        refine tt_goto rfl ?_
        exact ih (q + 1) _ _ _ (by omega) (isv_ok (mxV_bd hb hp (by omega) ⟨by omega, by omega⟩ ⟨by omega, by omega⟩) hs.1 hs.2) hfin
    have na : ¬ ((dot d (P p) - z < 0 ∧ 0 < dot d (P q) - z) ∨ (0 < dot d (P p) - z ∧ dot d (P q) - z < 0)) → xT xmX4_slice (5, 0, 0, 0, 0) 128 [some (.ref 57), some (.ref 5), some (zJ d.1), none, some (zJ d.2.1), none, some (zJ d.2.2), none, some (zJ z), none, some (zI p), some (zJ (dot d (P p) - z)), none, some (zI q), some (zJ (dot d (P q) - z)), none, l16] [] n (seH h s) Q := by
      intro hna
      refine tt_op rfl rfl ?_
      refine tt_op rfl rfl ?_
      refine tt_op rfl rfl ?_
      refine z_if rfl (by first | assumption | (unfold R3; omega)) (fun c => ?_) (fun c => absurd (by simp only [zcd] <;> omega) c)
      exact nx _ (fun y => hna y.1)
    have at110 : ¬ (dot d (P p) - z < 0 ∧ 0 < dot d (P q) - z) → xT xmX4_slice (5, 0, 0, 0, 0) 110 [some (.ref 57), some (.ref 5), some (zJ d.1), none, some (zJ d.2.1), none, some (zJ d.2.2), none, some (zJ z), none, some (zI p), some (zJ (dot d (P p) - z)), none, some (zI q), some (zJ (dot d (P q) - z)), none, l16] [] n (seH h s) Q := by
      intro hn
      refine tt_op rfl rfl ?_
      refine tt_op rfl rfl ?_
      refine z_lif rfl rfl RP R0 (fun c3 => na (fun y => ?_)) (fun c3 => ?_)
      · have c3 : dot d (P p) - z ≤ 0 := c3
        omega
      have c3 : ¬ dot d (P p) - z ≤ 0 := c3
      refine tt_op rfl rfl ?_
      refine tt_op rfl rfl ?_
      refine z_lif rfl rfl RQ R0 (fun c4 => na (fun y => ?_)) (fun c4 => ap (Or.inr ⟨by omega, ?_⟩))
      · have c4 : 0 ≤ dot d (P q) - z := c4
        omega
      · have c4 : ¬ 0 ≤ dot d (P q) - z := c4
        omega
    refine z_lif rfl rfl RP R0 (fun c1 => at110 (fun y => ?_)) (fun c1 => ?_)
    · have c1 : 0 ≤ dot d (P p) - z := c1
      omega
    have c1 : ¬ 0 ≤ dot d (P p) - z := c1
    refine tt_op rfl rfl ?_
    refine tt_op rfl rfl ?_
    refine z_lif rfl rfl RQ R0 (fun c2 => ap (Or.inl ⟨by omega, c2⟩)) (fun c2 => at110 (fun y => c2 y.2))
set_option maxRecDepth 10000 in
set_option maxHeartbeats 2000000 in
theorem c_slice_p (HC : xCl h m P) {F E CB : Nat} {six : Int} (h5 : h 5 = some (huC F E CB six)) (hCB : CB < 16384) (b : Nat → Nat) (h7 : h 7 = some (bA b)) (hbb : ∀ j, j < 14 → b j < 16384) (d : V3) (hd : vbd 20 d) (z : Int) (hz : -2000 ≤ z ∧ z ≤ 2000) : ∀ (k p : Nat) (s : Nat × (Nat → Int)) (l11 l13 l14 l16 : Option Value), p + k = 14 → sOk s → xT xmX4_slice (5, 0, 0, 0, 0) 8 [some (.ref 57), some (.ref 5), some (zJ d.1), none, some (zJ d.2.1), none, some (zJ d.2.2), none, some (zJ z), none, some (zI p), l11, none, l13, l14, none, l16] [] n (seH h s) (fun r n' h' => r = none ∧ n' = n ∧ h' = seH h (slP P CB b d z k p s) ∧ sOk (slP P CB b d z k p s)) := by
  have hb := HC.2.2.2.2.2
  have R0 : R6 0 := ⟨by decide, by decide⟩
  intro k
  induction k with
  | zero =>
    intro p s l11 l13 l14 l16 hp hs
    refine tt_op rfl rfl ?_
    refine tt_op rfl rfl ?_
    refine z_icmp rfl (by first | assumption | (unfold R3; omega)) (by first | assumption | (unfold R3; omega)) (fun c => ?_) (fun c => absurd (by simp only [zcd] <;> omega) c)
    refine tt_return rfl rfl (Nat.le_of_ble_eq_true rfl) (Nat.le_of_ble_eq_true rfl) ?_
    exact ⟨rfl, rfl, rfl, hs⟩
  | succ k ih =>
    intro p s l11 l13 l14 l16 hp hs
    have K := xCl_se (s := s) HC
    have k1 := K.1
    have g5 : seH h s 5 = some (huC F E CB six) := by rw [seH_n (by omega) (by omega)]; exact h5
    have h57 := (xup_s : seH h s 57 = some (seC s.1))
    have bp := dot_bd hd (hb p (by omega))
    have RP : R6 (dot d (P p) - z) := by unfold R6; omega
    unfold slP
    refine tt_op rfl rfl ?_
    refine tt_op rfl rfl ?_
    refine z_icmp rfl (by first | assumption | (unfold R3; omega)) (by first | assumption | (unfold R3; omega)) (fun c => absurd c (by simp only [zcd] <;> omega)) (fun c => ?_)
    refine tt_op rfl rfl ?_
    refine tt_op rfl rfl ?_
    refine tt_pV rfl rfl rfl g5 rfl (c_isCorner g5 p (by omega) hCB) ?_
    refine z_if rfl (by split <;> exact ⟨by decide, by decide⟩) (fun c1 => ?_) (fun c1 => ?_)
    rotate_left
    · cases hx : CB.testBit p with
      | true => simp [zcd, hx] at c1
      | false =>
        simp only [Bool.false_eq_true, if_false]
        refine tt_goto rfl ?_
        refine z_iinc rfl rfl rfl ?_
        refine tt_goto rfl ?_
        exact ih (p + 1) s _ _ _ _ (by omega) hs
    have hbit : CB.testBit p = true := by
      cases hx : CB.testBit p with
      | true => rfl
      | false => simp [zcd, hx] at c1
    rw [if_pos hbit]
    refine tt_op rfl rfl ?_
    refine tt_get rfl (by assumption) (by rfl) ?_
    refine tt_op rfl rfl ?_
    refine tt_op rfl rfl ?_
    refine tt_op rfl rfl ?_
    refine tt_op rfl rfl ?_
    refine tt_pV rfl rfl rfl k1 rfl (c_sum K p (by omega) _ _ _) ?_
    refine tt_op rfl rfl ?_
    refine z_lsub rfl ?_
    refine tt_op rfl rfl ?_
    refine tt_op rfl rfl ?_
    refine tt_op rfl rfl ?_
    have rest : ∀ s', sOk s' → xT xmX4_slice (5, 0, 0, 0, 0) 67 [some (.ref 57), some (.ref 5), some (zJ d.1), none, some (zJ d.2.1), none, some (zJ d.2.2), none, some (zJ z), none, some (zI p), some (zJ (dot d (P p) - z)), none, l13, l14, none, l16] [] n (seH h s') (fun r n' h' => r = none ∧ n' = n ∧ h' = seH h (slP P CB b d z k (p + 1) (slQ P b d z p p 0 s')) ∧ sOk (slP P CB b d z k (p + 1) (slQ P b d z p p 0 s'))) := by
      intro s' hs'
      refine tt_op rfl rfl ?_
      refine tt_op rfl rfl ?_
      refine c_slice_q HC h5 b h7 hbb d hd z hz p (by omega) _ p 0 s' _ _ (by omega) hs' (fun l14 l16 hok => ?_)
      refine z_iinc rfl rfl rfl ?_
      refine tt_goto rfl ?_
      exact ih (p + 1) _ _ _ _ _ (by omega) hok
    refine z_lif rfl rfl RP R0 (fun c2 => ?_) (fun c2 => ?_)
    · have c2 : ¬ dot d (P p) - z = 0 := c2
      rw [if_neg c2]
      exact rest s hs
    · have c2 : ¬ dot d (P p) - z ≠ 0 := c2
      rw [if_pos (by omega)]
      refine tt_op rfl rfl ?_
      refine tt_op rfl rfl ?_
      refine tt_get rfl (by assumption) (by rfl) ?_
      refine tt_op rfl rfl ?_
      refine tt_op rfl rfl ?_
      refine tt_op rfl rfl ?_
      refine tt_op rfl rfl ?_
      refine tt_callV (M' := xmX4_mix) rfl rfl rfl h57 rfl (c_mix HC p p (by omega) (by omega) 1 0 ⟨by omega, by omega⟩ ⟨by omega, by omega⟩ s hs.1 hs.2) ?_
      rintro r n' h' ⟨rfl, rfl, rfl⟩
      exact rest _ (isv_ok (mxV_bd hb (by omega) (by omega) ⟨by omega, by omega⟩ ⟨by omega, by omega⟩) hs.1 hs.2)
set_option maxRecDepth 10000 in
theorem c_slice (HC : xCl h m P) {F E CB : Nat} {six : Int} (h5 : h 5 = some (huC F E CB six)) (hCB : CB < 16384) (b : Nat → Nat) (h7 : h 7 = some (bA b)) (hbb : ∀ j, j < 14 → b j < 16384) (d : V3) (hd : vbd 20 d) (z : Int) (hz : -2000 ≤ z ∧ z ≤ 2000) (h57 : h 57 = some (seC cnt)) (h58 : h 58 = some (zL 96 N)) (hN : sBd N) : xCall xmX4_slice 5 0 0 [.ref 57, .ref 5, zJ d.1, zJ d.2.1, zJ d.2.2, zJ z] n h (fun r n' h' => r = none ∧ n' = n ∧ h' = seH h (slP P CB b d z 14 0 (0, N)) ∧ sOk (slP P CB b d z 14 0 (0, N))) := by
  refine xCall.of xgX4_slice rfl ?_
  refine tt_op rfl rfl ?_
  refine tt_op rfl rfl ?_
  refine tt_put rfl (h57) rfl (by decide) (by rfl) (by rfl) rfl ?_
  refine tt_op rfl rfl ?_
  refine tt_op rfl rfl ?_
  have := c_slice_p (n := n) HC h5 hCB b h7 hbb d hd z hz 14 0 (0, N) none none none none rfl ⟨Nat.zero_le _, hN⟩
  have e : seH h (0, N) = xup h 57 (seC 0) := by
    show xup (xup h 58 (zL 96 N)) 57 (seC 0) = _
    rw [xup_same h58]
  rw [e] at this
  exact this
end SE
end
section
/-! The motions -/
abbrev moC (cnt : Nat) : xE := .inr (2, [.ref 5, zI cnt, .ref 60, .ref 61])
abbrev St : Type := Nat × (Nat → Nat) × (Nat → Nat)
abbrev moH (h : xHp) (s : St) : xHp := xup (xup (xup h 61 (bA s.2.2)) 60 (zA 672 fun j => (s.2.1 j : Int))) 59 (moC s.1)
def mOk (s : St) : Prop := s.1 ≤ 48 ∧ (∀ j, j < 672 → s.2.1 j < 14) ∧ ∀ j, j < 14 → s.2.2 j < 14
theorem moH_n {h : xHp} {s : St} {j : Nat} (h1 : j ≠ 59) (h2 : j ≠ 60) (h3 : j ≠ 61) : moH h s j = h j := by
  show xup (xup (xup h 61 (bA s.2.2)) 60 _) 59 (moC s.1) j = h j
  rw [xup_n h1, xup_n h2, xup_n h3]
theorem moH_59 {h : xHp} {s : St} : moH h s 59 = some (moC s.1) := xup_s
theorem moH_60 {h : xHp} {s : St} : moH h s 60 = some (zA 672 fun j => (s.2.1 j : Int)) := by
  show xup (xup (xup h 61 (bA s.2.2)) 60 _) 59 (moC s.1) 60 = _
  rw [xup_n (by omega)]; exact xup_s
theorem moH_61 {h : xHp} {s : St} : moH h s 61 = some (bA s.2.2) := by
  show xup (xup (xup h 61 (bA s.2.2)) 60 _) 59 (moC s.1) 61 = _
  rw [xup_n (by omega), xup_n (by omega)]; exact xup_s
section MO
variable {h : xHp} {m : Nat} {P : Nat → V3} {n : Nat} {F E CB : Nat} {six : Int}
theorem xCl_mo {s : St} (HC : xCl h m P) : xCl (moH h s) m P := xCl_up (by omega) (xCl_up (by omega) (xCl_up (by omega) HC))
set_option maxRecDepth 10000 in
theorem c_image (s : St) (i co : Nat) (hi : i < 48) (hc : co < 14) : xPure xmX2_image 2 [.ref 59, zI i, zI co] n (moH h s) (zI (s.2.1 (14 * i + co))) := by
  have h59 := moH_59 (h := h) (s := s)
  have h60 := moH_60 (h := h) (s := s)
  refine xCall.of xgX2_image rfl ?_
  refine tt_op rfl rfl ?_
  refine z_if rfl (by first | assumption | (unfold R3; omega)) (fun c => absurd c (by simp only [zcd] <;> omega)) (fun c => ?_)
  refine tt_op rfl rfl ?_
  refine tt_op rfl rfl ?_
  refine z_icmp rfl (by first | assumption | (unfold R3; omega)) (by first | assumption | (unfold R3; omega)) (fun c => absurd c (by simp only [zcd] <;> omega)) (fun c => ?_)
  refine tt_op rfl rfl ?_
  refine tt_pS rfl rfl rfl rfl (c_isPoint co hc _ _) ?_
  refine z_if rfl (by first | assumption | (unfold R3; omega)) (fun c => absurd c (by simp only [zcd] <;> omega)) (fun c => ?_)
  refine tt_op rfl rfl ?_
  refine tt_get rfl h59 (by rfl) ?_
  refine tt_op rfl rfl ?_
  refine tt_op rfl rfl ?_
  refine z_imul rfl ?_
  refine tt_op rfl rfl ?_
  refine z_iadd rfl ?_
  refine z_iald (j := 14 * i + co) rfl h60 (by omega) (by omega) (by decide) ?_
  refine tt_goto rfl ?_
  refine tt_ireturn rfl rfl (by rfl) (Nat.le_of_ble_eq_true rfl) (Nat.le_of_ble_eq_true rfl) ?_
  exact ⟨rfl, rfl, rfl⟩
/-- one symmetry is kept -/
def kpS (s : St) : St := if s.1 < 48 then (s.1 + 1, va_cpy s.2.2 s.2.1 0 (14 * s.1) 14, s.2.2) else s
theorem cpy_n (F G : Nat → Nat) (a b c : Nat) : va_cpy (fun j => (F j : Int)) (fun j => (G j : Int)) a b c = fun j => ((va_cpy F G a b c j : Nat) : Int) := by
  funext j
  unfold va_cpy
  split <;> rfl
theorem kpS_ok {s : St} (hs : mOk s) : mOk (kpS s) := by
  obtain ⟨s1, s2, s3⟩ := hs
  unfold kpS
  split
  · refine ⟨by show s.1 + 1 ≤ 48; omega, fun j hj => ?_, s3⟩
    show va_cpy s.2.2 s.2.1 0 (14 * s.1) 14 j < 14
    unfold va_cpy
    split
    · exact s3 _ (by omega)
    · exact s2 j hj
  · exact ⟨s1, s2, s3⟩
set_option maxRecDepth 10000 in
theorem c_keep (s : St) (hs : s.1 ≤ 48) : xCall xmX2_keep 2 0 0 [.ref 59] n (moH h s) (fun r n' h' => r = none ∧ n' = n ∧ h' = moH h (kpS s)) := by
  have h59 := moH_59 (h := h) (s := s)
  have h60 := moH_60 (h := h) (s := s)
  have h61 := moH_61 (h := h) (s := s)
  refine xCall.of xgX2_keep rfl ?_
  refine tt_op rfl rfl ?_
  refine tt_get rfl (by assumption) (by rfl) ?_
  refine z_if rfl (by first | assumption | (unfold R3; omega)) (fun c => absurd c (by simp only [zcd] <;> omega)) (fun c => ?_)
  refine tt_op rfl rfl ?_
  refine tt_get rfl (by assumption) (by rfl) ?_
  refine tt_op rfl rfl ?_
  refine z_icmp rfl (by first | assumption | (unfold R3; omega)) (by first | assumption | (unfold R3; omega)) (fun c1 => ?_) (fun c1 => ?_)
  · simp only [zcd] at c1
    refine tt_return rfl rfl (Nat.le_of_ble_eq_true rfl) (Nat.le_of_ble_eq_true rfl) ?_
    refine ⟨rfl, rfl, ?_⟩
    unfold kpS
    rw [if_neg (by omega)]
  simp only [zcd] at c1
  refine tt_op rfl rfl ?_
  refine tt_get rfl (by assumption) (by rfl) ?_
  refine tt_op rfl rfl ?_
  refine tt_op rfl rfl ?_
  refine tt_get rfl (by assumption) (by rfl) ?_
  refine tt_op rfl rfl ?_
  refine tt_op rfl rfl ?_
  refine tt_get rfl (by assumption) (by rfl) ?_
  refine z_imul rfl ?_
  refine tt_op rfl rfl ?_
  refine z_cpyI (sp := 0) (dp := 14 * s.1) (k := 14) rfl h61 h60 rfl (by omega) rfl (by omega) (by omega) (by decide) (by decide) ?_
  have g59 : ∀ e, xup (moH h s) 60 e 59 = some (moC s.1) := fun e => by rw [xup_n (by omega)]; exact h59
  refine tt_op rfl rfl ?_
  refine tt_op rfl rfl ?_
  refine tt_get rfl (g59 _) (by rfl) ?_
  refine tt_op rfl rfl ?_
  refine z_iadd rfl ?_
  refine tt_put rfl (g59 _) rfl (by decide) (by rfl) (by rfl) rfl ?_
  refine tt_return rfl rfl (Nat.le_of_ble_eq_true rfl) (Nat.le_of_ble_eq_true rfl) ?_
  refine ⟨rfl, rfl, ?_⟩
  unfold kpS
  rw [if_pos (by omega), cpy_n]
  show xup (xup (xup (xup (xup h 61 (bA s.2.2)) 60 _) 59 (moC s.1)) 60 _) 59 _ = _
  rw [xup_comm (show (59 : Nat) ≠ 60 by omega), xup_xup, xup_xup]
  rfl
/-- whether next may get to -/
def ftR (P : Nat → V3) (CB : Nat) (dr : Nat → Nat) (nx to : Nat) : Nat → Nat → Bool
  | 0, _ => true
  | k + 1, i => if CB.testBit i = true ∧ dst P i nx ≠ dst P (dr i) to then false else ftR P CB dr nx to k (i + 1)
theorem dst_bd (hb : pbd P) {p q : Nat} (hp : p < 14) (hq : q < 14) : R3 (dst P p q) := by
  have h1 := vbd_sub (hb q hq) (hb p hp)
  have := dot_bd h1 h1
  unfold R3 dst
  omega
set_option maxRecDepth 10000 in
set_option maxHeartbeats 1000000 in
theorem c_mfits_loop (HC : xCl h m P) (h5 : h 5 = some (huC F E CB six)) (hCB : CB < 16384) (s : St) (hs : mOk s) (nx to : Nat) (hnx : nx < 14) (hto : to < 14) : ∀ (k i : Nat), i + k = nx → xT xmX2_fits (3, 0, 0, 0, 0) 2 [some (.ref 59), some (zI nx), some (zI to), some (zI i)] [] n (moH h s) (fun r n' h' => r = some (zI (if ftR P CB s.2.2 nx to k i = true then 1 else 0)) ∧ n' = n ∧ h' = moH h s) := by
  have hb := HC.2.2.2.2.2
  have K := xCl_mo (s := s) HC
  have k1 := K.1
  have h59 := moH_59 (h := h) (s := s)
  have h61 := moH_61 (h := h) (s := s)
  have g5 : moH h s 5 = some (huC F E CB six) := by rw [moH_n (by omega) (by omega) (by omega)]; exact h5
  intro k
  induction k with
  | zero =>
    intro i hi
    refine tt_op rfl rfl ?_
    refine tt_op rfl rfl ?_
    refine z_icmp rfl (by first | assumption | (unfold R3; omega)) (by first | assumption | (unfold R3; omega)) (fun c => ?_) (fun c => absurd (by simp only [zcd] <;> omega) c)
    refine tt_op rfl rfl ?_
    refine tt_ireturn rfl rfl (by rfl) (Nat.le_of_ble_eq_true rfl) (Nat.le_of_ble_eq_true rfl) ?_
    exact ⟨rfl, rfl, rfl⟩
  | succ k ih =>
    intro i hi
    have hdr := hs.2.2 i (by omega)
    have r1 := dst_bd hb (show i < 14 by omega) hnx
    have r2 := dst_bd hb hdr hto
    unfold ftR
    have nxt : ¬ (CB.testBit i = true ∧ dst P i nx ≠ dst P (s.2.2 i) to) → xT xmX2_fits (3, 0, 0, 0, 0) 58 [some (.ref 59), some (zI nx), some (zI to), some (zI i)] [] n (moH h s) (fun r n' h' => r = some (zI (if (if CB.testBit i = true ∧ dst P i nx ≠ dst P (s.2.2 i) to then false else ftR P CB s.2.2 nx to k (i + 1)) = true then 1 else 0)) ∧ n' = n ∧ h' = moH h s) := by
      intro hno
      rw [if_neg hno]
      refine z_iinc rfl rfl rfl ?_
      refine tt_goto rfl ?_
      exact ih (i + 1) (by omega)
    refine tt_op rfl rfl ?_
    refine tt_op rfl rfl ?_
    refine z_icmp rfl (by first | assumption | (unfold R3; omega)) (by first | assumption | (unfold R3; omega)) (fun c => absurd c (by simp only [zcd] <;> omega)) (fun c => ?_)
    refine tt_op rfl rfl ?_
    refine tt_op rfl rfl ?_
    refine z_icmp rfl (by first | assumption | (unfold R3; omega)) (by first | assumption | (unfold R3; omega)) (fun c => absurd c (by simp only [zcd] <;> omega)) (fun c => ?_)
    refine tt_op rfl rfl ?_
    refine tt_get rfl (by assumption) (by rfl) ?_
    refine tt_op rfl rfl ?_
    refine tt_pV rfl rfl rfl g5 rfl (c_isCorner g5 i (by omega) hCB) ?_
    refine z_if rfl (by split <;> exact ⟨by decide, by decide⟩) (fun c1 => ?_) (fun c1 => ?_)
    · refine nxt (fun y => ?_)
      simp [zcd, y.1] at c1
    · have hbit : CB.testBit i = true := by
        cases hx : CB.testBit i with
        | true => rfl
        | false => simp [zcd, hx] at c1
      refine tt_op rfl rfl ?_
      refine tt_get rfl (by assumption) (by rfl) ?_
      refine tt_get rfl (by assumption) (by rfl) ?_
      refine tt_op rfl rfl ?_
      refine tt_op rfl rfl ?_
      refine tt_pV rfl rfl rfl k1 rfl (c_distance K i nx (by omega) hnx) ?_
      refine tt_op rfl rfl ?_
      refine tt_get rfl (by assumption) (by rfl) ?_
      refine tt_get rfl (by assumption) (by rfl) ?_
      refine tt_op rfl rfl ?_
      refine tt_get rfl (by assumption) (by rfl) ?_
      refine tt_op rfl rfl ?_
      refine z_iald rfl (by assumption) rfl (by omega) (by decide) ?_
      refine tt_op rfl rfl ?_
      refine tt_pV rfl rfl rfl k1 rfl (c_distance K (s.2.2 i) to hdr hto) ?_
      refine z_icmp rfl r1 r2 (fun c2 => ?_) (fun c2 => ?_)
      · have c2 : dst P i nx = dst P (s.2.2 i) to := c2
        exact nxt (fun y => y.2 c2)
      · have c2 : ¬ dst P i nx = dst P (s.2.2 i) to := c2
        rw [if_pos (show CB.testBit i = true ∧ dst P i nx ≠ dst P (s.2.2 i) to from ⟨hbit, c2⟩)]
        refine tt_op rfl rfl ?_
        refine tt_ireturn rfl rfl (by rfl) (Nat.le_of_ble_eq_true rfl) (Nat.le_of_ble_eq_true rfl) ?_
        exact ⟨rfl, rfl, rfl⟩
set_option maxRecDepth 10000 in
theorem c_mfits (HC : xCl h m P) (h5 : h 5 = some (huC F E CB six)) (hCB : CB < 16384) (s : St) (hs : mOk s) (nx to : Nat) (hnx : nx < 14) (hto : to < 14) : xPure xmX2_fits 3 [.ref 59, zI nx, zI to] n (moH h s) (zI (if ftR P CB s.2.2 nx to nx 0 = true then 1 else 0)) := by
  refine xCall.of xgX2_fits rfl ?_
  refine tt_op rfl rfl ?_
  refine tt_op rfl rfl ?_
  exact c_mfits_loop HC h5 hCB s hs nx to hnx hto nx 0 (by omega)
def lpR (body : Nat → St → St) : Nat → Nat → St → St
  | 0, _, s => s
  | k + 1, to, s => lpR body k (to + 1) (body to s)
/-- the search -/
def exR (P : Nat → V3) (CB : Nat) : Nat → Nat → Nat → St → St
  | 0, _, _, s => kpS s
  | f + 1, nx, fr, s => if CB.testBit nx = true then lpR (fun to s => if fr.testBit to = true ∧ ftR P CB s.2.2 nx to nx 0 = true then exR P CB f (nx + 1) (bdf fr (2 ^ to)) (s.1, s.2.1, nup s.2.2 nx to) else s) 14 0 s else exR P CB f (nx + 1) fr s
theorem bdf_lt {a b : Nat} (ha : a < 16384) : bdf a b < 16384 := by
  unfold bdf
  exact Nat.xor_lt_two_pow (n := 14) ha (Nat.lt_of_le_of_lt Nat.and_le_left ha)
theorem setdr {s : St} {nx to : Nat} : xup (moH h s) 61 (bA (nup s.2.2 nx to)) = moH h (s.1, s.2.1, nup s.2.2 nx to) := by
  show xup (xup (xup (xup h 61 (bA s.2.2)) 60 _) 59 (moC s.1)) 61 _ = _
  rw [xup_comm (show (59 : Nat) ≠ 61 by omega), xup_comm (show (60 : Nat) ≠ 61 by omega), xup_xup]
theorem setdr_ok {s : St} (hs : mOk s) {nx to : Nat} (hto : to < 14) : mOk (s.1, s.2.1, nup s.2.2 nx to) := by
  refine ⟨hs.1, hs.2.1, fun j hj => ?_⟩
  show nup s.2.2 nx to j < 14
  unfold nup
  split
  · exact hto
  · exact hs.2.2 j hj
set_option maxRecDepth 10000 in
set_option maxHeartbeats 2000000 in
theorem c_extend (HC : xCl h m P) (h5 : h 5 = some (huC F E CB six)) (hCB : CB < 16384) : ∀ (f nx fr : Nat) (s : St), nx + f = 14 → fr < 16384 → mOk s → xCall xmX2_extend (f + 5) 0 0 [.ref 59, zI nx, zI fr] n (moH h s) (fun r n' h' => r = none ∧ n' = n ∧ h' = moH h (exR P CB f nx fr s) ∧ mOk (exR P CB f nx fr s)) := by
  intro f
  induction f with
  | zero =>
    intro nx fr s hnx hfr hs
    refine xCall.of xgX2_extend rfl ?_
    refine tt_op rfl rfl ?_
    refine tt_pS rfl rfl rfl rfl (c_isPoint_no (nx : Int) ⟨by omega, by omega⟩ (by omega) _ _) ?_
    refine z_if rfl (by first | assumption | (unfold R3; omega)) (fun c => absurd c (by simp only [zcd] <;> omega)) (fun c => ?_)
    refine tt_op rfl rfl ?_
    refine tt_callV (M' := xmX2_keep) rfl rfl rfl (moH_59 (s := s)) rfl (c_keep s hs.1) ?_
    rintro r n' h' ⟨rfl, rfl, rfl⟩
    refine tt_return rfl rfl (Nat.le_of_ble_eq_true rfl) (Nat.le_of_ble_eq_true rfl) ?_
    exact ⟨rfl, rfl, rfl, kpS_ok hs⟩
  | succ f ih =>
    intro nx fr s hnx hfr hs
    have g5 : ∀ s, moH h s 5 = some (huC F E CB six) := fun s => by rw [moH_n (by omega) (by omega) (by omega)]; exact h5
    have g59 : ∀ s, moH h s 59 = some (moC s.1) := fun s => moH_59
    have e59 := g59 s
    refine xCall.of xgX2_extend rfl ?_
    unfold exR
    refine tt_op rfl rfl ?_
    refine tt_pS rfl rfl rfl rfl (c_isPoint nx (by omega) _ _) ?_ (by omega)
    refine z_if rfl (by first | assumption | (unfold R3; omega)) (fun c => ?_) (fun c => absurd (by simp only [zcd] <;> omega) c)
    refine tt_op rfl rfl ?_
    refine tt_get rfl (by assumption) (by rfl) ?_
    refine tt_op rfl rfl ?_
    refine tt_pV rfl rfl rfl (g5 s) rfl (c_isCorner (g5 s) nx (by omega) hCB) ?_ (by omega)
    refine z_if rfl (by split <;> exact ⟨by decide, by decide⟩) (fun c1 => ?_) (fun c1 => ?_)
    rotate_left
    · cases hx : CB.testBit nx with
      | true => simp [zcd, hx] at c1
      | false =>
        simp only [Bool.false_eq_true, if_false]
        refine tt_op rfl rfl ?_
        refine tt_op rfl rfl ?_
        refine tt_op rfl rfl ?_
        refine z_iadd rfl ?_
        refine tt_op rfl rfl ?_
        refine tt_callV (M' := xmX2_extend) rfl rfl rfl e59 rfl (ih (nx + 1) fr s (by omega) hfr hs) ?_ (by omega)
        rintro r n' h' ⟨rfl, rfl, rfl, hok⟩
        refine tt_return rfl rfl (Nat.le_of_ble_eq_true rfl) (Nat.le_of_ble_eq_true rfl) ?_
        exact ⟨rfl, rfl, rfl, hok⟩
    have hbit : CB.testBit nx = true := by
      cases hx : CB.testBit nx with
      | true => rfl
      | false => simp [zcd, hx] at c1
    rw [if_pos hbit]
    have loop : ∀ (k to : Nat) (s : St), to + k = 14 → mOk s → xT xmX2_extend (f + 1 + 5, 0, 0, 0, 0) 34 [some (.ref 59), some (zI nx), some (zI fr), some (zI to)] [] n (moH h s) (fun r n' h' => r = none ∧ n' = n ∧ h' = moH h (lpR (fun to s => if fr.testBit to = true ∧ ftR P CB s.2.2 nx to nx 0 = true then exR P CB f (nx + 1) (bdf fr (2 ^ to)) (s.1, s.2.1, nup s.2.2 nx to) else s) k to s) ∧ mOk (lpR (fun to s => if fr.testBit to = true ∧ ftR P CB s.2.2 nx to nx 0 = true then exR P CB f (nx + 1) (bdf fr (2 ^ to)) (s.1, s.2.1, nup s.2.2 nx to) else s) k to s)) := by
      intro k
      induction k with
      | zero =>
        intro to s hto hs
        refine tt_op rfl rfl ?_
        refine tt_op rfl rfl ?_
        refine z_icmp rfl (by first | assumption | (unfold R3; omega)) (by first | assumption | (unfold R3; omega)) (fun c => ?_) (fun c => absurd (by simp only [zcd] <;> omega) c)
        refine tt_return rfl rfl (Nat.le_of_ble_eq_true rfl) (Nat.le_of_ble_eq_true rfl) ?_
        exact ⟨rfl, rfl, rfl, hs⟩
      | succ k ihk =>
        intro to s hto hs
        unfold lpR
        have e59 := g59 s
        have e61 := moH_61 (h := h) (s := s)
        have nxt : ¬ (fr.testBit to = true ∧ ftR P CB s.2.2 nx to nx 0 = true) → xT xmX2_extend (f + 1 + 5, 0, 0, 0, 0) 78 [some (.ref 59), some (zI nx), some (zI fr), some (zI to)] [] n (moH h s) (fun r n' h' => r = none ∧ n' = n ∧ h' = moH h (lpR (fun to s => if fr.testBit to = true ∧ ftR P CB s.2.2 nx to nx 0 = true then exR P CB f (nx + 1) (bdf fr (2 ^ to)) (s.1, s.2.1, nup s.2.2 nx to) else s) k (to + 1) (if fr.testBit to = true ∧ ftR P CB s.2.2 nx to nx 0 = true then exR P CB f (nx + 1) (bdf fr (2 ^ to)) (s.1, s.2.1, nup s.2.2 nx to) else s)) ∧ mOk (lpR (fun to s => if fr.testBit to = true ∧ ftR P CB s.2.2 nx to nx 0 = true then exR P CB f (nx + 1) (bdf fr (2 ^ to)) (s.1, s.2.1, nup s.2.2 nx to) else s) k (to + 1) (if fr.testBit to = true ∧ ftR P CB s.2.2 nx to nx 0 = true then exR P CB f (nx + 1) (bdf fr (2 ^ to)) (s.1, s.2.1, nup s.2.2 nx to) else s))) := by
          intro hno
          rw [if_neg hno]
          refine z_iinc rfl rfl rfl ?_
          refine tt_goto rfl ?_
          exact ihk (to + 1) s (by omega) hs
        refine tt_op rfl rfl ?_
        refine tt_op rfl rfl ?_
        refine z_icmp rfl (by first | assumption | (unfold R3; omega)) (by first | assumption | (unfold R3; omega)) (fun c => absurd c (by simp only [zcd] <;> omega)) (fun c => ?_)
        refine tt_op rfl rfl ?_
        refine tt_op rfl rfl ?_
        refine z_tb rfl rfl rfl (by omega) (by omega) ?_
        refine z_if rfl (by split <;> exact ⟨by decide, by decide⟩) (fun c2 => ?_) (fun c2 => ?_)
        · refine nxt (fun y => ?_)
          simp [zcd, y.1] at c2
        have hfb : fr.testBit to = true := by
          cases hx : fr.testBit to with
          | true => rfl
          | false => simp [zcd, hx] at c2
        refine tt_op rfl rfl ?_
        refine tt_op rfl rfl ?_
        refine tt_op rfl rfl ?_
        refine tt_pV rfl rfl rfl e59 rfl (c_mfits HC h5 hCB s hs nx to (by omega) (by omega)) ?_ (by omega)
        refine z_if rfl (by split <;> exact ⟨by decide, by decide⟩) (fun c3 => ?_) (fun c3 => ?_)
        · refine nxt (fun y => ?_)
          simp [zcd, y.2] at c3
        have hft : ftR P CB s.2.2 nx to nx 0 = true := by
          cases hx : ftR P CB s.2.2 nx to nx 0 with
          | true => rfl
          | false => simp [zcd, hx] at c3
        rw [if_pos (show fr.testBit to = true ∧ ftR P CB s.2.2 nx to nx 0 = true from ⟨hfb, hft⟩)]
        refine tt_op rfl rfl ?_
        refine tt_get rfl (by assumption) (by rfl) ?_
        refine tt_op rfl rfl ?_
        refine tt_op rfl rfl ?_
        refine z_iast rfl e61 rfl (by omega) (by decide) ?_
        rw [zup_nup, setdr]
        refine tt_op rfl rfl ?_
        refine tt_op rfl rfl ?_
        refine tt_op rfl rfl ?_
        refine z_iadd rfl ?_
        refine tt_op rfl rfl ?_
        refine tt_op rfl rfl ?_
        refine tt_op rfl rfl ?_
        refine z_shl1 rfl (by omega) ?_
        refine z_dif rfl rfl rfl ?_
        refine tt_callV (M' := xmX2_extend) rfl rfl rfl (g59 _) rfl (ih (nx + 1) (bdf fr (2 ^ to)) (s.1, s.2.1, nup s.2.2 nx to) (by omega) (bdf_lt hfr) (setdr_ok hs (by omega))) ?_ (by omega)
        rintro r n' h' ⟨rfl, rfl, rfl, hok⟩
        refine z_iinc rfl rfl rfl ?_
        refine tt_goto rfl ?_
        exact ihk (to + 1) _ (by omega) hok
    refine tt_op rfl rfl ?_
    refine tt_op rfl rfl ?_
    exact loop 14 0 s rfl hs
set_option maxRecDepth 10000 in
theorem c_list (HC : xCl h m P) (h5 : h 5 = some (huC F E CB six)) (hCB : CB < 16384) (s : St) (hs : mOk s) : xCall xmX2_list 20 0 0 [.ref 59] n (moH h s) (fun r n' h' => r = none ∧ n' = n ∧ h' = moH h (exR P CB 14 0 CB (0, s.2)) ∧ mOk (exR P CB 14 0 CB (0, s.2))) := by
  have h59 := moH_59 (h := h) (s := s)
  refine xCall.of xgX2_list rfl ?_
  refine tt_op rfl rfl ?_
  refine tt_op rfl rfl ?_
  refine tt_put rfl (h59) rfl (by decide) (by rfl) (by rfl) rfl ?_
  have e : xup (moH h s) 59 (moC 0) = moH h (0, s.2) := by
    show xup (xup (xup (xup h 61 (bA s.2.2)) 60 _) 59 (moC s.1)) 59 _ = _
    rw [xup_xup]
  have e' : xup (moH h s) 59 (.inr (Int.toNat 2, xset [.ref 5, zI s.1, .ref 60, .ref 61] 1 (zI 0))) = moH h (0, s.2) := e
  rw [e']
  have g5 : moH h (0, s.2) 5 = some (huC F E CB six) := by rw [moH_n (by omega) (by omega) (by omega)]; exact h5
  have g59 := moH_59 (h := h) (s := (0, s.2))
  refine tt_op rfl rfl ?_
  refine tt_op rfl rfl ?_
  refine tt_op rfl rfl ?_
  refine tt_get rfl (by assumption) (by rfl) ?_
  refine tt_get rfl (by assumption) (by rfl) ?_
  refine tt_callV (M' := xmX2_extend) rfl rfl rfl g59 rfl (c_extend HC h5 hCB 14 0 CB (0, s.2) rfl hCB ⟨Nat.zero_le _, hs.2⟩) ?_
  rintro r n' h' ⟨rfl, rfl, rfl, hok⟩
  refine tt_return rfl rfl (Nat.le_of_ble_eq_true rfl) (Nat.le_of_ble_eq_true rfl) ?_
  exact ⟨rfl, rfl, rfl, hok⟩
end MO
end
section
/-! The motions: hands, rings, periods -/
section MO2
variable {h : xHp} {m : Nat} {P : Nat → V3} {n : Nat} {F E CB : Nat} {six : Int} {ad : Nat → Nat} {f : Nat → FD}
theorem xHf_mo {s : St} (H : xHf h ad f) : xHf (moH h s) ad f := xHf_up (by omega) (xHf_up (by omega) (xHf_up (by omega) H))
def imF (s : St) (i : Nat) : Nat → Nat := fun p => s.2.1 (14 * i + p)
theorem imF_lt {s : St} (hs : mOk s) {i p : Nat} (hi : i < 48) (hp : p < 14) : imF s i p < 14 := hs.2.1 _ (by omega)
theorem c_image' (s : St) (i co : Nat) (hi : i < 48) (hc : co < 14) : xPure xmX2_image 2 [.ref 59, zI i, zI co] n (moH h s) (zI (imF s i co)) := c_image s i co hi hc
abbrev khB (P : Nat → V3) (CB : Nat) (x : FD) (g : Nat → Nat) : Prop := bxs P (x.2.2.2.2.2 0) (x.2.2.2.2.2 1) (x.2.2.2.2.2 2) (tz (bdf CB x.2.2.1)) = bxs P (g (x.2.2.2.2.2 0)) (g (x.2.2.2.2.2 1)) (g (x.2.2.2.2.2 2)) (g (tz (bdf CB x.2.2.1)))
theorem bxs_bd (hb : pbd P) {p q r s : Nat} (hp : p < 14) (hq : q < 14) (hr : r < 14) (hs : s < 14) : R6 (bxs P p q r s) := swg_bd hb hp hq hr (vbd_le (vbd_sub (hb s hs) (hb p hp)) (by omega))
set_option maxRecDepth 10000 in
set_option maxHeartbeats 1000000 in
theorem c_keepsHands (HC : xCl h m P) (h5 : h 5 = some (huC F E CB six)) (H : xHf h ad f) (s : St) (hs : mOk s) (i : Nat) (hi : i < 48) (hw : bdf CB (f 0).2.2.1 < 16384) (h0 : 0 < bdf CB (f 0).2.2.1) : xPure xmX2_keepsHands 4 [.ref 59, zI i] n (moH h s) (zI (if khB P CB (f 0) (imF s i) then 1 else 0)) := by
  have hb := HC.2.2.2.2.2
  have K := xCl_mo (s := s) HC
  have k1 := K.1
  have h59 := moH_59 (h := h) (s := s)
  have g5 : moH h s 5 = some (huC F E CB six) := by rw [moH_n (by omega) (by omega) (by omega)]; exact h5
  have H' := xHf_mo (s := s) H
  obtain ⟨⟨rd, g6, grd⟩, gA, gI, gC, gV⟩ := H'
  have c1 := (gC 0 (by omega)).1
  have c2 := (gC 0 (by omega)).2
  have v6 := (gV 0 (by omega)).2.2.2.2.2
  have ht := tz_lt hw h0
  refine xCall.of xgX2_keepsHands rfl ?_
  refine tt_op rfl rfl ?_
  refine tt_get rfl (by assumption) (by rfl) ?_
  refine tt_get rfl (by assumption) (by rfl) ?_
  refine tt_op rfl rfl ?_
  refine z_aald (j := 0) rfl g6 rfl (by omega) (by decide) (grd 0 (by omega)) ?_
  refine tt_op rfl rfl ?_
  refine tt_op rfl rfl ?_
  refine tt_get rfl (by assumption) (by rfl) ?_
  refine tt_op rfl rfl ?_
  refine z_iald (j := 0) rfl c2 rfl (by omega) (by decide) ?_
  refine tt_op rfl rfl ?_
  refine tt_op rfl rfl ?_
  refine tt_get rfl (by assumption) (by rfl) ?_
  refine tt_op rfl rfl ?_
  refine z_iald (j := 1) rfl c2 rfl (by omega) (by decide) ?_
  refine tt_op rfl rfl ?_
  refine tt_op rfl rfl ?_
  refine tt_get rfl (by assumption) (by rfl) ?_
  refine tt_op rfl rfl ?_
  refine z_iald (j := 2) rfl c2 rfl (by omega) (by decide) ?_
  refine tt_op rfl rfl ?_
  refine tt_op rfl rfl ?_
  refine tt_get rfl (by assumption) (by rfl) ?_
  refine tt_get rfl (by assumption) (by rfl) ?_
  refine tt_op rfl rfl ?_
  refine tt_get rfl (by assumption) (by rfl) ?_
  refine z_dif rfl rfl rfl ?_
  refine tt_pS rfl rfl rfl rfl (c_ntz _ hw h0 _ _) ?_
  refine tt_op rfl rfl ?_
  refine tt_op rfl rfl ?_
  refine tt_get rfl (by assumption) (by rfl) ?_
  refine tt_get rfl (by assumption) (by rfl) ?_
  refine tt_op rfl rfl ?_
  refine tt_op rfl rfl ?_
  refine tt_op rfl rfl ?_
  refine tt_op rfl rfl ?_
  refine tt_pV rfl rfl rfl k1 rfl (c_box K _ _ _ _ (v6 0 (by omega)) (v6 1 (by omega)) (v6 2 (by omega)) ht) ?_
  refine tt_op rfl rfl ?_
  refine tt_op rfl rfl ?_
  refine tt_op rfl rfl ?_
  refine tt_get rfl (by assumption) (by rfl) ?_
  refine tt_get rfl (by assumption) (by rfl) ?_
  refine tt_op rfl rfl ?_
  refine tt_op rfl rfl ?_
  refine tt_op rfl rfl ?_
  refine tt_pV rfl rfl rfl h59 rfl (c_image' s i _ hi (v6 0 (by omega))) ?_
  refine tt_op rfl rfl ?_
  refine tt_op rfl rfl ?_
  refine tt_op rfl rfl ?_
  refine tt_pV rfl rfl rfl h59 rfl (c_image' s i _ hi (v6 1 (by omega))) ?_
  refine tt_op rfl rfl ?_
  refine tt_op rfl rfl ?_
  refine tt_op rfl rfl ?_
  refine tt_pV rfl rfl rfl h59 rfl (c_image' s i _ hi (v6 2 (by omega))) ?_
  refine tt_op rfl rfl ?_
  refine tt_op rfl rfl ?_
  refine tt_op rfl rfl ?_
  refine tt_pV rfl rfl rfl h59 rfl (c_image' s i _ hi ht) ?_
  refine tt_pV rfl rfl rfl k1 rfl (c_box K _ _ _ _ (imF_lt hs hi (v6 0 (by omega))) (imF_lt hs hi (v6 1 (by omega))) (imF_lt hs hi (v6 2 (by omega))) (imF_lt hs hi ht)) ?_
  refine z_lif rfl rfl (bxs_bd hb (v6 0 (by omega)) (v6 1 (by omega)) (v6 2 (by omega)) ht) (bxs_bd hb (imF_lt hs hi (v6 0 (by omega))) (imF_lt hs hi (v6 1 (by omega))) (imF_lt hs hi (v6 2 (by omega))) (imF_lt hs hi ht)) (fun c3 => ?_) (fun c3 => ?_)
  · have c3 : ¬ khB P CB (f 0) (imF s i) := c3
    rw [if_neg c3]
    refine tt_op rfl rfl ?_
    refine tt_ireturn rfl rfl (by rfl) (Nat.le_of_ble_eq_true rfl) (Nat.le_of_ble_eq_true rfl) ?_
    exact ⟨rfl, rfl, rfl⟩
  · have c3 : khB P CB (f 0) (imF s i) := Decidable.of_not_not c3
    rw [if_pos c3]
    refine tt_op rfl rfl ?_
    refine tt_goto rfl ?_
    refine tt_ireturn rfl rfl (by rfl) (Nat.le_of_ble_eq_true rfl) (Nat.le_of_ble_eq_true rfl) ?_
    exact ⟨rfl, rfl, rfl⟩
/-- how long a ring is -/
def rgR (g : Nat → Nat) (co : Nat) : Nat → Nat → Nat → Nat
  | 0, l, _ => l
  | k + 1, l, x => if x = co then l else rgR g co k (l + 1) (g x)
theorem rgR_bd (g : Nat → Nat) (co : Nat) : ∀ (k l x : Nat), l ≤ rgR g co k l x ∧ rgR g co k l x ≤ l + k
  | 0, l, x => ⟨Nat.le_refl _, Nat.le_refl _⟩
  | k + 1, l, x => by
    unfold rgR
    split
    · omega
    · have := rgR_bd g co k (l + 1) (g x)
      omega
def rgF (g : Nat → Nat) (co : Nat) : Nat := rgR g co 13 1 (g co)
set_option maxRecDepth 10000 in
theorem c_ring_loop (s : St) (hs : mOk s) (i co : Nat) (hi : i < 48) (hc : co < 14) : ∀ (k l x : Nat), l + k = 14 → x < 14 → xT xmX2_ringLength (3, 0, 0, 0, 0) 10 [some (.ref 59), some (zI i), some (zI co), some (zI x), some (zI l)] [] n (moH h s) (fun r n' h' => r = some (zI (rgR (imF s i) co k l x)) ∧ n' = n ∧ h' = moH h s) := by
  have h59 := moH_59 (h := h) (s := s)
  intro k
  induction k with
  | zero =>
    intro l x hl hx
    unfold rgR
    refine tt_op rfl rfl ?_
    refine tt_op rfl rfl ?_
    refine z_icmp rfl (by first | assumption | (unfold R3; omega)) (by first | assumption | (unfold R3; omega)) (fun c1 => ?_) (fun c1 => ?_)
    · refine tt_op rfl rfl ?_
      refine tt_ireturn rfl rfl (by rfl) (Nat.le_of_ble_eq_true rfl) (Nat.le_of_ble_eq_true rfl) ?_
      exact ⟨rfl, rfl, rfl⟩
    · refine tt_op rfl rfl ?_
      refine tt_op rfl rfl ?_
      refine z_icmp rfl (by first | assumption | (unfold R3; omega)) (by first | assumption | (unfold R3; omega)) (fun c => ?_) (fun c => absurd (by simp only [zcd] <;> omega) c)
      refine tt_op rfl rfl ?_
      refine tt_ireturn rfl rfl (by rfl) (Nat.le_of_ble_eq_true rfl) (Nat.le_of_ble_eq_true rfl) ?_
      exact ⟨rfl, rfl, rfl⟩
  | succ k ih =>
    intro l x hl hx
    unfold rgR
    refine tt_op rfl rfl ?_
    refine tt_op rfl rfl ?_
    refine z_icmp rfl (by first | assumption | (unfold R3; omega)) (by first | assumption | (unfold R3; omega)) (fun c1 => ?_) (fun c1 => ?_)
    · have c1 : (x : Int) = co := c1
      rw [if_pos (by omega)]
      refine tt_op rfl rfl ?_
      refine tt_ireturn rfl rfl (by rfl) (Nat.le_of_ble_eq_true rfl) (Nat.le_of_ble_eq_true rfl) ?_
      exact ⟨rfl, rfl, rfl⟩
    · have c1 : ¬ (x : Int) = co := c1
      rw [if_neg (by omega)]
      refine tt_op rfl rfl ?_
      refine tt_op rfl rfl ?_
      refine z_icmp rfl (by first | assumption | (unfold R3; omega)) (by first | assumption | (unfold R3; omega)) (fun c => absurd c (by simp only [zcd] <;> omega)) (fun c => ?_)
      refine tt_op rfl rfl ?_
      refine tt_op rfl rfl ?_
      refine tt_op rfl rfl ?_
      refine tt_pV rfl rfl rfl h59 rfl (c_image' s i x hi hx) ?_
      refine tt_op rfl rfl ?_
      refine z_iinc rfl rfl rfl ?_
      refine tt_goto rfl ?_
      exact ih (l + 1) _ (by omega) (imF_lt hs hi hx)
set_option maxRecDepth 10000 in
theorem c_ringLength (s : St) (hs : mOk s) (i co : Nat) (hi : i < 48) (hc : co < 14) : xPure xmX2_ringLength 3 [.ref 59, zI i, zI co] n (moH h s) (zI (rgF (imF s i) co)) := by
  have h59 := moH_59 (h := h) (s := s)
  refine xCall.of xgX2_ringLength rfl ?_
  refine tt_op rfl rfl ?_
  refine tt_op rfl rfl ?_
  refine tt_op rfl rfl ?_
  refine tt_pV rfl rfl rfl h59 rfl (c_image' s i co hi hc) ?_
  refine tt_op rfl rfl ?_
  refine tt_op rfl rfl ?_
  refine tt_op rfl rfl ?_
  exact c_ring_loop s hs i co hi hc 13 1 _ rfl (imF_lt hs hi hc)
def pdR (CB : Nat) (g : Nat → Nat) : Nat → Nat → Nat → Nat
  | 0, _, l => l
  | k + 1, i, l => pdR CB g k (i + 1) (Nat.lcm l (if CB.testBit i = true then rgF g i else 1))
theorem dv_all : ∀ r, 1 ≤ r → r ≤ 14 → r ∣ 360360 := by
  intro r h1 h2
  have : ∀ r, r < 15 → 1 ≤ r → 360360 % r = 0 := by decide
  exact Nat.dvd_of_mod_eq_zero (this r (by omega) h1)
theorem rg_dv (g : Nat → Nat) (co : Nat) : rgF g co ∣ 360360 := by
  have := rgR_bd g co 13 1 (g co)
  exact dv_all _ this.1 (by unfold rgF; omega)
theorem z_l2i (z : Int) : (Int64.ofInt z).toInt32 = Int32.ofInt z := Int64.toInt32_ofInt
theorem lcm_tdiv (l r : Nat) (hl : 0 < l) : ((l : Int).tdiv ((Int.gcd l r : Nat) : Int)) * (r : Int) = ((Nat.lcm l r : Nat) : Int) := by
  have e : Int.gcd (l : Int) (r : Int) = Nat.gcd l r := rfl
  rw [e, ← Int.ofNat_tdiv]
  have : l / Nat.gcd l r * r = Nat.lcm l r := by
    unfold Nat.lcm
    rw [Nat.mul_comm (l / _) r, Nat.mul_comm l r, Nat.mul_div_assoc _ (Nat.gcd_dvd_left l r)]
  rw [← this]
  simp
set_option maxRecDepth 10000 in
set_option maxHeartbeats 1000000 in
theorem c_period_loop (h5 : h 5 = some (huC F E CB six)) (hCB : CB < 16384) (s : St) (hs : mOk s) (i : Nat) (hi : i < 48) : ∀ (k j l : Nat) (l5 l7 : Option Value), j + k = 14 → l ∣ 360360 → xT xmX2_period (5, 0, 0, 0, 0) 5 [some (.ref 59), some (zI i), some (zJ l), none, some (zI j), l5, none, l7, none] [] n (moH h s) (fun r n' h' => r = some (zI (pdR CB (imF s i) k j l)) ∧ n' = n ∧ h' = moH h s) := by
  have h59 := moH_59 (h := h) (s := s)
  have g5 : moH h s 5 = some (huC F E CB six) := by rw [moH_n (by omega) (by omega) (by omega)]; exact h5
  intro k
  induction k with
  | zero =>
    intro j l l5 l7 hj hl
    refine tt_op rfl rfl ?_
    refine tt_op rfl rfl ?_
    refine z_icmp rfl (by first | assumption | (unfold R3; omega)) (by first | assumption | (unfold R3; omega)) (fun c => ?_) (fun c => absurd (by simp only [zcd] <;> omega) c)
    refine tt_op rfl rfl ?_
    refine tt_op rfl rfl ?_
    rw [z_l2i]
    refine tt_ireturn rfl rfl (by rfl) (Nat.le_of_ble_eq_true rfl) (Nat.le_of_ble_eq_true rfl) ?_
    exact ⟨rfl, rfl, rfl⟩
  | succ k ih =>
    intro j l l5 l7 hj hl
    unfold pdR
    have l0 : 0 < l := Nat.pos_of_dvd_of_pos hl (by decide)
    have l1 : l ≤ 360360 := Nat.le_of_dvd (by decide) hl
    have go : ∀ (r : Nat) (l5 : Option Value), 1 ≤ r → r ≤ 14 → r = (if CB.testBit j = true then rgF (imF s i) j else 1) → xT xmX2_period (5, 0, 0, 0, 0) 36 [some (.ref 59), some (zI i), some (zJ l), none, some (zI j), l5, none, l7, none] [zJ r] n (moH h s) (fun res n' h' => res = some (zI (pdR CB (imF s i) k (j + 1) (Nat.lcm l (if CB.testBit j = true then rgF (imF s i) j else 1)))) ∧ n' = n ∧ h' = moH h s) := by
      intro r l5 r1 r2 hr
      rw [← hr]
      have g0 : 0 < Int.gcd (l : Int) (r : Int) := Int.gcd_pos_of_ne_zero_left _ (by omega)
      have g1 : Int.gcd (l : Int) (r : Int) ≤ l := Nat.le_of_dvd l0 (Nat.gcd_dvd_left l r)
      refine tt_op rfl rfl ?_
      refine tt_op rfl rfl ?_
      refine tt_op rfl rfl ?_
      refine tt_pS rfl rfl rfl rfl (c_divisor l r ⟨by omega, by omega⟩ ⟨by omega, by omega⟩ _ _) ?_
      refine tt_op rfl rfl ?_
      refine tt_op rfl rfl ?_
      refine tt_op rfl rfl ?_
      refine z_lif rfl rfl ⟨by omega, by omega⟩ ⟨by decide, by decide⟩ (fun c => ?_) (fun c => absurd (by simp only [zcd]; omega) c)
      refine tt_op rfl rfl ?_
      refine tt_op rfl rfl ?_
      refine z_ldiv rfl (by omega) ⟨by omega, by omega⟩ (by omega) ⟨by omega, by omega⟩ ?_
      refine tt_op rfl rfl ?_
      refine z_lmul rfl ?_
      rw [lcm_tdiv l r l0]
      refine tt_op rfl rfl ?_
      refine z_iinc rfl rfl rfl ?_
      refine tt_goto rfl ?_
      exact ih (j + 1) _ _ _ (by omega) (Nat.lcm_dvd hl (dv_all r r1 r2))
    refine tt_op rfl rfl ?_
    refine tt_op rfl rfl ?_
    refine z_icmp rfl (by first | assumption | (unfold R3; omega)) (by first | assumption | (unfold R3; omega)) (fun c => absurd c (by simp only [zcd] <;> omega)) (fun c => ?_)
    refine tt_op rfl rfl ?_
    refine tt_get rfl (by assumption) (by rfl) ?_
    refine tt_op rfl rfl ?_
    refine tt_pV rfl rfl rfl g5 rfl (c_isCorner g5 j (by omega) hCB) ?_
    refine z_if rfl (by split <;> exact ⟨by decide, by decide⟩) (fun c1 => ?_) (fun c1 => ?_)
    · have hx : ¬ CB.testBit j = true := by
        intro y; simp [zcd, y] at c1
      refine tt_op rfl rfl ?_
      exact go 1 _ (by omega) (by omega) (by rw [if_neg hx])
    · have hx : CB.testBit j = true := by
        cases hx : CB.testBit j with
        | true => rfl
        | false => simp [zcd, hx] at c1
      have hrg := rgR_bd (imF s i) j 13 1 (imF s i j)
      have hrg1 : 1 ≤ rgF (imF s i) j := hrg.1
      have hrg2 : rgF (imF s i) j ≤ 14 := hrg.2
      refine tt_op rfl rfl ?_
      refine tt_op rfl rfl ?_
      refine tt_op rfl rfl ?_
      refine tt_pV rfl rfl rfl h59 rfl (c_ringLength s hs i j hi (by omega)) ?_
      refine z_il rfl (by first | assumption | (unfold R3; omega)) ?_
      refine tt_goto rfl ?_
      exact go _ _ hrg1 hrg2 (by rw [if_pos hx])
set_option maxRecDepth 10000 in
theorem c_period (h5 : h 5 = some (huC F E CB six)) (hCB : CB < 16384) (s : St) (hs : mOk s) (i : Nat) (hi : i < 48) : xPure xmX2_period 5 [.ref 59, zI i] n (moH h s) (zI (pdR CB (imF s i) 14 0 1)) := by
  refine xCall.of xgX2_period rfl ?_
  refine tt_op rfl rfl ?_
  refine tt_op rfl rfl ?_
  refine tt_op rfl rfl ?_
  refine tt_op rfl rfl ?_
  exact c_period_loop h5 hCB s hs i hi 14 0 1 none none rfl (by decide)
end MO2
end
section
/-! The class itself -/
def vup (P : Nat → V3) (k : Nat) (u : V3) : Nat → V3 := fun j => if j = k then u else P j
abbrev soC : xE := .inr (5, [.ref 1, .ref 5, .ref 57, .ref 59, .ref 62])
/-- what the class's cells hold -/
def xSt (h : xHp) (m : Nat) (P : Nat → V3) (c : Nat × (Nat → Int)) (s : St) : Prop :=
  h 0 = some soC ∧ xCl h m P ∧ xHu h m P ∧ (h 57 = some (seC c.1) ∧ h 58 = some (zL 96 c.2) ∧ sOk c) ∧ (h = moH h s ∧ mOk s) ∧ ∃ d lv se me le row, h 62 = some (oC d lv se me le 63) ∧ h 63 = some (zA 14 row)
section SO
variable {h : xHp} {m : Nat} {P : Nat → V3} {n : Nat} {F E CB : Nat} {six : Int} {c : Nat × (Nat → Int)} {s : St}
theorem jnR_bd {f : Nat → FD} : ∀ (k i cb sd : Nat) (b : Nat → Nat), (∀ j, j < i + k → fdV (f j)) → cb < 16384 → (∀ j, j < 14 → b j < 16384) → (jnR f k i cb sd b).1 < 16384 ∧ (jnR f k i cb sd b).2.1 ≤ sd + 14 * k ∧ ∀ j, j < 14 → (jnR f k i cb sd b).2.2 j < 16384
  | 0, i, cb, sd, b, hf, h1, h2 => ⟨h1, by show sd ≤ _; omega, h2⟩
  | k + 1, i, cb, sd, b, hf, h1, h2 => by
    obtain ⟨v1, v2, v3, v4, v5, v6⟩ := hf i (by omega)
    have hbs : ∀ (j k : Nat) (b : Nat → Nat), k + j ≤ 14 → (∀ j, j < 14 → b j < 16384) → ∀ j', j' < 14 → bsK (f i) j k b j' < 16384 := by
      intro j
      induction j with
      | zero => intro k b hk hb; exact hb
      | succ j ih =>
        intro k b hk hb
        refine ih (k + 1) _ (by omega) (fun j' hj' => ?_)
        unfold nup
        split
        · refine bits_or (hb _ (v6 k (by omega))) (bits_pow (v6 _ ?_))
          unfold nxk
          split <;> omega
        · exact hb j' hj'
    have := jnR_bd (f := f) k (i + 1) (cb ||| (f i).2.2.2.1) (sd + (f i).2.2.2.2.1) (bsK (f i) (f i).2.2.2.2.1 0 b) (fun j hj => hf j (by omega)) (bits_or h1 v4) (hbs _ 0 b (by omega) h2)
    refine ⟨this.1, ?_, this.2.2⟩
    have h3 := this.2.1
    show (jnR f k (i + 1) (cb ||| (f i).2.2.2.1) (sd + (f i).2.2.2.2.1) (bsK (f i) (f i).2.2.2.2.1 0 b)).2.1 ≤ _
    omega
theorem hu_bd (H : xHu h m P) : hCB P m < 16384 ∧ hE P m ≤ 168 ∧ ∀ j, j < 14 → hBs P m j < 16384 := by
  obtain ⟨h5, hF, ⟨ad, f, Hf, hfe⟩, -⟩ := H
  have e := jnR_fe (f := f) (g := (blF P m).2) (blF P m).1 0 0 0 (fun _ => 0) (fun j hj => hfe j (by omega))
  have b := jnR_bd (f := f) (blF P m).1 0 0 0 (fun _ => 0) (fun j hj => Hf.2.2.2.2 j (by omega)) (by decide) (fun j hj => by decide)
  rw [e] at b
  refine ⟨b.1, ?_, b.2.2⟩
  have := b.2.1
  unfold hE
  omega
theorem wPt_bd (hb : pbd P) {p q r : Nat} (hp : p < 14) (hq : q < 14) (hr : r < 14) : -400000 ≤ wPt P p q r ∧ wPt P p q r ≤ 400000 := by
  have h1 := vbd_sub (hb 0 (by omega)) (hb p hp)
  have h2 := vbd_cr (vbd_sub (hb q hq) (hb p hp)) (vbd_sub (hb r hr) (hb p hp))
  have h3 := dot_bd h1 h2
  unfold wPt bxs swg
  omega
theorem wgK_bd (hb : pbd P) {x : FD} (hx : fdV x) : ∀ (j k : Nat) (s : Int) (mo : Nat → Int) (A : Int), (j = 0 ∨ (1 ≤ k ∧ k + j ≤ 14)) → (-A ≤ s ∧ s ≤ A) → (∀ i, i < 3 → -(80 * A) ≤ mo i ∧ mo i ≤ 80 * A) → (-(A + 400000 * j) ≤ (wgK P x j k s mo).1 ∧ (wgK P x j k s mo).1 ≤ A + 400000 * j) ∧ ∀ i, i < 3 → -(80 * (A + 400000 * j)) ≤ (wgK P x j k s mo).2 i ∧ (wgK P x j k s mo).2 i ≤ 80 * (A + 400000 * j)
  | 0, k, s, mo, A, hk, hs, hm => by
    refine ⟨?_, fun i hi => ?_⟩
    · show -(A + 400000 * ((0 : Nat) : Int)) ≤ s ∧ s ≤ _; omega
    · have := hm i hi
      show -(80 * (A + 400000 * ((0 : Nat) : Int))) ≤ mo i ∧ mo i ≤ _
      omega
  | j + 1, k, s, mo, A, hk, hs, hm => by
    have r0 := hx.2.2.2.2.2 0 (by omega)
    have r1 := hx.2.2.2.2.2 (k - 1) (by omega)
    have r2 := hx.2.2.2.2.2 k (by omega)
    have hw := wPt_bd hb r0 r1 r2
    have := wgK_bd hb hx j (k + 1) (s + wPt P (x.2.2.2.2.2 0) (x.2.2.2.2.2 (k - 1)) (x.2.2.2.2.2 k)) (wMo P (x.2.2.2.2.2 0) (x.2.2.2.2.2 (k - 1)) (x.2.2.2.2.2 k) mo) (A + 400000) (by omega) (by omega) (fun i hi => by
      have a0 := vax_bd (hb _ r0) i
      have a1 := vax_bd (hb _ r1) i
      have a2 := vax_bd (hb _ r2) i
      have a3 := vax_bd (hb 0 (by omega)) i
      have hm' := hm i hi
      have hp := mul_bd (A := 400000) (B := 80) (a := wPt P (x.2.2.2.2.2 0) (x.2.2.2.2.2 (k - 1)) (x.2.2.2.2.2 k)) (b := vax (P (x.2.2.2.2.2 0)) i + vax (P (x.2.2.2.2.2 (k - 1))) i + vax (P (x.2.2.2.2.2 k)) i + vax (P 0) i) hw (by omega)
      unfold wMo
      rw [if_pos hi]
      omega)
    refine ⟨?_, fun i hi => ?_⟩
    · have t := this.1
      show -(A + 400000 * ((j + 1 : Nat) : Int)) ≤ (wgK P x j (k + 1) _ _).1 ∧ (wgK P x j (k + 1) _ _).1 ≤ _
      omega
    · have t := this.2 i hi
      show -(80 * (A + 400000 * ((j + 1 : Nat) : Int))) ≤ (wgK P x j (k + 1) _ _).2 i ∧ (wgK P x j (k + 1) _ _).2 i ≤ _
      omega
theorem wgR_bd (hb : pbd P) {f : Nat → FD} : ∀ (k i : Nat) (s : Int) (mo : Nat → Int) (A : Int), (∀ j, j < i + k → fdV (f j)) → (-A ≤ s ∧ s ≤ A) → (∀ i, i < 3 → -(80 * A) ≤ mo i ∧ mo i ≤ 80 * A) → (-(A + 4800000 * k) ≤ (wgR P f k i s mo).1 ∧ (wgR P f k i s mo).1 ≤ A + 4800000 * k) ∧ ∀ j, j < 3 → -(80 * (A + 4800000 * k)) ≤ (wgR P f k i s mo).2 j ∧ (wgR P f k i s mo).2 j ≤ 80 * (A + 4800000 * k)
  | 0, i, s, mo, A, hf, hs, hm => by
    refine ⟨?_, fun i hi => ?_⟩
    · show -(A + 4800000 * ((0 : Nat) : Int)) ≤ s ∧ s ≤ _; omega
    · have := hm i hi
      show -(80 * (A + 4800000 * ((0 : Nat) : Int))) ≤ mo i ∧ mo i ≤ _
      omega
  | k + 1, i, s, mo, A, hf, hs, hm => by
    have v := hf i (by omega)
    have v5 := v.2.2.2.2.1
    have b1 := wgK_bd hb v ((f i).2.2.2.2.1 - 2) 2 s mo A (by omega) hs hm
    have b2 := wgR_bd hb (f := f) k (i + 1) (wgK P (f i) ((f i).2.2.2.2.1 - 2) 2 s mo).1 (wgK P (f i) ((f i).2.2.2.2.1 - 2) 2 s mo).2 (A + 4800000) (fun j hj => hf j (by omega)) (by omega) (fun j hj => by have := b1.2 j hj; omega)
    refine ⟨?_, fun j hj => ?_⟩
    · have t := b2.1
      show -(A + 4800000 * ((k + 1 : Nat) : Int)) ≤ (wgR P f k (i + 1) _ _).1 ∧ (wgR P f k (i + 1) _ _).1 ≤ _
      omega
    · have t := b2.2 j hj
      show -(80 * (A + 4800000 * ((k + 1 : Nat) : Int))) ≤ (wgR P f k (i + 1) _ _).2 j ∧ (wgR P f k (i + 1) _ _).2 j ≤ _
      omega
theorem hu_six (hb : pbd P) (H : xHu h m P) : (-1000000000 ≤ hSix P m ∧ hSix P m ≤ 1000000000) ∧ ∀ j, j < 3 → -100000000000 ≤ hMo P m j ∧ hMo P m j ≤ 100000000000 := by
  obtain ⟨h5, hF, ⟨ad, f, Hf, hfe⟩, -⟩ := H
  have e := wgR_fe (P := P) (f := f) (g := (blF P m).2) (blF P m).1 0 0 (fun _ => 0) (fun j hj => hfe j (by omega))
  have b := wgR_bd hb (f := f) (blF P m).1 0 0 (fun _ => 0) 0 (fun j hj => Hf.2.2.2.2 j (by omega)) (by omega) (fun i hi => by omega)
  rw [e] at b
  unfold hSix hMo
  refine ⟨by have := b.1; omega, fun j hj => by have := b.2 j hj; omega⟩
set_option maxRecDepth 10000 in
theorem c_stands_y (h0 : h 0 = some soC) (h5 : h 5 = some (huC F E CB six)) (hF : F ≤ 24) (hp : 0 < F) : xPure xmX5_stands 1 [.ref 0] n h (zI 1) := by
  refine xCall.of xgX5_stands rfl ?_
  refine tt_op rfl rfl ?_
  refine tt_get rfl (by assumption) (by rfl) ?_
  refine tt_get rfl (by assumption) (by rfl) ?_
  refine z_if rfl (by first | assumption | (unfold R3; omega)) (fun c => absurd c (by simp only [zcd] <;> omega)) (fun c => ?_)
  refine tt_op rfl rfl ?_
  refine tt_goto rfl ?_
  refine tt_ireturn rfl rfl (by rfl) (Nat.le_of_ble_eq_true rfl) (Nat.le_of_ble_eq_true rfl) ?_
  exact ⟨rfl, rfl, rfl⟩
set_option maxRecDepth 10000 in
theorem c_stands_n (h0 : h 0 = some soC) (h5 : h 5 = some (huC F E CB six)) (hF : F ≤ 24) (hp : ¬ 0 < F) : xPure xmX5_stands 1 [.ref 0] n h (zI 0) := by
  refine xCall.of xgX5_stands rfl ?_
  refine tt_op rfl rfl ?_
  refine tt_get rfl (by assumption) (by rfl) ?_
  refine tt_get rfl (by assumption) (by rfl) ?_
  refine z_if rfl (by first | assumption | (unfold R3; omega)) (fun c => ?_) (fun c => absurd (by simp only [zcd] <;> omega) c)
  refine tt_op rfl rfl ?_
  refine tt_ireturn rfl rfl (by rfl) (Nat.le_of_ble_eq_true rfl) (Nat.le_of_ble_eq_true rfl) ?_
  exact ⟨rfl, rfl, rfl⟩
set_option maxRecDepth 10000 in
theorem c_flat (H : xSt h m P c s) : xPure xmX5_flat 100 [.ref 0] n h (zI (if 0 < (blF P m).1 then 0 else 1)) := by
  obtain ⟨h0, -, ⟨h5, hF, -⟩, -⟩ := H
  refine xCall.of xgX5_flat rfl ?_
  refine tt_op rfl rfl ?_
  by_cases hp : 0 < (blF P m).1
  · refine tt_pV rfl rfl rfl h0 rfl (c_stands_y h0 h5 hF hp) ?_
    rw [if_pos hp]
    refine z_if rfl (by first | assumption | (unfold R3; omega)) (fun c => ?_) (fun c => absurd (by simp only [zcd] <;> omega) c)
    refine tt_op rfl rfl ?_
    refine tt_ireturn rfl rfl (by rfl) (Nat.le_of_ble_eq_true rfl) (Nat.le_of_ble_eq_true rfl) ?_
    exact ⟨rfl, rfl, rfl⟩
  · refine tt_pV rfl rfl rfl h0 rfl (c_stands_n h0 h5 hF hp) ?_
    rw [if_neg hp]
    refine z_if rfl (by first | assumption | (unfold R3; omega)) (fun c => absurd c (by simp only [zcd] <;> omega)) (fun c => ?_)
    refine tt_op rfl rfl ?_
    refine tt_goto rfl ?_
    refine tt_ireturn rfl rfl (by rfl) (Nat.le_of_ble_eq_true rfl) (Nat.le_of_ble_eq_true rfl) ?_
    exact ⟨rfl, rfl, rfl⟩
set_option maxRecDepth 10000 in
theorem c_corners (H : xSt h m P c s) : xPure xmX5_corners 100 [.ref 0] n h (zI (if 0 < (blF P m).1 then (hCB P m : Int) else -3)) := by
  obtain ⟨h0, -, ⟨h5, hF, -⟩, -⟩ := H
  refine xCall.of xgX5_corners rfl ?_
  refine tt_op rfl rfl ?_
  by_cases hp : 0 < (blF P m).1
  · refine tt_pV rfl rfl rfl h0 rfl (c_stands_y h0 h5 hF hp) ?_
    rw [if_pos hp]
    refine z_if rfl (by first | assumption | (unfold R3; omega)) (fun c => absurd c (by simp only [zcd] <;> omega)) (fun c => ?_)
    refine tt_op rfl rfl ?_
    refine tt_get rfl (by assumption) (by rfl) ?_
    refine tt_get rfl (by assumption) (by rfl) ?_
    refine tt_goto rfl ?_
    refine tt_ireturn rfl rfl (by rfl) (Nat.le_of_ble_eq_true rfl) (Nat.le_of_ble_eq_true rfl) ?_
    exact ⟨rfl, rfl, rfl⟩
  · refine tt_pV rfl rfl rfl h0 rfl (c_stands_n h0 h5 hF hp) ?_
    rw [if_neg hp]
    refine z_if rfl (by first | assumption | (unfold R3; omega)) (fun c => ?_) (fun c => absurd (by simp only [zcd] <;> omega) c)
    refine tt_op rfl rfl ?_
    refine tt_ireturn rfl rfl (by rfl) (Nat.le_of_ble_eq_true rfl) (Nat.le_of_ble_eq_true rfl) ?_
    exact ⟨rfl, rfl, rfl⟩
set_option maxRecDepth 10000 in
theorem c_edges (H : xSt h m P c s) : xPure xmX5_edges 100 [.ref 0] n h (zI (if 0 < (blF P m).1 then (hE P m : Int) else -3)) := by
  obtain ⟨h0, -, ⟨h5, hF, -⟩, -⟩ := H
  refine xCall.of xgX5_edges rfl ?_
  refine tt_op rfl rfl ?_
  by_cases hp : 0 < (blF P m).1
  · refine tt_pV rfl rfl rfl h0 rfl (c_stands_y h0 h5 hF hp) ?_
    rw [if_pos hp]
    refine z_if rfl (by first | assumption | (unfold R3; omega)) (fun c => absurd c (by simp only [zcd] <;> omega)) (fun c => ?_)
    refine tt_op rfl rfl ?_
    refine tt_get rfl (by assumption) (by rfl) ?_
    refine tt_get rfl (by assumption) (by rfl) ?_
    refine tt_goto rfl ?_
    refine tt_ireturn rfl rfl (by rfl) (Nat.le_of_ble_eq_true rfl) (Nat.le_of_ble_eq_true rfl) ?_
    exact ⟨rfl, rfl, rfl⟩
  · refine tt_pV rfl rfl rfl h0 rfl (c_stands_n h0 h5 hF hp) ?_
    rw [if_neg hp]
    refine z_if rfl (by first | assumption | (unfold R3; omega)) (fun c => ?_) (fun c => absurd (by simp only [zcd] <;> omega) c)
    refine tt_op rfl rfl ?_
    refine tt_ireturn rfl rfl (by rfl) (Nat.le_of_ble_eq_true rfl) (Nat.le_of_ble_eq_true rfl) ?_
    exact ⟨rfl, rfl, rfl⟩
set_option maxRecDepth 10000 in
theorem c_faces (H : xSt h m P c s) : xPure xmX5_faces 100 [.ref 0] n h (zI (if 0 < (blF P m).1 then ((blF P m).1 : Int) else -3)) := by
  obtain ⟨h0, -, ⟨h5, hF, -⟩, -⟩ := H
  refine xCall.of xgX5_faces rfl ?_
  refine tt_op rfl rfl ?_
  by_cases hp : 0 < (blF P m).1
  · refine tt_pV rfl rfl rfl h0 rfl (c_stands_y h0 h5 hF hp) ?_
    rw [if_pos hp]
    refine z_if rfl (by first | assumption | (unfold R3; omega)) (fun c => absurd c (by simp only [zcd] <;> omega)) (fun c => ?_)
    refine tt_op rfl rfl ?_
    refine tt_get rfl (by assumption) (by rfl) ?_
    refine tt_get rfl (by assumption) (by rfl) ?_
    refine tt_goto rfl ?_
    refine tt_ireturn rfl rfl (by rfl) (Nat.le_of_ble_eq_true rfl) (Nat.le_of_ble_eq_true rfl) ?_
    exact ⟨rfl, rfl, rfl⟩
  · refine tt_pV rfl rfl rfl h0 rfl (c_stands_n h0 h5 hF hp) ?_
    rw [if_neg hp]
    refine z_if rfl (by first | assumption | (unfold R3; omega)) (fun c => ?_) (fun c => absurd (by simp only [zcd] <;> omega) c)
    refine tt_op rfl rfl ?_
    refine tt_ireturn rfl rfl (by rfl) (Nat.le_of_ble_eq_true rfl) (Nat.le_of_ble_eq_true rfl) ?_
    exact ⟨rfl, rfl, rfl⟩
set_option maxRecDepth 10000 in
theorem c_volume (H : xSt h m P c s) : xPure xmX5_volume 100 [.ref 0] n h (zJ (if 0 < (blF P m).1 then hSix P m else -1000000000000)) := by
  obtain ⟨h0, -, ⟨h5, hF, -⟩, -⟩ := H
  refine xCall.of xgX5_volume rfl ?_
  refine tt_op rfl rfl ?_
  by_cases hp : 0 < (blF P m).1
  · refine tt_pV rfl rfl rfl h0 rfl (c_stands_y h0 h5 hF hp) ?_
    rw [if_pos hp]
    refine z_if rfl (by first | assumption | (unfold R3; omega)) (fun c => absurd c (by simp only [zcd] <;> omega)) (fun c => ?_)
    refine tt_op rfl rfl ?_
    refine tt_get rfl (by assumption) (by rfl) ?_
    refine tt_get rfl (by assumption) (by rfl) ?_
    refine tt_goto rfl ?_
    refine tt_lreturn rfl rfl (Nat.le_of_ble_eq_true rfl) (Nat.le_of_ble_eq_true rfl) ?_
    exact ⟨rfl, rfl, rfl⟩
  · refine tt_pV rfl rfl rfl h0 rfl (c_stands_n h0 h5 hF hp) ?_
    rw [if_neg hp]
    refine z_if rfl (by first | assumption | (unfold R3; omega)) (fun c => ?_) (fun c => absurd (by simp only [zcd] <;> omega) c)
    refine tt_op rfl rfl ?_
    refine tt_lreturn rfl rfl (Nat.le_of_ble_eq_true rfl) (Nat.le_of_ble_eq_true rfl) ?_
    exact ⟨rfl, rfl, rfl⟩
/-- a row's length -/
abbrev fLen (P : Nat → V3) (m i : Nat) : Nat := ((blF P m).2 i).2.2.2.2.1
abbrev fRow (P : Nat → V3) (m i k : Nat) : Nat := ((blF P m).2 i).2.2.2.2.2 k
set_option maxRecDepth 10000 in
theorem c_size (H : xSt h m P c s) (x : Int) (hx : R3 x) : xPure xmX5_size 100 [.ref 0, zI x] n h (zI (if 0 < (blF P m).1 then (if 0 ≤ x ∧ x < (blF P m).1 then (fLen P m x.toNat : Int) else -1) else -3)) := by
  obtain ⟨h0, -, ⟨h5, hF, ⟨ad, f, Hf, hfe⟩, -⟩, -⟩ := H
  refine xCall.of xgX5_size rfl ?_
  refine tt_op rfl rfl ?_
  by_cases hp : 0 < (blF P m).1
  · refine tt_pV rfl rfl rfl h0 rfl (c_stands_y h0 h5 hF hp) ?_
    rw [if_pos hp]
    refine z_if rfl (by first | assumption | (unfold R3; omega)) (fun c => ?_) (fun c => absurd (by simp only [zcd] <;> omega) c)
    refine tt_op rfl rfl ?_
    refine tt_get rfl (by assumption) (by rfl) ?_
    refine tt_op rfl rfl ?_
    by_cases hq : 0 ≤ x ∧ x < (blF P m).1
    · refine tt_pV rfl rfl rfl h5 rfl (c_hasFace h5 hF x hx (zI 1) (fun _ => rfl) (fun z => absurd hq z)) ?_
      rw [if_pos hq]
      obtain ⟨⟨rd, g6, grd⟩, gA, gI, gC, gV⟩ := Hf
      have c1 := (gC x.toNat (by omega)).1
      have e := (hfe x.toNat (by omega)).2.2.2.2.1
      refine z_if rfl (by first | assumption | (unfold R3; omega)) (fun c => absurd c (by simp only [zcd] <;> omega)) (fun c => ?_)
      refine tt_op rfl rfl ?_
      refine tt_get rfl (by assumption) (by rfl) ?_
      refine tt_get rfl (by assumption) (by rfl) ?_
      refine tt_op rfl rfl ?_
      refine z_aald (j := x.toNat) rfl g6 (by omega) (by omega) (by decide) (grd x.toNat (by omega)) ?_
      refine tt_get rfl (by assumption) (by rfl) ?_
      refine tt_goto rfl ?_
      refine tt_ireturn rfl rfl (by rfl) (Nat.le_of_ble_eq_true rfl) (Nat.le_of_ble_eq_true rfl) ?_
      unfold fLen
      rw [e]
      exact ⟨rfl, rfl, rfl⟩
    · refine tt_pV rfl rfl rfl h5 rfl (c_hasFace h5 hF x hx (zI 0) (fun z => absurd z hq) (fun _ => rfl)) ?_
      rw [if_neg hq]
      refine z_if rfl (by first | assumption | (unfold R3; omega)) (fun c => ?_) (fun c => absurd (by simp only [zcd] <;> omega) c)
      refine tt_op rfl rfl ?_
      refine tt_ireturn rfl rfl (by rfl) (Nat.le_of_ble_eq_true rfl) (Nat.le_of_ble_eq_true rfl) ?_
      exact ⟨rfl, rfl, rfl⟩
  · refine tt_pV rfl rfl rfl h0 rfl (c_stands_n h0 h5 hF hp) ?_
    rw [if_neg hp]
    refine z_if rfl (by first | assumption | (unfold R3; omega)) (fun c => absurd c (by simp only [zcd] <;> omega)) (fun c => ?_)
    refine tt_op rfl rfl ?_
    refine tt_ireturn rfl rfl (by rfl) (Nat.le_of_ble_eq_true rfl) (Nat.le_of_ble_eq_true rfl) ?_
    exact ⟨rfl, rfl, rfl⟩
set_option maxRecDepth 10000 in
theorem c_at (H : xSt h m P c s) (x y : Int) (hx : R3 x) (hy : R3 y) : xPure xmX5_at 100 [.ref 0, zI x, zI y] n h (zI (if 0 < (blF P m).1 then (if (0 ≤ x ∧ x < (blF P m).1) ∧ 0 ≤ y ∧ y < fLen P m x.toNat then (fRow P m x.toNat y.toNat : Int) else -1) else -3)) := by
  obtain ⟨h0, -, ⟨h5, hF, ⟨ad, f, Hf, hfe⟩, -⟩, -⟩ := H
  refine xCall.of xgX5_at rfl ?_
  have no : ∀ l, xT xmX5_at (100, 0, 0, 0, 0) 41 l [] n h (fun r n' h' => r = some (zI (-1)) ∧ n' = n ∧ h' = h) := by
    intro l
    refine tt_op rfl rfl ?_
    refine tt_ireturn rfl rfl (by rfl) (Nat.le_of_ble_eq_true rfl) (Nat.le_of_ble_eq_true rfl) ?_
    exact ⟨rfl, rfl, rfl⟩
  refine tt_op rfl rfl ?_
  by_cases hp : 0 < (blF P m).1
  · refine tt_pV rfl rfl rfl h0 rfl (c_stands_y h0 h5 hF hp) ?_
    rw [if_pos hp]
    refine z_if rfl (by first | assumption | (unfold R3; omega)) (fun c => ?_) (fun c => absurd (by simp only [zcd] <;> omega) c)
    refine tt_op rfl rfl ?_
    refine tt_get rfl (by assumption) (by rfl) ?_
    refine tt_op rfl rfl ?_
    by_cases hq : 0 ≤ x ∧ x < (blF P m).1
    · refine tt_pV rfl rfl rfl h5 rfl (c_hasFace h5 hF x hx (zI 1) (fun _ => rfl) (fun z => absurd hq z)) ?_
      obtain ⟨⟨rd, g6, grd⟩, gA, gI, gC, gV⟩ := Hf
      have c1 := (gC x.toNat (by omega)).1
      have c2 := (gC x.toNat (by omega)).2
      have e := (hfe x.toNat (by omega)).2.2.2.2.1
      have e2 := (hfe x.toNat (by omega)).2.2.2.2.2
      have v5 := (gV x.toNat (by omega)).2.2.2.2.1
      unfold fLen fRow
      rw [← e]
      refine z_if rfl (by first | assumption | (unfold R3; omega)) (fun c => absurd c (by simp only [zcd] <;> omega)) (fun c => ?_)
      refine tt_op rfl rfl ?_
      refine z_if rfl (by first | assumption | (unfold R3; omega)) (fun cc => ?_) (fun cc => ?_)
      · simp only [zcd] at cc
        rw [if_neg (by omega)]
        exact no _
      simp only [zcd] at cc
      refine tt_op rfl rfl ?_
      refine tt_op rfl rfl ?_
      refine tt_get rfl (by assumption) (by rfl) ?_
      refine tt_get rfl (by assumption) (by rfl) ?_
      refine tt_op rfl rfl ?_
      refine z_aald (j := x.toNat) rfl g6 (by omega) (by omega) (by decide) (grd x.toNat (by omega)) ?_
      refine tt_get rfl (by assumption) (by rfl) ?_
      refine z_icmp rfl (by first | assumption | (unfold R3; omega)) (by first | assumption | (unfold R3; omega)) (fun c3 => ?_) (fun c3 => ?_)
      · simp only [zcd] at c3
        rw [if_pos (by omega), ← e2 y.toNat (by omega)]
        refine tt_op rfl rfl ?_
        refine tt_get rfl (by assumption) (by rfl) ?_
        refine tt_get rfl (by assumption) (by rfl) ?_
        refine tt_op rfl rfl ?_
        refine z_aald (j := x.toNat) rfl g6 (by omega) (by omega) (by decide) (grd x.toNat (by omega)) ?_
        refine tt_get rfl (by assumption) (by rfl) ?_
        refine tt_op rfl rfl ?_
        refine z_iald (j := y.toNat) rfl c2 (by omega) (by omega) (by decide) ?_
        refine tt_ireturn rfl rfl (by rfl) (Nat.le_of_ble_eq_true rfl) (Nat.le_of_ble_eq_true rfl) ?_
        exact ⟨rfl, rfl, rfl⟩
      · simp only [zcd] at c3
        rw [if_neg (by omega)]
        exact no _
    · refine tt_pV rfl rfl rfl h5 rfl (c_hasFace h5 hF x hx (zI 0) (fun z => absurd z hq) (fun _ => rfl)) ?_
      rw [if_neg (fun z => hq z.1)]
      refine z_if rfl (by first | assumption | (unfold R3; omega)) (fun c => ?_) (fun c => absurd (by simp only [zcd] <;> omega) c)
      exact no _
  · refine tt_pV rfl rfl rfl h0 rfl (c_stands_n h0 h5 hF hp) ?_
    rw [if_neg hp]
    refine z_if rfl (by first | assumption | (unfold R3; omega)) (fun c => absurd c (by simp only [zcd] <;> omega)) (fun c => ?_)
    refine tt_op rfl rfl ?_
    refine tt_ireturn rfl rfl (by rfl) (Nat.le_of_ble_eq_true rfl) (Nat.le_of_ble_eq_true rfl) ?_
    exact ⟨rfl, rfl, rfl⟩
def nmW (x : FD) (w : Int) : Int := if w = 0 then x.1.1 else if w = 1 then x.1.2.1 else if w = 2 then x.1.2.2 else if w = 3 then x.2.1 else -1000000000000
set_option maxRecDepth 10000 in
theorem c_normal (H : xSt h m P c s) (x y : Int) (hx : R3 x) (hy : R3 y) : xPure xmX5_normal 100 [.ref 0, zI x, zI y] n h (zJ (if 0 < (blF P m).1 ∧ 0 ≤ x ∧ x < (blF P m).1 then nmW ((blF P m).2 x.toNat) y else -1000000000000)) := by
  obtain ⟨h0, -, ⟨h5, hF, ⟨ad, f, Hf, hfe⟩, -⟩, -⟩ := H
  refine xCall.of xgX5_normal rfl ?_
  have no : ∀ l, xT xmX5_normal (100, 0, 0, 0, 0) 18 l [] n h (fun r n' h' => r = some (zJ (-1000000000000)) ∧ n' = n ∧ h' = h) := by
    intro l
    refine tt_op rfl rfl ?_
    refine tt_lreturn rfl rfl (Nat.le_of_ble_eq_true rfl) (Nat.le_of_ble_eq_true rfl) ?_
    exact ⟨rfl, rfl, rfl⟩
  refine tt_op rfl rfl ?_
  by_cases hp : 0 < (blF P m).1
  · refine tt_pV rfl rfl rfl h0 rfl (c_stands_y h0 h5 hF hp) ?_
    refine z_if rfl (by first | assumption | (unfold R3; omega)) (fun c => absurd c (by simp only [zcd] <;> omega)) (fun c => ?_)
    refine tt_op rfl rfl ?_
    refine tt_get rfl (by assumption) (by rfl) ?_
    refine tt_op rfl rfl ?_
    by_cases hq : 0 ≤ x ∧ x < (blF P m).1
    · refine tt_pV rfl rfl rfl h5 rfl (c_hasFace h5 hF x hx (zI 1) (fun _ => rfl) (fun z => absurd hq z)) ?_
      rw [if_pos ⟨hp, hq⟩]
      obtain ⟨⟨rd, g6, grd⟩, gA, gI, gC, gV⟩ := Hf
      have c1 := (gC x.toNat (by omega)).1
      obtain ⟨e1, e2, -⟩ := hfe x.toNat (by omega)
      have ew : nmW ((blF P m).2 x.toNat) y = nmW (f x.toNat) y := by unfold nmW; rw [← e1, ← e2]
      rw [ew]
      refine z_if rfl (by first | assumption | (unfold R3; omega)) (fun c => ?_) (fun c => absurd (by simp only [zcd] <;> omega) c)
      refine tt_op rfl rfl ?_
      refine tt_get rfl (by assumption) (by rfl) ?_
      refine tt_get rfl (by assumption) (by rfl) ?_
      refine tt_op rfl rfl ?_
      refine z_aald (j := x.toNat) rfl g6 (by omega) (by omega) (by decide) (grd x.toNat (by omega)) ?_
      refine tt_op rfl rfl ?_
      refine tt_op rfl rfl ?_
      unfold nmW
      by_cases w0 : y = 0
      · subst w0
        rw [if_pos rfl]
        refine tt_swIn (tgt := 64) rfl (by decide) (by decide) rfl (by decide) ?_
        refine tt_op rfl rfl ?_
        refine tt_get rfl (by assumption) (by rfl) ?_
        refine tt_lreturn rfl rfl (Nat.le_of_ble_eq_true rfl) (Nat.le_of_ble_eq_true rfl) ?_
        exact ⟨rfl, rfl, rfl⟩
      rw [if_neg w0]
      by_cases w1 : y = 1
      · subst w1
        rw [if_pos rfl]
        refine tt_swIn (tgt := 69) rfl (by decide) (by decide) rfl (by decide) ?_
        refine tt_op rfl rfl ?_
        refine tt_get rfl (by assumption) (by rfl) ?_
        refine tt_lreturn rfl rfl (Nat.le_of_ble_eq_true rfl) (Nat.le_of_ble_eq_true rfl) ?_
        exact ⟨rfl, rfl, rfl⟩
      rw [if_neg w1]
      by_cases w2 : y = 2
      · subst w2
        rw [if_pos rfl]
        refine tt_swIn (tgt := 74) rfl (by decide) (by decide) rfl (by decide) ?_
        refine tt_op rfl rfl ?_
        refine tt_get rfl (by assumption) (by rfl) ?_
        refine tt_lreturn rfl rfl (Nat.le_of_ble_eq_true rfl) (Nat.le_of_ble_eq_true rfl) ?_
        exact ⟨rfl, rfl, rfl⟩
      rw [if_neg w2]
      by_cases w3 : y = 3
      · subst w3
        rw [if_pos rfl]
        refine tt_swIn (tgt := 79) rfl (by decide) (by decide) rfl (by decide) ?_
        refine tt_op rfl rfl ?_
        refine tt_get rfl (by assumption) (by rfl) ?_
        refine tt_lreturn rfl rfl (Nat.le_of_ble_eq_true rfl) (Nat.le_of_ble_eq_true rfl) ?_
        exact ⟨rfl, rfl, rfl⟩
      rw [if_neg w3]
      refine tt_swOut (tgt := 84) rfl (by rw [hy.t]; omega) (by decide) ?_
      refine tt_op rfl rfl ?_
      refine tt_lreturn rfl rfl (Nat.le_of_ble_eq_true rfl) (Nat.le_of_ble_eq_true rfl) ?_
      exact ⟨rfl, rfl, rfl⟩
    · refine tt_pV rfl rfl rfl h5 rfl (c_hasFace h5 hF x hx (zI 0) (fun z => absurd z hq) (fun _ => rfl)) ?_
      rw [if_neg (fun z => hq z.2)]
      refine z_if rfl (by first | assumption | (unfold R3; omega)) (fun c => absurd c (by simp only [zcd] <;> omega)) (fun c => ?_)
      exact no _
  · refine tt_pV rfl rfl rfl h0 rfl (c_stands_n h0 h5 hF hp) ?_
    rw [if_neg (fun z => hp z.1)]
    refine z_if rfl (by first | assumption | (unfold R3; omega)) (fun c => ?_) (fun c => absurd (by simp only [zcd] <;> omega) c)
    exact no _
end SO
end
section
/-! The class itself: points, places, cuts, ways, motions -/
section SO2
variable {h : xHp} {m : Nat} {P : Nat → V3} {n : Nat} {F E CB : Nat} {six : Int} {ct : Nat × (Nat → Int)} {s : St}
theorem vup_bd (hb : pbd P) {k : Nat} {u : V3} (hu : vbd 20 u) : pbd (vup P k u) := by
  intro j hj
  unfold vup
  split
  · exact hu
  · exact hb j hj
theorem zup_vup1 (P : Nat → V3) (k : Nat) (u : V3) : zup (fun j => (P j).1) k u.1 = fun j => (vup P k u j).1 := by
  funext j; unfold zup vup; split <;> rfl
theorem zup_vup2 (P : Nat → V3) (k : Nat) (u : V3) : zup (fun j => (P j).2.1) k u.2.1 = fun j => (vup P k u j).2.1 := by
  funext j; unfold zup vup; split <;> rfl
theorem zup_vup3 (P : Nat → V3) (k : Nat) (u : V3) : zup (fun j => (P j).2.2) k u.2.2 = fun j => (vup P k u j).2.2 := by
  funext j; unfold zup vup; split <;> rfl
set_option maxRecDepth 10000 in
theorem c_add (H : xCl h m P) (u : V3) (hu : vbd 20 u) (hm : m < 14) : xCall xmX0_add 2 0 0 [.ref 1, zI u.1, zI u.2.1, zI u.2.2] n h (fun r n' h' => r = none ∧ n' = n ∧ xCl h' (m + 1) (vup P m u) ∧ ∀ j, (j < 1 ∨ 5 ≤ j) → h' j = h j) := by
  obtain ⟨k1, k2, k3, k4, k5, k6⟩ := H
  refine xCall.of xgX0_add rfl ?_
  refine tt_op rfl rfl ?_
  refine tt_get rfl (by assumption) (by rfl) ?_
  refine tt_pS rfl rfl rfl rfl (c_isPoint m hm _ _) ?_
  refine z_if rfl (by first | assumption | (unfold R3; omega)) (fun c => ?_) (fun c => absurd (by simp only [zcd] <;> omega) c)
  refine tt_op rfl rfl ?_
  refine tt_get rfl (by assumption) (by rfl) ?_
  refine tt_op rfl rfl ?_
  refine tt_get rfl (by assumption) (by rfl) ?_
  refine tt_op rfl rfl ?_
  refine z_iast rfl k2 rfl (by omega) (by decide) ?_
  rw [zup_vup1]
  have a1 : ∀ e, xup h 2 e 1 = some (.inr (0, [zI m, .ref 2, .ref 3, .ref 4])) := fun e => by rw [xup_n (by omega)]; exact k1
  have a3 : ∀ e, xup h 2 e 3 = some (zA 14 fun j => (P j).2.1) := fun e => by rw [xup_n (by omega)]; exact k3
  have b1 : ∀ e e', xup (xup h 2 e) 3 e' 1 = some (.inr (0, [zI m, .ref 2, .ref 3, .ref 4])) := fun e e' => by rw [xup_n (by omega), xup_n (by omega)]; exact k1
  have b4 : ∀ e e', xup (xup h 2 e) 3 e' 4 = some (zA 14 fun j => (P j).2.2) := fun e e' => by rw [xup_n (by omega), xup_n (by omega)]; exact k4
  have c1 : ∀ e e' e'', xup (xup (xup h 2 e) 3 e') 4 e'' 1 = some (.inr (0, [zI m, .ref 2, .ref 3, .ref 4])) := fun e e' e'' => by rw [xup_n (by omega), xup_n (by omega), xup_n (by omega)]; exact k1
  refine tt_op rfl rfl ?_
  refine tt_get rfl (a1 _) (by rfl) ?_
  refine tt_op rfl rfl ?_
  refine tt_get rfl (a1 _) (by rfl) ?_
  refine tt_op rfl rfl ?_
  refine z_iast rfl (a3 _) rfl (by omega) (by decide) ?_
  rw [zup_vup2]
  refine tt_op rfl rfl ?_
  refine tt_get rfl (b1 _ _) (by rfl) ?_
  refine tt_op rfl rfl ?_
  refine tt_get rfl (b1 _ _) (by rfl) ?_
  refine tt_op rfl rfl ?_
  refine z_iast rfl (b4 _ _) rfl (by omega) (by decide) ?_
  rw [zup_vup3]
  refine tt_op rfl rfl ?_
  refine tt_op rfl rfl ?_
  refine tt_get rfl (c1 _ _ _) (by rfl) ?_
  refine tt_op rfl rfl ?_
  refine z_iadd rfl ?_
  refine tt_put rfl (c1 _ _ _) rfl (by decide) (by rfl) (by rfl) rfl ?_
  refine tt_return rfl rfl (Nat.le_of_ble_eq_true rfl) (Nat.le_of_ble_eq_true rfl) ?_
  refine ⟨rfl, rfl, ⟨xup_s, ?_, ?_, ?_, by omega, vup_bd k6 hu⟩, fun j hj => ?_⟩
  · rw [xup_n (by omega), xup_n (by omega), xup_n (by omega)]; exact xup_s
  · rw [xup_n (by omega), xup_n (by omega)]; exact xup_s
  · rw [xup_n (by omega)]; exact xup_s
  · rw [xup_n (by omega), xup_n (by omega), xup_n (by omega), xup_n (by omega)]
set_option maxRecDepth 10000 in
theorem c_forget (h0 : h 0 = some soC) (s : St) (h59 : h 59 = some (moC s.1)) (cn : Nat) (h57 : h 57 = some (seC cn)) : xCall xmX5_forget 1 0 0 [.ref 0] n h (fun r n' h' => r = none ∧ n' = n ∧ h' = xup (xup h 59 (moC 0)) 57 (seC 0)) := by
  refine xCall.of xgX5_forget rfl ?_
  refine tt_op rfl rfl ?_
  refine tt_get rfl (by assumption) (by rfl) ?_
  refine tt_op rfl rfl ?_
  refine tt_put rfl (h59) rfl (by decide) (by rfl) (by rfl) rfl ?_
  have a0 : ∀ e, xup h 59 e 0 = some soC := fun e => by rw [xup_n (by omega)]; exact h0
  have a57 : ∀ e, xup h 59 e 57 = some (seC cn) := fun e => by rw [xup_n (by omega)]; exact h57
  refine tt_op rfl rfl ?_
  refine tt_get rfl (a0 _) (by rfl) ?_
  refine tt_op rfl rfl ?_
  refine tt_put rfl (a57 _) rfl (by decide) (by rfl) (by rfl) rfl ?_
  refine tt_return rfl rfl (Nat.le_of_ble_eq_true rfl) (Nat.le_of_ble_eq_true rfl) ?_
  exact ⟨rfl, rfl, rfl⟩
theorem moH_self {s : St} (h59 : h 59 = some (moC s.1)) (h60 : h 60 = some (zA 672 fun j => (s.2.1 j : Int))) (h61 : h 61 = some (bA s.2.2)) : h = moH h s := by
  show h = xup (xup (xup h 61 (bA s.2.2)) 60 _) 59 (moC s.1)
  rw [xup_same h61, xup_same h60, xup_same h59]
theorem moH_of (e : h = moH h s) : h 59 = some (moC s.1) ∧ h 60 = some (zA 672 fun j => (s.2.1 j : Int)) ∧ h 61 = some (bA s.2.2) := by
  refine ⟨?_, ?_, ?_⟩
  · rw [e]; exact moH_59
  · rw [e]; exact moH_60
  · rw [e]; exact moH_61
/-- a new hull, all else forgotten -/
theorem st_new {h' : xHp} {m' : Nat} {P' : Nat → V3} (H : xSt h m P ct s) (e0 : h' 0 = some soC) (HC : xCl h' m' P') (HU : xHu h' m' P') (ho : ∀ j, 57 ≤ j → h' j = h j) : xSt (xup (xup h' 59 (moC 0)) 57 (seC 0)) m' P' (0, ct.2) (0, s.2) ∧ ∀ j, 64 ≤ j → xup (xup h' 59 (moC 0)) 57 (seC 0) j = h j := by
  obtain ⟨-, -, -, ⟨h57, h58, hc⟩, ⟨hmo, hs⟩, d, lv, se, me, le, row, h62, h63⟩ := H
  obtain ⟨h59, h60, h61⟩ := moH_of hmo
  obtain ⟨u5, uF, ⟨ad, f, Hf, hfe⟩, ⟨b, u7, ub⟩, mo, u8, umo⟩ := HU
  have g : ∀ j, j ≠ 57 → j ≠ 59 → xup (xup h' 59 (moC 0)) 57 (seC 0) j = h' j := fun j a b => by rw [xup_n a, xup_n b]
  refine ⟨⟨?_, xCl_up (by omega) (xCl_up (by omega) HC), ⟨?_, uF, ⟨ad, f, xHf_up (by omega) (xHf_up (by omega) Hf), hfe⟩, ⟨b, ?_, ub⟩, mo, ?_, umo⟩, ⟨xup_s, ?_, ⟨Nat.zero_le _, hc.2⟩⟩, ⟨moH_self ?_ ?_ ?_, ⟨Nat.zero_le _, hs.2⟩⟩, d, lv, se, me, le, row, ?_, ?_⟩, fun j hj => ?_⟩
  · rw [g 0 (by omega) (by omega)]; exact e0
  · rw [g 5 (by omega) (by omega)]; exact u5
  · rw [g 7 (by omega) (by omega)]; exact u7
  · rw [g 8 (by omega) (by omega)]; exact u8
  · rw [g 58 (by omega) (by omega), ho 58 (by omega)]; exact h58
  · rw [xup_n (by omega)]; exact xup_s
  · rw [g 60 (by omega) (by omega), ho 60 (by omega)]; exact h60
  · rw [g 61 (by omega) (by omega), ho 61 (by omega)]; exact h61
  · rw [g 62 (by omega) (by omega), ho 62 (by omega)]; exact h62
  · rw [g 63 (by omega) (by omega), ho 63 (by omega)]; exact h63
  · rw [g j (by omega) (by omega), ho j (by omega)]
theorem xHu_keep {h' : xHp} {m' : Nat} {P' : Nat → V3} (H : xHu h m P) (e : ∀ j, 5 ≤ j → h' j = h j) (Q : xHp → Prop) (k : (∃ F E CB six, h' 5 = some (huC F E CB six)) → (∃ ad f, xHf h' ad f) → (∃ b, h' 7 = some (bA b)) → (∃ mo, h' 8 = some (mA mo)) → Q h') : Q h' := by
  obtain ⟨u5, uF, ⟨ad, f, Hf, hfe⟩, ⟨b, u7, ub⟩, mo, u8, umo⟩ := H
  refine k ⟨_, _, _, _, by rw [e 5 (by omega)]; exact u5⟩ ⟨ad, f, ?_⟩ ⟨b, by rw [e 7 (by omega)]; exact u7⟩ ⟨mo, by rw [e 8 (by omega)]; exact u8⟩
  obtain ⟨⟨rd, g6, grd⟩, gA, gI, gC, gV⟩ := Hf
  refine ⟨⟨rd, by rw [e 6 (by omega)]; exact g6, grd⟩, gA, gI, fun i hi => ?_, gV⟩
  have := gA i hi
  rw [e _ (by omega), e _ (by omega)]
  exact gC i hi
set_option maxRecDepth 10000 in
set_option maxHeartbeats 1000000 in
theorem c_point (H : xSt h m P ct s) (x y z : Int) (hx : R3 x) (hy : R3 y) (hz : R3 z) : xCall xmX5_point 100 0 0 [.ref 0, zI x, zI y, zI z] n h (fun r n' h' => n' = n ∧ ((¬ (zwi x 20 ∧ zwi y 20 ∧ zwi z 20) ∧ r = some (zI (-2)) ∧ h' = h) ∨ ((zwi x 20 ∧ zwi y 20 ∧ zwi z 20) ∧ hasP P m (x, y, z) ∧ r = some (zI (-3)) ∧ h' = h) ∨ ((zwi x 20 ∧ zwi y 20 ∧ zwi z 20) ∧ ¬ hasP P m (x, y, z) ∧ m = 14 ∧ r = some (zI (-4)) ∧ h' = h) ∨ ((zwi x 20 ∧ zwi y 20 ∧ zwi z 20) ∧ ¬ hasP P m (x, y, z) ∧ m < 14 ∧ r = some (zI m) ∧ xSt h' (m + 1) (vup P m (x, y, z)) (0, ct.2) (0, s.2) ∧ ∀ j, 64 ≤ j → h' j = h j))) := by
  have H' := H
  obtain ⟨h0, HC, HU, ⟨h57, h58, hc⟩, ⟨hmo, hs⟩, d, lv, se, me, le, row, h62, h63⟩ := H
  have hm := HC.2.2.2.2.1
  have k1 := HC.1
  refine xCall.of xgX5_point rfl ?_
  have no : ∀ l, ¬ (zwi x 20 ∧ zwi y 20 ∧ zwi z 20) → xT xmX5_point (100, 0, 0, 0, 0) 27 l [] n h (fun r n' h' => n' = n ∧ ((¬ (zwi x 20 ∧ zwi y 20 ∧ zwi z 20) ∧ r = some (zI (-2)) ∧ h' = h) ∨ ((zwi x 20 ∧ zwi y 20 ∧ zwi z 20) ∧ hasP P m (x, y, z) ∧ r = some (zI (-3)) ∧ h' = h) ∨ ((zwi x 20 ∧ zwi y 20 ∧ zwi z 20) ∧ ¬ hasP P m (x, y, z) ∧ m = 14 ∧ r = some (zI (-4)) ∧ h' = h) ∨ ((zwi x 20 ∧ zwi y 20 ∧ zwi z 20) ∧ ¬ hasP P m (x, y, z) ∧ m < 14 ∧ r = some (zI m) ∧ xSt h' (m + 1) (vup P m (x, y, z)) (0, ct.2) (0, s.2) ∧ ∀ j, 64 ≤ j → h' j = h j))) := by
    intro l hn
    refine tt_op rfl rfl ?_
    refine tt_ireturn rfl rfl (by rfl) (Nat.le_of_ble_eq_true rfl) (Nat.le_of_ble_eq_true rfl) ?_
    exact ⟨rfl, Or.inl ⟨hn, rfl, rfl⟩⟩
  refine tt_op rfl rfl ?_
  refine tt_op rfl rfl ?_
  by_cases x1 : zwi x 20
  rotate_left
  · refine tt_pS rfl rfl rfl rfl (c_within x 20 hx (by omega) (zI 0) (fun q => absurd q x1) (fun _ => rfl) _ _) ?_
    refine z_if rfl (by first | assumption | (unfold R3; omega)) (fun c => ?_) (fun c => absurd (by simp only [zcd] <;> omega) c)
    exact no _ (fun q => x1 q.1)
  refine tt_pS rfl rfl rfl rfl (c_within x 20 hx (by omega) (zI 1) (fun _ => rfl) (fun q => absurd x1 q) _ _) ?_
  refine z_if rfl (by first | assumption | (unfold R3; omega)) (fun c => absurd c (by simp only [zcd] <;> omega)) (fun c => ?_)
  refine tt_op rfl rfl ?_
  refine tt_op rfl rfl ?_
  by_cases x2 : zwi y 20
  rotate_left
  · refine tt_pS rfl rfl rfl rfl (c_within y 20 hy (by omega) (zI 0) (fun q => absurd q x2) (fun _ => rfl) _ _) ?_
    refine z_if rfl (by first | assumption | (unfold R3; omega)) (fun c => ?_) (fun c => absurd (by simp only [zcd] <;> omega) c)
    exact no _ (fun q => x2 q.2.1)
  refine tt_pS rfl rfl rfl rfl (c_within y 20 hy (by omega) (zI 1) (fun _ => rfl) (fun q => absurd x2 q) _ _) ?_
  refine z_if rfl (by first | assumption | (unfold R3; omega)) (fun c => absurd c (by simp only [zcd] <;> omega)) (fun c => ?_)
  refine tt_op rfl rfl ?_
  refine tt_op rfl rfl ?_
  by_cases x3 : zwi z 20
  rotate_left
  · refine tt_pS rfl rfl rfl rfl (c_within z 20 hz (by omega) (zI 0) (fun q => absurd q x3) (fun _ => rfl) _ _) ?_
    refine z_if rfl (by first | assumption | (unfold R3; omega)) (fun c => absurd c (by simp only [zcd] <;> omega)) (fun c => ?_)
    exact no _ (fun q => x3 q.2.2)
  refine tt_pS rfl rfl rfl rfl (c_within z 20 hz (by omega) (zI 1) (fun _ => rfl) (fun q => absurd x3 q) _ _) ?_
  refine z_if rfl (by first | assumption | (unfold R3; omega)) (fun c => ?_) (fun c => absurd (by simp only [zcd] <;> omega) c)
  clear no
  have hu : vbd 20 (x, y, z) := ⟨x1, x2, x3⟩
  refine tt_op rfl rfl ?_
  refine tt_get rfl (by assumption) (by rfl) ?_
  refine tt_op rfl rfl ?_
  refine tt_op rfl rfl ?_
  refine tt_op rfl rfl ?_
  by_cases hh : hasP P m (x, y, z)
  · refine tt_pV rfl rfl rfl k1 rfl (c_has HC (x, y, z) hu (zI 1) (fun _ => rfl) (fun q => absurd hh q)) ?_
    refine z_if rfl (by first | assumption | (unfold R3; omega)) (fun c => absurd c (by simp only [zcd] <;> omega)) (fun c => ?_)
    refine tt_op rfl rfl ?_
    refine tt_ireturn rfl rfl (by rfl) (Nat.le_of_ble_eq_true rfl) (Nat.le_of_ble_eq_true rfl) ?_
    exact ⟨rfl, Or.inr (Or.inl ⟨⟨x1, x2, x3⟩, hh, rfl, rfl⟩)⟩
  refine tt_pV rfl rfl rfl k1 rfl (c_has HC (x, y, z) hu (zI 0) (fun q => absurd q hh) (fun _ => rfl)) ?_
  refine z_if rfl (by first | assumption | (unfold R3; omega)) (fun c => ?_) (fun c => absurd (by simp only [zcd] <;> omega) c)
  refine tt_op rfl rfl ?_
  refine tt_get rfl (by assumption) (by rfl) ?_
  refine tt_get rfl (by assumption) (by rfl) ?_
  refine tt_op rfl rfl ?_
  refine z_icmp rfl (by first | assumption | (unfold R3; omega)) (by first | assumption | (unfold R3; omega)) (fun cm => ?_) (fun cm => ?_)
  rotate_left
  · simp only [zcd] at cm
    refine tt_op rfl rfl ?_
    refine tt_ireturn rfl rfl (by rfl) (Nat.le_of_ble_eq_true rfl) (Nat.le_of_ble_eq_true rfl) ?_
    exact ⟨rfl, Or.inr (Or.inr (Or.inl ⟨⟨x1, x2, x3⟩, hh, by omega, rfl, rfl⟩))⟩
  simp only [zcd] at cm
  have hm14 : m < 14 := by omega
  refine tt_op rfl rfl ?_
  refine tt_get rfl (by assumption) (by rfl) ?_
  refine tt_op rfl rfl ?_
  refine tt_op rfl rfl ?_
  refine tt_op rfl rfl ?_
  refine tt_callV (M' := xmX0_add) rfl rfl rfl k1 rfl (c_add HC (x, y, z) hu hm14) ?_
  rintro r1 n1 h1 ⟨rfl, rfl, HC1, e1⟩
  have g0 : h1 0 = some soC := by rw [e1 0 (by omega)]; exact h0
  refine tt_op rfl rfl ?_
  refine tt_get rfl g0 (by rfl) ?_
  refine xHu_keep (h' := h1) (m' := m) (P' := P) HU (fun j hj => e1 j (by omega)) (fun h1 => xT xmX5_point _ _ _ _ _ h1 _) ?_
  rintro ⟨F, E, CB, six, g5⟩ ⟨ad, f, Hf⟩ ⟨b, g7⟩ ⟨mo, g8⟩
  refine tt_callV (M' := xmX1_build) rfl rfl rfl g5 rfl (c_build HC1 F g5 ad f Hf b g7 mo g8) ?_
  rintro r2 n2 h2 ⟨rfl, rfl, HU2, e2⟩
  have o2 : ∀ j, 57 ≤ j → h2 j = h j := fun j hj => by rw [e2 j (by omega), e1 j (by omega)]
  have a0 : h2 0 = some soC := by rw [e2 0 (by omega)]; exact g0
  have HC2 : xCl h2 (m + 1) (vup P m (x, y, z)) := by
    obtain ⟨q1, q2, q3, q4, q5⟩ := HC1
    exact ⟨by rw [e2 1 (by omega)]; exact q1, by rw [e2 2 (by omega)]; exact q2, by rw [e2 3 (by omega)]; exact q3, by rw [e2 4 (by omega)]; exact q4, q5⟩
  obtain ⟨S3, o3⟩ := st_new H' a0 HC2 HU2 o2
  have a57 : h2 57 = some (seC ct.1) := by rw [o2 57 (by omega)]; exact h57
  have a59 : h2 59 = some (moC s.1) := by rw [o2 59 (by omega)]; exact (moH_of hmo).1
  refine tt_op rfl rfl ?_
  refine tt_callV (M' := xmX5_forget) rfl rfl rfl a0 rfl (c_forget a0 s a59 ct.1 a57) ?_
  rintro r3 n3 h3 ⟨rfl, rfl, rfl⟩
  have b0 := S3.1
  have b1 := S3.2.1.1
  refine tt_op rfl rfl ?_
  refine tt_get rfl b0 (by rfl) ?_
  refine tt_get rfl b1 (by rfl) ?_
  refine tt_op rfl rfl ?_
  refine z_isub rfl ?_
  rw [show ((m + 1 : Nat) : Int) - 1 = (m : Int) by omega]
  refine tt_ireturn rfl rfl (by rfl) (Nat.le_of_ble_eq_true rfl) (Nat.le_of_ble_eq_true rfl) ?_
  exact ⟨rfl, Or.inr (Or.inr (Or.inr ⟨⟨x1, x2, x3⟩, hh, hm14, rfl, S3, o3⟩))⟩
set_option maxRecDepth 10000 in
set_option maxHeartbeats 1000000 in
theorem c_clear (H : xSt h m P ct s) : xCall xmX5_clear 100 0 0 [.ref 0] n h (fun r n' h' => n' = n ∧ r = some (zI m) ∧ xSt h' 0 P (0, ct.2) (0, s.2) ∧ ∀ j, 64 ≤ j → h' j = h j) := by
  have H' := H
  obtain ⟨h0, HC, HU, ⟨h57, h58, hc⟩, ⟨hmo, hs⟩, d, lv, se, me, le, row, h62, h63⟩ := H
  obtain ⟨k1, k2, k3, k4, k5, k6⟩ := HC
  refine xCall.of xgX5_clear rfl ?_
  refine tt_op rfl rfl ?_
  refine tt_get rfl (by assumption) (by rfl) ?_
  refine tt_get rfl (by assumption) (by rfl) ?_
  refine tt_op rfl rfl ?_
  refine tt_op rfl rfl ?_
  refine tt_get rfl (by assumption) (by rfl) ?_
  refine tt_op rfl rfl ?_
  refine tt_put rfl (k1) rfl (by decide) (by rfl) (by rfl) rfl ?_
  have HC1 : xCl (xup h 1 (.inr (0, [zI (0 : Nat), .ref 2, .ref 3, .ref 4]))) 0 P := ⟨xup_s, by rw [xup_n (by omega)]; exact k2, by rw [xup_n (by omega)]; exact k3, by rw [xup_n (by omega)]; exact k4, by omega, k6⟩
  have g0 : ∀ e, xup h 1 e 0 = some soC := fun e => by rw [xup_n (by omega)]; exact h0
  refine tt_op rfl rfl ?_
  refine tt_get rfl (g0 _) (by rfl) ?_
  show xT xmX5_clear _ _ _ _ _ (xup h 1 (.inr (0, [zI (0 : Nat), .ref 2, .ref 3, .ref 4]))) _
  refine xHu_keep (m' := m) (P' := P) HU (h' := xup h 1 (.inr (0, [zI (0 : Nat), .ref 2, .ref 3, .ref 4]))) (fun j hj => xup_n (by omega)) (fun h1 => xT xmX5_clear _ _ _ _ _ h1 _) ?_
  rintro ⟨F, E, CB, six, g5⟩ ⟨ad, f, Hf⟩ ⟨b, g7⟩ ⟨mo, g8⟩
  refine tt_callV (M' := xmX1_build) rfl rfl rfl g5 rfl (c_build HC1 F g5 ad f Hf b g7 mo g8) ?_
  rintro r2 n2 h2 ⟨rfl, rfl, HU2, e2⟩
  have o2 : ∀ j, 57 ≤ j → h2 j = h j := fun j hj => by rw [e2 j (by omega), xup_n (by omega)]
  have a0 : h2 0 = some soC := by rw [e2 0 (by omega)]; exact g0 _
  have HC2 : xCl h2 0 P := by
    obtain ⟨q1, q2, q3, q4, q5⟩ := HC1
    exact ⟨by rw [e2 1 (by omega)]; exact q1, by rw [e2 2 (by omega)]; exact q2, by rw [e2 3 (by omega)]; exact q3, by rw [e2 4 (by omega)]; exact q4, q5⟩
  obtain ⟨S3, o3⟩ := st_new H' a0 HC2 HU2 o2
  have a57 : h2 57 = some (seC ct.1) := by rw [o2 57 (by omega)]; exact h57
  have a59 : h2 59 = some (moC s.1) := by rw [o2 59 (by omega)]; exact (moH_of hmo).1
  refine tt_op rfl rfl ?_
  refine tt_callV (M' := xmX5_forget) rfl rfl rfl a0 rfl (c_forget a0 s a59 ct.1 a57) ?_
  rintro r3 n3 h3 ⟨rfl, rfl, rfl⟩
  refine tt_op rfl rfl ?_
  refine tt_ireturn rfl rfl (by rfl) (Nat.le_of_ble_eq_true rfl) (Nat.le_of_ble_eq_true rfl) ?_
  exact ⟨rfl, rfl, S3, o3⟩
end SO2
end
section
/-! The class itself: middles, places, cuts, shadows, ways -/
theorem slQ_b {P : Nat → V3} {b b' : Nat → Nat} {d : V3} {z : Int} {p : Nat} (e : b p = b' p) : ∀ (k q : Nat) (s : Nat × (Nat → Int)), slQ P b d z p k q s = slQ P b' d z p k q s
  | 0, q, s => rfl
  | k + 1, q, s => by
    unfold slQ
    rw [e]
    exact slQ_b e k (q + 1) _
theorem slP_b {P : Nat → V3} {CB : Nat} {b b' : Nat → Nat} {d : V3} {z : Int} (e : ∀ j, j < 14 → b j = b' j) : ∀ (k p : Nat) (s : Nat × (Nat → Int)), p + k = 14 → slP P CB b d z k p s = slP P CB b' d z k p s
  | 0, p, s, hp => rfl
  | k + 1, p, s, hp => by
    unfold slP
    rw [slQ_b (e p (by omega))]
    exact slP_b e k (p + 1) _ (by omega)
theorem baR_b {b b' : Nat → Nat} {w : Nat} (e : ∀ j, j < 14 → b j = b' j) : ∀ (k i v : Nat), i + k = 14 → baR b w k i v = baR b' w k i v
  | 0, i, v, hi => rfl
  | k + 1, i, v, hi => by
    unfold baR
    rw [e i (by omega)]
    exact baR_b e k (i + 1) _ (by omega)
theorem spR_b {b b' : Nat → Nat} {to : Nat} (e : ∀ j, j < 14 → b j = b' j) : ∀ (k s w : Nat), spR b to k s w = spR b' to k s w
  | 0, s, w => rfl
  | k + 1, s, w => by
    unfold spR
    rw [baR_b e 14 0 0 rfl, spR_b e k]
theorem trR_len {P : Nat → V3} {d : V3} {S st : Nat} : ∀ (k s p : Nat) (row row' : Nat → Int) (me : Nat), (trR P d S st k s p row me).2 = (trR P d S st k s p row' me).2
  | 0, s, p, row, row', me => rfl
  | k + 1, s, p, row, row', me => by
    unfold trR
    split
    · rfl
    · exact trR_len k _ _ _ _ _
section SO3
variable {h : xHp} {m : Nat} {P : Nat → V3} {n : Nat} {F E CB : Nat} {six : Int} {ct : Nat × (Nat → Int)} {s : St}
set_option maxRecDepth 10000 in
theorem c_middle (H : xSt h m P ct s) (hv : 0 < (blF P m).1 → 0 < hSix P m) (x y : Int) (hx : R3 x) (hy : R3 y) : xPure xmX5_middle 100 [.ref 0, zI x, zI y] n h (zJ (if 0 < (blF P m).1 ∧ (0 ≤ x ∧ x ≤ 2) ∧ (y = 0 ∨ y = 1) then (if y = 0 then hMo P m x.toNat else 4 * hSix P m).tdiv (Int.gcd (hMo P m x.toNat) (4 * hSix P m)) else -1000000000000)) := by
  obtain ⟨h0, HC, HU, -⟩ := H
  have hsx := hu_six HC.2.2.2.2.2 HU
  obtain ⟨h5, hF, -, -, mo, h8, hmo⟩ := HU
  refine xCall.of xgX5_middle rfl ?_
  have no : ∀ l, xT xmX5_middle (100, 0, 0, 0, 0) 21 l [] n h (fun r n' h' => r = some (zJ (-1000000000000)) ∧ n' = n ∧ h' = h) := by
    intro l
    refine tt_op rfl rfl ?_
    refine tt_lreturn rfl rfl (Nat.le_of_ble_eq_true rfl) (Nat.le_of_ble_eq_true rfl) ?_
    exact ⟨rfl, rfl, rfl⟩
  refine tt_op rfl rfl ?_
  by_cases hp : 0 < (blF P m).1
  rotate_left
  · refine tt_pV rfl rfl rfl h0 rfl (c_stands_n h0 h5 hF hp) ?_
    rw [if_neg (fun z => hp z.1)]
    refine z_if rfl (by first | assumption | (unfold R3; omega)) (fun c => ?_) (fun c => absurd (by simp only [zcd] <;> omega) c)
    exact no _
  refine tt_pV rfl rfl rfl h0 rfl (c_stands_y h0 h5 hF hp) ?_
  refine z_if rfl (by first | assumption | (unfold R3; omega)) (fun c => absurd c (by simp only [zcd] <;> omega)) (fun c => ?_)
  refine tt_op rfl rfl ?_
  by_cases ha : 0 ≤ x ∧ x ≤ 2
  rotate_left
  · refine tt_pS rfl rfl rfl rfl (c_isAxis x hx (zI 0) (fun q => absurd q ha) (fun _ => rfl) _ _) ?_
    rw [if_neg (fun z => ha z.2.1)]
    refine z_if rfl (by first | assumption | (unfold R3; omega)) (fun c => ?_) (fun c => absurd (by simp only [zcd] <;> omega) c)
    exact no _
  refine tt_pS rfl rfl rfl rfl (c_isAxis x hx (zI 1) (fun _ => rfl) (fun q => absurd ha q) _ _) ?_
  refine z_if rfl (by first | assumption | (unfold R3; omega)) (fun c => absurd c (by simp only [zcd] <;> omega)) (fun c => ?_)
  refine tt_op rfl rfl ?_
  by_cases hq : y = 0 ∨ y = 1
  rotate_left
  · refine tt_pS rfl rfl rfl rfl (c_isPart y hy (zI 0) (fun q => absurd q hq) (fun _ => rfl) _ _) ?_
    rw [if_neg (fun z => hq z.2.2)]
    refine z_if rfl (by first | assumption | (unfold R3; omega)) (fun c => absurd c (by simp only [zcd] <;> omega)) (fun c => ?_)
    exact no _
  refine tt_pS rfl rfl rfl rfl (c_isPart y hy (zI 1) (fun _ => rfl) (fun q => absurd hq q) _ _) ?_
  rw [if_pos ⟨hp, ha, hq⟩]
  refine z_if rfl (by first | assumption | (unfold R3; omega)) (fun c => ?_) (fun c => absurd (by simp only [zcd] <;> omega) c)
  have hv' := hv hp
  have hb := hsx.2 x.toNat (by omega)
  have hb1 := hsx.1
  have e := hmo x.toNat (by omega)
  refine tt_op rfl rfl ?_
  refine tt_get rfl h0 (by rfl) ?_
  refine tt_get rfl h5 (by rfl) ?_
  refine tt_op rfl rfl ?_
  refine z_lald (j := x.toNat) rfl h8 (by omega) (by omega) (by decide) ?_
  rw [e]
  refine tt_op rfl rfl ?_
  refine tt_op rfl rfl ?_
  refine tt_get rfl (by assumption) (by rfl) ?_
  refine tt_get rfl (by assumption) (by rfl) ?_
  refine z_lmul rfl ?_
  refine tt_op rfl rfl ?_
  have ey : y = ((y.toNat : Nat) : Int) := by omega
  have fr := c_fraction (hMo P m x.toNat) (4 * hSix P m) y.toNat (by omega) (by omega) (by omega) n h
  rw [← ey] at fr
  refine tt_pS rfl rfl rfl rfl fr ?_
  refine tt_lreturn rfl rfl (Nat.le_of_ble_eq_true rfl) (Nat.le_of_ble_eq_true rfl) ?_
  rcases hq with rfl | rfl
  · exact ⟨rfl, rfl, rfl⟩
  · exact ⟨rfl, rfl, rfl⟩
set_option maxRecDepth 10000 in
theorem c_where (H : xSt h m P ct s) (x y z w : Int) (hx : R3 x) (hy : R3 y) (hz : R3 z) (hw : R3 w) : xPure xmX5_where 100 [.ref 0, zI x, zI y, zI z, zI w] n h (zI (if 0 < (blF P m).1 then (if (1 ≤ w ∧ w ≤ 1000) ∧ (-100000 ≤ x ∧ x ≤ 100000) ∧ (-100000 ≤ y ∧ y ≤ 100000) ∧ (-100000 ≤ z ∧ z ≤ 100000) then (plR (blF P m).2 (x, y, z) w (blF P m).1 0 2 : Int) else -2) else -3)) := by
  obtain ⟨h0, HC, ⟨h5, hF, ⟨ad, f, Hf, hfe⟩, -⟩, -⟩ := H
  refine xCall.of xgX5_where rfl ?_
  have no : ∀ l, xT xmX5_where (100, 0, 0, 0, 0) 54 l [] n h (fun r n' h' => r = some (zI (-2)) ∧ n' = n ∧ h' = h) := by
    intro l
    refine tt_op rfl rfl ?_
    refine tt_ireturn rfl rfl (by rfl) (Nat.le_of_ble_eq_true rfl) (Nat.le_of_ble_eq_true rfl) ?_
    exact ⟨rfl, rfl, rfl⟩
  have no2 : ∀ l, xT xmX5_where (100, 0, 0, 0, 0) 24 l [] n h (fun r n' h' => r = some (zI (-2)) ∧ n' = n ∧ h' = h) := by
    intro l
    refine tt_op rfl rfl ?_
    refine tt_ireturn rfl rfl (by rfl) (Nat.le_of_ble_eq_true rfl) (Nat.le_of_ble_eq_true rfl) ?_
    exact ⟨rfl, rfl, rfl⟩
  refine tt_op rfl rfl ?_
  by_cases hp : 0 < (blF P m).1
  rotate_left
  · refine tt_pV rfl rfl rfl h0 rfl (c_stands_n h0 h5 hF hp) ?_
    rw [if_neg hp]
    refine z_if rfl (by first | assumption | (unfold R3; omega)) (fun c => absurd c (by simp only [zcd] <;> omega)) (fun c => ?_)
    refine tt_op rfl rfl ?_
    refine tt_ireturn rfl rfl (by rfl) (Nat.le_of_ble_eq_true rfl) (Nat.le_of_ble_eq_true rfl) ?_
    exact ⟨rfl, rfl, rfl⟩
  refine tt_pV rfl rfl rfl h0 rfl (c_stands_y h0 h5 hF hp) ?_
  rw [if_pos hp]
  refine z_if rfl (by first | assumption | (unfold R3; omega)) (fun c => ?_) (fun c => absurd (by simp only [zcd] <;> omega) c)
  refine tt_op rfl rfl ?_
  refine tt_op rfl rfl ?_
  refine z_icmp rfl (by first | assumption | (unfold R3; omega)) (by first | assumption | (unfold R3; omega)) (fun c1 => ?_) (fun c1 => ?_)
  · simp only [zcd] at c1
    rw [if_neg (by omega)]
    exact no2 _
  simp only [zcd] at c1
  refine tt_op rfl rfl ?_
  refine tt_op rfl rfl ?_
  refine z_icmp rfl (by first | assumption | (unfold R3; omega)) (by first | assumption | (unfold R3; omega)) (fun c2 => ?_) (fun c2 => ?_)
  rotate_left
  · simp only [zcd] at c2
    rw [if_neg (by omega)]
    exact no2 _
  simp only [zcd] at c2
  refine tt_op rfl rfl ?_
  refine tt_op rfl rfl ?_
  by_cases x1 : zwi x 100000
  rotate_left
  · refine tt_pS rfl rfl rfl rfl (c_within x 100000 hx (by omega) (zI 0) (fun q => absurd q x1) (fun _ => rfl) _ _) ?_
    rw [if_neg (fun q => x1 q.2.1)]
    refine z_if rfl (by first | assumption | (unfold R3; omega)) (fun c => ?_) (fun c => absurd (by simp only [zcd] <;> omega) c)
    exact no _
  refine tt_pS rfl rfl rfl rfl (c_within x 100000 hx (by omega) (zI 1) (fun _ => rfl) (fun q => absurd x1 q) _ _) ?_
  refine z_if rfl (by first | assumption | (unfold R3; omega)) (fun c => absurd c (by simp only [zcd] <;> omega)) (fun c => ?_)
  refine tt_op rfl rfl ?_
  refine tt_op rfl rfl ?_
  by_cases x2 : zwi y 100000
  rotate_left
  · refine tt_pS rfl rfl rfl rfl (c_within y 100000 hy (by omega) (zI 0) (fun q => absurd q x2) (fun _ => rfl) _ _) ?_
    rw [if_neg (fun q => x2 q.2.2.1)]
    refine z_if rfl (by first | assumption | (unfold R3; omega)) (fun c => ?_) (fun c => absurd (by simp only [zcd] <;> omega) c)
    exact no _
  refine tt_pS rfl rfl rfl rfl (c_within y 100000 hy (by omega) (zI 1) (fun _ => rfl) (fun q => absurd x2 q) _ _) ?_
  refine z_if rfl (by first | assumption | (unfold R3; omega)) (fun c => absurd c (by simp only [zcd] <;> omega)) (fun c => ?_)
  refine tt_op rfl rfl ?_
  refine tt_op rfl rfl ?_
  by_cases x3 : zwi z 100000
  rotate_left
  · refine tt_pS rfl rfl rfl rfl (c_within z 100000 hz (by omega) (zI 0) (fun q => absurd q x3) (fun _ => rfl) _ _) ?_
    rw [if_neg (fun q => x3 q.2.2.2)]
    refine z_if rfl (by first | assumption | (unfold R3; omega)) (fun c => absurd c (by simp only [zcd] <;> omega)) (fun c => ?_)
    exact no _
  refine tt_pS rfl rfl rfl rfl (c_within z 100000 hz (by omega) (zI 1) (fun _ => rfl) (fun q => absurd x3 q) _ _) ?_
  rw [if_pos ⟨by omega, x1, x2, x3⟩]
  refine z_if rfl (by first | assumption | (unfold R3; omega)) (fun c => ?_) (fun c => absurd (by simp only [zcd] <;> omega) c)
  refine tt_op rfl rfl ?_
  refine tt_get rfl (by assumption) (by rfl) ?_
  refine tt_op rfl rfl ?_
  refine z_il rfl (by first | assumption | (unfold R3; omega)) ?_
  refine tt_op rfl rfl ?_
  refine z_il rfl (by first | assumption | (unfold R3; omega)) ?_
  refine tt_op rfl rfl ?_
  refine z_il rfl (by first | assumption | (unfold R3; omega)) ?_
  refine tt_op rfl rfl ?_
  refine z_il rfl (by first | assumption | (unfold R3; omega)) ?_
  refine tt_pV rfl rfl rfl h5 rfl (c_place h5 Hf hF (x, y, z) w ⟨x1, x2, x3⟩ (by omega)) ?_
  rw [plR_fe (f := f) (g := (blF P m).2) (blF P m).1 0 2 (fun j hj => hfe j (by omega))]
  refine tt_ireturn rfl rfl (by rfl) (Nat.le_of_ble_eq_true rfl) (Nat.le_of_ble_eq_true rfl) ?_
  exact ⟨rfl, rfl, rfl⟩
/-- the section is another one -/
theorem st_se (H : xSt h m P ct s) {c' : Nat × (Nat → Int)} (hc : sOk c') : xSt (seH h c') m P c' s ∧ ∀ j, 64 ≤ j → seH h c' j = h j := by
  obtain ⟨h0, HC, HU, ⟨h57, h58, -⟩, ⟨hmo, hs⟩, d, lv, se, me, le, row, h62, h63⟩ := H
  obtain ⟨h59, h60, h61⟩ := moH_of hmo
  obtain ⟨u5, uF, ⟨ad, f, Hf, hfe⟩, ⟨b, u7, ub⟩, mo, u8, umo⟩ := HU
  have g : ∀ j, j ≠ 57 → j ≠ 58 → seH h c' j = h j := fun j a b => seH_n a b
  refine ⟨⟨?_, xCl_se HC, ⟨?_, uF, ⟨ad, f, xHf_up (by omega) (xHf_up (by omega) Hf), hfe⟩, ⟨b, ?_, ub⟩, mo, ?_, umo⟩, ⟨xup_s, ?_, hc⟩, ⟨moH_self ?_ ?_ ?_, hs⟩, d, lv, se, me, le, row, ?_, ?_⟩, fun j hj => g j (by omega) (by omega)⟩
  · rw [g 0 (by omega) (by omega)]; exact h0
  · rw [g 5 (by omega) (by omega)]; exact u5
  · rw [g 7 (by omega) (by omega)]; exact u7
  · rw [g 8 (by omega) (by omega)]; exact u8
  · show xup (xup h 58 (zL 96 c'.2)) 57 (seC c'.1) 58 = _
    rw [xup_n (by omega)]; exact xup_s
  · rw [g 59 (by omega) (by omega)]; exact h59
  · rw [g 60 (by omega) (by omega)]; exact h60
  · rw [g 61 (by omega) (by omega)]; exact h61
  · rw [g 62 (by omega) (by omega)]; exact h62
  · rw [g 63 (by omega) (by omega)]; exact h63
/-- what a cut leaves -/
noncomputable def cuS (P : Nat → V3) (m : Nat) (d : V3) (z : Int) (N : Nat → Int) : Nat × (Nat → Int) := slP P (hCB P m) (hBs P m) d z 14 0 (0, N)
set_option maxRecDepth 10000 in
set_option maxHeartbeats 1000000 in
theorem c_cut (H : xSt h m P ct s) (x y z w : Int) (hx : R3 x) (hy : R3 y) (hz : R3 z) (hw : R3 w) : xCall xmX5_cut 100 0 0 [.ref 0, zI x, zI y, zI z, zI w] n h (fun r n' h' => n' = n ∧ ((¬ 0 < (blF P m).1 ∧ r = some (zI (-3)) ∧ h' = h) ∨ (0 < (blF P m).1 ∧ ¬ (isDir x y z ∧ zwi w 2000) ∧ r = some (zI (-2)) ∧ h' = h) ∨ (0 < (blF P m).1 ∧ (isDir x y z ∧ zwi w 2000) ∧ r = some (zI (cuS P m (x, y, z) w ct.2).1) ∧ xSt h' m P (cuS P m (x, y, z) w ct.2) s ∧ ∀ j, 64 ≤ j → h' j = h j))) := by
  have H' := H
  have hbd := hu_bd H.2.2.1
  obtain ⟨h0, HC, ⟨h5, hF, -, ⟨b, h7, hb7⟩, -⟩, ⟨h57, h58, hc⟩, -⟩ := H
  refine xCall.of xgX5_cut rfl ?_
  have no : ∀ l, 0 < (blF P m).1 → ¬ (isDir x y z ∧ zwi w 2000) → xT xmX5_cut (100, 0, 0, 0, 0) 30 l [] n h (fun r n' h' => n' = n ∧ ((¬ 0 < (blF P m).1 ∧ r = some (zI (-3)) ∧ h' = h) ∨ (0 < (blF P m).1 ∧ ¬ (isDir x y z ∧ zwi w 2000) ∧ r = some (zI (-2)) ∧ h' = h) ∨ (0 < (blF P m).1 ∧ (isDir x y z ∧ zwi w 2000) ∧ r = some (zI (cuS P m (x, y, z) w ct.2).1) ∧ xSt h' m P (cuS P m (x, y, z) w ct.2) s ∧ ∀ j, 64 ≤ j → h' j = h j))) := by
    intro l h1 h2
    refine tt_op rfl rfl ?_
    refine tt_ireturn rfl rfl (by rfl) (Nat.le_of_ble_eq_true rfl) (Nat.le_of_ble_eq_true rfl) ?_
    exact ⟨rfl, Or.inr (Or.inl ⟨h1, h2, rfl, rfl⟩)⟩
  refine tt_op rfl rfl ?_
  by_cases hp : 0 < (blF P m).1
  rotate_left
  · refine tt_pV rfl rfl rfl h0 rfl (c_stands_n h0 h5 hF hp) ?_
    refine z_if rfl (by first | assumption | (unfold R3; omega)) (fun c => absurd c (by simp only [zcd] <;> omega)) (fun c => ?_)
    refine tt_op rfl rfl ?_
    refine tt_ireturn rfl rfl (by rfl) (Nat.le_of_ble_eq_true rfl) (Nat.le_of_ble_eq_true rfl) ?_
    exact ⟨rfl, Or.inl ⟨hp, rfl, rfl⟩⟩
  refine tt_pV rfl rfl rfl h0 rfl (c_stands_y h0 h5 hF hp) ?_
  refine z_if rfl (by first | assumption | (unfold R3; omega)) (fun c => ?_) (fun c => absurd (by simp only [zcd] <;> omega) c)
  refine tt_op rfl rfl ?_
  refine tt_op rfl rfl ?_
  refine tt_op rfl rfl ?_
  by_cases x1 : isDir x y z
  rotate_left
  · refine tt_pS rfl rfl rfl rfl (c_isDir x y z hx hy hz (zI 0) (fun q => absurd q x1) (fun _ => rfl) _ _) ?_
    refine z_if rfl (by first | assumption | (unfold R3; omega)) (fun c => ?_) (fun c => absurd (by simp only [zcd] <;> omega) c)
    exact no _ hp (fun q => x1 q.1)
  refine tt_pS rfl rfl rfl rfl (c_isDir x y z hx hy hz (zI 1) (fun _ => rfl) (fun q => absurd x1 q) _ _) ?_
  refine z_if rfl (by first | assumption | (unfold R3; omega)) (fun c => absurd c (by simp only [zcd] <;> omega)) (fun c => ?_)
  refine tt_op rfl rfl ?_
  refine tt_op rfl rfl ?_
  by_cases x2 : zwi w 2000
  rotate_left
  · refine tt_pS rfl rfl rfl rfl (c_within w 2000 hw (by omega) (zI 0) (fun q => absurd q x2) (fun _ => rfl) _ _) ?_
    refine z_if rfl (by first | assumption | (unfold R3; omega)) (fun c => absurd c (by simp only [zcd] <;> omega)) (fun c => ?_)
    exact no _ hp (fun q => x2 q.2)
  refine tt_pS rfl rfl rfl rfl (c_within w 2000 hw (by omega) (zI 1) (fun _ => rfl) (fun q => absurd x2 q) _ _) ?_
  refine z_if rfl (by first | assumption | (unfold R3; omega)) (fun c => ?_) (fun c => absurd (by simp only [zcd] <;> omega) c)
  refine tt_op rfl rfl ?_
  refine tt_get rfl (by assumption) (by rfl) ?_
  refine tt_op rfl rfl ?_
  refine tt_get rfl (by assumption) (by rfl) ?_
  refine tt_op rfl rfl ?_
  refine z_il rfl (by first | assumption | (unfold R3; omega)) ?_
  refine tt_op rfl rfl ?_
  refine z_il rfl (by first | assumption | (unfold R3; omega)) ?_
  refine tt_op rfl rfl ?_
  refine z_il rfl (by first | assumption | (unfold R3; omega)) ?_
  refine tt_op rfl rfl ?_
  refine z_il rfl (by first | assumption | (unfold R3; omega)) ?_
  have hb' : ∀ j, j < 14 → b j < 16384 := fun j hj => by rw [hb7 j hj]; exact hbd.2.2 j hj
  refine tt_callV (M' := xmX4_slice) rfl rfl rfl h57 rfl (c_slice HC h5 hbd.1 b h7 hb' (x, y, z) x1.2 w x2 h57 h58 hc.2) ?_
  rw [slP_b (b' := hBs P m) hb7 14 0 _ rfl]
  rintro r n' h' ⟨rfl, rfl, rfl, hok⟩
  obtain ⟨S2, o2⟩ := st_se H' hok
  have g0 := S2.1
  have g57 := S2.2.2.2.1.1
  refine tt_op rfl rfl ?_
  refine tt_get rfl g0 (by rfl) ?_
  refine tt_get rfl g57 (by rfl) ?_
  refine tt_ireturn rfl rfl (by rfl) (Nat.le_of_ble_eq_true rfl) (Nat.le_of_ble_eq_true rfl) ?_
  exact ⟨rfl, Or.inr (Or.inr ⟨hp, ⟨x1, x2⟩, rfl, S2, o2⟩)⟩
set_option maxRecDepth 10000 in
theorem c_cutAt (H : xSt h m P ct s) (hpos : ∀ i, i < ct.1 → 0 < ct.2 (4 * i + 3)) (x y z : Int) (hx : R3 x) (hy : R3 y) (hz : R3 z) : xPure xmX5_cutAt 100 [.ref 0, zI x, zI y, zI z] n h (zJ (if (0 ≤ x ∧ x < ct.1) ∧ (0 ≤ y ∧ y ≤ 2) ∧ (z = 0 ∨ z = 1) then (if z = 0 then ct.2 (4 * x.toNat + y.toNat) else ct.2 (4 * x.toNat + 3)).tdiv (Int.gcd (ct.2 (4 * x.toNat + y.toNat)) (ct.2 (4 * x.toNat + 3))) else -1000000000000)) := by
  obtain ⟨h0, HC, HU, ⟨h57, h58, hc1, hc2⟩, -⟩ := H
  refine xCall.of xgX5_cutAt rfl ?_
  have no : ∀ l, xT xmX5_cutAt (100, 0, 0, 0, 0) 29 l [] n h (fun r n' h' => r = some (zJ (-1000000000000)) ∧ n' = n ∧ h' = h) := by
    intro l
    refine tt_op rfl rfl ?_
    refine tt_lreturn rfl rfl (Nat.le_of_ble_eq_true rfl) (Nat.le_of_ble_eq_true rfl) ?_
    exact ⟨rfl, rfl, rfl⟩
  refine tt_op rfl rfl ?_
  refine z_if rfl (by first | assumption | (unfold R3; omega)) (fun c1 => ?_) (fun c1 => ?_)
  · simp only [zcd] at c1
    rw [if_neg (by omega)]
    exact no _
  simp only [zcd] at c1
  refine tt_op rfl rfl ?_
  refine tt_op rfl rfl ?_
  refine tt_get rfl (by assumption) (by rfl) ?_
  refine tt_get rfl (by assumption) (by rfl) ?_
  refine z_icmp rfl (by first | assumption | (unfold R3; omega)) (by first | assumption | (unfold R3; omega)) (fun c2 => ?_) (fun c2 => ?_)
  · simp only [zcd] at c2
    rw [if_neg (by omega)]
    exact no _
  simp only [zcd] at c2
  refine tt_op rfl rfl ?_
  by_cases ha : 0 ≤ y ∧ y ≤ 2
  rotate_left
  · refine tt_pS rfl rfl rfl rfl (c_isAxis y hy (zI 0) (fun q => absurd q ha) (fun _ => rfl) _ _) ?_
    rw [if_neg (fun z => ha z.2.1)]
    refine z_if rfl (by first | assumption | (unfold R3; omega)) (fun c => ?_) (fun c => absurd (by simp only [zcd] <;> omega) c)
    exact no _
  refine tt_pS rfl rfl rfl rfl (c_isAxis y hy (zI 1) (fun _ => rfl) (fun q => absurd ha q) _ _) ?_
  refine z_if rfl (by first | assumption | (unfold R3; omega)) (fun c => absurd c (by simp only [zcd] <;> omega)) (fun c => ?_)
  refine tt_op rfl rfl ?_
  by_cases hq : z = 0 ∨ z = 1
  rotate_left
  · refine tt_pS rfl rfl rfl rfl (c_isPart z hz (zI 0) (fun q => absurd q hq) (fun _ => rfl) _ _) ?_
    rw [if_neg (fun z => hq z.2.2)]
    refine z_if rfl (by first | assumption | (unfold R3; omega)) (fun c => absurd c (by simp only [zcd] <;> omega)) (fun c => ?_)
    exact no _
  refine tt_pS rfl rfl rfl rfl (c_isPart z hz (zI 1) (fun _ => rfl) (fun q => absurd hq q) _ _) ?_
  rw [if_pos ⟨by omega, ha, hq⟩]
  refine z_if rfl (by first | assumption | (unfold R3; omega)) (fun c => ?_) (fun c => absurd (by simp only [zcd] <;> omega) c)
  have ex : x = ((x.toNat : Nat) : Int) := by omega
  have ey : y = ((y.toNat : Nat) : Int) := by omega
  have ez : z = ((z.toNat : Nat) : Int) := by omega
  have b1 := hc2 (4 * x.toNat + y.toNat) (by omega)
  have b2 := hc2 (4 * x.toNat + 3) (by omega)
  have b3 := hpos x.toNat (by omega)
  have s1 := c_snum (n := n) h57 h58 x.toNat y.toNat (by omega) (by omega)
  have s2 := c_snum (n := n) h57 h58 x.toNat 3 (by omega) (by omega)
  have s3 := c_fraction (ct.2 (4 * x.toNat + y.toNat)) (ct.2 (4 * x.toNat + 3)) z.toNat (by omega) (by omega) (by omega) n h
  rw [← ex, ← ey] at s1
  rw [← ex] at s2
  rw [← ez] at s3
  refine tt_op rfl rfl ?_
  refine tt_get rfl (by assumption) (by rfl) ?_
  refine tt_op rfl rfl ?_
  refine tt_op rfl rfl ?_
  refine tt_pV rfl rfl rfl h57 rfl s1 ?_
  refine tt_op rfl rfl ?_
  refine tt_get rfl (by assumption) (by rfl) ?_
  refine tt_op rfl rfl ?_
  refine tt_op rfl rfl ?_
  refine tt_pV rfl rfl rfl h57 rfl s2 ?_
  refine tt_op rfl rfl ?_
  refine tt_pS rfl rfl rfl rfl s3 ?_
  refine tt_lreturn rfl rfl (Nat.le_of_ble_eq_true rfl) (Nat.le_of_ble_eq_true rfl) ?_
  rcases hq with rfl | rfl
  · exact ⟨rfl, rfl, rfl⟩
  · exact ⟨rfl, rfl, rfl⟩
/-- how many corners a shadow has -/
def shL (P : Nat → V3) (d : V3) (S : Nat) : Nat := (trR P d S (rmF P d S) 14 0 (rmF P d S) (fun _ => 0) 0).2.2
theorem st_sh (H : xSt h m P ct s) (d : V3) (lv : Int) (se me le : Nat) (row : Nat → Int) : xSt (xup (xup h 63 (zA 14 row)) 62 (oC d lv se me le 63)) m P ct s ∧ ∀ j, 64 ≤ j → xup (xup h 63 (zA 14 row)) 62 (oC d lv se me le 63) j = h j := by
  obtain ⟨h0, HC, HU, ⟨h57, h58, hc⟩, ⟨hmo, hs⟩, -⟩ := H
  obtain ⟨h59, h60, h61⟩ := moH_of hmo
  obtain ⟨u5, uF, ⟨ad, f, Hf, hfe⟩, ⟨b, u7, ub⟩, mo, u8, umo⟩ := HU
  have g : ∀ j, j ≠ 62 → j ≠ 63 → xup (xup h 63 (zA 14 row)) 62 (oC d lv se me le 63) j = h j := fun j a b => by rw [xup_n a, xup_n b]
  refine ⟨⟨?_, xCl_up (by omega) (xCl_up (by omega) HC), ⟨?_, uF, ⟨ad, f, xHf_up (by omega) (xHf_up (by omega) Hf), hfe⟩, ⟨b, ?_, ub⟩, mo, ?_, umo⟩, ⟨?_, ?_, hc⟩, ⟨moH_self ?_ ?_ ?_, hs⟩, d, lv, se, me, le, row, xup_s, ?_⟩, fun j hj => g j (by omega) (by omega)⟩
  · rw [g 0 (by omega) (by omega)]; exact h0
  · rw [g 5 (by omega) (by omega)]; exact u5
  · rw [g 7 (by omega) (by omega)]; exact u7
  · rw [g 8 (by omega) (by omega)]; exact u8
  · rw [g 57 (by omega) (by omega)]; exact h57
  · rw [g 58 (by omega) (by omega)]; exact h58
  · rw [g 59 (by omega) (by omega)]; exact h59
  · rw [g 60 (by omega) (by omega)]; exact h60
  · rw [g 61 (by omega) (by omega)]; exact h61
  · rw [xup_n (by omega)]; exact xup_s
set_option maxRecDepth 10000 in
set_option maxHeartbeats 1000000 in
theorem c_shadow (H : xSt h m P ct s) (hne : 0 < (blF P m).1 → 0 < hCB P m) (x y z : Int) (hx : R3 x) (hy : R3 y) (hz : R3 z) : xCall xmX5_shadow 100 0 0 [.ref 0, zI x, zI y, zI z] n h (fun r n' h' => n' = n ∧ ((¬ 0 < (blF P m).1 ∧ r = some (zI (-3)) ∧ h' = h) ∨ (0 < (blF P m).1 ∧ ¬ isDir x y z ∧ r = some (zI (-2)) ∧ h' = h) ∨ (0 < (blF P m).1 ∧ isDir x y z ∧ r = some (zI (shL P (x, y, z) (hCB P m))) ∧ xSt h' m P ct s ∧ ∀ j, 64 ≤ j → h' j = h j))) := by
  have H' := H
  have hbd := hu_bd H.2.2.1
  obtain ⟨h0, HC, ⟨h5, hF, -⟩, -, -, d, lv, se, me, le, row, h62, h63⟩ := H
  refine xCall.of xgX5_shadow rfl ?_
  refine tt_op rfl rfl ?_
  by_cases hp : 0 < (blF P m).1
  rotate_left
  · refine tt_pV rfl rfl rfl h0 rfl (c_stands_n h0 h5 hF hp) ?_
    refine z_if rfl (by first | assumption | (unfold R3; omega)) (fun c => absurd c (by simp only [zcd] <;> omega)) (fun c => ?_)
    refine tt_op rfl rfl ?_
    refine tt_ireturn rfl rfl (by rfl) (Nat.le_of_ble_eq_true rfl) (Nat.le_of_ble_eq_true rfl) ?_
    exact ⟨rfl, Or.inl ⟨hp, rfl, rfl⟩⟩
  refine tt_pV rfl rfl rfl h0 rfl (c_stands_y h0 h5 hF hp) ?_
  refine z_if rfl (by first | assumption | (unfold R3; omega)) (fun c => ?_) (fun c => absurd (by simp only [zcd] <;> omega) c)
  refine tt_op rfl rfl ?_
  refine tt_op rfl rfl ?_
  refine tt_op rfl rfl ?_
  by_cases x1 : isDir x y z
  rotate_left
  · refine tt_pS rfl rfl rfl rfl (c_isDir x y z hx hy hz (zI 0) (fun q => absurd q x1) (fun _ => rfl) _ _) ?_
    refine z_if rfl (by first | assumption | (unfold R3; omega)) (fun c => absurd c (by simp only [zcd] <;> omega)) (fun c => ?_)
    refine tt_op rfl rfl ?_
    refine tt_ireturn rfl rfl (by rfl) (Nat.le_of_ble_eq_true rfl) (Nat.le_of_ble_eq_true rfl) ?_
    exact ⟨rfl, Or.inr (Or.inl ⟨hp, x1, rfl, rfl⟩)⟩
  refine tt_pS rfl rfl rfl rfl (c_isDir x y z hx hy hz (zI 1) (fun _ => rfl) (fun q => absurd x1 q) _ _) ?_
  refine z_if rfl (by first | assumption | (unfold R3; omega)) (fun c => ?_) (fun c => absurd (by simp only [zcd] <;> omega) c)
  refine tt_op rfl rfl ?_
  refine tt_get rfl (by assumption) (by rfl) ?_
  refine tt_op rfl rfl ?_
  refine z_il rfl (by first | assumption | (unfold R3; omega)) ?_
  refine tt_op rfl rfl ?_
  refine z_il rfl (by first | assumption | (unfold R3; omega)) ?_
  refine tt_op rfl rfl ?_
  refine z_il rfl (by first | assumption | (unfold R3; omega)) ?_
  refine tt_op rfl rfl ?_
  refine tt_get rfl (by assumption) (by rfl) ?_
  refine tt_get rfl (by assumption) (by rfl) ?_
  refine tt_callV (M' := xmX3_look) rfl rfl rfl h62 rfl (c_look 62 d (x, y, z) lv se (hCB P m) me le 63 h62) ?_
  rintro r n' h' ⟨rfl, rfl, rfl⟩
  have hd : vbd 3200 (x, y, z) := vbd_le (A := 20) x1.2 (by omega)
  have K := xCl_up (e := oC (x, y, z) lv (hCB P m) me le 63) (show 5 ≤ 62 by omega) HC
  have g0 : xup h 62 (oC (x, y, z) lv (hCB P m) me le 63) 0 = some soC := by rw [xup_n (by omega)]; exact h0
  have g63 : xup h 62 (oC (x, y, z) lv (hCB P m) me le 63) 63 = some (zA 14 row) := by rw [xup_n (by omega)]; exact h63
  have g62 : xup h 62 (oC (x, y, z) lv (hCB P m) me le 63) 62 = _ := xup_s
  refine tt_op rfl rfl ?_
  refine tt_get rfl (by assumption) (by rfl) ?_
  refine tt_op rfl rfl ?_
  refine tt_get rfl (by assumption) (by rfl) ?_
  refine tt_pV rfl rfl rfl g62 rfl (c_rim K 62 (x, y, z) lv (hCB P m) me le 63 hbd.1 (hne hp) hd g62) ?_
  refine tt_callV (M' := xmX3_trace) rfl rfl rfl g62 rfl (c_trace K 62 (by omega) (x, y, z) lv (hCB P m) me le 63 (rmF P (x, y, z) (hCB P m)) row (by omega) (by omega) hbd.1 (rmF_lt hbd.1 (hne hp)) hd g62 g63) ?_
  rintro r n' h' ⟨rfl, rfl, rfl⟩
  rw [xup_comm (show (62 : Nat) ≠ 63 by omega), xup_xup]
  obtain ⟨S2, o2⟩ := st_sh H' (x, y, z) lv (hCB P m) (trR P (x, y, z) (hCB P m) (rmF P (x, y, z) (hCB P m)) 14 0 (rmF P (x, y, z) (hCB P m)) row 0).2.1 (trR P (x, y, z) (hCB P m) (rmF P (x, y, z) (hCB P m)) 14 0 (rmF P (x, y, z) (hCB P m)) row 0).2.2 (trR P (x, y, z) (hCB P m) (rmF P (x, y, z) (hCB P m)) 14 0 (rmF P (x, y, z) (hCB P m)) row 0).1
  have a0 := S2.1
  refine tt_op rfl rfl ?_
  refine tt_get rfl a0 (by rfl) ?_
  refine tt_get rfl xup_s (by rfl) ?_
  refine tt_ireturn rfl rfl (by rfl) (Nat.le_of_ble_eq_true rfl) (Nat.le_of_ble_eq_true rfl) ?_
  refine ⟨rfl, Or.inr (Or.inr ⟨hp, x1, ?_, S2, o2⟩)⟩
  unfold shL
  rw [trR_len 14 0 _ row (fun _ => 0) 0]
end SO3
end
section
/-! The class itself: far, way, motions -/
section SO4
variable {h : xHp} {m : Nat} {P : Nat → V3} {n : Nat} {F E CB : Nat} {six : Int} {ct : Nat × (Nat → Int)} {s : St}
theorem gtR_bd (hb : pbd P) (CB : Nat) {d : V3} (hd : vbd 20 d) : ∀ (k i : Nat) (w : Int), i + k = 14 → (-1000000000000 ≤ w ∧ w ≤ 1000000000000) → -1000000000000 ≤ gtR P CB d k i w ∧ gtR P CB d k i w ≤ 1000000000000
  | 0, i, w, hi, hw => hw
  | k + 1, i, w, hi, hw => by
    unfold gtR
    refine gtR_bd hb CB hd k (i + 1) _ (by omega) ?_
    have := dot_bd hd (hb i (by omega))
    split
    · split
      · exact hw
      · omega
    · exact hw
theorem caR_bd (CB : Nat) (d : V3) (z : Int) : ∀ (k i w : Nat), i + k = 14 → w < 16384 → caR P CB d z k i w < 16384
  | 0, i, w, hi, hw => hw
  | k + 1, i, w, hi, hw => by
    unfold caR
    refine caR_bd CB d z k (i + 1) _ (by omega) ?_
    split
    · exact bits_or hw (bits_pow (by omega))
    · exact hw
set_option maxRecDepth 10000 in
theorem c_far (H : xSt h m P ct s) (x y z w : Int) (hx : R3 x) (hy : R3 y) (hz : R3 z) (hw : R3 w) (v : Value)
    (hv1 : 0 < (blF P m).1 ∧ isDir x y z ∧ w = 0 → v = zJ (gtR P (hCB P m) (x, y, z) 14 0 (-1000000000000)))
    (hv2 : 0 < (blF P m).1 ∧ isDir x y z ∧ w = 1 → v = zJ (caR P (hCB P m) (x, y, z) (gtR P (hCB P m) (x, y, z) 14 0 (-1000000000000)) 14 0 0))
    (hv0 : ¬ (0 < (blF P m).1 ∧ isDir x y z ∧ (w = 0 ∨ w = 1)) → v = zJ (-1000000000000)) : xPure xmX5_far 100 [.ref 0, zI x, zI y, zI z, zI w] n h v := by
  have hbd := hu_bd H.2.2.1
  obtain ⟨h0, HC, ⟨h5, hF, -⟩, -⟩ := H
  refine xCall.of xgX5_far rfl ?_
  have no : ∀ l, ¬ (0 < (blF P m).1 ∧ isDir x y z ∧ (w = 0 ∨ w = 1)) → xT xmX5_far (100, 0, 0, 0, 0) 27 l [] n h (fun r n' h' => r = some v ∧ n' = n ∧ h' = h) := by
    intro l hn
    rw [hv0 hn]
    refine tt_op rfl rfl ?_
    refine tt_lreturn rfl rfl (Nat.le_of_ble_eq_true rfl) (Nat.le_of_ble_eq_true rfl) ?_
    exact ⟨rfl, rfl, rfl⟩
  refine tt_op rfl rfl ?_
  by_cases hp : 0 < (blF P m).1
  rotate_left
  · refine tt_pV rfl rfl rfl h0 rfl (c_stands_n h0 h5 hF hp) ?_
    refine z_if rfl (by first | assumption | (unfold R3; omega)) (fun c => ?_) (fun c => absurd (by simp only [zcd] <;> omega) c)
    exact no _ (fun q => hp q.1)
  refine tt_pV rfl rfl rfl h0 rfl (c_stands_y h0 h5 hF hp) ?_
  refine z_if rfl (by first | assumption | (unfold R3; omega)) (fun c => absurd c (by simp only [zcd] <;> omega)) (fun c => ?_)
  refine tt_op rfl rfl ?_
  refine tt_op rfl rfl ?_
  refine tt_op rfl rfl ?_
  by_cases x1 : isDir x y z
  rotate_left
  · refine tt_pS rfl rfl rfl rfl (c_isDir x y z hx hy hz (zI 0) (fun q => absurd q x1) (fun _ => rfl) _ _) ?_
    refine z_if rfl (by first | assumption | (unfold R3; omega)) (fun c => ?_) (fun c => absurd (by simp only [zcd] <;> omega) c)
    exact no _ (fun q => x1 q.2.1)
  refine tt_pS rfl rfl rfl rfl (c_isDir x y z hx hy hz (zI 1) (fun _ => rfl) (fun q => absurd x1 q) _ _) ?_
  refine z_if rfl (by first | assumption | (unfold R3; omega)) (fun c => absurd c (by simp only [zcd] <;> omega)) (fun c => ?_)
  refine tt_op rfl rfl ?_
  refine z_if rfl (by first | assumption | (unfold R3; omega)) (fun c1 => ?_) (fun c1 => ?_)
  · simp only [zcd] at c1
    exact no _ (fun q => by have := q.2.2; omega)
  simp only [zcd] at c1
  refine tt_op rfl rfl ?_
  refine tt_op rfl rfl ?_
  refine z_icmp rfl (by first | assumption | (unfold R3; omega)) (by first | assumption | (unfold R3; omega)) (fun c2 => ?_) (fun c2 => ?_)
  rotate_left
  · simp only [zcd] at c2
    exact no _ (fun q => by have := q.2.2; omega)
  simp only [zcd] at c2
  have hg := gtR_bd HC.2.2.2.2.2 (hCB P m) (d := (x, y, z)) x1.2 14 0 (-1000000000000) rfl ⟨by omega, by omega⟩
  have hk := caR_bd (P := P) (hCB P m) (x, y, z) (gtR P (hCB P m) (x, y, z) 14 0 (-1000000000000)) 14 0 0 rfl (by decide)
  refine tt_op rfl rfl ?_
  refine tt_get rfl (by assumption) (by rfl) ?_
  refine tt_op rfl rfl ?_
  refine z_il rfl (by first | assumption | (unfold R3; omega)) ?_
  refine tt_op rfl rfl ?_
  refine z_il rfl (by first | assumption | (unfold R3; omega)) ?_
  refine tt_op rfl rfl ?_
  refine z_il rfl (by first | assumption | (unfold R3; omega)) ?_
  refine tt_pV rfl rfl rfl h5 rfl (c_greatest HC h5 hbd.1 (x, y, z) x1.2) ?_
  refine tt_op rfl rfl ?_
  refine tt_op rfl rfl ?_
  refine z_if rfl (by first | assumption | (unfold R3; omega)) (fun c3 => ?_) (fun c3 => ?_)
  · simp only [zcd] at c3
    rw [hv2 ⟨hp, x1, by omega⟩]
    refine tt_op rfl rfl ?_
    refine tt_get rfl (by assumption) (by rfl) ?_
    refine tt_op rfl rfl ?_
    refine z_il rfl (by first | assumption | (unfold R3; omega)) ?_
    refine tt_op rfl rfl ?_
    refine z_il rfl (by first | assumption | (unfold R3; omega)) ?_
    refine tt_op rfl rfl ?_
    refine z_il rfl (by first | assumption | (unfold R3; omega)) ?_
    refine tt_op rfl rfl ?_
    refine tt_pV rfl rfl rfl h5 rfl (c_cornersAt HC h5 hbd.1 (x, y, z) x1.2 _ ⟨by omega, by omega⟩) ?_
    refine z_il rfl ⟨by omega, by omega⟩ ?_
    refine tt_lreturn rfl rfl (Nat.le_of_ble_eq_true rfl) (Nat.le_of_ble_eq_true rfl) ?_
    exact ⟨rfl, rfl, rfl⟩
  · simp only [zcd] at c3
    rw [hv1 ⟨hp, x1, by omega⟩]
    refine tt_op rfl rfl ?_
    refine tt_goto rfl ?_
    refine tt_lreturn rfl rfl (Nat.le_of_ble_eq_true rfl) (Nat.le_of_ble_eq_true rfl) ?_
    exact ⟨rfl, rfl, rfl⟩
/-- which numbers are corners -/
def isCo (CB : Nat) (x : Int) : Prop := (0 ≤ x ∧ x < 14) ∧ CB.testBit x.toNat = true
theorem c_isCo (h5 : h 5 = some (huC F E CB six)) (hCB : CB < 16384) (x : Int) (hx : R3 x) (v : Value) (hv1 : isCo CB x → v = zI 1) (hv0 : ¬ isCo CB x → v = zI 0) : xPure xmX1_isCorner 2 [.ref 5, zI x] n h v := by
  by_cases hq : 0 ≤ x ∧ x < 14
  · have e : x = ((x.toNat : Nat) : Int) := by omega
    have t := c_isCorner (n := n) h5 x.toNat (by omega) hCB
    rw [← e] at t
    by_cases hb : CB.testBit x.toNat = true
    · rw [hv1 ⟨hq, hb⟩]; rw [if_pos hb] at t; exact t
    · rw [hv0 (fun z => hb z.2)]; rw [if_neg hb] at t; exact t
  · rw [hv0 (fun z => hq z.1)]
    exact c_isCorner_no x hx hq
set_option maxRecDepth 10000 in
theorem c_way (H : xSt h m P ct s) (x y : Int) (hx : R3 x) (hy : R3 y) (v : Value)
    (hv3 : ¬ 0 < (blF P m).1 → v = zI (-3))
    (hv1 : 0 < (blF P m).1 → ¬ (isCo (hCB P m) x ∧ isCo (hCB P m) y) → v = zI (-1))
    (hv : 0 < (blF P m).1 → isCo (hCB P m) x ∧ isCo (hCB P m) y → v = zI (spR (hBs P m) y.toNat 14 0 (2 ^ x.toNat))) : xPure xmX5_way 100 [.ref 0, zI x, zI y] n h v := by
  have hbd := hu_bd H.2.2.1
  obtain ⟨h0, HC, ⟨h5, hF, -, ⟨b, h7, hb7⟩, -⟩, -⟩ := H
  refine xCall.of xgX5_way rfl ?_
  have no : ∀ l, 0 < (blF P m).1 → ¬ (isCo (hCB P m) x ∧ isCo (hCB P m) y) → xT xmX5_way (100, 0, 0, 0, 0) 44 l [] n h (fun r n' h' => r = some v ∧ n' = n ∧ h' = h) := by
    intro l hp hn
    rw [hv1 hp hn]
    refine tt_op rfl rfl ?_
    refine tt_ireturn rfl rfl (by rfl) (Nat.le_of_ble_eq_true rfl) (Nat.le_of_ble_eq_true rfl) ?_
    exact ⟨rfl, rfl, rfl⟩
  refine tt_op rfl rfl ?_
  by_cases hp : 0 < (blF P m).1
  rotate_left
  · refine tt_pV rfl rfl rfl h0 rfl (c_stands_n h0 h5 hF hp) ?_
    rw [hv3 hp]
    refine z_if rfl (by first | assumption | (unfold R3; omega)) (fun c => absurd c (by simp only [zcd] <;> omega)) (fun c => ?_)
    refine tt_op rfl rfl ?_
    refine tt_ireturn rfl rfl (by rfl) (Nat.le_of_ble_eq_true rfl) (Nat.le_of_ble_eq_true rfl) ?_
    exact ⟨rfl, rfl, rfl⟩
  refine tt_pV rfl rfl rfl h0 rfl (c_stands_y h0 h5 hF hp) ?_
  refine z_if rfl (by first | assumption | (unfold R3; omega)) (fun c => ?_) (fun c => absurd (by simp only [zcd] <;> omega) c)
  refine tt_op rfl rfl ?_
  refine tt_get rfl (by assumption) (by rfl) ?_
  refine tt_op rfl rfl ?_
  by_cases x1 : isCo (hCB P m) x
  rotate_left
  · refine tt_pV rfl rfl rfl h5 rfl (c_isCo h5 hbd.1 x hx (zI 0) (fun q => absurd q x1) (fun _ => rfl)) ?_
    refine z_if rfl (by first | assumption | (unfold R3; omega)) (fun c => ?_) (fun c => absurd (by simp only [zcd] <;> omega) c)
    exact no _ hp (fun q => x1 q.1)
  refine tt_pV rfl rfl rfl h5 rfl (c_isCo h5 hbd.1 x hx (zI 1) (fun _ => rfl) (fun q => absurd x1 q)) ?_
  refine z_if rfl (by first | assumption | (unfold R3; omega)) (fun c => absurd c (by simp only [zcd] <;> omega)) (fun c => ?_)
  refine tt_op rfl rfl ?_
  refine tt_get rfl (by assumption) (by rfl) ?_
  refine tt_op rfl rfl ?_
  by_cases x2 : isCo (hCB P m) y
  rotate_left
  · refine tt_pV rfl rfl rfl h5 rfl (c_isCo h5 hbd.1 y hy (zI 0) (fun q => absurd q x2) (fun _ => rfl)) ?_
    refine z_if rfl (by first | assumption | (unfold R3; omega)) (fun c => ?_) (fun c => absurd (by simp only [zcd] <;> omega) c)
    exact no _ hp (fun q => x2 q.2)
  refine tt_pV rfl rfl rfl h5 rfl (c_isCo h5 hbd.1 y hy (zI 1) (fun _ => rfl) (fun q => absurd x2 q)) ?_
  refine z_if rfl (by first | assumption | (unfold R3; omega)) (fun c => absurd c (by simp only [zcd] <;> omega)) (fun c => ?_)
  have hb' : ∀ j, j < 14 → b j < 16384 := fun j hj => by rw [hb7 j hj]; exact hbd.2.2 j hj
  have ex : x = ((x.toNat : Nat) : Int) := by have := x1.1; omega
  have ey : y = ((y.toNat : Nat) : Int) := by have := x2.1; omega
  have t := c_steps (n := n) b h5 h7 hb' x.toNat y.toNat (by have := x1.1; omega) (by have := x2.1; omega)
  rw [← ex, ← ey, spR_b hb7] at t
  refine tt_op rfl rfl ?_
  refine tt_get rfl (by assumption) (by rfl) ?_
  refine tt_op rfl rfl ?_
  refine tt_op rfl rfl ?_
  refine tt_pV rfl rfl rfl h5 rfl t ?_
  refine tt_goto rfl ?_
  refine tt_ireturn rfl rfl (by rfl) (Nat.le_of_ble_eq_true rfl) (Nat.le_of_ble_eq_true rfl) ?_
  exact ⟨congrArg some (hv hp ⟨x1, x2⟩).symm, rfl, rfl⟩
/-- the motions are other ones -/
theorem st_mo (H : xSt h m P ct s) {s' : St} (hs' : mOk s') : xSt (moH h s') m P ct s' ∧ ∀ j, 64 ≤ j → moH h s' j = h j := by
  obtain ⟨h0, HC, HU, ⟨h57, h58, hc⟩, ⟨hmo, hs⟩, d, lv, se, me, le, row, h62, h63⟩ := H
  obtain ⟨u5, uF, ⟨ad, f, Hf, hfe⟩, ⟨b, u7, ub⟩, mo, u8, umo⟩ := HU
  have g : ∀ j, j ≠ 59 → j ≠ 60 → j ≠ 61 → moH h s' j = h j := fun j a b c => moH_n a b c
  refine ⟨⟨?_, xCl_mo HC, ⟨?_, uF, ⟨ad, f, xHf_mo Hf, hfe⟩, ⟨b, ?_, ub⟩, mo, ?_, umo⟩, ⟨?_, ?_, hc⟩, ⟨moH_self moH_59 moH_60 moH_61, hs'⟩, d, lv, se, me, le, row, ?_, ?_⟩, fun j hj => g j (by omega) (by omega) (by omega)⟩
  · rw [g 0 (by omega) (by omega) (by omega)]; exact h0
  · rw [g 5 (by omega) (by omega) (by omega)]; exact u5
  · rw [g 7 (by omega) (by omega) (by omega)]; exact u7
  · rw [g 8 (by omega) (by omega) (by omega)]; exact u8
  · rw [g 57 (by omega) (by omega) (by omega)]; exact h57
  · rw [g 58 (by omega) (by omega) (by omega)]; exact h58
  · rw [g 62 (by omega) (by omega) (by omega)]; exact h62
  · rw [g 63 (by omega) (by omega) (by omega)]; exact h63
/-- the motions once listed -/
def lsS (P : Nat → V3) (m : Nat) (s : St) : St := if s.1 = 0 then exR P (hCB P m) 14 0 (hCB P m) (0, s.2) else s
set_option maxRecDepth 10000 in
theorem c_listed (H : xSt h m P ct s) : xCall xmX5_listed 21 0 0 [.ref 0] n h (fun r n' h' => r = some (zI (lsS P m s).1) ∧ n' = n ∧ mOk (lsS P m s) ∧ xSt h' m P ct (lsS P m s) ∧ ∀ j, 64 ≤ j → h' j = h j) := by
  have H' := H
  have hbd := hu_bd H.2.2.1
  obtain ⟨h0, HC, ⟨h5, hF, -⟩, -, ⟨hmo, hs⟩, -⟩ := H
  obtain ⟨h59, h60, h61⟩ := moH_of hmo
  have hs1 := hs.1
  unfold lsS
  refine xCall.of xgX5_listed rfl ?_
  refine tt_op rfl rfl ?_
  refine tt_get rfl (by assumption) (by rfl) ?_
  refine tt_get rfl (by assumption) (by rfl) ?_
  refine z_if rfl (by first | assumption | (unfold R3; omega)) (fun c1 => ?_) (fun c1 => ?_)
  · simp only [zcd] at c1
    rw [if_neg (by omega)]
    refine tt_op rfl rfl ?_
    refine tt_get rfl (by assumption) (by rfl) ?_
    refine tt_get rfl (by assumption) (by rfl) ?_
    refine tt_ireturn rfl rfl (by rfl) (Nat.le_of_ble_eq_true rfl) (Nat.le_of_ble_eq_true rfl) ?_
    exact ⟨rfl, rfl, hs, H', fun _ _ => rfl⟩
  · simp only [zcd] at c1
    rw [if_pos (by omega)]
    refine tt_op rfl rfl ?_
    refine tt_get rfl (by assumption) (by rfl) ?_
    have t := c_list (n := n) HC h5 hbd.1 s hs
    rw [← hmo] at t
    refine tt_callV (M' := xmX2_list) rfl rfl rfl h59 rfl t ?_
    rintro r n' h' ⟨rfl, rfl, rfl, hok⟩
    obtain ⟨S2, o2⟩ := st_mo H' hok
    have g0 := S2.1
    have g59 := (moH_of S2.2.2.2.2.1.1).1
    refine tt_op rfl rfl ?_
    refine tt_get rfl g0 (by rfl) ?_
    refine tt_get rfl g59 (by rfl) ?_
    refine tt_ireturn rfl rfl (by rfl) (Nat.le_of_ble_eq_true rfl) (Nat.le_of_ble_eq_true rfl) ?_
    exact ⟨rfl, rfl, hok, S2, o2⟩
set_option maxRecDepth 10000 in
theorem c_isSymmetry (H : xSt h m P ct s) (x : Int) (hx : R3 x) : xCall xmX5_isSymmetry 22 0 0 [.ref 0, zI x] n h (fun r n' h' => n' = n ∧ (∀ j, 64 ≤ j → h' j = h j) ∧ ((x < 0 ∧ r = some (zI 0) ∧ h' = h) ∨ (0 ≤ x ∧ mOk (lsS P m s) ∧ r = some (zI (if x < (lsS P m s).1 then 1 else 0)) ∧ xSt h' m P ct (lsS P m s)))) := by
  have h0 := H.1
  refine xCall.of xgX5_isSymmetry rfl ?_
  refine tt_op rfl rfl ?_
  refine z_if rfl (by first | assumption | (unfold R3; omega)) (fun c1 => ?_) (fun c1 => ?_)
  · simp only [zcd] at c1
    refine tt_op rfl rfl ?_
    refine tt_ireturn rfl rfl (by rfl) (Nat.le_of_ble_eq_true rfl) (Nat.le_of_ble_eq_true rfl) ?_
    exact ⟨rfl, fun _ _ => rfl, Or.inl ⟨c1, rfl, rfl⟩⟩
  simp only [zcd] at c1
  refine tt_op rfl rfl ?_
  refine tt_op rfl rfl ?_
  refine tt_callV (M' := xmX5_listed) rfl rfl rfl h0 rfl (c_listed H) ?_
  rintro r n' h' ⟨rfl, rfl, hok, S2, o2⟩
  have hs1 := hok.1
  refine z_icmp rfl hx ⟨by omega, by omega⟩ (fun c2 => ?_) (fun c2 => ?_)
  · simp only [zcd] at c2
    refine tt_op rfl rfl ?_
    refine tt_ireturn rfl rfl (by rfl) (Nat.le_of_ble_eq_true rfl) (Nat.le_of_ble_eq_true rfl) ?_
    exact ⟨rfl, o2, Or.inr ⟨by omega, hok, by rw [if_neg (by omega)], S2⟩⟩
  · simp only [zcd] at c2
    refine tt_op rfl rfl ?_
    refine tt_goto rfl ?_
    refine tt_ireturn rfl rfl (by rfl) (Nat.le_of_ble_eq_true rfl) (Nat.le_of_ble_eq_true rfl) ?_
    exact ⟨rfl, o2, Or.inr ⟨by omega, hok, by rw [if_pos (by omega)], S2⟩⟩
set_option maxRecDepth 10000 in
theorem c_symmetries (H : xSt h m P ct s) : xCall xmX5_symmetries 100 0 0 [.ref 0] n h (fun r n' h' => n' = n ∧ (∀ j, 64 ≤ j → h' j = h j) ∧ ((¬ 0 < (blF P m).1 ∧ r = some (zI (-3)) ∧ h' = h) ∨ (0 < (blF P m).1 ∧ r = some (zI (lsS P m s).1) ∧ xSt h' m P ct (lsS P m s)))) := by
  have H' := H
  obtain ⟨h0, HC, ⟨h5, hF, -⟩, -⟩ := H
  refine xCall.of xgX5_symmetries rfl ?_
  refine tt_op rfl rfl ?_
  by_cases hp : 0 < (blF P m).1
  rotate_left
  · refine tt_pV rfl rfl rfl h0 rfl (c_stands_n h0 h5 hF hp) ?_
    refine z_if rfl (by first | assumption | (unfold R3; omega)) (fun c => ?_) (fun c => absurd (by simp only [zcd] <;> omega) c)
    refine tt_op rfl rfl ?_
    refine tt_ireturn rfl rfl (by rfl) (Nat.le_of_ble_eq_true rfl) (Nat.le_of_ble_eq_true rfl) ?_
    exact ⟨rfl, fun _ _ => rfl, Or.inl ⟨hp, rfl, rfl⟩⟩
  refine tt_pV rfl rfl rfl h0 rfl (c_stands_y h0 h5 hF hp) ?_
  refine z_if rfl (by first | assumption | (unfold R3; omega)) (fun c => absurd c (by simp only [zcd] <;> omega)) (fun c => ?_)
  refine tt_op rfl rfl ?_
  refine tt_callV (M' := xmX5_listed) rfl rfl rfl h0 rfl (c_listed H') ?_
  rintro r n' h' ⟨rfl, rfl, hok, S2, o2⟩
  refine tt_goto rfl ?_
  refine tt_ireturn rfl rfl (by rfl) (Nat.le_of_ble_eq_true rfl) (Nat.le_of_ble_eq_true rfl) ?_
  exact ⟨rfl, o2, Or.inr ⟨hp, rfl, S2⟩⟩
set_option maxRecDepth 10000 in
set_option maxHeartbeats 1000000 in
theorem c_symmetry (H : xSt h m P ct s) (x y : Int) (hx : R3 x) (hy : R3 y) : xCall xmX5_symmetry 100 0 0 [.ref 0, zI x, zI y] n h (fun r n' h' => n' = n ∧ (∀ j, 64 ≤ j → h' j = h j) ∧ ((¬ 0 < (blF P m).1 ∧ r = some (zI (-3)) ∧ h' = h) ∨ (0 < (blF P m).1 ∧ x < 0 ∧ r = some (zI (-1)) ∧ h' = h) ∨ (0 < (blF P m).1 ∧ 0 ≤ x ∧ xSt h' m P ct (lsS P m s) ∧ ((x < (lsS P m s).1 ∧ isCo (hCB P m) y ∧ r = some (zI (imF (lsS P m s) x.toNat y.toNat))) ∨ (¬ (x < (lsS P m s).1 ∧ isCo (hCB P m) y) ∧ r = some (zI (-1))))))) := by
  have H' := H
  have hbd := hu_bd H.2.2.1
  obtain ⟨h0, HC, ⟨h5, hF, -⟩, -⟩ := H
  refine xCall.of xgX5_symmetry rfl ?_
  refine tt_op rfl rfl ?_
  by_cases hp : 0 < (blF P m).1
  rotate_left
  · refine tt_pV rfl rfl rfl h0 rfl (c_stands_n h0 h5 hF hp) ?_
    refine z_if rfl (by first | assumption | (unfold R3; omega)) (fun c => absurd c (by simp only [zcd] <;> omega)) (fun c => ?_)
    refine tt_op rfl rfl ?_
    refine tt_ireturn rfl rfl (by rfl) (Nat.le_of_ble_eq_true rfl) (Nat.le_of_ble_eq_true rfl) ?_
    exact ⟨rfl, fun _ _ => rfl, Or.inl ⟨hp, rfl, rfl⟩⟩
  refine tt_pV rfl rfl rfl h0 rfl (c_stands_y h0 h5 hF hp) ?_
  refine z_if rfl (by first | assumption | (unfold R3; omega)) (fun c => ?_) (fun c => absurd (by simp only [zcd] <;> omega) c)
  refine tt_op rfl rfl ?_
  refine tt_op rfl rfl ?_
  refine tt_callV (M' := xmX5_isSymmetry) rfl rfl rfl h0 rfl (c_isSymmetry H' x hx) ?_
  rintro r n' h' ⟨rfl, o2, ⟨xn, rfl, rfl⟩ | ⟨xp, hok, rfl, S2⟩⟩
  · refine z_if rfl (by first | assumption | (unfold R3; omega)) (fun c => ?_) (fun c => absurd (by simp only [zcd] <;> omega) c)
    refine tt_op rfl rfl ?_
    refine tt_ireturn rfl rfl (by rfl) (Nat.le_of_ble_eq_true rfl) (Nat.le_of_ble_eq_true rfl) ?_
    exact ⟨rfl, o2, Or.inr (Or.inl ⟨hp, xn, rfl, rfl⟩)⟩
  have S2' := S2
  obtain ⟨g0, HC2, ⟨g5, -, -⟩, -, ⟨gmo, -⟩, -⟩ := S2
  by_cases xl : x < (lsS P m s).1
  rotate_left
  · rw [if_neg xl]
    refine z_if rfl (by first | assumption | (unfold R3; omega)) (fun c => ?_) (fun c => absurd (by simp only [zcd] <;> omega) c)
    refine tt_op rfl rfl ?_
    refine tt_ireturn rfl rfl (by rfl) (Nat.le_of_ble_eq_true rfl) (Nat.le_of_ble_eq_true rfl) ?_
    exact ⟨rfl, o2, Or.inr (Or.inr ⟨hp, xp, S2', Or.inr ⟨fun q => xl q.1, rfl⟩⟩)⟩
  rw [if_pos xl]
  have hs1 := hok.1
  refine z_if rfl (by first | assumption | (unfold R3; omega)) (fun c => absurd c (by simp only [zcd] <;> omega)) (fun c => ?_)
  refine tt_op rfl rfl ?_
  refine tt_get rfl (by assumption) (by rfl) ?_
  refine tt_op rfl rfl ?_
  by_cases x2 : isCo (hCB P m) y
  rotate_left
  · refine tt_pV rfl rfl rfl g5 rfl (c_isCo g5 hbd.1 y hy (zI 0) (fun q => absurd q x2) (fun _ => rfl)) ?_
    refine z_if rfl (by first | assumption | (unfold R3; omega)) (fun c => ?_) (fun c => absurd (by simp only [zcd] <;> omega) c)
    refine tt_op rfl rfl ?_
    refine tt_ireturn rfl rfl (by rfl) (Nat.le_of_ble_eq_true rfl) (Nat.le_of_ble_eq_true rfl) ?_
    exact ⟨rfl, o2, Or.inr (Or.inr ⟨hp, xp, S2', Or.inr ⟨fun q => x2 q.2, rfl⟩⟩)⟩
  refine tt_pV rfl rfl rfl g5 rfl (c_isCo g5 hbd.1 y hy (zI 1) (fun _ => rfl) (fun q => absurd x2 q)) ?_
  refine z_if rfl (by first | assumption | (unfold R3; omega)) (fun c => absurd c (by simp only [zcd] <;> omega)) (fun c => ?_)
  have ex : x = ((x.toNat : Nat) : Int) := by omega
  have ey : y = ((y.toNat : Nat) : Int) := by have := x2.1; omega
  have t := c_image' (h := h') (n := n') (lsS P m s) x.toNat y.toNat (by omega) (by have := x2.1; omega)
  rw [← ex, ← ey, ← gmo] at t
  refine tt_op rfl rfl ?_
  refine tt_get rfl (by assumption) (by rfl) ?_
  refine tt_op rfl rfl ?_
  refine tt_op rfl rfl ?_
  refine tt_pV rfl rfl rfl (moH_of gmo).1 rfl t ?_
  refine tt_goto rfl ?_
  refine tt_ireturn rfl rfl (by rfl) (Nat.le_of_ble_eq_true rfl) (Nat.le_of_ble_eq_true rfl) ?_
  exact ⟨rfl, o2, Or.inr (Or.inr ⟨hp, xp, S2', Or.inl ⟨xl, x2, rfl⟩⟩)⟩
set_option maxRecDepth 10000 in
set_option maxHeartbeats 1000000 in
theorem c_turn (H : xSt h m P ct s) (hne : 0 < (blF P m).1 → 0 < bdf (hCB P m) ((blF P m).2 0).2.2.1) (hl3 : 0 < (blF P m).1 → 3 ≤ fLen P m 0) (x : Int) (hx : R3 x) : xCall xmX5_turn 100 0 0 [.ref 0, zI x] n h (fun r n' h' => n' = n ∧ (∀ j, 64 ≤ j → h' j = h j) ∧ ((¬ 0 < (blF P m).1 ∧ r = some (zI (-3)) ∧ h' = h) ∨ (0 < (blF P m).1 ∧ x < 0 ∧ r = some (zI (-1)) ∧ h' = h) ∨ (0 < (blF P m).1 ∧ 0 ≤ x ∧ xSt h' m P ct (lsS P m s) ∧ ((x < (lsS P m s).1 ∧ r = some (zI (if khB P (hCB P m) ((blF P m).2 0) (imF (lsS P m s) x.toNat) then 1 else 0))) ∨ (¬ x < (lsS P m s).1 ∧ r = some (zI (-1))))))) := by
  have H' := H
  have hbd := hu_bd H.2.2.1
  obtain ⟨h0, HC, ⟨h5, hF, -⟩, -⟩ := H
  refine xCall.of xgX5_turn rfl ?_
  refine tt_op rfl rfl ?_
  by_cases hp : 0 < (blF P m).1
  rotate_left
  · refine tt_pV rfl rfl rfl h0 rfl (c_stands_n h0 h5 hF hp) ?_
    refine z_if rfl (by first | assumption | (unfold R3; omega)) (fun c => absurd c (by simp only [zcd] <;> omega)) (fun c => ?_)
    refine tt_op rfl rfl ?_
    refine tt_ireturn rfl rfl (by rfl) (Nat.le_of_ble_eq_true rfl) (Nat.le_of_ble_eq_true rfl) ?_
    exact ⟨rfl, fun _ _ => rfl, Or.inl ⟨hp, rfl, rfl⟩⟩
  refine tt_pV rfl rfl rfl h0 rfl (c_stands_y h0 h5 hF hp) ?_
  refine z_if rfl (by first | assumption | (unfold R3; omega)) (fun c => ?_) (fun c => absurd (by simp only [zcd] <;> omega) c)
  refine tt_op rfl rfl ?_
  refine tt_op rfl rfl ?_
  refine tt_callV (M' := xmX5_isSymmetry) rfl rfl rfl h0 rfl (c_isSymmetry H' x hx) ?_
  rintro r n' h' ⟨rfl, o2, ⟨xn, rfl, rfl⟩ | ⟨xp, hok, rfl, S2⟩⟩
  · refine z_if rfl (by first | assumption | (unfold R3; omega)) (fun c => absurd c (by simp only [zcd] <;> omega)) (fun c => ?_)
    refine tt_op rfl rfl ?_
    refine tt_ireturn rfl rfl (by rfl) (Nat.le_of_ble_eq_true rfl) (Nat.le_of_ble_eq_true rfl) ?_
    exact ⟨rfl, o2, Or.inr (Or.inl ⟨hp, xn, rfl, rfl⟩)⟩
  have S2' := S2
  obtain ⟨g0, HC2, ⟨g5, gF, ⟨ad, f, Hf, hfe⟩, -⟩, -, ⟨gmo, -⟩, -⟩ := S2
  by_cases xl : x < (lsS P m s).1
  rotate_left
  · rw [if_neg xl]
    refine z_if rfl (by first | assumption | (unfold R3; omega)) (fun c => absurd c (by simp only [zcd] <;> omega)) (fun c => ?_)
    refine tt_op rfl rfl ?_
    refine tt_ireturn rfl rfl (by rfl) (Nat.le_of_ble_eq_true rfl) (Nat.le_of_ble_eq_true rfl) ?_
    exact ⟨rfl, o2, Or.inr (Or.inr ⟨hp, xp, S2', Or.inr ⟨xl, rfl⟩⟩)⟩
  rw [if_pos xl]
  have hs1 := hok.1
  refine z_if rfl (by first | assumption | (unfold R3; omega)) (fun c => ?_) (fun c => absurd (by simp only [zcd] <;> omega) c)
  have ex : x = ((x.toNat : Nat) : Int) := by omega
  obtain ⟨-, -, e3, -, e5, e6⟩ := hfe 0 hp
  have hl : 3 ≤ ((blF P m).2 0).2.2.2.2.1 := hl3 hp
  have hw : bdf (hCB P m) (f 0).2.2.1 < 16384 := bdf_lt hbd.1
  have hn0 : 0 < bdf (hCB P m) (f 0).2.2.1 := by rw [e3]; exact hne hp
  have t := c_keepsHands (n := n') HC2 g5 Hf (lsS P m s) hok x.toNat (by omega) hw hn0
  have ek : khB P (hCB P m) (f 0) (imF (lsS P m s) x.toNat) = khB P (hCB P m) ((blF P m).2 0) (imF (lsS P m s) x.toNat) := by
    unfold khB
    rw [e3, e6 0 (by rw [e5]; omega), e6 1 (by rw [e5]; omega), e6 2 (by rw [e5]; omega)]
  rw [← ex, ← gmo] at t
  refine tt_op rfl rfl ?_
  refine tt_get rfl (by assumption) (by rfl) ?_
  refine tt_op rfl rfl ?_
  refine tt_pV rfl rfl rfl (moH_of gmo).1 rfl t ?_
  by_cases hk : khB P (hCB P m) (f 0) (imF (lsS P m s) x.toNat)
  · rw [if_pos hk]
    refine z_if rfl (by first | assumption | (unfold R3; omega)) (fun c => absurd c (by simp only [zcd] <;> omega)) (fun c => ?_)
    refine tt_op rfl rfl ?_
    refine tt_goto rfl ?_
    refine tt_ireturn rfl rfl (by rfl) (Nat.le_of_ble_eq_true rfl) (Nat.le_of_ble_eq_true rfl) ?_
    exact ⟨rfl, o2, Or.inr (Or.inr ⟨hp, xp, S2', Or.inl ⟨xl, by rw [if_pos (ek ▸ hk)]⟩⟩)⟩
  · rw [if_neg hk]
    refine z_if rfl (by first | assumption | (unfold R3; omega)) (fun c => ?_) (fun c => absurd (by simp only [zcd] <;> omega) c)
    refine tt_op rfl rfl ?_
    refine tt_ireturn rfl rfl (by rfl) (Nat.le_of_ble_eq_true rfl) (Nat.le_of_ble_eq_true rfl) ?_
    exact ⟨rfl, o2, Or.inr (Or.inr ⟨hp, xp, S2', Or.inl ⟨xl, by rw [if_neg (ek ▸ hk)]⟩⟩)⟩
set_option maxRecDepth 10000 in
set_option maxHeartbeats 1000000 in
theorem c_order (H : xSt h m P ct s) (x : Int) (hx : R3 x) : xCall xmX5_order 100 0 0 [.ref 0, zI x] n h (fun r n' h' => n' = n ∧ (∀ j, 64 ≤ j → h' j = h j) ∧ ((¬ 0 < (blF P m).1 ∧ r = some (zI (-3)) ∧ h' = h) ∨ (0 < (blF P m).1 ∧ x < 0 ∧ r = some (zI (-1)) ∧ h' = h) ∨ (0 < (blF P m).1 ∧ 0 ≤ x ∧ xSt h' m P ct (lsS P m s) ∧ ((x < (lsS P m s).1 ∧ r = some (zI (pdR (hCB P m) (imF (lsS P m s) x.toNat) 14 0 1))) ∨ (¬ x < (lsS P m s).1 ∧ r = some (zI (-1))))))) := by
  have H' := H
  have hbd := hu_bd H.2.2.1
  obtain ⟨h0, HC, ⟨h5, hF, -⟩, -⟩ := H
  refine xCall.of xgX5_order rfl ?_
  refine tt_op rfl rfl ?_
  by_cases hp : 0 < (blF P m).1
  rotate_left
  · refine tt_pV rfl rfl rfl h0 rfl (c_stands_n h0 h5 hF hp) ?_
    refine z_if rfl (by first | assumption | (unfold R3; omega)) (fun c => absurd c (by simp only [zcd] <;> omega)) (fun c => ?_)
    refine tt_op rfl rfl ?_
    refine tt_ireturn rfl rfl (by rfl) (Nat.le_of_ble_eq_true rfl) (Nat.le_of_ble_eq_true rfl) ?_
    exact ⟨rfl, fun _ _ => rfl, Or.inl ⟨hp, rfl, rfl⟩⟩
  refine tt_pV rfl rfl rfl h0 rfl (c_stands_y h0 h5 hF hp) ?_
  refine z_if rfl (by first | assumption | (unfold R3; omega)) (fun c => ?_) (fun c => absurd (by simp only [zcd] <;> omega) c)
  refine tt_op rfl rfl ?_
  refine tt_op rfl rfl ?_
  refine tt_callV (M' := xmX5_isSymmetry) rfl rfl rfl h0 rfl (c_isSymmetry H' x hx) ?_
  rintro r n' h' ⟨rfl, o2, ⟨xn, rfl, rfl⟩ | ⟨xp, hok, rfl, S2⟩⟩
  · refine z_if rfl (by first | assumption | (unfold R3; omega)) (fun c => ?_) (fun c => absurd (by simp only [zcd] <;> omega) c)
    refine tt_op rfl rfl ?_
    refine tt_ireturn rfl rfl (by rfl) (Nat.le_of_ble_eq_true rfl) (Nat.le_of_ble_eq_true rfl) ?_
    exact ⟨rfl, o2, Or.inr (Or.inl ⟨hp, xn, rfl, rfl⟩)⟩
  have S2' := S2
  obtain ⟨g0, HC2, ⟨g5, gF, -⟩, -, ⟨gmo, -⟩, -⟩ := S2
  by_cases xl : x < (lsS P m s).1
  rotate_left
  · rw [if_neg xl]
    refine z_if rfl (by first | assumption | (unfold R3; omega)) (fun c => ?_) (fun c => absurd (by simp only [zcd] <;> omega) c)
    refine tt_op rfl rfl ?_
    refine tt_ireturn rfl rfl (by rfl) (Nat.le_of_ble_eq_true rfl) (Nat.le_of_ble_eq_true rfl) ?_
    exact ⟨rfl, o2, Or.inr (Or.inr ⟨hp, xp, S2', Or.inr ⟨xl, rfl⟩⟩)⟩
  rw [if_pos xl]
  have hs1 := hok.1
  refine z_if rfl (by first | assumption | (unfold R3; omega)) (fun c => absurd c (by simp only [zcd] <;> omega)) (fun c => ?_)
  have ex : x = ((x.toNat : Nat) : Int) := by omega
  have t := c_period (n := n') g5 hbd.1 (lsS P m s) hok x.toNat (by omega)
  rw [← ex, ← gmo] at t
  refine tt_op rfl rfl ?_
  refine tt_get rfl (by assumption) (by rfl) ?_
  refine tt_op rfl rfl ?_
  refine tt_pV rfl rfl rfl (moH_of gmo).1 rfl t ?_
  refine tt_goto rfl ?_
  refine tt_ireturn rfl rfl (by rfl) (Nat.le_of_ble_eq_true rfl) (Nat.le_of_ble_eq_true rfl) ?_
  exact ⟨rfl, o2, Or.inr (Or.inr ⟨hp, xp, S2', Or.inl ⟨xl, rfl⟩⟩)⟩
set_option maxRecDepth 10000 in
theorem c_regular (H : xSt h m P ct s) : xCall xmX5_regular 100 0 0 [.ref 0] n h (fun r n' h' => n' = n ∧ (∀ j, 64 ≤ j → h' j = h j) ∧ ((¬ 0 < (blF P m).1 ∧ r = some (zI (-3)) ∧ h' = h) ∨ (0 < (blF P m).1 ∧ r = some (zI (if (lsS P m s).1 = 4 * hE P m then 1 else 0)) ∧ xSt h' m P ct (lsS P m s)))) := by
  have H' := H
  have hbd := hu_bd H.2.2.1
  obtain ⟨h0, HC, ⟨h5, hF, -⟩, -⟩ := H
  refine xCall.of xgX5_regular rfl ?_
  refine tt_op rfl rfl ?_
  by_cases hp : 0 < (blF P m).1
  rotate_left
  · refine tt_pV rfl rfl rfl h0 rfl (c_stands_n h0 h5 hF hp) ?_
    refine z_if rfl (by first | assumption | (unfold R3; omega)) (fun c => absurd c (by simp only [zcd] <;> omega)) (fun c => ?_)
    refine tt_op rfl rfl ?_
    refine tt_ireturn rfl rfl (by rfl) (Nat.le_of_ble_eq_true rfl) (Nat.le_of_ble_eq_true rfl) ?_
    exact ⟨rfl, fun _ _ => rfl, Or.inl ⟨hp, rfl, rfl⟩⟩
  refine tt_pV rfl rfl rfl h0 rfl (c_stands_y h0 h5 hF hp) ?_
  refine z_if rfl (by first | assumption | (unfold R3; omega)) (fun c => ?_) (fun c => absurd (by simp only [zcd] <;> omega) c)
  refine tt_op rfl rfl ?_
  refine tt_callV (M' := xmX5_listed) rfl rfl rfl h0 rfl (c_listed H') ?_
  rintro r n' h' ⟨rfl, rfl, hok, S2, o2⟩
  have S2' := S2
  obtain ⟨g0, HC2, ⟨g5, gF, -⟩, -⟩ := S2
  have hs1 := hok.1
  have he := hbd.2.1
  refine tt_op rfl rfl ?_
  refine tt_op rfl rfl ?_
  refine tt_get rfl (by assumption) (by rfl) ?_
  refine tt_get rfl (by assumption) (by rfl) ?_
  refine z_imul rfl ?_
  refine z_icmp rfl ⟨by omega, by omega⟩ ⟨by omega, by omega⟩ (fun c2 => ?_) (fun c2 => ?_)
  · simp only [zcd] at c2
    rw [if_neg (by omega)]
    refine tt_op rfl rfl ?_
    refine tt_ireturn rfl rfl (by rfl) (Nat.le_of_ble_eq_true rfl) (Nat.le_of_ble_eq_true rfl) ?_
    exact ⟨rfl, o2, Or.inr ⟨hp, rfl, S2'⟩⟩
  · simp only [zcd] at c2
    rw [if_pos (by omega)]
    refine tt_op rfl rfl ?_
    refine tt_goto rfl ?_
    refine tt_ireturn rfl rfl (by rfl) (Nat.le_of_ble_eq_true rfl) (Nat.le_of_ble_eq_true rfl) ?_
    exact ⟨rfl, o2, Or.inr ⟨hp, rfl, S2'⟩⟩
end SO4
end
section
/-! The reference's cells -/
abbrev mdC (m bu tb fl co fa : Nat) (a : V3) (w : Int × V3) (cm : Int) (tu : Nat) : xE := .inr (6, [zI m, .ref 65, .ref 66, .ref 67, zI bu, zI tb, zI fl, zI co, zI fa, .ref 68, .ref 69, .ref 70, .ref 71, .ref 72, .ref 73, .ref 74, zI a.1, zI a.2.1, zI a.2.2, .ref 75, zJ w.1, zJ w.2.1, zJ w.2.2.1, zJ w.2.2.2, zI cm, .ref 76, .ref 77, .ref 78, .ref 79, .ref 80, .ref 81, zI tu, .ref 82, .ref 83, .ref 84, .ref 85])
def mdH (h : xHp) (m : Nat) (P : Nat → V3) (bu : Nat) (tb : Nat) (fl : Nat) (co : Nat) (fa : Nat) (fb : Nat → Nat) (fs : Nat → Nat) (fr : Nat → Nat) (nn : Nat → V3) (lv : Nat → Int) (a : V3) (fat : Nat → Nat) (w : Int × V3) (cm : Int) (cX : Nat → Int) (cY : Nat → Int) (cZ : Nat → Int) (cD : Nat → Int) (su : Nat → Int) (sv : Nat → Int) (tu : Nat) (im : Nat → Int) (rk : Nat → Nat) (ba : Nat → Nat) (go : Nat → Int) : xHp := fun j => if j = 64 then some (mdC m bu tb fl co fa a w cm tu) else if j = 65 then some (zA 14 fun j => (P j).1) else if j = 66 then some (zA 14 fun j => (P j).2.1) else if j = 67 then some (zA 14 fun j => (P j).2.2) else if j = 68 then some (zA 24 fun j => (fb j : Int)) else if j = 69 then some (zA 24 fun j => (fs j : Int)) else if j = 70 then some (zA 336 fun j => (fr j : Int)) else if j = 71 then some (zA 24 fun j => (nn j).1) else if j = 72 then some (zA 24 fun j => (nn j).2.1) else if j = 73 then some (zA 24 fun j => (nn j).2.2) else if j = 74 then some (zA 24 lv) else if j = 75 then some (zA 24 fun j => (fat j : Int)) else if j = 76 then some (zL 64 cX) else if j = 77 then some (zL 64 cY) else if j = 78 then some (zL 64 cZ) else if j = 79 then some (zL 64 cD) else if j = 80 then some (zL 14 su) else if j = 81 then some (zL 14 sv) else if j = 82 then some (zA 896 im) else if j = 83 then some (zA 64 fun j => (rk j : Int)) else if j = 84 then some (zA 4 fun j => (ba j : Int)) else if j = 85 then some (zA 4 go) else h j
section MD0
variable {h : xHp} {m : Nat} {P : Nat → V3} {bu : Nat} {tb : Nat} {fl : Nat} {co : Nat} {fa : Nat} {fb : Nat → Nat} {fs : Nat → Nat} {fr : Nat → Nat} {nn : Nat → V3} {lv : Nat → Int} {a : V3} {fat : Nat → Nat} {w : Int × V3} {cm : Int} {cX : Nat → Int} {cY : Nat → Int} {cZ : Nat → Int} {cD : Nat → Int} {su : Nat → Int} {sv : Nat → Int} {tu : Nat} {im : Nat → Int} {rk : Nat → Nat} {ba : Nat → Nat} {go : Nat → Int}
theorem md64 : (mdH h m P bu tb fl co fa fb fs fr nn lv a fat w cm cX cY cZ cD su sv tu im rk ba go) 64 = some (mdC m bu tb fl co fa a w cm tu) := rfl
theorem md65 : (mdH h m P bu tb fl co fa fb fs fr nn lv a fat w cm cX cY cZ cD su sv tu im rk ba go) 65 = some (zA 14 fun j => (P j).1) := rfl
theorem md66 : (mdH h m P bu tb fl co fa fb fs fr nn lv a fat w cm cX cY cZ cD su sv tu im rk ba go) 66 = some (zA 14 fun j => (P j).2.1) := rfl
theorem md67 : (mdH h m P bu tb fl co fa fb fs fr nn lv a fat w cm cX cY cZ cD su sv tu im rk ba go) 67 = some (zA 14 fun j => (P j).2.2) := rfl
theorem md68 : (mdH h m P bu tb fl co fa fb fs fr nn lv a fat w cm cX cY cZ cD su sv tu im rk ba go) 68 = some (zA 24 fun j => (fb j : Int)) := rfl
theorem md69 : (mdH h m P bu tb fl co fa fb fs fr nn lv a fat w cm cX cY cZ cD su sv tu im rk ba go) 69 = some (zA 24 fun j => (fs j : Int)) := rfl
theorem md70 : (mdH h m P bu tb fl co fa fb fs fr nn lv a fat w cm cX cY cZ cD su sv tu im rk ba go) 70 = some (zA 336 fun j => (fr j : Int)) := rfl
theorem md71 : (mdH h m P bu tb fl co fa fb fs fr nn lv a fat w cm cX cY cZ cD su sv tu im rk ba go) 71 = some (zA 24 fun j => (nn j).1) := rfl
theorem md72 : (mdH h m P bu tb fl co fa fb fs fr nn lv a fat w cm cX cY cZ cD su sv tu im rk ba go) 72 = some (zA 24 fun j => (nn j).2.1) := rfl
theorem md73 : (mdH h m P bu tb fl co fa fb fs fr nn lv a fat w cm cX cY cZ cD su sv tu im rk ba go) 73 = some (zA 24 fun j => (nn j).2.2) := rfl
theorem md74 : (mdH h m P bu tb fl co fa fb fs fr nn lv a fat w cm cX cY cZ cD su sv tu im rk ba go) 74 = some (zA 24 lv) := rfl
theorem md75 : (mdH h m P bu tb fl co fa fb fs fr nn lv a fat w cm cX cY cZ cD su sv tu im rk ba go) 75 = some (zA 24 fun j => (fat j : Int)) := rfl
theorem md76 : (mdH h m P bu tb fl co fa fb fs fr nn lv a fat w cm cX cY cZ cD su sv tu im rk ba go) 76 = some (zL 64 cX) := rfl
theorem md77 : (mdH h m P bu tb fl co fa fb fs fr nn lv a fat w cm cX cY cZ cD su sv tu im rk ba go) 77 = some (zL 64 cY) := rfl
theorem md78 : (mdH h m P bu tb fl co fa fb fs fr nn lv a fat w cm cX cY cZ cD su sv tu im rk ba go) 78 = some (zL 64 cZ) := rfl
theorem md79 : (mdH h m P bu tb fl co fa fb fs fr nn lv a fat w cm cX cY cZ cD su sv tu im rk ba go) 79 = some (zL 64 cD) := rfl
theorem md80 : (mdH h m P bu tb fl co fa fb fs fr nn lv a fat w cm cX cY cZ cD su sv tu im rk ba go) 80 = some (zL 14 su) := rfl
theorem md81 : (mdH h m P bu tb fl co fa fb fs fr nn lv a fat w cm cX cY cZ cD su sv tu im rk ba go) 81 = some (zL 14 sv) := rfl
theorem md82 : (mdH h m P bu tb fl co fa fb fs fr nn lv a fat w cm cX cY cZ cD su sv tu im rk ba go) 82 = some (zA 896 im) := rfl
theorem md83 : (mdH h m P bu tb fl co fa fb fs fr nn lv a fat w cm cX cY cZ cD su sv tu im rk ba go) 83 = some (zA 64 fun j => (rk j : Int)) := rfl
theorem md84 : (mdH h m P bu tb fl co fa fb fs fr nn lv a fat w cm cX cY cZ cD su sv tu im rk ba go) 84 = some (zA 4 fun j => (ba j : Int)) := rfl
theorem md85 : (mdH h m P bu tb fl co fa fb fs fr nn lv a fat w cm cX cY cZ cD su sv tu im rk ba go) 85 = some (zA 4 go) := rfl
theorem md_lo {j : Nat} (hj : j < 64) : (mdH h m P bu tb fl co fa fb fs fr nn lv a fat w cm cX cY cZ cD su sv tu im rk ba go) j = h j := by
  unfold mdH
  rw [if_neg (by omega)]; rw [if_neg (by omega)]; rw [if_neg (by omega)]; rw [if_neg (by omega)]; rw [if_neg (by omega)]; rw [if_neg (by omega)]; rw [if_neg (by omega)]; rw [if_neg (by omega)]; rw [if_neg (by omega)]; rw [if_neg (by omega)]; rw [if_neg (by omega)]; rw [if_neg (by omega)]; rw [if_neg (by omega)]; rw [if_neg (by omega)]; rw [if_neg (by omega)]; rw [if_neg (by omega)]; rw [if_neg (by omega)]; rw [if_neg (by omega)]; rw [if_neg (by omega)]; rw [if_neg (by omega)]; rw [if_neg (by omega)]; rw [if_neg (by omega)]
theorem mdu64 {m' bu' tb' fl' co' fa' : Nat} {a' : V3} {w' : Int × V3} {cm' : Int} {tu' : Nat} : xup (mdH h m P bu tb fl co fa fb fs fr nn lv a fat w cm cX cY cZ cD su sv tu im rk ba go) 64 (mdC m' bu' tb' fl' co' fa' a' w' cm' tu') = (mdH h (m') P (bu') (tb') (fl') (co') (fa') fb fs fr nn lv (a') fat (w') (cm') cX cY cZ cD su sv (tu') im rk ba go) := by
  funext j
  by_cases hj : j = 64
  · subst hj; rfl
  · rw [xup_n hj]; unfold mdH; simp only [if_neg hj]
theorem mdu68 {F : Nat → Nat} : xup (mdH h m P bu tb fl co fa fb fs fr nn lv a fat w cm cX cY cZ cD su sv tu im rk ba go) 68 (zA 24 fun j => (F j : Int)) = (mdH h m P bu tb fl co fa (F) fs fr nn lv a fat w cm cX cY cZ cD su sv tu im rk ba go) := by
  funext j
  by_cases hj : j = 68
  · subst hj; rfl
  · rw [xup_n hj]; unfold mdH; simp only [if_neg hj]
theorem mdu69 {F : Nat → Nat} : xup (mdH h m P bu tb fl co fa fb fs fr nn lv a fat w cm cX cY cZ cD su sv tu im rk ba go) 69 (zA 24 fun j => (F j : Int)) = (mdH h m P bu tb fl co fa fb (F) fr nn lv a fat w cm cX cY cZ cD su sv tu im rk ba go) := by
  funext j
  by_cases hj : j = 69
  · subst hj; rfl
  · rw [xup_n hj]; unfold mdH; simp only [if_neg hj]
theorem mdu70 {F : Nat → Nat} : xup (mdH h m P bu tb fl co fa fb fs fr nn lv a fat w cm cX cY cZ cD su sv tu im rk ba go) 70 (zA 336 fun j => (F j : Int)) = (mdH h m P bu tb fl co fa fb fs (F) nn lv a fat w cm cX cY cZ cD su sv tu im rk ba go) := by
  funext j
  by_cases hj : j = 70
  · subst hj; rfl
  · rw [xup_n hj]; unfold mdH; simp only [if_neg hj]
theorem mdu75 {F : Nat → Nat} : xup (mdH h m P bu tb fl co fa fb fs fr nn lv a fat w cm cX cY cZ cD su sv tu im rk ba go) 75 (zA 24 fun j => (F j : Int)) = (mdH h m P bu tb fl co fa fb fs fr nn lv a (F) w cm cX cY cZ cD su sv tu im rk ba go) := by
  funext j
  by_cases hj : j = 75
  · subst hj; rfl
  · rw [xup_n hj]; unfold mdH; simp only [if_neg hj]
theorem mdu83 {F : Nat → Nat} : xup (mdH h m P bu tb fl co fa fb fs fr nn lv a fat w cm cX cY cZ cD su sv tu im rk ba go) 83 (zA 64 fun j => (F j : Int)) = (mdH h m P bu tb fl co fa fb fs fr nn lv a fat w cm cX cY cZ cD su sv tu im (F) ba go) := by
  funext j
  by_cases hj : j = 83
  · subst hj; rfl
  · rw [xup_n hj]; unfold mdH; simp only [if_neg hj]
theorem mdu84 {F : Nat → Nat} : xup (mdH h m P bu tb fl co fa fb fs fr nn lv a fat w cm cX cY cZ cD su sv tu im rk ba go) 84 (zA 4 fun j => (F j : Int)) = (mdH h m P bu tb fl co fa fb fs fr nn lv a fat w cm cX cY cZ cD su sv tu im rk (F) go) := by
  funext j
  by_cases hj : j = 84
  · subst hj; rfl
  · rw [xup_n hj]; unfold mdH; simp only [if_neg hj]
theorem mdu74 {F : Nat → Int} : xup (mdH h m P bu tb fl co fa fb fs fr nn lv a fat w cm cX cY cZ cD su sv tu im rk ba go) 74 (zA 24 F) = (mdH h m P bu tb fl co fa fb fs fr nn (F) a fat w cm cX cY cZ cD su sv tu im rk ba go) := by
  funext j
  by_cases hj : j = 74
  · subst hj; rfl
  · rw [xup_n hj]; unfold mdH; simp only [if_neg hj]
theorem mdu76 {F : Nat → Int} : xup (mdH h m P bu tb fl co fa fb fs fr nn lv a fat w cm cX cY cZ cD su sv tu im rk ba go) 76 (zL 64 F) = (mdH h m P bu tb fl co fa fb fs fr nn lv a fat w cm (F) cY cZ cD su sv tu im rk ba go) := by
  funext j
  by_cases hj : j = 76
  · subst hj; rfl
  · rw [xup_n hj]; unfold mdH; simp only [if_neg hj]
theorem mdu77 {F : Nat → Int} : xup (mdH h m P bu tb fl co fa fb fs fr nn lv a fat w cm cX cY cZ cD su sv tu im rk ba go) 77 (zL 64 F) = (mdH h m P bu tb fl co fa fb fs fr nn lv a fat w cm cX (F) cZ cD su sv tu im rk ba go) := by
  funext j
  by_cases hj : j = 77
  · subst hj; rfl
  · rw [xup_n hj]; unfold mdH; simp only [if_neg hj]
theorem mdu78 {F : Nat → Int} : xup (mdH h m P bu tb fl co fa fb fs fr nn lv a fat w cm cX cY cZ cD su sv tu im rk ba go) 78 (zL 64 F) = (mdH h m P bu tb fl co fa fb fs fr nn lv a fat w cm cX cY (F) cD su sv tu im rk ba go) := by
  funext j
  by_cases hj : j = 78
  · subst hj; rfl
  · rw [xup_n hj]; unfold mdH; simp only [if_neg hj]
theorem mdu79 {F : Nat → Int} : xup (mdH h m P bu tb fl co fa fb fs fr nn lv a fat w cm cX cY cZ cD su sv tu im rk ba go) 79 (zL 64 F) = (mdH h m P bu tb fl co fa fb fs fr nn lv a fat w cm cX cY cZ (F) su sv tu im rk ba go) := by
  funext j
  by_cases hj : j = 79
  · subst hj; rfl
  · rw [xup_n hj]; unfold mdH; simp only [if_neg hj]
theorem mdu80 {F : Nat → Int} : xup (mdH h m P bu tb fl co fa fb fs fr nn lv a fat w cm cX cY cZ cD su sv tu im rk ba go) 80 (zL 14 F) = (mdH h m P bu tb fl co fa fb fs fr nn lv a fat w cm cX cY cZ cD (F) sv tu im rk ba go) := by
  funext j
  by_cases hj : j = 80
  · subst hj; rfl
  · rw [xup_n hj]; unfold mdH; simp only [if_neg hj]
theorem mdu81 {F : Nat → Int} : xup (mdH h m P bu tb fl co fa fb fs fr nn lv a fat w cm cX cY cZ cD su sv tu im rk ba go) 81 (zL 14 F) = (mdH h m P bu tb fl co fa fb fs fr nn lv a fat w cm cX cY cZ cD su (F) tu im rk ba go) := by
  funext j
  by_cases hj : j = 81
  · subst hj; rfl
  · rw [xup_n hj]; unfold mdH; simp only [if_neg hj]
theorem mdu82 {F : Nat → Int} : xup (mdH h m P bu tb fl co fa fb fs fr nn lv a fat w cm cX cY cZ cD su sv tu im rk ba go) 82 (zA 896 F) = (mdH h m P bu tb fl co fa fb fs fr nn lv a fat w cm cX cY cZ cD su sv tu (F) rk ba go) := by
  funext j
  by_cases hj : j = 82
  · subst hj; rfl
  · rw [xup_n hj]; unfold mdH; simp only [if_neg hj]
theorem mdu85 {F : Nat → Int} : xup (mdH h m P bu tb fl co fa fb fs fr nn lv a fat w cm cX cY cZ cD su sv tu im rk ba go) 85 (zA 4 F) = (mdH h m P bu tb fl co fa fb fs fr nn lv a fat w cm cX cY cZ cD su sv tu im rk ba (F)) := by
  funext j
  by_cases hj : j = 85
  · subst hj; rfl
  · rw [xup_n hj]; unfold mdH; simp only [if_neg hj]
end MD0
theorem nn_1 (nn : Nat → V3) (k : Nat) (x : Int) : zup (fun j => (nn j).1) k x = fun j => (vup nn k (x, (nn k).2) j).1 := by funext j; unfold zup vup; split <;> rfl
theorem nn_2 (nn : Nat → V3) (k : Nat) (x : Int) : zup (fun j => (nn j).2.1) k x = fun j => (vup nn k ((nn k).1, x, (nn k).2.2) j).2.1 := by funext j; unfold zup vup; split <;> rfl
theorem nn_3 (nn : Nat → V3) (k : Nat) (x : Int) : zup (fun j => (nn j).2.2) k x = fun j => (vup nn k ((nn k).1, (nn k).2.1, x) j).2.2 := by funext j; unfold zup vup; split <;> rfl
theorem vup_k1 (nn : Nat → V3) (k : Nat) (x : Int) : (fun j => (nn j).2.1) = fun j => (vup nn k (x, (nn k).2) j).2.1 := by funext j; unfold vup; split <;> simp_all
theorem vup_k2 (nn : Nat → V3) (k : Nat) (x : Int) : (fun j => (nn j).2.2) = fun j => (vup nn k (x, (nn k).2) j).2.2 := by funext j; unfold vup; split <;> simp_all
theorem vup_k3 (nn : Nat → V3) (k : Nat) (x : Int) : (fun j => (nn j).1) = fun j => (vup nn k ((nn k).1, x, (nn k).2.2) j).1 := by funext j; unfold vup; split <;> simp_all
theorem vup_k4 (nn : Nat → V3) (k : Nat) (x : Int) : (fun j => (nn j).2.2) = fun j => (vup nn k ((nn k).1, x, (nn k).2.2) j).2.2 := by funext j; unfold vup; split <;> simp_all
theorem vup_k5 (nn : Nat → V3) (k : Nat) (x : Int) : (fun j => (nn j).1) = fun j => (vup nn k ((nn k).1, (nn k).2.1, x) j).1 := by funext j; unfold vup; split <;> simp_all
theorem vup_k6 (nn : Nat → V3) (k : Nat) (x : Int) : (fun j => (nn j).2.1) = fun j => (vup nn k ((nn k).1, (nn k).2.1, x) j).2.1 := by funext j; unfold vup; split <;> simp_all
section MD1
variable {h : xHp} {m : Nat} {P : Nat → V3} {bu : Nat} {tb : Nat} {fl : Nat} {co : Nat} {fa : Nat} {fb : Nat → Nat} {fs : Nat → Nat} {fr : Nat → Nat} {nn : Nat → V3} {lv : Nat → Int} {a : V3} {fat : Nat → Nat} {w : Int × V3} {cm : Int} {cX : Nat → Int} {cY : Nat → Int} {cZ : Nat → Int} {cD : Nat → Int} {su : Nat → Int} {sv : Nat → Int} {tu : Nat} {im : Nat → Int} {rk : Nat → Nat} {ba : Nat → Nat} {go : Nat → Int}
variable {M : xM} {B : xB} {pc nx b hh i : Nat} {l : xL} {st : List Value} {n : Nat} {Q : xQt}
theorem md_pm {x : Nat} (hf : xfe M pc = some (.putfield i, nx, 6, 0, hh)) (hfin : xfin M 6 0 = true) (kk : xT M B nx l st n (mdH h (x) P bu tb fl co fa fb fs fr nn lv a fat w cm cX cY cZ cD su sv tu im rk ba go) Q) : xT M B pc l (zI x :: .ref 64 :: st) n (mdH h m P bu tb fl co fa fb fs fr nn lv a fat w cm cX cY cZ cD su sv tu im rk ba go) Q := by
  refine tt_put hf md64 rfl hfin (by rfl) (by rfl) rfl ?_
  have e := mdu64 (h := h) (P := P) (fb := fb) (fs := fs) (fr := fr) (nn := nn) (lv := lv) (fat := fat) (cX := cX) (cY := cY) (cZ := cZ) (cD := cD) (su := su) (sv := sv) (im := im) (rk := rk) (ba := ba) (go := go) (m := m) (bu := bu) (tb := tb) (fl := fl) (co := co) (fa := fa) (a := a) (w := w) (cm := cm) (tu := tu) (m' := x) (bu' := bu) (tb' := tb) (fl' := fl) (co' := co) (fa' := fa) (a' := a) (w' := w) (cm' := cm) (tu' := tu)
  have e2 : xT M B nx l st n (xup (mdH h m P bu tb fl co fa fb fs fr nn lv a fat w cm cX cY cZ cD su sv tu im rk ba go) 64 (mdC (x) (bu) (tb) (fl) (co) (fa) (a) (w) (cm) (tu))) Q := by rw [e]; exact kk
  exact e2
theorem md_pbu {x : Nat} (hx : x = 0 ∨ x = 1) (hf : xfe M pc = some (.putfield i, nx, 6, 4, hh)) (hfin : xfin M 6 4 = true) (kk : xT M B nx l st n (mdH h m P (x) tb fl co fa fb fs fr nn lv a fat w cm cX cY cZ cD su sv tu im rk ba go) Q) : xT M B pc l (zI x :: .ref 64 :: st) n (mdH h m P bu tb fl co fa fb fs fr nn lv a fat w cm cX cY cZ cD su sv tu im rk ba go) Q := by
  refine tt_put hf md64 rfl hfin (by rcases hx with rfl | rfl <;> rfl) (by rcases hx with rfl | rfl <;> rfl) rfl ?_
  have e := mdu64 (h := h) (P := P) (fb := fb) (fs := fs) (fr := fr) (nn := nn) (lv := lv) (fat := fat) (cX := cX) (cY := cY) (cZ := cZ) (cD := cD) (su := su) (sv := sv) (im := im) (rk := rk) (ba := ba) (go := go) (m := m) (bu := bu) (tb := tb) (fl := fl) (co := co) (fa := fa) (a := a) (w := w) (cm := cm) (tu := tu) (m' := m) (bu' := x) (tb' := tb) (fl' := fl) (co' := co) (fa' := fa) (a' := a) (w' := w) (cm' := cm) (tu' := tu)
  have e2 : xT M B nx l st n (xup (mdH h m P bu tb fl co fa fb fs fr nn lv a fat w cm cX cY cZ cD su sv tu im rk ba go) 64 (mdC (m) (x) (tb) (fl) (co) (fa) (a) (w) (cm) (tu))) Q := by rw [e]; exact kk
  exact e2
theorem md_ptb {x : Nat} (hx : x = 0 ∨ x = 1) (hf : xfe M pc = some (.putfield i, nx, 6, 5, hh)) (hfin : xfin M 6 5 = true) (kk : xT M B nx l st n (mdH h m P bu (x) fl co fa fb fs fr nn lv a fat w cm cX cY cZ cD su sv tu im rk ba go) Q) : xT M B pc l (zI x :: .ref 64 :: st) n (mdH h m P bu tb fl co fa fb fs fr nn lv a fat w cm cX cY cZ cD su sv tu im rk ba go) Q := by
  refine tt_put hf md64 rfl hfin (by rcases hx with rfl | rfl <;> rfl) (by rcases hx with rfl | rfl <;> rfl) rfl ?_
  have e := mdu64 (h := h) (P := P) (fb := fb) (fs := fs) (fr := fr) (nn := nn) (lv := lv) (fat := fat) (cX := cX) (cY := cY) (cZ := cZ) (cD := cD) (su := su) (sv := sv) (im := im) (rk := rk) (ba := ba) (go := go) (m := m) (bu := bu) (tb := tb) (fl := fl) (co := co) (fa := fa) (a := a) (w := w) (cm := cm) (tu := tu) (m' := m) (bu' := bu) (tb' := x) (fl' := fl) (co' := co) (fa' := fa) (a' := a) (w' := w) (cm' := cm) (tu' := tu)
  have e2 : xT M B nx l st n (xup (mdH h m P bu tb fl co fa fb fs fr nn lv a fat w cm cX cY cZ cD su sv tu im rk ba go) 64 (mdC (m) (bu) (x) (fl) (co) (fa) (a) (w) (cm) (tu))) Q := by rw [e]; exact kk
  exact e2
theorem md_pfl {x : Nat} (hx : x = 0 ∨ x = 1) (hf : xfe M pc = some (.putfield i, nx, 6, 6, hh)) (hfin : xfin M 6 6 = true) (kk : xT M B nx l st n (mdH h m P bu tb (x) co fa fb fs fr nn lv a fat w cm cX cY cZ cD su sv tu im rk ba go) Q) : xT M B pc l (zI x :: .ref 64 :: st) n (mdH h m P bu tb fl co fa fb fs fr nn lv a fat w cm cX cY cZ cD su sv tu im rk ba go) Q := by
  refine tt_put hf md64 rfl hfin (by rcases hx with rfl | rfl <;> rfl) (by rcases hx with rfl | rfl <;> rfl) rfl ?_
  have e := mdu64 (h := h) (P := P) (fb := fb) (fs := fs) (fr := fr) (nn := nn) (lv := lv) (fat := fat) (cX := cX) (cY := cY) (cZ := cZ) (cD := cD) (su := su) (sv := sv) (im := im) (rk := rk) (ba := ba) (go := go) (m := m) (bu := bu) (tb := tb) (fl := fl) (co := co) (fa := fa) (a := a) (w := w) (cm := cm) (tu := tu) (m' := m) (bu' := bu) (tb' := tb) (fl' := x) (co' := co) (fa' := fa) (a' := a) (w' := w) (cm' := cm) (tu' := tu)
  have e2 : xT M B nx l st n (xup (mdH h m P bu tb fl co fa fb fs fr nn lv a fat w cm cX cY cZ cD su sv tu im rk ba go) 64 (mdC (m) (bu) (tb) (x) (co) (fa) (a) (w) (cm) (tu))) Q := by rw [e]; exact kk
  exact e2
theorem md_pco {x : Nat} (hf : xfe M pc = some (.putfield i, nx, 6, 7, hh)) (hfin : xfin M 6 7 = true) (kk : xT M B nx l st n (mdH h m P bu tb fl (x) fa fb fs fr nn lv a fat w cm cX cY cZ cD su sv tu im rk ba go) Q) : xT M B pc l (zI x :: .ref 64 :: st) n (mdH h m P bu tb fl co fa fb fs fr nn lv a fat w cm cX cY cZ cD su sv tu im rk ba go) Q := by
  refine tt_put hf md64 rfl hfin (by rfl) (by rfl) rfl ?_
  have e := mdu64 (h := h) (P := P) (fb := fb) (fs := fs) (fr := fr) (nn := nn) (lv := lv) (fat := fat) (cX := cX) (cY := cY) (cZ := cZ) (cD := cD) (su := su) (sv := sv) (im := im) (rk := rk) (ba := ba) (go := go) (m := m) (bu := bu) (tb := tb) (fl := fl) (co := co) (fa := fa) (a := a) (w := w) (cm := cm) (tu := tu) (m' := m) (bu' := bu) (tb' := tb) (fl' := fl) (co' := x) (fa' := fa) (a' := a) (w' := w) (cm' := cm) (tu' := tu)
  have e2 : xT M B nx l st n (xup (mdH h m P bu tb fl co fa fb fs fr nn lv a fat w cm cX cY cZ cD su sv tu im rk ba go) 64 (mdC (m) (bu) (tb) (fl) (x) (fa) (a) (w) (cm) (tu))) Q := by rw [e]; exact kk
  exact e2
theorem md_pfa {x : Nat} (hf : xfe M pc = some (.putfield i, nx, 6, 8, hh)) (hfin : xfin M 6 8 = true) (kk : xT M B nx l st n (mdH h m P bu tb fl co (x) fb fs fr nn lv a fat w cm cX cY cZ cD su sv tu im rk ba go) Q) : xT M B pc l (zI x :: .ref 64 :: st) n (mdH h m P bu tb fl co fa fb fs fr nn lv a fat w cm cX cY cZ cD su sv tu im rk ba go) Q := by
  refine tt_put hf md64 rfl hfin (by rfl) (by rfl) rfl ?_
  have e := mdu64 (h := h) (P := P) (fb := fb) (fs := fs) (fr := fr) (nn := nn) (lv := lv) (fat := fat) (cX := cX) (cY := cY) (cZ := cZ) (cD := cD) (su := su) (sv := sv) (im := im) (rk := rk) (ba := ba) (go := go) (m := m) (bu := bu) (tb := tb) (fl := fl) (co := co) (fa := fa) (a := a) (w := w) (cm := cm) (tu := tu) (m' := m) (bu' := bu) (tb' := tb) (fl' := fl) (co' := co) (fa' := x) (a' := a) (w' := w) (cm' := cm) (tu' := tu)
  have e2 : xT M B nx l st n (xup (mdH h m P bu tb fl co fa fb fs fr nn lv a fat w cm cX cY cZ cD su sv tu im rk ba go) 64 (mdC (m) (bu) (tb) (fl) (co) (x) (a) (w) (cm) (tu))) Q := by rw [e]; exact kk
  exact e2
theorem md_pax {x : Int} (hf : xfe M pc = some (.putfield i, nx, 6, 16, hh)) (hfin : xfin M 6 16 = true) (kk : xT M B nx l st n (mdH h m P bu tb fl co fa fb fs fr nn lv ((x, a.2)) fat w cm cX cY cZ cD su sv tu im rk ba go) Q) : xT M B pc l (zI x :: .ref 64 :: st) n (mdH h m P bu tb fl co fa fb fs fr nn lv a fat w cm cX cY cZ cD su sv tu im rk ba go) Q := by
  refine tt_put hf md64 rfl hfin (by rfl) (by rfl) rfl ?_
  have e := mdu64 (h := h) (P := P) (fb := fb) (fs := fs) (fr := fr) (nn := nn) (lv := lv) (fat := fat) (cX := cX) (cY := cY) (cZ := cZ) (cD := cD) (su := su) (sv := sv) (im := im) (rk := rk) (ba := ba) (go := go) (m := m) (bu := bu) (tb := tb) (fl := fl) (co := co) (fa := fa) (a := a) (w := w) (cm := cm) (tu := tu) (m' := m) (bu' := bu) (tb' := tb) (fl' := fl) (co' := co) (fa' := fa) (a' := (x, a.2)) (w' := w) (cm' := cm) (tu' := tu)
  have e2 : xT M B nx l st n (xup (mdH h m P bu tb fl co fa fb fs fr nn lv a fat w cm cX cY cZ cD su sv tu im rk ba go) 64 (mdC (m) (bu) (tb) (fl) (co) (fa) ((x, a.2)) (w) (cm) (tu))) Q := by rw [e]; exact kk
  exact e2
theorem md_pay {x : Int} (hf : xfe M pc = some (.putfield i, nx, 6, 17, hh)) (hfin : xfin M 6 17 = true) (kk : xT M B nx l st n (mdH h m P bu tb fl co fa fb fs fr nn lv ((a.1, x, a.2.2)) fat w cm cX cY cZ cD su sv tu im rk ba go) Q) : xT M B pc l (zI x :: .ref 64 :: st) n (mdH h m P bu tb fl co fa fb fs fr nn lv a fat w cm cX cY cZ cD su sv tu im rk ba go) Q := by
  refine tt_put hf md64 rfl hfin (by rfl) (by rfl) rfl ?_
  have e := mdu64 (h := h) (P := P) (fb := fb) (fs := fs) (fr := fr) (nn := nn) (lv := lv) (fat := fat) (cX := cX) (cY := cY) (cZ := cZ) (cD := cD) (su := su) (sv := sv) (im := im) (rk := rk) (ba := ba) (go := go) (m := m) (bu := bu) (tb := tb) (fl := fl) (co := co) (fa := fa) (a := a) (w := w) (cm := cm) (tu := tu) (m' := m) (bu' := bu) (tb' := tb) (fl' := fl) (co' := co) (fa' := fa) (a' := (a.1, x, a.2.2)) (w' := w) (cm' := cm) (tu' := tu)
  have e2 : xT M B nx l st n (xup (mdH h m P bu tb fl co fa fb fs fr nn lv a fat w cm cX cY cZ cD su sv tu im rk ba go) 64 (mdC (m) (bu) (tb) (fl) (co) (fa) ((a.1, x, a.2.2)) (w) (cm) (tu))) Q := by rw [e]; exact kk
  exact e2
theorem md_paz {x : Int} (hf : xfe M pc = some (.putfield i, nx, 6, 18, hh)) (hfin : xfin M 6 18 = true) (kk : xT M B nx l st n (mdH h m P bu tb fl co fa fb fs fr nn lv ((a.1, a.2.1, x)) fat w cm cX cY cZ cD su sv tu im rk ba go) Q) : xT M B pc l (zI x :: .ref 64 :: st) n (mdH h m P bu tb fl co fa fb fs fr nn lv a fat w cm cX cY cZ cD su sv tu im rk ba go) Q := by
  refine tt_put hf md64 rfl hfin (by rfl) (by rfl) rfl ?_
  have e := mdu64 (h := h) (P := P) (fb := fb) (fs := fs) (fr := fr) (nn := nn) (lv := lv) (fat := fat) (cX := cX) (cY := cY) (cZ := cZ) (cD := cD) (su := su) (sv := sv) (im := im) (rk := rk) (ba := ba) (go := go) (m := m) (bu := bu) (tb := tb) (fl := fl) (co := co) (fa := fa) (a := a) (w := w) (cm := cm) (tu := tu) (m' := m) (bu' := bu) (tb' := tb) (fl' := fl) (co' := co) (fa' := fa) (a' := (a.1, a.2.1, x)) (w' := w) (cm' := cm) (tu' := tu)
  have e2 : xT M B nx l st n (xup (mdH h m P bu tb fl co fa fb fs fr nn lv a fat w cm cX cY cZ cD su sv tu im rk ba go) 64 (mdC (m) (bu) (tb) (fl) (co) (fa) ((a.1, a.2.1, x)) (w) (cm) (tu))) Q := by rw [e]; exact kk
  exact e2
theorem md_psix {x : Int} (hf : xfe M pc = some (.putfield i, nx, 6, 20, hh)) (hfin : xfin M 6 20 = true) (kk : xT M B nx l st n (mdH h m P bu tb fl co fa fb fs fr nn lv a fat ((x, w.2)) cm cX cY cZ cD su sv tu im rk ba go) Q) : xT M B pc l (zJ x :: .ref 64 :: st) n (mdH h m P bu tb fl co fa fb fs fr nn lv a fat w cm cX cY cZ cD su sv tu im rk ba go) Q := by
  refine tt_put hf md64 rfl hfin (by rfl) (by rfl) rfl ?_
  have e := mdu64 (h := h) (P := P) (fb := fb) (fs := fs) (fr := fr) (nn := nn) (lv := lv) (fat := fat) (cX := cX) (cY := cY) (cZ := cZ) (cD := cD) (su := su) (sv := sv) (im := im) (rk := rk) (ba := ba) (go := go) (m := m) (bu := bu) (tb := tb) (fl := fl) (co := co) (fa := fa) (a := a) (w := w) (cm := cm) (tu := tu) (m' := m) (bu' := bu) (tb' := tb) (fl' := fl) (co' := co) (fa' := fa) (a' := a) (w' := (x, w.2)) (cm' := cm) (tu' := tu)
  have e2 : xT M B nx l st n (xup (mdH h m P bu tb fl co fa fb fs fr nn lv a fat w cm cX cY cZ cD su sv tu im rk ba go) 64 (mdC (m) (bu) (tb) (fl) (co) (fa) (a) ((x, w.2)) (cm) (tu))) Q := by rw [e]; exact kk
  exact e2
theorem md_psx {x : Int} (hf : xfe M pc = some (.putfield i, nx, 6, 21, hh)) (hfin : xfin M 6 21 = true) (kk : xT M B nx l st n (mdH h m P bu tb fl co fa fb fs fr nn lv a fat ((w.1, x, w.2.2)) cm cX cY cZ cD su sv tu im rk ba go) Q) : xT M B pc l (zJ x :: .ref 64 :: st) n (mdH h m P bu tb fl co fa fb fs fr nn lv a fat w cm cX cY cZ cD su sv tu im rk ba go) Q := by
  refine tt_put hf md64 rfl hfin (by rfl) (by rfl) rfl ?_
  have e := mdu64 (h := h) (P := P) (fb := fb) (fs := fs) (fr := fr) (nn := nn) (lv := lv) (fat := fat) (cX := cX) (cY := cY) (cZ := cZ) (cD := cD) (su := su) (sv := sv) (im := im) (rk := rk) (ba := ba) (go := go) (m := m) (bu := bu) (tb := tb) (fl := fl) (co := co) (fa := fa) (a := a) (w := w) (cm := cm) (tu := tu) (m' := m) (bu' := bu) (tb' := tb) (fl' := fl) (co' := co) (fa' := fa) (a' := a) (w' := (w.1, x, w.2.2)) (cm' := cm) (tu' := tu)
  have e2 : xT M B nx l st n (xup (mdH h m P bu tb fl co fa fb fs fr nn lv a fat w cm cX cY cZ cD su sv tu im rk ba go) 64 (mdC (m) (bu) (tb) (fl) (co) (fa) (a) ((w.1, x, w.2.2)) (cm) (tu))) Q := by rw [e]; exact kk
  exact e2
theorem md_psy {x : Int} (hf : xfe M pc = some (.putfield i, nx, 6, 22, hh)) (hfin : xfin M 6 22 = true) (kk : xT M B nx l st n (mdH h m P bu tb fl co fa fb fs fr nn lv a fat ((w.1, w.2.1, x, w.2.2.2)) cm cX cY cZ cD su sv tu im rk ba go) Q) : xT M B pc l (zJ x :: .ref 64 :: st) n (mdH h m P bu tb fl co fa fb fs fr nn lv a fat w cm cX cY cZ cD su sv tu im rk ba go) Q := by
  refine tt_put hf md64 rfl hfin (by rfl) (by rfl) rfl ?_
  have e := mdu64 (h := h) (P := P) (fb := fb) (fs := fs) (fr := fr) (nn := nn) (lv := lv) (fat := fat) (cX := cX) (cY := cY) (cZ := cZ) (cD := cD) (su := su) (sv := sv) (im := im) (rk := rk) (ba := ba) (go := go) (m := m) (bu := bu) (tb := tb) (fl := fl) (co := co) (fa := fa) (a := a) (w := w) (cm := cm) (tu := tu) (m' := m) (bu' := bu) (tb' := tb) (fl' := fl) (co' := co) (fa' := fa) (a' := a) (w' := (w.1, w.2.1, x, w.2.2.2)) (cm' := cm) (tu' := tu)
  have e2 : xT M B nx l st n (xup (mdH h m P bu tb fl co fa fb fs fr nn lv a fat w cm cX cY cZ cD su sv tu im rk ba go) 64 (mdC (m) (bu) (tb) (fl) (co) (fa) (a) ((w.1, w.2.1, x, w.2.2.2)) (cm) (tu))) Q := by rw [e]; exact kk
  exact e2
theorem md_psz {x : Int} (hf : xfe M pc = some (.putfield i, nx, 6, 23, hh)) (hfin : xfin M 6 23 = true) (kk : xT M B nx l st n (mdH h m P bu tb fl co fa fb fs fr nn lv a fat ((w.1, w.2.1, w.2.2.1, x)) cm cX cY cZ cD su sv tu im rk ba go) Q) : xT M B pc l (zJ x :: .ref 64 :: st) n (mdH h m P bu tb fl co fa fb fs fr nn lv a fat w cm cX cY cZ cD su sv tu im rk ba go) Q := by
  refine tt_put hf md64 rfl hfin (by rfl) (by rfl) rfl ?_
  have e := mdu64 (h := h) (P := P) (fb := fb) (fs := fs) (fr := fr) (nn := nn) (lv := lv) (fat := fat) (cX := cX) (cY := cY) (cZ := cZ) (cD := cD) (su := su) (sv := sv) (im := im) (rk := rk) (ba := ba) (go := go) (m := m) (bu := bu) (tb := tb) (fl := fl) (co := co) (fa := fa) (a := a) (w := w) (cm := cm) (tu := tu) (m' := m) (bu' := bu) (tb' := tb) (fl' := fl) (co' := co) (fa' := fa) (a' := a) (w' := (w.1, w.2.1, w.2.2.1, x)) (cm' := cm) (tu' := tu)
  have e2 : xT M B nx l st n (xup (mdH h m P bu tb fl co fa fb fs fr nn lv a fat w cm cX cY cZ cD su sv tu im rk ba go) 64 (mdC (m) (bu) (tb) (fl) (co) (fa) (a) ((w.1, w.2.1, w.2.2.1, x)) (cm) (tu))) Q := by rw [e]; exact kk
  exact e2
theorem md_pcm {x : Int} (hf : xfe M pc = some (.putfield i, nx, 6, 24, hh)) (hfin : xfin M 6 24 = true) (kk : xT M B nx l st n (mdH h m P bu tb fl co fa fb fs fr nn lv a fat w (x) cX cY cZ cD su sv tu im rk ba go) Q) : xT M B pc l (zI x :: .ref 64 :: st) n (mdH h m P bu tb fl co fa fb fs fr nn lv a fat w cm cX cY cZ cD su sv tu im rk ba go) Q := by
  refine tt_put hf md64 rfl hfin (by rfl) (by rfl) rfl ?_
  have e := mdu64 (h := h) (P := P) (fb := fb) (fs := fs) (fr := fr) (nn := nn) (lv := lv) (fat := fat) (cX := cX) (cY := cY) (cZ := cZ) (cD := cD) (su := su) (sv := sv) (im := im) (rk := rk) (ba := ba) (go := go) (m := m) (bu := bu) (tb := tb) (fl := fl) (co := co) (fa := fa) (a := a) (w := w) (cm := cm) (tu := tu) (m' := m) (bu' := bu) (tb' := tb) (fl' := fl) (co' := co) (fa' := fa) (a' := a) (w' := w) (cm' := x) (tu' := tu)
  have e2 : xT M B nx l st n (xup (mdH h m P bu tb fl co fa fb fs fr nn lv a fat w cm cX cY cZ cD su sv tu im rk ba go) 64 (mdC (m) (bu) (tb) (fl) (co) (fa) (a) (w) (x) (tu))) Q := by rw [e]; exact kk
  exact e2
theorem md_ptu {x : Nat} (hf : xfe M pc = some (.putfield i, nx, 6, 31, hh)) (hfin : xfin M 6 31 = true) (kk : xT M B nx l st n (mdH h m P bu tb fl co fa fb fs fr nn lv a fat w cm cX cY cZ cD su sv (x) im rk ba go) Q) : xT M B pc l (zI x :: .ref 64 :: st) n (mdH h m P bu tb fl co fa fb fs fr nn lv a fat w cm cX cY cZ cD su sv tu im rk ba go) Q := by
  refine tt_put hf md64 rfl hfin (by rfl) (by rfl) rfl ?_
  have e := mdu64 (h := h) (P := P) (fb := fb) (fs := fs) (fr := fr) (nn := nn) (lv := lv) (fat := fat) (cX := cX) (cY := cY) (cZ := cZ) (cD := cD) (su := su) (sv := sv) (im := im) (rk := rk) (ba := ba) (go := go) (m := m) (bu := bu) (tb := tb) (fl := fl) (co := co) (fa := fa) (a := a) (w := w) (cm := cm) (tu := tu) (m' := m) (bu' := bu) (tb' := tb) (fl' := fl) (co' := co) (fa' := fa) (a' := a) (w' := w) (cm' := cm) (tu' := x)
  have e2 : xT M B nx l st n (xup (mdH h m P bu tb fl co fa fb fs fr nn lv a fat w cm cX cY cZ cD su sv tu im rk ba go) 64 (mdC (m) (bu) (tb) (fl) (co) (fa) (a) (w) (cm) (x))) Q := by rw [e]; exact kk
  exact e2
theorem md_s68 {z aa : Int} {j y : Nat} (hf : xfe M pc = some (.iastore, nx, aa, b, hh)) (hj : z = (j : Int)) (hi : j < 24) (kk : xT M B nx l st n (mdH h m P bu tb fl co fa (nup fb j y) fs fr nn lv a fat w cm cX cY cZ cD su sv tu im rk ba go) Q) : xT M B pc l (zI y :: zI z :: .ref 68 :: st) n (mdH h m P bu tb fl co fa fb fs fr nn lv a fat w cm cX cY cZ cD su sv tu im rk ba go) Q := by
  refine z_iast hf md68 hj hi (by decide) ?_
  rw [zup_nup, mdu68]; exact kk
theorem md_s69 {z aa : Int} {j y : Nat} (hf : xfe M pc = some (.iastore, nx, aa, b, hh)) (hj : z = (j : Int)) (hi : j < 24) (kk : xT M B nx l st n (mdH h m P bu tb fl co fa fb (nup fs j y) fr nn lv a fat w cm cX cY cZ cD su sv tu im rk ba go) Q) : xT M B pc l (zI y :: zI z :: .ref 69 :: st) n (mdH h m P bu tb fl co fa fb fs fr nn lv a fat w cm cX cY cZ cD su sv tu im rk ba go) Q := by
  refine z_iast hf md69 hj hi (by decide) ?_
  rw [zup_nup, mdu69]; exact kk
theorem md_s70 {z aa : Int} {j y : Nat} (hf : xfe M pc = some (.iastore, nx, aa, b, hh)) (hj : z = (j : Int)) (hi : j < 336) (kk : xT M B nx l st n (mdH h m P bu tb fl co fa fb fs (nup fr j y) nn lv a fat w cm cX cY cZ cD su sv tu im rk ba go) Q) : xT M B pc l (zI y :: zI z :: .ref 70 :: st) n (mdH h m P bu tb fl co fa fb fs fr nn lv a fat w cm cX cY cZ cD su sv tu im rk ba go) Q := by
  refine z_iast hf md70 hj hi (by decide) ?_
  rw [zup_nup, mdu70]; exact kk
theorem md_s75 {z aa : Int} {j y : Nat} (hf : xfe M pc = some (.iastore, nx, aa, b, hh)) (hj : z = (j : Int)) (hi : j < 24) (kk : xT M B nx l st n (mdH h m P bu tb fl co fa fb fs fr nn lv a (nup fat j y) w cm cX cY cZ cD su sv tu im rk ba go) Q) : xT M B pc l (zI y :: zI z :: .ref 75 :: st) n (mdH h m P bu tb fl co fa fb fs fr nn lv a fat w cm cX cY cZ cD su sv tu im rk ba go) Q := by
  refine z_iast hf md75 hj hi (by decide) ?_
  rw [zup_nup, mdu75]; exact kk
theorem md_s83 {z aa : Int} {j y : Nat} (hf : xfe M pc = some (.iastore, nx, aa, b, hh)) (hj : z = (j : Int)) (hi : j < 64) (kk : xT M B nx l st n (mdH h m P bu tb fl co fa fb fs fr nn lv a fat w cm cX cY cZ cD su sv tu im (nup rk j y) ba go) Q) : xT M B pc l (zI y :: zI z :: .ref 83 :: st) n (mdH h m P bu tb fl co fa fb fs fr nn lv a fat w cm cX cY cZ cD su sv tu im rk ba go) Q := by
  refine z_iast hf md83 hj hi (by decide) ?_
  rw [zup_nup, mdu83]; exact kk
theorem md_s84 {z aa : Int} {j y : Nat} (hf : xfe M pc = some (.iastore, nx, aa, b, hh)) (hj : z = (j : Int)) (hi : j < 4) (kk : xT M B nx l st n (mdH h m P bu tb fl co fa fb fs fr nn lv a fat w cm cX cY cZ cD su sv tu im rk (nup ba j y) go) Q) : xT M B pc l (zI y :: zI z :: .ref 84 :: st) n (mdH h m P bu tb fl co fa fb fs fr nn lv a fat w cm cX cY cZ cD su sv tu im rk ba go) Q := by
  refine z_iast hf md84 hj hi (by decide) ?_
  rw [zup_nup, mdu84]; exact kk
theorem md_s74 {z aa y : Int} {j : Nat} (hf : xfe M pc = some (.iastore, nx, aa, b, hh)) (hj : z = (j : Int)) (hi : j < 24) (kk : xT M B nx l st n (mdH h m P bu tb fl co fa fb fs fr nn (zup lv j y) a fat w cm cX cY cZ cD su sv tu im rk ba go) Q) : xT M B pc l (zI y :: zI z :: .ref 74 :: st) n (mdH h m P bu tb fl co fa fb fs fr nn lv a fat w cm cX cY cZ cD su sv tu im rk ba go) Q := by
  refine z_iast hf md74 hj hi (by decide) ?_
  rw [mdu74]; exact kk
theorem md_s82 {z aa y : Int} {j : Nat} (hf : xfe M pc = some (.iastore, nx, aa, b, hh)) (hj : z = (j : Int)) (hi : j < 896) (kk : xT M B nx l st n (mdH h m P bu tb fl co fa fb fs fr nn lv a fat w cm cX cY cZ cD su sv tu (zup im j y) rk ba go) Q) : xT M B pc l (zI y :: zI z :: .ref 82 :: st) n (mdH h m P bu tb fl co fa fb fs fr nn lv a fat w cm cX cY cZ cD su sv tu im rk ba go) Q := by
  refine z_iast hf md82 hj hi (by decide) ?_
  rw [mdu82]; exact kk
theorem md_s85 {z aa y : Int} {j : Nat} (hf : xfe M pc = some (.iastore, nx, aa, b, hh)) (hj : z = (j : Int)) (hi : j < 4) (kk : xT M B nx l st n (mdH h m P bu tb fl co fa fb fs fr nn lv a fat w cm cX cY cZ cD su sv tu im rk ba (zup go j y)) Q) : xT M B pc l (zI y :: zI z :: .ref 85 :: st) n (mdH h m P bu tb fl co fa fb fs fr nn lv a fat w cm cX cY cZ cD su sv tu im rk ba go) Q := by
  refine z_iast hf md85 hj hi (by decide) ?_
  rw [mdu85]; exact kk
theorem md_s76 {z aa y : Int} {j : Nat} (hf : xfe M pc = some (.lastore, nx, aa, b, hh)) (hj : z = (j : Int)) (hi : j < 64) (kk : xT M B nx l st n (mdH h m P bu tb fl co fa fb fs fr nn lv a fat w cm (zup cX j y) cY cZ cD su sv tu im rk ba go) Q) : xT M B pc l (zJ y :: zI z :: .ref 76 :: st) n (mdH h m P bu tb fl co fa fb fs fr nn lv a fat w cm cX cY cZ cD su sv tu im rk ba go) Q := by
  refine z_last hf md76 hj hi (by decide) ?_
  rw [mdu76]; exact kk
theorem md_s77 {z aa y : Int} {j : Nat} (hf : xfe M pc = some (.lastore, nx, aa, b, hh)) (hj : z = (j : Int)) (hi : j < 64) (kk : xT M B nx l st n (mdH h m P bu tb fl co fa fb fs fr nn lv a fat w cm cX (zup cY j y) cZ cD su sv tu im rk ba go) Q) : xT M B pc l (zJ y :: zI z :: .ref 77 :: st) n (mdH h m P bu tb fl co fa fb fs fr nn lv a fat w cm cX cY cZ cD su sv tu im rk ba go) Q := by
  refine z_last hf md77 hj hi (by decide) ?_
  rw [mdu77]; exact kk
theorem md_s78 {z aa y : Int} {j : Nat} (hf : xfe M pc = some (.lastore, nx, aa, b, hh)) (hj : z = (j : Int)) (hi : j < 64) (kk : xT M B nx l st n (mdH h m P bu tb fl co fa fb fs fr nn lv a fat w cm cX cY (zup cZ j y) cD su sv tu im rk ba go) Q) : xT M B pc l (zJ y :: zI z :: .ref 78 :: st) n (mdH h m P bu tb fl co fa fb fs fr nn lv a fat w cm cX cY cZ cD su sv tu im rk ba go) Q := by
  refine z_last hf md78 hj hi (by decide) ?_
  rw [mdu78]; exact kk
theorem md_s79 {z aa y : Int} {j : Nat} (hf : xfe M pc = some (.lastore, nx, aa, b, hh)) (hj : z = (j : Int)) (hi : j < 64) (kk : xT M B nx l st n (mdH h m P bu tb fl co fa fb fs fr nn lv a fat w cm cX cY cZ (zup cD j y) su sv tu im rk ba go) Q) : xT M B pc l (zJ y :: zI z :: .ref 79 :: st) n (mdH h m P bu tb fl co fa fb fs fr nn lv a fat w cm cX cY cZ cD su sv tu im rk ba go) Q := by
  refine z_last hf md79 hj hi (by decide) ?_
  rw [mdu79]; exact kk
theorem md_s80 {z aa y : Int} {j : Nat} (hf : xfe M pc = some (.lastore, nx, aa, b, hh)) (hj : z = (j : Int)) (hi : j < 14) (kk : xT M B nx l st n (mdH h m P bu tb fl co fa fb fs fr nn lv a fat w cm cX cY cZ cD (zup su j y) sv tu im rk ba go) Q) : xT M B pc l (zJ y :: zI z :: .ref 80 :: st) n (mdH h m P bu tb fl co fa fb fs fr nn lv a fat w cm cX cY cZ cD su sv tu im rk ba go) Q := by
  refine z_last hf md80 hj hi (by decide) ?_
  rw [mdu80]; exact kk
theorem md_s81 {z aa y : Int} {j : Nat} (hf : xfe M pc = some (.lastore, nx, aa, b, hh)) (hj : z = (j : Int)) (hi : j < 14) (kk : xT M B nx l st n (mdH h m P bu tb fl co fa fb fs fr nn lv a fat w cm cX cY cZ cD su (zup sv j y) tu im rk ba go) Q) : xT M B pc l (zJ y :: zI z :: .ref 81 :: st) n (mdH h m P bu tb fl co fa fb fs fr nn lv a fat w cm cX cY cZ cD su sv tu im rk ba go) Q := by
  refine z_last hf md81 hj hi (by decide) ?_
  rw [mdu81]; exact kk
theorem md_s71 {z aa y : Int} {j : Nat} (hf : xfe M pc = some (.iastore, nx, aa, b, hh)) (hj : z = (j : Int)) (hi : j < 24) (kk : xT M B nx l st n (mdH h m P bu tb fl co fa fb fs fr (vup nn j (y, (nn j).2)) lv a fat w cm cX cY cZ cD su sv tu im rk ba go) Q) : xT M B pc l (zI y :: zI z :: .ref 71 :: st) n (mdH h m P bu tb fl co fa fb fs fr nn lv a fat w cm cX cY cZ cD su sv tu im rk ba go) Q := by
  refine z_iast hf md71 hj hi (by decide) ?_
  rw [nn_1]
  have e : xup (mdH h m P bu tb fl co fa fb fs fr nn lv a fat w cm cX cY cZ cD su sv tu im rk ba go) 71 (zA 24 fun k => (vup nn j (y, (nn j).2) k).1) = (mdH h m P bu tb fl co fa fb fs fr (vup nn j (y, (nn j).2)) lv a fat w cm cX cY cZ cD su sv tu im rk ba go) := by
    funext k
    by_cases hk : k = 71
    · subst hk; rfl
    · rw [xup_n hk]; unfold mdH; simp only [if_neg hk]; rw [← vup_k1 nn j y, ← vup_k2 nn j y]
  rw [e]; exact kk
theorem md_s72 {z aa y : Int} {j : Nat} (hf : xfe M pc = some (.iastore, nx, aa, b, hh)) (hj : z = (j : Int)) (hi : j < 24) (kk : xT M B nx l st n (mdH h m P bu tb fl co fa fb fs fr (vup nn j ((nn j).1, y, (nn j).2.2)) lv a fat w cm cX cY cZ cD su sv tu im rk ba go) Q) : xT M B pc l (zI y :: zI z :: .ref 72 :: st) n (mdH h m P bu tb fl co fa fb fs fr nn lv a fat w cm cX cY cZ cD su sv tu im rk ba go) Q := by
  refine z_iast hf md72 hj hi (by decide) ?_
  rw [nn_2]
  have e : xup (mdH h m P bu tb fl co fa fb fs fr nn lv a fat w cm cX cY cZ cD su sv tu im rk ba go) 72 (zA 24 fun k => (vup nn j ((nn j).1, y, (nn j).2.2) k).2.1) = (mdH h m P bu tb fl co fa fb fs fr (vup nn j ((nn j).1, y, (nn j).2.2)) lv a fat w cm cX cY cZ cD su sv tu im rk ba go) := by
    funext k
    by_cases hk : k = 72
    · subst hk; rfl
    · rw [xup_n hk]; unfold mdH; simp only [if_neg hk]; rw [← vup_k3 nn j y, ← vup_k4 nn j y]
  rw [e]; exact kk
theorem md_s73 {z aa y : Int} {j : Nat} (hf : xfe M pc = some (.iastore, nx, aa, b, hh)) (hj : z = (j : Int)) (hi : j < 24) (kk : xT M B nx l st n (mdH h m P bu tb fl co fa fb fs fr (vup nn j ((nn j).1, (nn j).2.1, y)) lv a fat w cm cX cY cZ cD su sv tu im rk ba go) Q) : xT M B pc l (zI y :: zI z :: .ref 73 :: st) n (mdH h m P bu tb fl co fa fb fs fr nn lv a fat w cm cX cY cZ cD su sv tu im rk ba go) Q := by
  refine z_iast hf md73 hj hi (by decide) ?_
  rw [nn_3]
  have e : xup (mdH h m P bu tb fl co fa fb fs fr nn lv a fat w cm cX cY cZ cD su sv tu im rk ba go) 73 (zA 24 fun k => (vup nn j ((nn j).1, (nn j).2.1, y) k).2.2) = (mdH h m P bu tb fl co fa fb fs fr (vup nn j ((nn j).1, (nn j).2.1, y)) lv a fat w cm cX cY cZ cD su sv tu im rk ba go) := by
    funext k
    by_cases hk : k = 73
    · subst hk; rfl
    · rw [xup_n hk]; unfold mdH; simp only [if_neg hk]; rw [← vup_k5 nn j y, ← vup_k6 nn j y]
  rw [e]; exact kk
theorem md_s65 {z aa y : Int} {j : Nat} (hf : xfe M pc = some (.iastore, nx, aa, b, hh)) (hj : z = (j : Int)) (hi : j < 14) (kk : xT M B nx l st n (mdH h m (vup P j (y, (P j).2)) bu tb fl co fa fb fs fr nn lv a fat w cm cX cY cZ cD su sv tu im rk ba go) Q) : xT M B pc l (zI y :: zI z :: .ref 65 :: st) n (mdH h m P bu tb fl co fa fb fs fr nn lv a fat w cm cX cY cZ cD su sv tu im rk ba go) Q := by
  refine z_iast hf md65 hj hi (by decide) ?_
  rw [nn_1]
  have e : xup (mdH h m P bu tb fl co fa fb fs fr nn lv a fat w cm cX cY cZ cD su sv tu im rk ba go) 65 (zA 14 fun k => (vup P j (y, (P j).2) k).1) = (mdH h m (vup P j (y, (P j).2)) bu tb fl co fa fb fs fr nn lv a fat w cm cX cY cZ cD su sv tu im rk ba go) := by
    funext k
    by_cases hk : k = 65
    · subst hk; rfl
    · rw [xup_n hk]; unfold mdH; simp only [if_neg hk]; rw [← vup_k1 P j y, ← vup_k2 P j y]
  rw [e]; exact kk
theorem md_s66 {z aa y : Int} {j : Nat} (hf : xfe M pc = some (.iastore, nx, aa, b, hh)) (hj : z = (j : Int)) (hi : j < 14) (kk : xT M B nx l st n (mdH h m (vup P j ((P j).1, y, (P j).2.2)) bu tb fl co fa fb fs fr nn lv a fat w cm cX cY cZ cD su sv tu im rk ba go) Q) : xT M B pc l (zI y :: zI z :: .ref 66 :: st) n (mdH h m P bu tb fl co fa fb fs fr nn lv a fat w cm cX cY cZ cD su sv tu im rk ba go) Q := by
  refine z_iast hf md66 hj hi (by decide) ?_
  rw [nn_2]
  have e : xup (mdH h m P bu tb fl co fa fb fs fr nn lv a fat w cm cX cY cZ cD su sv tu im rk ba go) 66 (zA 14 fun k => (vup P j ((P j).1, y, (P j).2.2) k).2.1) = (mdH h m (vup P j ((P j).1, y, (P j).2.2)) bu tb fl co fa fb fs fr nn lv a fat w cm cX cY cZ cD su sv tu im rk ba go) := by
    funext k
    by_cases hk : k = 66
    · subst hk; rfl
    · rw [xup_n hk]; unfold mdH; simp only [if_neg hk]; rw [← vup_k3 P j y, ← vup_k4 P j y]
  rw [e]; exact kk
theorem md_s67 {z aa y : Int} {j : Nat} (hf : xfe M pc = some (.iastore, nx, aa, b, hh)) (hj : z = (j : Int)) (hi : j < 14) (kk : xT M B nx l st n (mdH h m (vup P j ((P j).1, (P j).2.1, y)) bu tb fl co fa fb fs fr nn lv a fat w cm cX cY cZ cD su sv tu im rk ba go) Q) : xT M B pc l (zI y :: zI z :: .ref 67 :: st) n (mdH h m P bu tb fl co fa fb fs fr nn lv a fat w cm cX cY cZ cD su sv tu im rk ba go) Q := by
  refine z_iast hf md67 hj hi (by decide) ?_
  rw [nn_3]
  have e : xup (mdH h m P bu tb fl co fa fb fs fr nn lv a fat w cm cX cY cZ cD su sv tu im rk ba go) 67 (zA 14 fun k => (vup P j ((P j).1, (P j).2.1, y) k).2.2) = (mdH h m (vup P j ((P j).1, (P j).2.1, y)) bu tb fl co fa fb fs fr nn lv a fat w cm cX cY cZ cD su sv tu im rk ba go) := by
    funext k
    by_cases hk : k = 67
    · subst hk; rfl
    · rw [xup_n hk]; unfold mdH; simp only [if_neg hk]; rw [← vup_k5 P j y, ← vup_k6 P j y]
  rw [e]; exact kk
end MD1
end
section
/-! The reference: planes -/
def cnt (p : Nat → Bool) : Nat → Nat
  | 0 => 0
  | k + 1 => cnt p k + (if p k = true then 1 else 0)
def bts (p : Nat → Bool) : Nat → Nat
  | 0 => 0
  | k + 1 => bts p k ||| (if p k = true then 2 ^ k else 0)
def anB (p : Nat → Bool) : Nat → Bool
  | 0 => false
  | k + 1 => anB p k || p k
def crs (P : Nat → V3) (p q r : Nat) : V3 := vcr (vsub (P q) (P p)) (vsub (P r) (P p))
theorem crs_bd {P : Nat → V3} {p q r : Nat} (hb : pbd P) (hp : p < 14) (hq : q < 14) (hr : r < 14) : vbd 3200 (crs P p q r) := vbd_le (vbd_cr (vbd_sub (hb q hq) (hb p hp)) (vbd_sub (hb r hr) (hb p hp))) (by omega)
theorem bts_lt (p : Nat → Bool) : ∀ k, k ≤ 14 → bts p k < 16384
  | 0, h => by show (0 : Nat) < 16384; decide
  | k + 1, h => by
    unfold bts
    refine bits_or (bts_lt p k (by omega)) ?_
    split
    · exact bits_pow (by omega)
    · decide
theorem cnt_le (p : Nat → Bool) : ∀ k, cnt p k ≤ k
  | 0 => Nat.le_refl _
  | k + 1 => by
    have := cnt_le p k
    unfold cnt
    split <;> omega
theorem z_b01 (b : Prop) [Decidable b] : R3 (if b then 1 else 0) := by split <;> exact ⟨by decide, by decide⟩
theorem m_in (x lo hi : Int) (hx : R3 x) (h1 : R3 lo) (h2 : R3 hi) (n : Nat) (h : xHp) : xPure xmX6_in 1 [zI x, zI lo, zI hi] n h (zI (if lo ≤ x ∧ x ≤ hi then 1 else 0)) := by
  refine xCall.of xgX6_in rfl ?_
  refine tt_op rfl rfl ?_
  refine tt_op rfl rfl ?_
  refine z_icmp rfl (by first | assumption | (unfold R3; omega)) (by first | assumption | (unfold R3; omega)) (fun c1 => ?_) (fun c1 => ?_)
  · simp only [zcd] at c1
    rw [if_neg (by omega)]
    refine tt_op rfl rfl ?_
    refine tt_ireturn rfl rfl (by rfl) (Nat.le_of_ble_eq_true rfl) (Nat.le_of_ble_eq_true rfl) ?_
    exact ⟨rfl, rfl, rfl⟩
  simp only [zcd] at c1
  refine tt_op rfl rfl ?_
  refine tt_op rfl rfl ?_
  refine z_icmp rfl (by first | assumption | (unfold R3; omega)) (by first | assumption | (unfold R3; omega)) (fun c2 => ?_) (fun c2 => ?_)
  · simp only [zcd] at c2
    rw [if_neg (by omega)]
    refine tt_op rfl rfl ?_
    refine tt_ireturn rfl rfl (by rfl) (Nat.le_of_ble_eq_true rfl) (Nat.le_of_ble_eq_true rfl) ?_
    exact ⟨rfl, rfl, rfl⟩
  simp only [zcd] at c2
  rw [if_pos (by omega)]
  refine tt_op rfl rfl ?_
  refine tt_goto rfl ?_
  refine tt_ireturn rfl rfl (by rfl) (Nat.le_of_ble_eq_true rfl) (Nat.le_of_ble_eq_true rfl) ?_
  exact ⟨rfl, rfl, rfl⟩
theorem m_div_loop (G n : Nat) (h : xHp) (x0 x1 : Int) : ∀ (f u v : Nat) (l4 : Option Value), v < f → Nat.gcd u v = G → u < 2147483648 → v < 2147483648 → xT xmX6_divisor (1, 0, 0, 0, 0) 22 [some (zI x0), some (zI x1), some (zI u), some (zI v), l4] [] n h (fun r n' h' => r = some (zI G) ∧ n' = n ∧ h' = h) := by
  intro f
  induction f with
  | zero => intro u v l4 hf; exact absurd hf (by omega)
  | succ f ih =>
    intro u v l4 hf hg hu hv
    refine tt_op rfl rfl ?_
    refine z_if rfl (by first | assumption | (unfold R3; omega)) (fun c1 => ?_) (fun c1 => ?_)
    · simp only [zcd] at c1
      have : v = 0 := by omega
      subst this
      rw [Nat.gcd_zero_right] at hg
      subst hg
      refine tt_op rfl rfl ?_
      refine tt_ireturn rfl rfl (by rfl) (Nat.le_of_ble_eq_true rfl) (Nat.le_of_ble_eq_true rfl) ?_
      exact ⟨rfl, rfl, rfl⟩
    · simp only [zcd] at c1
      have hlt := Nat.mod_lt u (show v > 0 by omega)
      refine tt_op rfl rfl ?_
      refine tt_op rfl rfl ?_
      refine z_irem rfl (by omega) hu hv ?_
      refine tt_op rfl rfl ?_
      refine tt_op rfl rfl ?_
      refine tt_op rfl rfl ?_
      refine tt_op rfl rfl ?_
      refine tt_op rfl rfl ?_
      refine tt_goto rfl ?_
      refine ih v (u % v) _ (by omega) ?_ hv (by omega)
      rw [← hg, Nat.gcd_comm u v, Nat.gcd_rec v u, Nat.gcd_comm]
theorem m_divisor (x y : Int) (hx : -1073741824 ≤ x ∧ x ≤ 1073741824) (hy : -1073741824 ≤ y ∧ y ≤ 1073741824) (n : Nat) (h : xHp) : xPure xmX6_divisor 1 [zI x, zI y] n h (zI (Int.gcd x y)) := by
  refine xCall.of xgX6_divisor rfl ?_
  have two : ∀ l4, xT xmX6_divisor (1, 0, 0, 0, 0) 10 [some (zI x), some (zI y), none, none, l4] [zI (x.natAbs : Int)] n h (fun r n' h' => r = some (zI (Int.gcd x y)) ∧ n' = n ∧ h' = h) := by
    intro l4
    refine tt_op rfl rfl ?_
    refine tt_op rfl rfl ?_
    refine z_if rfl (by first | assumption | (unfold R3; omega)) (fun c1 => ?_) (fun c1 => ?_)
    · simp only [zcd] at c1
      refine tt_op rfl rfl ?_
      refine tt_op rfl rfl ?_
      have e : y = (y.natAbs : Int) := by omega
      have t := m_div_loop (Int.gcd x y) n h x y (y.natAbs + 1) x.natAbs y.natAbs l4 (by omega) rfl (by omega) (by omega)
      rw [← e] at t
      exact t
    · simp only [zcd] at c1
      refine tt_op rfl rfl ?_
      refine z_ineg rfl ?_
      refine tt_goto rfl ?_
      refine tt_op rfl rfl ?_
      rw [show -y = (y.natAbs : Int) by omega]
      exact m_div_loop (Int.gcd x y) n h x y (y.natAbs + 1) x.natAbs y.natAbs _ (by omega) rfl (by omega) (by omega)
  refine tt_op rfl rfl ?_
  refine z_if rfl (by first | assumption | (unfold R3; omega)) (fun c1 => ?_) (fun c1 => ?_)
  · simp only [zcd] at c1
    refine tt_op rfl rfl ?_
    rw [show ([zI x] : List Value) = [zI (x.natAbs : Int)] by rw [show (x.natAbs : Int) = x by omega]]
    exact two _
  · simp only [zcd] at c1
    refine tt_op rfl rfl ?_
    refine z_ineg rfl ?_
    refine tt_goto rfl ?_
    rw [show -x = (x.natAbs : Int) by omega]
    exact two _
section M1
variable {h : xHp} {m : Nat} {P : Nat → V3} {bu tb fl co fa : Nat} {fb fs fr : Nat → Nat} {nn : Nat → V3} {lv : Nat → Int} {a : V3} {fat : Nat → Nat} {w : Int × V3} {cm : Int} {cX cY cZ cD su sv : Nat → Int} {tu : Nat} {im : Nat → Int} {rk ba : Nat → Nat} {go : Nat → Int}
variable {n : Nat}
set_option maxRecDepth 10000 in
theorem m_cross {p q r : Nat} (hp : p < 14) (hq : q < 14) (hr : r < 14) : xCall xmX6_cross 1 0 0 [.ref 64, zI p, zI q, zI r] n (mdH h m P bu tb fl co fa fb fs fr nn lv a fat w cm cX cY cZ cD su sv tu im rk ba go) (fun res n' h' => res = none ∧ n' = n ∧ h' = (mdH h m P bu tb fl co fa fb fs fr nn lv (crs P p q r) fat w cm cX cY cZ cD su sv tu im rk ba go)) := by
  refine xCall.of xgX6_cross rfl ?_
  refine tt_op rfl rfl ?_
  refine tt_get rfl md64 (by rfl) ?_
  refine tt_op rfl rfl ?_
  refine z_iald rfl md65 rfl (by omega) (by decide) ?_
  refine tt_op rfl rfl ?_
  refine tt_get rfl md64 (by rfl) ?_
  refine tt_op rfl rfl ?_
  refine z_iald rfl md65 rfl (by omega) (by decide) ?_
  refine z_isub rfl ?_
  refine tt_op rfl rfl ?_
  refine tt_op rfl rfl ?_
  refine tt_get rfl md64 (by rfl) ?_
  refine tt_op rfl rfl ?_
  refine z_iald rfl md66 rfl (by omega) (by decide) ?_
  refine tt_op rfl rfl ?_
  refine tt_get rfl md64 (by rfl) ?_
  refine tt_op rfl rfl ?_
  refine z_iald rfl md66 rfl (by omega) (by decide) ?_
  refine z_isub rfl ?_
  refine tt_op rfl rfl ?_
  refine tt_op rfl rfl ?_
  refine tt_get rfl md64 (by rfl) ?_
  refine tt_op rfl rfl ?_
  refine z_iald rfl md67 rfl (by omega) (by decide) ?_
  refine tt_op rfl rfl ?_
  refine tt_get rfl md64 (by rfl) ?_
  refine tt_op rfl rfl ?_
  refine z_iald rfl md67 rfl (by omega) (by decide) ?_
  refine z_isub rfl ?_
  refine tt_op rfl rfl ?_
  refine tt_op rfl rfl ?_
  refine tt_get rfl md64 (by rfl) ?_
  refine tt_op rfl rfl ?_
  refine z_iald rfl md65 rfl (by omega) (by decide) ?_
  refine tt_op rfl rfl ?_
  refine tt_get rfl md64 (by rfl) ?_
  refine tt_op rfl rfl ?_
  refine z_iald rfl md65 rfl (by omega) (by decide) ?_
  refine z_isub rfl ?_
  refine tt_op rfl rfl ?_
  refine tt_op rfl rfl ?_
  refine tt_get rfl md64 (by rfl) ?_
  refine tt_op rfl rfl ?_
  refine z_iald rfl md66 rfl (by omega) (by decide) ?_
  refine tt_op rfl rfl ?_
  refine tt_get rfl md64 (by rfl) ?_
  refine tt_op rfl rfl ?_
  refine z_iald rfl md66 rfl (by omega) (by decide) ?_
  refine z_isub rfl ?_
  refine tt_op rfl rfl ?_
  refine tt_op rfl rfl ?_
  refine tt_get rfl md64 (by rfl) ?_
  refine tt_op rfl rfl ?_
  refine z_iald rfl md67 rfl (by omega) (by decide) ?_
  refine tt_op rfl rfl ?_
  refine tt_get rfl md64 (by rfl) ?_
  refine tt_op rfl rfl ?_
  refine z_iald rfl md67 rfl (by omega) (by decide) ?_
  refine z_isub rfl ?_
  refine tt_op rfl rfl ?_
  refine tt_op rfl rfl ?_
  refine tt_op rfl rfl ?_
  refine tt_op rfl rfl ?_
  refine z_imul rfl ?_
  refine tt_op rfl rfl ?_
  refine tt_op rfl rfl ?_
  refine z_imul rfl ?_
  refine z_isub rfl ?_
  refine md_pax rfl (by decide) ?_
  refine tt_op rfl rfl ?_
  refine tt_op rfl rfl ?_
  refine tt_op rfl rfl ?_
  refine z_imul rfl ?_
  refine tt_op rfl rfl ?_
  refine tt_op rfl rfl ?_
  refine z_imul rfl ?_
  refine z_isub rfl ?_
  refine md_pay rfl (by decide) ?_
  refine tt_op rfl rfl ?_
  refine tt_op rfl rfl ?_
  refine tt_op rfl rfl ?_
  refine z_imul rfl ?_
  refine tt_op rfl rfl ?_
  refine tt_op rfl rfl ?_
  refine z_imul rfl ?_
  refine z_isub rfl ?_
  refine md_paz rfl (by decide) ?_
  refine tt_return rfl rfl (Nat.le_of_ble_eq_true rfl) (Nat.le_of_ble_eq_true rfl) ?_
  exact ⟨rfl, rfl, rfl⟩
set_option maxRecDepth 10000 in
theorem m_height {p : Nat} (hp : p < 14) : xPure xmX6_height 1 [.ref 64, zI p] n (mdH h m P bu tb fl co fa fb fs fr nn lv a fat w cm cX cY cZ cD su sv tu im rk ba go) (zI (dot a (P p))) := by
  refine xCall.of xgX6_height rfl ?_
  refine tt_op rfl rfl ?_
  refine tt_get rfl md64 (by rfl) ?_
  refine tt_op rfl rfl ?_
  refine tt_get rfl md64 (by rfl) ?_
  refine tt_op rfl rfl ?_
  refine z_iald rfl md65 rfl (by omega) (by decide) ?_
  refine z_imul rfl ?_
  refine tt_op rfl rfl ?_
  refine tt_get rfl md64 (by rfl) ?_
  refine tt_op rfl rfl ?_
  refine tt_get rfl md64 (by rfl) ?_
  refine tt_op rfl rfl ?_
  refine z_iald rfl md66 rfl (by omega) (by decide) ?_
  refine z_imul rfl ?_
  refine z_iadd rfl ?_
  refine tt_op rfl rfl ?_
  refine tt_get rfl md64 (by rfl) ?_
  refine tt_op rfl rfl ?_
  refine tt_get rfl md64 (by rfl) ?_
  refine tt_op rfl rfl ?_
  refine z_iald rfl md67 rfl (by omega) (by decide) ?_
  refine z_imul rfl ?_
  refine z_iadd rfl ?_
  refine tt_ireturn rfl rfl (by rfl) (Nat.le_of_ble_eq_true rfl) (Nat.le_of_ble_eq_true rfl) ?_
  exact ⟨rfl, rfl, rfl⟩
/-- one plane: bits, some above, some below -/
def tpB (P : Nat → V3) (m p q r : Nat) (k : Nat) : Nat := bts (fun k => decide (dot (crs P p q r) (P k) = dot (crs P p q r) (P p))) k
def tpU (P : Nat → V3) (m p q r : Nat) (k : Nat) : Bool := anB (fun k => decide (dot (crs P p q r) (P p) < dot (crs P p q r) (P k))) k
def tpD (P : Nat → V3) (m p q r : Nat) (k : Nat) : Bool := anB (fun k => decide (dot (crs P p q r) (P k) < dot (crs P p q r) (P p))) k
abbrev S5 : Type := Nat × Nat × (Nat → Nat) × (Nat → V3) × (Nat → Int)
def knB (fb : Nat → Nat) (v : Nat) (k : Nat) : Bool := anB (fun f => decide (fb f = v)) k
def tpY (P : Nat → V3) (m p q r : Nat) : Int := if tpU P m p q r m = true then -(gcd3 (crs P p q r) : Int) else (gcd3 (crs P p q r) : Int)
def tpF (P : Nat → V3) (m p q r fl : Nat) : Nat := if fl = 1 ∧ tpU P m p q r m = false ∧ tpD P m p q r m = false then 1 else 0
def tpS (P : Nat → V3) (m p q r : Nat) (s : S5) : S5 :=
  if crs P p q r = (0, 0, 0) then s else
  if tpU P m p q r m = tpD P m p q r m then (tpF P m p q r s.1, s.2) else
  if knB s.2.2.1 (tpB P m p q r m) s.2.1 = true then (tpF P m p q r s.1, s.2) else
  (tpF P m p q r s.1, s.2.1 + 1, nup s.2.2.1 s.2.1 (tpB P m p q r m), vup s.2.2.2.1 s.2.1 ((crs P p q r).1.tdiv (tpY P m p q r), (crs P p q r).2.1.tdiv (tpY P m p q r), (crs P p q r).2.2.tdiv (tpY P m p q r)), zup s.2.2.2.2 s.2.1 ((dot (crs P p q r) (P p)).tdiv (tpY P m p q r)))
/-- a face comes in -/
def tpN (P : Nat → V3) (m p q r : Nat) (s : S5) : Prop := crs P p q r ≠ (0, 0, 0) ∧ tpU P m p q r m ≠ tpD P m p q r m ∧ knB s.2.2.1 (tpB P m p q r m) s.2.1 = false
theorem vup_vup {nn : Nat → V3} {k : Nat} {u v : V3} : vup (vup nn k u) k v = vup nn k v := by
  funext j; unfold vup; split <;> rfl
theorem vup_at {nn : Nat → V3} {k : Nat} {u : V3} : vup nn k u k = u := by unfold vup; rw [if_pos rfl]
theorem gcd3_pos {u : V3} (h : u ≠ (0, 0, 0)) : 0 < gcd3 u := by
  obtain ⟨x, y, z⟩ := u
  unfold gcd3
  rcases Nat.eq_zero_or_pos (Int.gcd ((Int.gcd x y : Nat) : Int) z) with h0 | h0
  · obtain ⟨e1, e2⟩ := Int.gcd_eq_zero_iff.mp h0
    obtain ⟨e3, e4⟩ := Int.gcd_eq_zero_iff.mp (show Int.gcd x y = 0 by omega)
    exact absurd (by rw [e2, e3, e4]) h
  · exact h0
set_option maxRecDepth 10000 in
set_option maxHeartbeats 2000000 in
theorem m_tryPlane (hb : pbd P) (hm : m ≤ 14) {p q r : Nat} (hp : p < m) (hq : q < m) (hr : r < m) (hfa : fa ≤ 24) (hfb : ∀ j, j < 24 → fb j < 16384) (hN : tpN P m p q r (fl, fa, fb, nn, lv) → fa < 24) (hfl : fl = 0 ∨ fl = 1) : xCall xmX6_tryPlane 2 0 0 [.ref 64, zI p, zI q, zI r] n (mdH h m P bu tb fl co fa fb fs fr nn lv a fat w cm cX cY cZ cD su sv tu im rk ba go) (fun res n' h' => res = none ∧ n' = n ∧ h' = (mdH h m P bu tb ((tpS P m p q r (fl, fa, fb, nn, lv)).1) co ((tpS P m p q r (fl, fa, fb, nn, lv)).2.1) ((tpS P m p q r (fl, fa, fb, nn, lv)).2.2.1) fs fr ((tpS P m p q r (fl, fa, fb, nn, lv)).2.2.2.1) ((tpS P m p q r (fl, fa, fb, nn, lv)).2.2.2.2) (crs P p q r) fat w cm cX cY cZ cD su sv tu im rk ba go)) := by
  have hA := crs_bd hb (show p < 14 by omega) (show q < 14 by omega) (show r < 14 by omega)
  have hH : ∀ k, k < 14 → -192000 ≤ dot (crs P p q r) (P k) ∧ dot (crs P p q r) (P k) ≤ 192000 := fun k hk => by
    have := dot_bd hA (hb k hk); omega
  refine xCall.of xgX6_tryPlane rfl ?_
  refine tt_op rfl rfl ?_
  refine tt_op rfl rfl ?_
  refine tt_op rfl rfl ?_
  refine tt_op rfl rfl ?_
  refine tt_callV (M' := xmX6_cross) rfl rfl rfl md64 rfl (m_cross (show p < 14 by omega) (show q < 14 by omega) (show r < 14 by omega)) ?_
  rintro res n' h' ⟨rfl, rfl, rfl⟩
  unfold tpN tpS at *
  dsimp only at *
  have hTB : ∀ k, tpB P m p q r (k + 1) = tpB P m p q r k ||| (if dot (crs P p q r) (P k) = dot (crs P p q r) (P p) then 2 ^ k else 0) := fun k => by
    show bts _ k ||| _ = _
    simp only [decide_eq_true_eq]; rfl
  have hTU : ∀ k, tpU P m p q r (k + 1) = (tpU P m p q r k || decide (dot (crs P p q r) (P p) < dot (crs P p q r) (P k))) := fun k => rfl
  have hTD : ∀ k, tpD P m p q r (k + 1) = (tpD P m p q r k || decide (dot (crs P p q r) (P k) < dot (crs P p q r) (P p))) := fun k => rfl
  have hBl : tpB P m p q r m < 16384 := bts_lt _ m hm
  have hgp : crs P p q r ≠ (0, 0, 0) → 0 < gcd3 (crs P p q r) := gcd3_pos
  have hgl : gcd3 (crs P p q r) ≤ 10000 := by
    unfold gcd3
    have g1 := gcd_le (crs P p q r).1 (crs P p q r).2.1
    have g2 := gcd_le ((Int.gcd (crs P p q r).1 (crs P p q r).2.1 : Nat) : Int) (crs P p q r).2.2
    obtain ⟨⟨a1, a2⟩, ⟨b1, b2⟩, c1, c2⟩ := hA
    omega
  generalize hAe : crs P p q r = A at *
  obtain ⟨⟨a1, a2⟩, ⟨b1, b2⟩, c1, c2⟩ := hA
  have main : A ≠ (0, 0, 0) → xT xmX6_tryPlane (2, 0, 0, 0, 0) 29 [some (.ref 64), some (zI p), some (zI q), some (zI r), none, none, none, none, none, none] [] n' (mdH h m P bu tb fl co fa fb fs fr nn lv (A) fat w cm cX cY cZ cD su sv tu im rk ba go) (fun res n'' h' => res = none ∧ n'' = n' ∧ h' = (mdH h m P bu tb ((if A = (0, 0, 0) then (fl, fa, fb, nn, lv) else if tpU P m p q r m = tpD P m p q r m then (tpF P m p q r fl, fa, fb, nn, lv) else if knB fb (tpB P m p q r m) fa = true then (tpF P m p q r fl, fa, fb, nn, lv) else (tpF P m p q r fl, fa + 1, nup fb fa (tpB P m p q r m), vup nn fa (A.1.tdiv (tpY P m p q r), A.2.1.tdiv (tpY P m p q r), A.2.2.tdiv (tpY P m p q r)), zup lv fa ((dot A (P p)).tdiv (tpY P m p q r)))).1) co ((if A = (0, 0, 0) then (fl, fa, fb, nn, lv) else if tpU P m p q r m = tpD P m p q r m then (tpF P m p q r fl, fa, fb, nn, lv) else if knB fb (tpB P m p q r m) fa = true then (tpF P m p q r fl, fa, fb, nn, lv) else (tpF P m p q r fl, fa + 1, nup fb fa (tpB P m p q r m), vup nn fa (A.1.tdiv (tpY P m p q r), A.2.1.tdiv (tpY P m p q r), A.2.2.tdiv (tpY P m p q r)), zup lv fa ((dot A (P p)).tdiv (tpY P m p q r)))).2.1) ((if A = (0, 0, 0) then (fl, fa, fb, nn, lv) else if tpU P m p q r m = tpD P m p q r m then (tpF P m p q r fl, fa, fb, nn, lv) else if knB fb (tpB P m p q r m) fa = true then (tpF P m p q r fl, fa, fb, nn, lv) else (tpF P m p q r fl, fa + 1, nup fb fa (tpB P m p q r m), vup nn fa (A.1.tdiv (tpY P m p q r), A.2.1.tdiv (tpY P m p q r), A.2.2.tdiv (tpY P m p q r)), zup lv fa ((dot A (P p)).tdiv (tpY P m p q r)))).2.2.1) fs fr ((if A = (0, 0, 0) then (fl, fa, fb, nn, lv) else if tpU P m p q r m = tpD P m p q r m then (tpF P m p q r fl, fa, fb, nn, lv) else if knB fb (tpB P m p q r m) fa = true then (tpF P m p q r fl, fa, fb, nn, lv) else (tpF P m p q r fl, fa + 1, nup fb fa (tpB P m p q r m), vup nn fa (A.1.tdiv (tpY P m p q r), A.2.1.tdiv (tpY P m p q r), A.2.2.tdiv (tpY P m p q r)), zup lv fa ((dot A (P p)).tdiv (tpY P m p q r)))).2.2.2.1) ((if A = (0, 0, 0) then (fl, fa, fb, nn, lv) else if tpU P m p q r m = tpD P m p q r m then (tpF P m p q r fl, fa, fb, nn, lv) else if knB fb (tpB P m p q r m) fa = true then (tpF P m p q r fl, fa, fb, nn, lv) else (tpF P m p q r fl, fa + 1, nup fb fa (tpB P m p q r m), vup nn fa (A.1.tdiv (tpY P m p q r), A.2.1.tdiv (tpY P m p q r), A.2.2.tdiv (tpY P m p q r)), zup lv fa ((dot A (P p)).tdiv (tpY P m p q r)))).2.2.2.2) (A) fat w cm cX cY cZ cD su sv tu im rk ba go)) := by
    intro hA0
    rw [if_neg hA0]
    have hg := hgp hA0
    refine tt_op rfl rfl ?_
    refine tt_op rfl rfl ?_
    refine tt_pV rfl rfl rfl md64 rfl (m_height (show p < 14 by omega)) ?_
    have hHp := hH p (by omega)
    have loop : ∀ (j k : Nat) (l9 : Option Value) (Q : xQt), k + j = m → (∀ l9, xT xmX6_tryPlane (2, 0, 0, 0, 0) 129 [some (.ref 64), some (zI p), some (zI q), some (zI r), some (zI (dot A (P p))), some (zI (tpB P m p q r m : Nat)), some (zI (if tpU P m p q r m = true then 1 else 0)), some (zI (if tpD P m p q r m = true then 1 else 0)), some (zI m), l9] [] n' (mdH h m P bu tb fl co fa fb fs fr nn lv (A) fat w cm cX cY cZ cD su sv tu im rk ba go) Q) → xT xmX6_tryPlane (2, 0, 0, 0, 0) 48 [some (.ref 64), some (zI p), some (zI q), some (zI r), some (zI (dot A (P p))), some (zI (tpB P m p q r k : Nat)), some (zI (if tpU P m p q r k = true then 1 else 0)), some (zI (if tpD P m p q r k = true then 1 else 0)), some (zI k), l9] [] n' (mdH h m P bu tb fl co fa fb fs fr nn lv (A) fat w cm cX cY cZ cD su sv tu im rk ba go) Q := by
      intro j
      induction j with
      | zero =>
        intro k l9 Q hk hfin
        have : k = m := by omega
        subst this
        refine tt_op rfl rfl ?_
        refine tt_op rfl rfl ?_
        refine tt_get rfl md64 (by rfl) ?_
        refine z_icmp rfl (by first | assumption | (unfold R3; omega)) (by first | assumption | (unfold R3; omega)) (fun c => ?_) (fun c => absurd (by simp only [zcd] <;> omega) c)
        exact hfin l9
      | succ j ih =>
        intro k l9 Q hk hfin
        have hHk := hH k (by omega)
        have st3 : ∀ (u d : Bool), u = tpU P m p q r (k + 1) → d = tpD P m p q r (k + 1) → ∀ bt, bt = tpB P m p q r (k + 1) → xT xmX6_tryPlane (2, 0, 0, 0, 0) 123 [some (.ref 64), some (zI p), some (zI q), some (zI r), some (zI (dot A (P p))), some (zI (bt : Nat)), some (zI (if u = true then 1 else 0)), some (zI (if d = true then 1 else 0)), some (zI k), some (zI (dot A (P k)))] [] n' (mdH h m P bu tb fl co fa fb fs fr nn lv (A) fat w cm cX cY cZ cD su sv tu im rk ba go) Q := by
          intro u d hu hd bt hbt
          subst hu; subst hd; subst hbt
          refine z_iinc rfl rfl rfl ?_
          refine tt_goto rfl ?_
          exact ih (k + 1) _ Q (by omega) hfin
        have st2 : ∀ (u : Bool), u = tpU P m p q r (k + 1) → ∀ bt, bt = tpB P m p q r (k + 1) → xT xmX6_tryPlane (2, 0, 0, 0, 0) 104 [some (.ref 64), some (zI p), some (zI q), some (zI r), some (zI (dot A (P p))), some (zI (bt : Nat)), some (zI (if u = true then 1 else 0)), some (zI (if tpD P m p q r k = true then 1 else 0)), some (zI k), some (zI (dot A (P k)))] [] n' (mdH h m P bu tb fl co fa fb fs fr nn lv (A) fat w cm cX cY cZ cD su sv tu im rk ba go) Q := by
          intro u hu bt hbt
          refine tt_op rfl rfl ?_
          cases hd : tpD P m p q r k with
          | true =>
            simp only [if_true]
            refine z_if rfl (by first | assumption | (unfold R3; omega)) (fun c => ?_) (fun c => absurd (by simp only [zcd] <;> omega) c)
            refine tt_op rfl rfl ?_
            refine tt_goto rfl ?_
            refine tt_op rfl rfl ?_
            exact st3 u true hu (by rw [hTD, hd]; rfl) bt hbt
          | false =>
            simp only [Bool.false_eq_true, if_false]
            refine z_if rfl (by first | assumption | (unfold R3; omega)) (fun c => absurd c (by simp only [zcd] <;> omega)) (fun c => ?_)
            refine tt_op rfl rfl ?_
            refine tt_op rfl rfl ?_
            refine z_icmp rfl (by first | assumption | (unfold R3; omega)) (by first | assumption | (unfold R3; omega)) (fun cd => ?_) (fun cd => ?_)
            · simp only [zcd] at cd
              refine tt_op rfl rfl ?_
              refine tt_op rfl rfl ?_
              exact st3 u false hu (by rw [hTD, hd, decide_eq_false (by omega)]; rfl) bt hbt
            · simp only [zcd] at cd
              refine tt_op rfl rfl ?_
              refine tt_goto rfl ?_
              refine tt_op rfl rfl ?_
              exact st3 u true hu (by rw [hTD, hd, decide_eq_true (by omega)]; rfl) bt hbt
        have st1 : ∀ bt, bt = tpB P m p q r (k + 1) → xT xmX6_tryPlane (2, 0, 0, 0, 0) 85 [some (.ref 64), some (zI p), some (zI q), some (zI r), some (zI (dot A (P p))), some (zI (bt : Nat)), some (zI (if tpU P m p q r k = true then 1 else 0)), some (zI (if tpD P m p q r k = true then 1 else 0)), some (zI k), some (zI (dot A (P k)))] [] n' (mdH h m P bu tb fl co fa fb fs fr nn lv (A) fat w cm cX cY cZ cD su sv tu im rk ba go) Q := by
          intro bt hbt
          refine tt_op rfl rfl ?_
          cases hu : tpU P m p q r k with
          | true =>
            simp only [if_true]
            refine z_if rfl (by first | assumption | (unfold R3; omega)) (fun c => ?_) (fun c => absurd (by simp only [zcd] <;> omega) c)
            refine tt_op rfl rfl ?_
            refine tt_goto rfl ?_
            refine tt_op rfl rfl ?_
            exact st2 true (by rw [hTU, hu]; rfl) bt hbt
          | false =>
            simp only [Bool.false_eq_true, if_false]
            refine z_if rfl (by first | assumption | (unfold R3; omega)) (fun c => absurd c (by simp only [zcd] <;> omega)) (fun c => ?_)
            refine tt_op rfl rfl ?_
            refine tt_op rfl rfl ?_
            refine z_icmp rfl (by first | assumption | (unfold R3; omega)) (by first | assumption | (unfold R3; omega)) (fun cd => ?_) (fun cd => ?_)
            · simp only [zcd] at cd
              refine tt_op rfl rfl ?_
              refine tt_op rfl rfl ?_
              exact st2 false (by rw [hTU, hu, decide_eq_false (by omega)]; rfl) bt hbt
            · simp only [zcd] at cd
              refine tt_op rfl rfl ?_
              refine tt_goto rfl ?_
              refine tt_op rfl rfl ?_
              exact st2 true (by rw [hTU, hu, decide_eq_true (by omega)]; rfl) bt hbt
        refine tt_op rfl rfl ?_
        refine tt_op rfl rfl ?_
        refine tt_get rfl md64 (by rfl) ?_
        refine z_icmp rfl (by first | assumption | (unfold R3; omega)) (by first | assumption | (unfold R3; omega)) (fun c => absurd c (by simp only [zcd] <;> omega)) (fun c => ?_)
        refine tt_op rfl rfl ?_
        refine tt_op rfl rfl ?_
        refine tt_pV rfl rfl rfl md64 rfl (m_height (show k < 14 by omega)) ?_
        refine tt_op rfl rfl ?_
        refine tt_op rfl rfl ?_
        refine tt_op rfl rfl ?_
        refine tt_op rfl rfl ?_
        refine z_icmp rfl (by first | assumption | (unfold R3; omega)) (by first | assumption | (unfold R3; omega)) (fun ce => ?_) (fun ce => ?_)
        · simp only [zcd] at ce
          refine tt_op rfl rfl ?_
          refine z_ior (w := 0) rfl ?_
          refine tt_op rfl rfl ?_
          exact st1 _ (by rw [hTB, if_neg (by omega)])
        · simp only [zcd] at ce
          refine tt_op rfl rfl ?_
          refine tt_op rfl rfl ?_
          refine z_shl1 rfl (by omega) ?_
          refine tt_goto rfl ?_
          refine z_ior rfl ?_
          refine tt_op rfl rfl ?_
          exact st1 _ (by rw [hTB, if_pos (by omega)])
    refine tt_op rfl rfl ?_
    refine tt_op rfl rfl ?_
    refine tt_op rfl rfl ?_
    refine tt_op rfl rfl ?_
    refine tt_op rfl rfl ?_
    refine tt_op rfl rfl ?_
    refine tt_op rfl rfl ?_
    refine tt_op rfl rfl ?_
    refine tt_op rfl rfl ?_
    refine loop m 0 none _ (by omega) (fun l9 => ?_)
    clear loop
    generalize hu : tpU P m p q r m = u at *
    generalize hd : tpD P m p q r m = d at *
    generalize hbt : tpB P m p q r m = bt at *
    have rest : ∀ f', f' = tpF P m p q r fl → xT xmX6_tryPlane (2, 0, 0, 0, 0) 155 [some (.ref 64), some (zI p), some (zI q), some (zI r), some (zI (dot A (P p))), some (zI (bt : Nat)), some (zI (if u = true then 1 else 0)), some (zI (if d = true then 1 else 0)), some (zI m), l9] [] n' (mdH h m P bu tb (f') co fa fb fs fr nn lv (A) fat w cm cX cY cZ cD su sv tu im rk ba go) (fun res n'' h' => res = none ∧ n'' = n' ∧ h' = (mdH h m P bu tb ((if u = d then (tpF P m p q r fl, fa, fb, nn, lv) else if knB fb bt fa = true then (tpF P m p q r fl, fa, fb, nn, lv) else (tpF P m p q r fl, fa + 1, nup fb fa bt, vup nn fa (A.1.tdiv (tpY P m p q r), A.2.1.tdiv (tpY P m p q r), A.2.2.tdiv (tpY P m p q r)), zup lv fa ((dot A (P p)).tdiv (tpY P m p q r)))).1) co ((if u = d then (tpF P m p q r fl, fa, fb, nn, lv) else if knB fb bt fa = true then (tpF P m p q r fl, fa, fb, nn, lv) else (tpF P m p q r fl, fa + 1, nup fb fa bt, vup nn fa (A.1.tdiv (tpY P m p q r), A.2.1.tdiv (tpY P m p q r), A.2.2.tdiv (tpY P m p q r)), zup lv fa ((dot A (P p)).tdiv (tpY P m p q r)))).2.1) ((if u = d then (tpF P m p q r fl, fa, fb, nn, lv) else if knB fb bt fa = true then (tpF P m p q r fl, fa, fb, nn, lv) else (tpF P m p q r fl, fa + 1, nup fb fa bt, vup nn fa (A.1.tdiv (tpY P m p q r), A.2.1.tdiv (tpY P m p q r), A.2.2.tdiv (tpY P m p q r)), zup lv fa ((dot A (P p)).tdiv (tpY P m p q r)))).2.2.1) fs fr ((if u = d then (tpF P m p q r fl, fa, fb, nn, lv) else if knB fb bt fa = true then (tpF P m p q r fl, fa, fb, nn, lv) else (tpF P m p q r fl, fa + 1, nup fb fa bt, vup nn fa (A.1.tdiv (tpY P m p q r), A.2.1.tdiv (tpY P m p q r), A.2.2.tdiv (tpY P m p q r)), zup lv fa ((dot A (P p)).tdiv (tpY P m p q r)))).2.2.2.1) ((if u = d then (tpF P m p q r fl, fa, fb, nn, lv) else if knB fb bt fa = true then (tpF P m p q r fl, fa, fb, nn, lv) else (tpF P m p q r fl, fa + 1, nup fb fa bt, vup nn fa (A.1.tdiv (tpY P m p q r), A.2.1.tdiv (tpY P m p q r), A.2.2.tdiv (tpY P m p q r)), zup lv fa ((dot A (P p)).tdiv (tpY P m p q r)))).2.2.2.2) (A) fat w cm cX cY cZ cD su sv tu im rk ba go)) := by
      intro f' hf'
      subst hf'
      refine tt_op rfl rfl ?_
      refine tt_op rfl rfl ?_
      by_cases hud : u = d
      · rw [if_pos hud]
        refine z_icmp rfl (z_b01 _) (z_b01 _) (fun c => absurd c (by rw [hud]; simp [zcd])) (fun c => ?_)
        refine tt_return rfl rfl (Nat.le_of_ble_eq_true rfl) (Nat.le_of_ble_eq_true rfl) ?_
        exact ⟨rfl, rfl, rfl⟩
      rw [if_neg hud]
      refine z_icmp rfl (z_b01 _) (z_b01 _) (fun c => ?_) (fun c => absurd (by cases u <;> cases d <;> simp_all [zcd]) c)
      refine tt_op rfl rfl ?_
      refine tt_op rfl rfl ?_
      have look : ∀ (j f : Nat), f + j = fa → knB fb bt f = false → xT xmX6_tryPlane (2, 0, 0, 0, 0) 166 [some (.ref 64), some (zI p), some (zI q), some (zI r), some (zI (dot A (P p))), some (zI (bt : Nat)), some (zI (if u = true then 1 else 0)), some (zI (if d = true then 1 else 0)), some (zI f), l9] [] n' (mdH h m P bu tb (tpF P m p q r fl) co fa fb fs fr nn lv (A) fat w cm cX cY cZ cD su sv tu im rk ba go) (fun res n'' h' => res = none ∧ n'' = n' ∧ h' = (mdH h m P bu tb ((if knB fb bt fa = true then (tpF P m p q r fl, fa, fb, nn, lv) else (tpF P m p q r fl, fa + 1, nup fb fa bt, vup nn fa (A.1.tdiv (tpY P m p q r), A.2.1.tdiv (tpY P m p q r), A.2.2.tdiv (tpY P m p q r)), zup lv fa ((dot A (P p)).tdiv (tpY P m p q r)))).1) co ((if knB fb bt fa = true then (tpF P m p q r fl, fa, fb, nn, lv) else (tpF P m p q r fl, fa + 1, nup fb fa bt, vup nn fa (A.1.tdiv (tpY P m p q r), A.2.1.tdiv (tpY P m p q r), A.2.2.tdiv (tpY P m p q r)), zup lv fa ((dot A (P p)).tdiv (tpY P m p q r)))).2.1) ((if knB fb bt fa = true then (tpF P m p q r fl, fa, fb, nn, lv) else (tpF P m p q r fl, fa + 1, nup fb fa bt, vup nn fa (A.1.tdiv (tpY P m p q r), A.2.1.tdiv (tpY P m p q r), A.2.2.tdiv (tpY P m p q r)), zup lv fa ((dot A (P p)).tdiv (tpY P m p q r)))).2.2.1) fs fr ((if knB fb bt fa = true then (tpF P m p q r fl, fa, fb, nn, lv) else (tpF P m p q r fl, fa + 1, nup fb fa bt, vup nn fa (A.1.tdiv (tpY P m p q r), A.2.1.tdiv (tpY P m p q r), A.2.2.tdiv (tpY P m p q r)), zup lv fa ((dot A (P p)).tdiv (tpY P m p q r)))).2.2.2.1) ((if knB fb bt fa = true then (tpF P m p q r fl, fa, fb, nn, lv) else (tpF P m p q r fl, fa + 1, nup fb fa bt, vup nn fa (A.1.tdiv (tpY P m p q r), A.2.1.tdiv (tpY P m p q r), A.2.2.tdiv (tpY P m p q r)), zup lv fa ((dot A (P p)).tdiv (tpY P m p q r)))).2.2.2.2) (A) fat w cm cX cY cZ cD su sv tu im rk ba go)) := by
        intro j
        induction j with
        | zero =>
          intro f hf hk
          have : f = fa := by omega
          subst this
          have hN' := hN ⟨hA0, hud, hk⟩
          rw [hk]
          simp only [Bool.false_eq_true, if_false]
          refine tt_op rfl rfl ?_
          refine tt_op rfl rfl ?_
          refine tt_get rfl md64 (by rfl) ?_
          refine z_icmp rfl (by first | assumption | (unfold R3; omega)) (by first | assumption | (unfold R3; omega)) (fun c => ?_) (fun c => absurd (by simp only [zcd] <;> omega) c)
          refine tt_op rfl rfl ?_
          refine tt_get rfl md64 (by rfl) ?_
          refine tt_op rfl rfl ?_
          refine tt_get rfl md64 (by rfl) ?_
          refine tt_pS rfl rfl rfl rfl (m_divisor _ _ ⟨by omega, by omega⟩ ⟨by omega, by omega⟩ _ _) ?_
          refine tt_op rfl rfl ?_
          refine tt_get rfl md64 (by rfl) ?_
          have g1 := gcd_le A.1 A.2.1
          refine tt_pS rfl rfl rfl rfl (m_divisor _ _ ⟨by omega, by omega⟩ ⟨by omega, by omega⟩ _ _) ?_
          have eg : Int.gcd ((Int.gcd A.1 A.2.1 : Nat) : Int) A.2.2 = gcd3 A := rfl
          rw [eg]
          have fin : ∀ (y : Int), y = tpY P m p q r → y ≠ 0 → (-10000 ≤ y ∧ y ≤ 10000) → xT xmX6_tryPlane (2, 0, 0, 0, 0) 229 [some (.ref 64), some (zI p), some (zI q), some (zI r), some (zI (dot A (P p))), some (zI (bt : Nat)), some (zI (if u = true then 1 else 0)), some (zI (if d = true then 1 else 0)), some (zI y), l9] [] n' (mdH h m P bu tb (tpF P m p q r fl) co (f) fb fs fr nn lv (A) fat w cm cX cY cZ cD su sv tu im rk ba go) (fun res n'' h' => res = none ∧ n'' = n' ∧ h' = (mdH h m P bu tb (tpF P m p q r fl) co (f + 1) (nup fb f bt) fs fr (vup nn f (A.1.tdiv (tpY P m p q r), A.2.1.tdiv (tpY P m p q r), A.2.2.tdiv (tpY P m p q r))) (zup lv f ((dot A (P p)).tdiv (tpY P m p q r))) (A) fat w cm cX cY cZ cD su sv tu im rk ba go)) := by
            intro y hy hy0 hyb
            rw [← hy]
            refine tt_op rfl rfl ?_
            refine tt_get rfl md64 (by rfl) ?_
            refine tt_op rfl rfl ?_
            refine tt_get rfl md64 (by rfl) ?_
            refine tt_op rfl rfl ?_
            refine md_s68 rfl rfl (by omega) ?_
            refine tt_op rfl rfl ?_
            refine tt_get rfl md64 (by rfl) ?_
            refine tt_op rfl rfl ?_
            refine tt_get rfl md64 (by rfl) ?_
            refine tt_op rfl rfl ?_
            refine tt_get rfl md64 (by rfl) ?_
            refine tt_op rfl rfl ?_
            refine z_idiv rfl hy0 ⟨by omega, by omega⟩ (by omega) ⟨by omega, by omega⟩ ?_
            refine md_s71 rfl rfl (by omega) ?_
            refine tt_op rfl rfl ?_
            refine tt_get rfl md64 (by rfl) ?_
            refine tt_op rfl rfl ?_
            refine tt_get rfl md64 (by rfl) ?_
            refine tt_op rfl rfl ?_
            refine tt_get rfl md64 (by rfl) ?_
            refine tt_op rfl rfl ?_
            refine z_idiv rfl hy0 ⟨by omega, by omega⟩ (by omega) ⟨by omega, by omega⟩ ?_
            refine md_s72 rfl rfl (by omega) ?_
            refine tt_op rfl rfl ?_
            refine tt_get rfl md64 (by rfl) ?_
            refine tt_op rfl rfl ?_
            refine tt_get rfl md64 (by rfl) ?_
            refine tt_op rfl rfl ?_
            refine tt_get rfl md64 (by rfl) ?_
            refine tt_op rfl rfl ?_
            refine z_idiv rfl hy0 ⟨by omega, by omega⟩ (by omega) ⟨by omega, by omega⟩ ?_
            refine md_s73 rfl rfl (by omega) ?_
            refine tt_op rfl rfl ?_
            refine tt_get rfl md64 (by rfl) ?_
            refine tt_op rfl rfl ?_
            refine tt_get rfl md64 (by rfl) ?_
            refine tt_op rfl rfl ?_
            refine tt_op rfl rfl ?_
            refine z_idiv rfl hy0 ⟨by omega, by omega⟩ (by omega) ⟨by omega, by omega⟩ ?_
            refine md_s74 rfl rfl (by omega) ?_
            refine tt_op rfl rfl ?_
            refine tt_op rfl rfl ?_
            refine tt_get rfl md64 (by rfl) ?_
            refine tt_op rfl rfl ?_
            refine z_iadd rfl ?_
            refine md_pfa (x := f + 1) rfl (by decide) ?_
            refine tt_return rfl rfl (Nat.le_of_ble_eq_true rfl) (Nat.le_of_ble_eq_true rfl) ?_
            refine ⟨rfl, rfl, ?_⟩
            simp only [vup_vup, vup_at]
          refine tt_op rfl rfl ?_
          refine tt_op rfl rfl ?_
          refine z_if rfl (z_b01 _) (fun c => ?_) (fun c => ?_)
          · have hu' : u = false := by cases u <;> simp_all [zcd]
            refine tt_op rfl rfl ?_
            refine tt_op rfl rfl ?_
            exact fin _ (by unfold tpY; rw [hu, hu', hAe]; simp) (by omega) ⟨by omega, by omega⟩
          · have hu' : u = true := by cases u <;> simp_all [zcd]
            refine tt_op rfl rfl ?_
            refine z_ineg rfl ?_
            refine tt_goto rfl ?_
            refine tt_op rfl rfl ?_
            exact fin _ (by unfold tpY; rw [hu, hu', hAe]; simp) (by omega) ⟨by omega, by omega⟩
        | succ j ih =>
          intro f hf hk
          have hbf := hfb f (by omega)
          refine tt_op rfl rfl ?_
          refine tt_op rfl rfl ?_
          refine tt_get rfl md64 (by rfl) ?_
          refine z_icmp rfl (by first | assumption | (unfold R3; omega)) (by first | assumption | (unfold R3; omega)) (fun c => absurd c (by simp only [zcd] <;> omega)) (fun c => ?_)
          refine tt_op rfl rfl ?_
          refine tt_get rfl md64 (by rfl) ?_
          refine tt_op rfl rfl ?_
          refine z_iald rfl md68 rfl (by omega) (by decide) ?_
          refine tt_op rfl rfl ?_
          refine z_icmp rfl (by first | assumption | (unfold R3; omega)) (by first | assumption | (unfold R3; omega)) (fun ce => ?_) (fun ce => ?_)
          · simp only [zcd] at ce
            refine z_iinc rfl rfl rfl ?_
            refine tt_goto rfl ?_
            refine ih (f + 1) (by omega) ?_
            show (anB (fun f => decide (fb f = bt)) f || decide (fb f = bt)) = false
            have : anB (fun f => decide (fb f = bt)) f = false := hk
            rw [this, decide_eq_false (by omega)]
            rfl
          · simp only [zcd] at ce
            have hkk : ∀ g, f < g → knB fb bt g = true := by
              intro g
              induction g with
              | zero => intro h; exact absurd h (by omega)
              | succ g ihg =>
                intro h
                show (anB (fun f => decide (fb f = bt)) g || decide (fb g = bt)) = true
                by_cases hg : f = g
                · subst hg
                  rw [decide_eq_true (by omega)]; simp
                · have : anB (fun f => decide (fb f = bt)) g = true := ihg (by omega)
                  rw [this]; rfl
            rw [if_pos (hkk fa (by omega))]
            refine tt_return rfl rfl (Nat.le_of_ble_eq_true rfl) (Nat.le_of_ble_eq_true rfl) ?_
            exact ⟨rfl, rfl, rfl⟩
      exact look fa 0 (by omega) rfl
    refine tt_op rfl rfl ?_
    refine tt_op rfl rfl ?_
    refine tt_get rfl md64 (by rfl) ?_
    have put0 : ∀ x : Nat, (x = 0 ∨ x = 1) → x = tpF P m p q r fl → xT xmX6_tryPlane (2, 0, 0, 0, 0) 152 [some (.ref 64), some (zI p), some (zI q), some (zI r), some (zI (dot A (P p))), some (zI (bt : Nat)), some (zI (if u = true then 1 else 0)), some (zI (if d = true then 1 else 0)), some (zI m), l9] [zI x, .ref 64] n' (mdH h m P bu tb fl co fa fb fs fr nn lv (A) fat w cm cX cY cZ cD su sv tu im rk ba go) _ := fun x hx hxe => md_pfl hx rfl (by decide) (rest x hxe)
    have hF : tpF P m p q r fl = if fl = 1 ∧ u = false ∧ d = false then 1 else 0 := by unfold tpF; rw [hu, hd]
    refine z_if rfl (by first | assumption | (unfold R3; omega)) (fun c1 => ?_) (fun c1 => ?_)
    · simp only [zcd] at c1
      refine tt_op rfl rfl ?_
      exact put0 0 (Or.inl rfl) (by rw [hF, if_neg (by omega)])
    simp only [zcd] at c1
    refine tt_op rfl rfl ?_
    refine z_if rfl (z_b01 _) (fun c => ?_) (fun c => ?_)
    · have hu' : u = true := by cases u <;> simp_all [zcd]
      refine tt_op rfl rfl ?_
      exact put0 0 (Or.inl rfl) (by rw [hF, if_neg (by rw [hu']; simp)])
    have hu' : u = false := by cases u <;> simp_all [zcd]
    refine tt_op rfl rfl ?_
    refine z_if rfl (z_b01 _) (fun c => ?_) (fun c => ?_)
    · have hd' : d = true := by cases d <;> simp_all [zcd]
      refine tt_op rfl rfl ?_
      exact put0 0 (Or.inl rfl) (by rw [hF, if_neg (by rw [hd']; simp)])
    have hd' : d = false := by cases d <;> simp_all [zcd]
    refine tt_op rfl rfl ?_
    refine tt_goto rfl ?_
    exact put0 1 (Or.inr rfl) (by rw [hF, if_pos ⟨by omega, hu', hd'⟩])
  refine tt_op rfl rfl ?_
  refine tt_get rfl md64 (by rfl) ?_
  refine z_if rfl (by first | assumption | (unfold R3; omega)) (fun c1 => ?_) (fun c1 => ?_)
  · simp only [zcd] at c1
    exact main (fun z => c1 (by rw [z]))
  simp only [zcd] at c1
  refine tt_op rfl rfl ?_
  refine tt_get rfl md64 (by rfl) ?_
  refine z_if rfl (by first | assumption | (unfold R3; omega)) (fun c2 => ?_) (fun c2 => ?_)
  · simp only [zcd] at c2
    exact main (fun z => c2 (by rw [z]))
  simp only [zcd] at c2
  refine tt_op rfl rfl ?_
  refine tt_get rfl md64 (by rfl) ?_
  refine z_if rfl (by first | assumption | (unfold R3; omega)) (fun c3 => ?_) (fun c3 => ?_)
  · simp only [zcd] at c3
    exact main (fun z => c3 (by rw [z]))
  simp only [zcd] at c3
  have e0 : A = (0, 0, 0) := by
    obtain ⟨x, y, z⟩ := A
    dsimp only at c1 c2 c3
    rw [show x = 0 by omega, show y = 0 by omega, show z = 0 by omega]
  refine tt_return rfl rfl (Nat.le_of_ble_eq_true rfl) (Nat.le_of_ble_eq_true rfl) ?_
  refine ⟨rfl, rfl, ?_⟩
  rw [if_pos e0]
end M1
end
section
/-! The reference: faces, rounds, building -/
def alB (p : Nat → Bool) : Nat → Bool
  | 0 => true
  | k + 1 => alB p k && p k
theorem alB_no {p : Nat → Bool} {r : Nat} (h : p r = false) : ∀ k, r < k → alB p k = false
  | 0, hk => absurd hk (by omega)
  | k + 1, hk => by
    unfold alB
    by_cases e : r = k
    · rw [← e, h]; simp
    · rw [alB_no h k (by omega)]; rfl
def lstB (p : Nat → Bool) : Nat → Int
  | 0 => -1
  | k + 1 => if p k = true then (k : Int) else lstB p k
theorem lstB_bd (p : Nat → Bool) : ∀ k, -1 ≤ lstB p k ∧ lstB p k < k
  | 0 => by show (-1 : Int) ≤ -1 ∧ (-1 : Int) < ((0 : Nat) : Int); omega
  | k + 1 => by
    have := lstB_bd p k
    unfold lstB
    split <;> omega
theorem and_bit (v r : Nat) : v &&& 2 ^ r = if v.testBit r = true then 2 ^ r else 0 := by
  apply Nat.eq_of_testBit_eq
  intro i
  rw [Nat.testBit_and, Nat.testBit_two_pow]
  by_cases h : v.testBit r = true
  · rw [if_pos h, Nat.testBit_two_pow]
    by_cases e : r = i
    · subst e; simp [h]
    · simp [e]
  · rw [if_neg h, Nat.zero_testBit]
    by_cases e : r = i
    · subst e; simp [h]
    · simp [e]
theorem and_lt {v w : Nat} (h : v < 16384) : v &&& w < 16384 := Nat.lt_of_le_of_lt Nat.and_le_left h
/-- no corner of the face but on the left of the way from p to q -/
def isNx (P : Nat → V3) (m S : Nat) (u : V3) (p q : Nat) : Bool := alB (fun r => decide (r = p ∨ r = q ∨ S.testBit r = false ∨ 0 < dot (crs P p q r) u)) m
def lyN (P : Nat → V3) (m S : Nat) (u : V3) (p : Nat) : Int := lstB (fun q => decide (q ≠ p) && S.testBit q && isNx P m S u p q) m
def rowOk (P : Nat → V3) (m S : Nat) (u : V3) (R : Nat → Nat) (L : Nat) : Prop :=
  (1 ≤ L ∧ L ≤ 14) ∧ (∀ k, k < L → R k < m) ∧ (S.testBit (R 0) = true ∧ ∀ j, j < R 0 → S.testBit j = false) ∧ (∀ k, k + 1 < L → lyN P m S u (R k) = (R (k + 1) : Int) ∧ R (k + 1) ≠ R 0) ∧ lyN P m S u (R (L - 1)) = (R 0 : Int)
theorem rowOk_cg {P : Nat → V3} {m S : Nat} {u : V3} {R R' : Nat → Nat} {L : Nat} (H : rowOk P m S u R L) (e : ∀ k, k < L → R' k = R k) : rowOk P m S u R' L := by
  obtain ⟨⟨a1, a2⟩, a3, a4, a5, a6⟩ := H
  refine ⟨⟨a1, a2⟩, fun k hk => by rw [e k hk]; exact a3 k hk, by rw [e 0 (by omega)]; exact a4, fun k hk => ?_, ?_⟩
  · rw [e k (by omega), e (k + 1) hk, e 0 (by omega)]; exact a5 k hk
  · rw [e (L - 1) (by omega), e 0 (by omega)]; exact a6
def lrW (fr : Nat → Nat) (f : Nat) (R : Nat → Nat) (L : Nat) : Nat → Nat := fun j => if 14 * f ≤ j ∧ j < 14 * f + L then R (j - 14 * f) else fr j
theorem lrW_s (fr : Nat → Nat) (f : Nat) (R : Nat → Nat) (L : Nat) : nup (lrW fr f R L) (14 * f + L) (R L) = lrW fr f R (L + 1) := by
  funext j
  unfold nup lrW
  by_cases h : j = 14 * f + L
  · rw [if_pos h, if_pos (by omega), h, show 14 * f + L - 14 * f = L by omega]
  · rw [if_neg h]
    by_cases h2 : 14 * f ≤ j ∧ j < 14 * f + L
    · rw [if_pos h2, if_pos (by omega)]
    · rw [if_neg h2, if_neg (by omega)]
theorem lrW_0 (fr : Nat → Nat) (f : Nat) (R : Nat → Nat) : lrW fr f R 0 = fr := by
  funext j; unfold lrW; rw [if_neg (by omega)]
def ibB (fr : Nat → Nat) (f g : Nat) : Bool := if fr (14 * f) ≠ fr (14 * g) then decide (fr (14 * f) < fr (14 * g)) else if fr (14 * f + 1) ≠ fr (14 * g + 1) then decide (fr (14 * f + 1) < fr (14 * g + 1)) else if fr (14 * f + 2) ≠ fr (14 * g + 2) then decide (fr (14 * f + 2) < fr (14 * g + 2)) else false
theorem ibB_0 {fr : Nat → Nat} {f g : Nat} (e : fr (14 * f + 0) ≠ fr (14 * g + 0)) : ibB fr f g = decide (fr (14 * f + 0) < fr (14 * g + 0)) := if_pos e
theorem ibB_1 {fr : Nat → Nat} {f g : Nat} (e0 : fr (14 * f + 0) = fr (14 * g + 0)) (e : fr (14 * f + 1) ≠ fr (14 * g + 1)) : ibB fr f g = decide (fr (14 * f + 1) < fr (14 * g + 1)) := (if_neg (fun z => z e0)).trans (if_pos e)
theorem ibB_2 {fr : Nat → Nat} {f g : Nat} (e0 : fr (14 * f + 0) = fr (14 * g + 0)) (e1 : fr (14 * f + 1) = fr (14 * g + 1)) (e : fr (14 * f + 2) ≠ fr (14 * g + 2)) : ibB fr f g = decide (fr (14 * f + 2) < fr (14 * g + 2)) := (if_neg (fun z => z e0)).trans ((if_neg (fun z => z e1)).trans (if_pos e))
theorem ibB_3 {fr : Nat → Nat} {f g : Nat} (e0 : fr (14 * f + 0) = fr (14 * g + 0)) (e1 : fr (14 * f + 1) = fr (14 * g + 1)) (e : fr (14 * f + 2) = fr (14 * g + 2)) : ibB fr f g = false := (if_neg (fun z => z e0)).trans ((if_neg (fun z => z e1)).trans (if_neg (fun z => z e)))
theorem ibB_self (fr : Nat → Nat) (f : Nat) : ibB fr f f = false := by unfold ibB; simp
theorem cnt_lt {p : Nat → Bool} {r : Nat} (h : p r = false) : ∀ k, r < k → cnt p k < k
  | 0, hk => absurd hk (by omega)
  | k + 1, hk => by
    unfold cnt
    by_cases e : r = k
    · rw [← e, h]
      have := cnt_le p r
      simp only [Bool.false_eq_true, if_false]
      omega
    · have := cnt_lt h k (by omega)
      split <;> omega
section M2
variable {h : xHp} {m : Nat} {P : Nat → V3} {bu tb fl co fa : Nat} {fb fs fr : Nat → Nat} {nn : Nat → V3} {lv : Nat → Int} {a : V3} {fat : Nat → Nat} {w : Int × V3} {cm : Int} {cX cY cZ cD su sv : Nat → Int} {tu : Nat} {im : Nat → Int} {rk ba : Nat → Nat} {go : Nat → Int}
variable {n : Nat}
set_option maxRecDepth 10000 in
theorem m_facesOf (hfa : fa ≤ 24) (hfb : ∀ j, j < 24 → fb j < 16384) (v : Nat) (hv : v < 16384) : xPure xmX6_facesOf 1 [.ref 64, zI v] n (mdH h m P bu tb fl co fa fb fs fr nn lv a fat w cm cX cY cZ cD su sv tu im rk ba go) (zI (cnt (fun f => decide (fb f &&& v = v)) fa)) := by
  refine xCall.of xgX6_facesOf rfl ?_
  refine tt_op rfl rfl ?_
  refine tt_op rfl rfl ?_
  refine tt_op rfl rfl ?_
  refine tt_op rfl rfl ?_
  have loop : ∀ (j f : Nat), f + j = fa → xT xmX6_facesOf (1, 0, 0, 0, 0) 4 [some (.ref 64), some (zI v), some (zI (cnt (fun f => decide (fb f &&& v = v)) f : Nat)), some (zI f)] [] n (mdH h m P bu tb fl co fa fb fs fr nn lv a fat w cm cX cY cZ cD su sv tu im rk ba go) (fun r n' h' => r = some (zI (cnt (fun f => decide (fb f &&& v = v)) fa)) ∧ n' = n ∧ h' = (mdH h m P bu tb fl co fa fb fs fr nn lv a fat w cm cX cY cZ cD su sv tu im rk ba go)) := by
    intro j
    induction j with
    | zero =>
      intro f hf
      have : f = fa := by omega
      subst this
      refine tt_op rfl rfl ?_
      refine tt_op rfl rfl ?_
      refine tt_get rfl md64 (by rfl) ?_
      refine z_icmp rfl (by first | assumption | (unfold R3; omega)) (by first | assumption | (unfold R3; omega)) (fun c => ?_) (fun c => absurd (by simp only [zcd] <;> omega) c)
      refine tt_op rfl rfl ?_
      refine tt_ireturn rfl rfl (by rfl) (Nat.le_of_ble_eq_true rfl) (Nat.le_of_ble_eq_true rfl) ?_
      exact ⟨rfl, rfl, rfl⟩
    | succ j ih =>
      intro f hf
      have hbf := and_lt (w := v) (hfb f (by omega))
      refine tt_op rfl rfl ?_
      refine tt_op rfl rfl ?_
      refine tt_get rfl md64 (by rfl) ?_
      refine z_icmp rfl (by first | assumption | (unfold R3; omega)) (by first | assumption | (unfold R3; omega)) (fun c => absurd c (by simp only [zcd] <;> omega)) (fun c => ?_)
      refine tt_op rfl rfl ?_
      refine tt_op rfl rfl ?_
      refine tt_get rfl md64 (by rfl) ?_
      refine tt_op rfl rfl ?_
      refine z_iald rfl md68 rfl (by omega) (by decide) ?_
      refine tt_op rfl rfl ?_
      refine z_iand rfl ?_
      refine tt_op rfl rfl ?_
      have nxt : ∀ x : Nat, x = (if decide (fb f &&& v = v) = true then 1 else 0) → xT xmX6_facesOf (1, 0, 0, 0, 0) 30 [some (.ref 64), some (zI v), some (zI (cnt (fun f => decide (fb f &&& v = v)) f : Nat)), some (zI f)] [zI x, zI (cnt (fun f => decide (fb f &&& v = v)) f : Nat)] n (mdH h m P bu tb fl co fa fb fs fr nn lv a fat w cm cX cY cZ cD su sv tu im rk ba go) (fun r n' h' => r = some (zI (cnt (fun f => decide (fb f &&& v = v)) fa)) ∧ n' = n ∧ h' = (mdH h m P bu tb fl co fa fb fs fr nn lv a fat w cm cX cY cZ cD su sv tu im rk ba go)) := by
        intro x hx
        refine z_iadd rfl ?_
        refine tt_op rfl rfl ?_
        refine z_iinc rfl rfl rfl ?_
        refine tt_goto rfl ?_
        have e : ((cnt (fun f => decide (fb f &&& v = v)) f : Nat) : Int) + (x : Int) = ((cnt (fun f => decide (fb f &&& v = v)) (f + 1) : Nat) : Int) := by
          rw [hx]
          show _ = (((cnt (fun f => decide (fb f &&& v = v)) f + (if decide (fb f &&& v = v) = true then 1 else 0) : Nat)) : Int)
          omega
        rw [e]
        exact ih (f + 1) (by omega)
      refine z_icmp rfl (by first | assumption | (unfold R3; omega)) (by first | assumption | (unfold R3; omega)) (fun ce => ?_) (fun ce => ?_)
      · simp only [zcd] at ce
        refine tt_op rfl rfl ?_
        exact nxt 0 (by rw [decide_eq_false (by omega)]; rfl)
      · simp only [zcd] at ce
        refine tt_op rfl rfl ?_
        refine tt_goto rfl ?_
        exact nxt 1 (by rw [decide_eq_true (by omega)]; rfl)
  exact loop fa 0 (by omega)
set_option maxRecDepth 10000 in
set_option maxHeartbeats 1000000 in
theorem m_isNext (hb : pbd P) (hm : m ≤ 14) {f p q : Nat} (hf : f < 24) (hp : p < 14) (hq : q < 14) (hfb : fb f < 16384) (hnn : vbd 3200 (nn f)) : xCall xmX6_isNext 2 0 0 [.ref 64, zI f, zI p, zI q] n (mdH h m P bu tb fl co fa fb fs fr nn lv a fat w cm cX cY cZ cD su sv tu im rk ba go) (fun res n' h' => res = some (zI (if isNx P m (fb f &&& co) (nn f) p q = true then 1 else 0)) ∧ n' = n ∧ ∃ a', h' = (mdH h m P bu tb fl co fa fb fs fr nn lv (a') fat w cm cX cY cZ cD su sv tu im rk ba go)) := by
  refine xCall.of xgX6_isNext rfl ?_
  refine tt_op rfl rfl ?_
  refine tt_op rfl rfl ?_
  have hS : fb f &&& co < 16384 := and_lt hfb
  have loop : ∀ (j r : Nat) (a : V3), r + j = m → alB (fun r => decide (r = p ∨ r = q ∨ (fb f &&& co).testBit r = false ∨ 0 < dot (crs P p q r) (nn f))) r = true → xT xmX6_isNext (2, 0, 0, 0, 0) 3 [some (.ref 64), some (zI f), some (zI p), some (zI q), some (zI r)] [] n (mdH h m P bu tb fl co fa fb fs fr nn lv a fat w cm cX cY cZ cD su sv tu im rk ba go) (fun res n' h' => res = some (zI (if isNx P m (fb f &&& co) (nn f) p q = true then 1 else 0)) ∧ n' = n ∧ ∃ a', h' = (mdH h m P bu tb fl co fa fb fs fr nn lv (a') fat w cm cX cY cZ cD su sv tu im rk ba go)) := by
    intro j
    induction j with
    | zero =>
      intro r a hr hal
      have : r = m := by omega
      subst this
      refine tt_op rfl rfl ?_
      refine tt_op rfl rfl ?_
      refine tt_get rfl md64 (by rfl) ?_
      refine z_icmp rfl (by first | assumption | (unfold R3; omega)) (by first | assumption | (unfold R3; omega)) (fun c => ?_) (fun c => absurd (by simp only [zcd] <;> omega) c)
      refine tt_op rfl rfl ?_
      refine tt_ireturn rfl rfl (by rfl) (Nat.le_of_ble_eq_true rfl) (Nat.le_of_ble_eq_true rfl) ?_
      unfold isNx
      rw [hal]
      exact ⟨rfl, rfl, a, rfl⟩
    | succ j ih =>
      intro r a hr hal
      have nxt : ∀ a, (r = p ∨ r = q ∨ (fb f &&& co).testBit r = false ∨ 0 < dot (crs P p q r) (nn f)) → xT xmX6_isNext (2, 0, 0, 0, 0) 94 [some (.ref 64), some (zI f), some (zI p), some (zI q), some (zI r)] [] n (mdH h m P bu tb fl co fa fb fs fr nn lv a fat w cm cX cY cZ cD su sv tu im rk ba go) (fun res n' h' => res = some (zI (if isNx P m (fb f &&& co) (nn f) p q = true then 1 else 0)) ∧ n' = n ∧ ∃ a', h' = (mdH h m P bu tb fl co fa fb fs fr nn lv (a') fat w cm cX cY cZ cD su sv tu im rk ba go)) := by
        intro a hok
        refine z_iinc rfl rfl rfl ?_
        refine tt_goto rfl ?_
        refine ih (r + 1) a (by omega) ?_
        show (alB _ r && decide _) = true
        rw [hal, decide_eq_true hok]
        rfl
      refine tt_op rfl rfl ?_
      refine tt_op rfl rfl ?_
      refine tt_get rfl md64 (by rfl) ?_
      refine z_icmp rfl (by first | assumption | (unfold R3; omega)) (by first | assumption | (unfold R3; omega)) (fun c => absurd c (by simp only [zcd] <;> omega)) (fun c => ?_)
      refine tt_op rfl rfl ?_
      refine tt_op rfl rfl ?_
      refine z_icmp rfl (by first | assumption | (unfold R3; omega)) (by first | assumption | (unfold R3; omega)) (fun c1 => ?_) (fun c1 => ?_)
      · simp only [zcd] at c1
        exact nxt a (Or.inl (by omega))
      simp only [zcd] at c1
      refine tt_op rfl rfl ?_
      refine tt_op rfl rfl ?_
      refine z_icmp rfl (by first | assumption | (unfold R3; omega)) (by first | assumption | (unfold R3; omega)) (fun c2 => ?_) (fun c2 => ?_)
      · simp only [zcd] at c2
        exact nxt a (Or.inr (Or.inl (by omega)))
      simp only [zcd] at c2
      refine tt_op rfl rfl ?_
      refine tt_get rfl md64 (by rfl) ?_
      refine tt_op rfl rfl ?_
      refine z_iald rfl md68 rfl (by omega) (by decide) ?_
      refine tt_op rfl rfl ?_
      refine tt_get rfl md64 (by rfl) ?_
      refine z_iand rfl ?_
      refine tt_op rfl rfl ?_
      refine tt_op rfl rfl ?_
      refine z_shl1 rfl (by omega) ?_
      refine z_iand rfl ?_
      rw [and_bit]
      by_cases hbit : (fb f &&& co).testBit r = true
      rotate_left
      · rw [if_neg hbit]
        refine z_if rfl (by first | assumption | (unfold R3; omega)) (fun c => absurd c (by simp only [zcd] <;> omega)) (fun c => ?_)
        refine tt_goto rfl ?_
        exact nxt a (Or.inr (Or.inr (Or.inl (by simpa using hbit))))
      rw [if_pos hbit]
      have hpw : 0 < 2 ^ r := Nat.pow_pos (by decide)
      have hpl := bits_pow (show r < 14 by omega)
      refine z_if rfl (by first | assumption | (unfold R3; omega)) (fun c => ?_) (fun c => absurd (by simp only [zcd] <;> omega) c)
      refine tt_op rfl rfl ?_
      refine tt_op rfl rfl ?_
      refine tt_op rfl rfl ?_
      refine tt_op rfl rfl ?_
      refine tt_callV (M' := xmX6_cross) rfl rfl rfl md64 rfl (m_cross hp hq (show r < 14 by omega)) ?_
      rintro res n' h' ⟨rfl, rfl, rfl⟩
      have hd := dot_bd (crs_bd hb hp hq (show r < 14 by omega)) hnn
      have hR : R3 (dot (crs P p q r) (nn f)) := ⟨by omega, by omega⟩
      refine tt_op rfl rfl ?_
      refine tt_get rfl md64 (by rfl) ?_
      refine tt_op rfl rfl ?_
      refine tt_get rfl md64 (by rfl) ?_
      refine tt_op rfl rfl ?_
      refine z_iald rfl md71 rfl (by omega) (by decide) ?_
      refine z_imul rfl ?_
      refine tt_op rfl rfl ?_
      refine tt_get rfl md64 (by rfl) ?_
      refine tt_op rfl rfl ?_
      refine tt_get rfl md64 (by rfl) ?_
      refine tt_op rfl rfl ?_
      refine z_iald rfl md72 rfl (by omega) (by decide) ?_
      refine z_imul rfl ?_
      refine z_iadd rfl ?_
      refine tt_op rfl rfl ?_
      refine tt_get rfl md64 (by rfl) ?_
      refine tt_op rfl rfl ?_
      refine tt_get rfl md64 (by rfl) ?_
      refine tt_op rfl rfl ?_
      refine z_iald rfl md73 rfl (by omega) (by decide) ?_
      refine z_imul rfl ?_
      refine z_iadd rfl ?_
      refine z_if rfl hR (fun c3 => ?_) (fun c3 => ?_)
      · have c3 : 0 < dot (crs P p q r) (nn f) := c3
        exact nxt _ (Or.inr (Or.inr (Or.inr c3)))
      · have c3 : ¬ 0 < dot (crs P p q r) (nn f) := c3
        refine tt_op rfl rfl ?_
        refine tt_ireturn rfl rfl (by rfl) (Nat.le_of_ble_eq_true rfl) (Nat.le_of_ble_eq_true rfl) ?_
        unfold isNx
        rw [alB_no (r := r) (by
          refine decide_eq_false ?_
          rintro (z | z | z | z)
          · omega
          · omega
          · rw [hbit] at z; cases z
          · exact c3 z) m (by omega)]
        exact ⟨rfl, rfl, _, rfl⟩
  exact loop m 0 a (by omega) rfl
set_option maxRecDepth 10000 in
set_option maxHeartbeats 2000000 in
theorem m_layRound (hb : pbd P) (hm : m ≤ 14) {f : Nat} (hf : f < 24) (hfb : fb f < 16384) (hnn : vbd 3200 (nn f)) (R : Nat → Nat) (L : Nat) (H : rowOk P m (fb f &&& co) (nn f) R L) : xCall xmX6_layRound 3 0 0 [.ref 64, zI f] n (mdH h m P bu tb fl co fa fb fs fr nn lv a fat w cm cX cY cZ cD su sv tu im rk ba go) (fun res n' h' => res = none ∧ n' = n ∧ ∃ a', h' = (mdH h m P bu tb fl co fa fb (nup fs f L) (lrW fr f R L) nn lv (a') fat w cm cX cY cZ cD su sv tu im rk ba go)) := by
  obtain ⟨⟨L1, L2⟩, hR, ⟨hR0, hR1⟩, hst, hla⟩ := H
  have hS : fb f &&& co < 16384 := and_lt hfb
  refine xCall.of xgX6_layRound rfl ?_
  refine tt_op rfl rfl ?_
  refine tt_get rfl md64 (by rfl) ?_
  refine tt_op rfl rfl ?_
  refine z_iald rfl md68 rfl (by omega) (by decide) ?_
  refine tt_op rfl rfl ?_
  refine tt_get rfl md64 (by rfl) ?_
  refine z_iand rfl ?_
  refine tt_op rfl rfl ?_
  refine tt_op rfl rfl ?_
  refine tt_op rfl rfl ?_
  generalize hSe : fb f &&& co = S at *
  have find : ∀ (j k : Nat), k + j = R 0 → xT xmX6_layRound (3, 0, 0, 0, 0) 14 [some (.ref 64), some (zI f), some (zI S), some (zI k), none, none, none, none] [] n (mdH h m P bu tb fl co fa fb fs fr nn lv a fat w cm cX cY cZ cD su sv tu im rk ba go) (fun res n' h' => res = none ∧ n' = n ∧ ∃ a', h' = (mdH h m P bu tb fl co fa fb (nup fs f L) (lrW fr f R L) nn lv (a') fat w cm cX cY cZ cD su sv tu im rk ba go)) := by
    intro j
    induction j with
    | succ j ih =>
      intro k hk
      have := hR 0 (by omega)
      have hno := hR1 k (by omega)
      refine tt_op rfl rfl ?_
      refine tt_op rfl rfl ?_
      refine z_tb rfl rfl rfl (by omega) (by omega) ?_
      rw [hno]
      simp only [Bool.false_eq_true, if_false]
      refine z_if rfl (by first | assumption | (unfold R3; omega)) (fun c => absurd c (by simp only [zcd] <;> omega)) (fun c => ?_)
      refine z_iinc rfl rfl rfl ?_
      refine tt_goto rfl ?_
      exact ih (k + 1) (by omega)
    | zero =>
      intro k hk
      have e : k = R 0 := by omega
      subst e
      have hR0m := hR 0 (by omega)
      refine tt_op rfl rfl ?_
      refine tt_op rfl rfl ?_
      refine z_tb rfl rfl rfl (by omega) (by omega) ?_
      rw [hR0]
      simp only [if_true]
      refine z_if rfl (by first | assumption | (unfold R3; omega)) (fun c => ?_) (fun c => absurd (by simp only [zcd] <;> omega) c)
      refine tt_op rfl rfl ?_
      refine tt_op rfl rfl ?_
      refine tt_op rfl rfl ?_
      refine tt_op rfl rfl ?_
      have steps : ∀ (j s : Nat) (a : V3) (l6 l7 : Option Value), s + j + 1 = L → xT xmX6_layRound (3, 0, 0, 0, 0) 34 [some (.ref 64), some (zI f), some (zI S), some (zI (R 0)), some (zI (R s)), some (zI s), l6, l7] [] n (mdH h m P bu tb fl co fa fb fs (lrW fr f R s) nn lv a fat w cm cX cY cZ cD su sv tu im rk ba go) (fun res n' h' => res = none ∧ n' = n ∧ ∃ a', h' = (mdH h m P bu tb fl co fa fb (nup fs f L) (lrW fr f R L) nn lv (a') fat w cm cX cY cZ cD su sv tu im rk ba go)) := by
        have inner : ∀ (s : Nat) (Q : xQt), s < L → (∀ a, xT xmX6_layRound (3, 0, 0, 0, 0) 105 [some (.ref 64), some (zI f), some (zI S), some (zI (R 0)), some (zI (R s)), some (zI (s + 1 : Nat)), some (zI (lyN P m S (nn f) (R s))), some (zI m)] [] n (mdH h m P bu tb fl co fa fb fs (lrW fr f R (s + 1)) nn lv a fat w cm cX cY cZ cD su sv tu im rk ba go) Q) → ∀ (j q : Nat) (a : V3), q + j = m → xT xmX6_layRound (3, 0, 0, 0, 0) 57 [some (.ref 64), some (zI f), some (zI S), some (zI (R 0)), some (zI (R s)), some (zI (s + 1 : Nat)), some (zI (lstB (fun q => decide (q ≠ R s) && S.testBit q && isNx P m S (nn f) (R s) q) q)), some (zI q)] [] n (mdH h m P bu tb fl co fa fb fs (lrW fr f R (s + 1)) nn lv a fat w cm cX cY cZ cD su sv tu im rk ba go) Q := by
          intro s Q hs hfin j
          have hRs := hR s hs
          induction j with
          | zero =>
            intro q a hq
            have : q = m := by omega
            subst this
            refine tt_op rfl rfl ?_
            refine tt_op rfl rfl ?_
            refine tt_get rfl md64 (by rfl) ?_
            refine z_icmp rfl (by first | assumption | (unfold R3; omega)) (by first | assumption | (unfold R3; omega)) (fun c => ?_) (fun c => absurd (by simp only [zcd] <;> omega) c)
            exact hfin a
          | succ j ih =>
            intro q a hq
            have no : ∀ a, (decide (q ≠ R s) && S.testBit q && isNx P m S (nn f) (R s) q) = false → xT xmX6_layRound (3, 0, 0, 0, 0) 99 [some (.ref 64), some (zI f), some (zI S), some (zI (R 0)), some (zI (R s)), some (zI (s + 1 : Nat)), some (zI (lstB (fun q => decide (q ≠ R s) && S.testBit q && isNx P m S (nn f) (R s) q) q)), some (zI q)] [] n (mdH h m P bu tb fl co fa fb fs (lrW fr f R (s + 1)) nn lv a fat w cm cX cY cZ cD su sv tu im rk ba go) Q := by
              intro a hno
              refine z_iinc rfl rfl rfl ?_
              refine tt_goto rfl ?_
              have e : lstB (fun q => decide (q ≠ R s) && S.testBit q && isNx P m S (nn f) (R s) q) (q + 1) = lstB (fun q => decide (q ≠ R s) && S.testBit q && isNx P m S (nn f) (R s) q) q := by
                show (if (decide (q ≠ R s) && S.testBit q && isNx P m S (nn f) (R s) q) = true then (q : Int) else _) = _
                rw [hno]; rfl
              rw [← e]
              exact ih (q + 1) a (by omega)
            refine tt_op rfl rfl ?_
            refine tt_op rfl rfl ?_
            refine tt_get rfl md64 (by rfl) ?_
            refine z_icmp rfl (by first | assumption | (unfold R3; omega)) (by first | assumption | (unfold R3; omega)) (fun c => absurd c (by simp only [zcd] <;> omega)) (fun c => ?_)
            refine tt_op rfl rfl ?_
            refine tt_op rfl rfl ?_
            refine z_icmp rfl (by first | assumption | (unfold R3; omega)) (by first | assumption | (unfold R3; omega)) (fun c1 => ?_) (fun c1 => ?_)
            · simp only [zcd] at c1
              exact no a (by rw [decide_eq_false (by omega)]; rfl)
            simp only [zcd] at c1
            refine tt_op rfl rfl ?_
            refine tt_op rfl rfl ?_
            refine z_tb rfl rfl rfl (by omega) (by omega) ?_
            refine tt_op rfl rfl ?_
            refine z_icmp rfl (z_b01 _) ⟨by decide, by decide⟩ (fun c2 => ?_) (fun c2 => ?_)
            · have hx : S.testBit q = false := by cases hx : S.testBit q <;> simp_all [zcd]
              exact no a (by rw [hx]; simp)
            have hx : S.testBit q = true := by cases hx : S.testBit q <;> simp_all [zcd]
            refine tt_op rfl rfl ?_
            refine tt_op rfl rfl ?_
            refine tt_op rfl rfl ?_
            refine tt_op rfl rfl ?_
            refine tt_callV (M' := xmX6_isNext) rfl rfl rfl md64 rfl (m_isNext hb hm hf (show R s < 14 by omega) (show q < 14 by omega) hfb hnn) ?_
            rintro res n' h' ⟨rfl, rfl, a', rfl⟩
            rw [hSe]
            refine z_if rfl (z_b01 _) (fun c3 => ?_) (fun c3 => ?_)
            · have hy : isNx P m S (nn f) (R s) q = false := by cases hy : isNx P m S (nn f) (R s) q <;> simp_all [zcd]
              exact no a' (by rw [hy]; simp)
            · have hy : isNx P m S (nn f) (R s) q = true := by cases hy : isNx P m S (nn f) (R s) q <;> simp_all [zcd]
              have e : lstB (fun q => decide (q ≠ R s) && S.testBit q && isNx P m S (nn f) (R s) q) (q + 1) = (q : Int) := by
                show (if (decide (q ≠ R s) && S.testBit q && isNx P m S (nn f) (R s) q) = true then (q : Int) else _) = _
                rw [hx, hy, decide_eq_true (by omega)]; rfl
              refine tt_op rfl rfl ?_
              refine tt_op rfl rfl ?_
              refine z_iinc rfl rfl rfl ?_
              refine tt_goto rfl ?_
              have t := ih (q + 1) a' (by omega)
              rw [e] at t
              exact t
        intro j
        induction j with
        | zero =>
          intro s a l6 l7 hs
          have hRs := hR s (by omega)
          refine tt_op rfl rfl ?_
          refine tt_get rfl md64 (by rfl) ?_
          refine tt_op rfl rfl ?_
          refine tt_op rfl rfl ?_
          refine z_imul rfl ?_
          refine tt_op rfl rfl ?_
          refine z_iadd rfl ?_
          refine tt_op rfl rfl ?_
          refine md_s70 (j := 14 * f + s) rfl (by omega) (by omega) ?_
          rw [lrW_s]
          refine z_iinc rfl rfl rfl ?_
          refine tt_op rfl rfl ?_
          refine tt_op rfl rfl ?_
          refine tt_op rfl rfl ?_
          refine tt_op rfl rfl ?_
          refine inner s _ (by omega) (fun a => ?_) m 0 a (by omega)
          have hn := hla
          rw [show L - 1 = s by omega] at hn
          rw [hn]
          refine tt_op rfl rfl ?_
          refine tt_op rfl rfl ?_
          refine tt_op rfl rfl ?_
          refine tt_op rfl rfl ?_
          refine z_icmp rfl (by first | assumption | (unfold R3; omega)) (by first | assumption | (unfold R3; omega)) (fun c => absurd c (by simp only [zcd] <;> omega)) (fun c => ?_)
          refine tt_op rfl rfl ?_
          refine tt_get rfl md64 (by rfl) ?_
          refine tt_op rfl rfl ?_
          refine tt_op rfl rfl ?_
          rw [show s + 1 = L by omega]
          refine md_s69 rfl rfl hf ?_
          refine tt_return rfl rfl (Nat.le_of_ble_eq_true rfl) (Nat.le_of_ble_eq_true rfl) ?_
          exact ⟨rfl, rfl, a, rfl⟩
        | succ j ih =>
          intro s a l6 l7 hs
          have hRs := hR s (by omega)
          have hRs1 := hR (s + 1) (by omega)
          refine tt_op rfl rfl ?_
          refine tt_get rfl md64 (by rfl) ?_
          refine tt_op rfl rfl ?_
          refine tt_op rfl rfl ?_
          refine z_imul rfl ?_
          refine tt_op rfl rfl ?_
          refine z_iadd rfl ?_
          refine tt_op rfl rfl ?_
          refine md_s70 (j := 14 * f + s) rfl (by omega) (by omega) ?_
          rw [lrW_s]
          refine z_iinc rfl rfl rfl ?_
          refine tt_op rfl rfl ?_
          refine tt_op rfl rfl ?_
          refine tt_op rfl rfl ?_
          refine tt_op rfl rfl ?_
          refine inner s _ (by omega) (fun a => ?_) m 0 a (by omega)
          obtain ⟨hn, hne⟩ := hst s (by omega)
          rw [hn]
          refine tt_op rfl rfl ?_
          refine tt_op rfl rfl ?_
          refine tt_op rfl rfl ?_
          refine tt_op rfl rfl ?_
          refine z_icmp rfl (by first | assumption | (unfold R3; omega)) (by first | assumption | (unfold R3; omega)) (fun c => ?_) (fun c => absurd (by simp only [zcd] <;> omega) c)
          exact ih (s + 1) a _ _ (by omega)
      have t := steps (L - 1) 0 a none none (by omega)
      rw [lrW_0] at t
      exact t
  exact find (R 0) 0 (by omega)
set_option maxRecDepth 10000 in
theorem m_isBefore (hfr : ∀ j, j < 336 → fr j < 14) {f g : Nat} (hf : f < 24) (hg : g < 24) : xPure xmX6_isBefore 1 [.ref 64, zI f, zI g] n (mdH h m P bu tb fl co fa fb fs fr nn lv a fat w cm cX cY cZ cD su sv tu im rk ba go) (zI (if ibB fr f g = true then 1 else 0)) := by
  refine xCall.of xgX6_isBefore rfl ?_
  have step : ∀ (k : Nat) (Q : xQt), k < 3 → (fr (14 * f + k) ≠ fr (14 * g + k) → fr (14 * f + k) < fr (14 * g + k) → Q (some (zI 1)) n (mdH h m P bu tb fl co fa fb fs fr nn lv a fat w cm cX cY cZ cD su sv tu im rk ba go)) → (fr (14 * f + k) ≠ fr (14 * g + k) → ¬ fr (14 * f + k) < fr (14 * g + k) → Q (some (zI 0)) n (mdH h m P bu tb fl co fa fb fs fr nn lv a fat w cm cX cY cZ cD su sv tu im rk ba go)) → (fr (14 * f + k) = fr (14 * g + k) → xT xmX6_isBefore (1, 0, 0, 0, 0) 2 [some (.ref 64), some (zI f), some (zI g), some (zI (k + 1 : Nat))] [] n (mdH h m P bu tb fl co fa fb fs fr nn lv a fat w cm cX cY cZ cD su sv tu im rk ba go) Q) → xT xmX6_isBefore (1, 0, 0, 0, 0) 2 [some (.ref 64), some (zI f), some (zI g), some (zI k)] [] n (mdH h m P bu tb fl co fa fb fs fr nn lv a fat w cm cX cY cZ cD su sv tu im rk ba go) Q := by
    intro k Q hk q1 q0 qn
    have h1 := hfr (14 * f + k) (by omega)
    have h2 := hfr (14 * g + k) (by omega)
    refine tt_op rfl rfl ?_
    refine tt_op rfl rfl ?_
    refine z_icmp rfl (by first | assumption | (unfold R3; omega)) (by first | assumption | (unfold R3; omega)) (fun c => absurd c (by simp only [zcd] <;> omega)) (fun c => ?_)
    refine tt_op rfl rfl ?_
    refine tt_get rfl md64 (by rfl) ?_
    refine tt_op rfl rfl ?_
    refine tt_op rfl rfl ?_
    refine z_imul rfl ?_
    refine tt_op rfl rfl ?_
    refine z_iadd rfl ?_
    refine z_iald (j := 14 * f + k) rfl md70 (by omega) (by omega) (by decide) ?_
    refine tt_op rfl rfl ?_
    refine tt_get rfl md64 (by rfl) ?_
    refine tt_op rfl rfl ?_
    refine tt_op rfl rfl ?_
    refine z_imul rfl ?_
    refine tt_op rfl rfl ?_
    refine z_iadd rfl ?_
    refine z_iald (j := 14 * g + k) rfl md70 (by omega) (by omega) (by decide) ?_
    refine z_icmp rfl (by first | assumption | (unfold R3; omega)) (by first | assumption | (unfold R3; omega)) (fun c1 => ?_) (fun c1 => ?_)
    · simp only [zcd] at c1
      refine z_iinc rfl rfl rfl ?_
      refine tt_goto rfl ?_
      exact qn (by omega)
    simp only [zcd] at c1
    refine tt_op rfl rfl ?_
    refine tt_get rfl md64 (by rfl) ?_
    refine tt_op rfl rfl ?_
    refine tt_op rfl rfl ?_
    refine z_imul rfl ?_
    refine tt_op rfl rfl ?_
    refine z_iadd rfl ?_
    refine z_iald (j := 14 * f + k) rfl md70 (by omega) (by omega) (by decide) ?_
    refine tt_op rfl rfl ?_
    refine tt_get rfl md64 (by rfl) ?_
    refine tt_op rfl rfl ?_
    refine tt_op rfl rfl ?_
    refine z_imul rfl ?_
    refine tt_op rfl rfl ?_
    refine z_iadd rfl ?_
    refine z_iald (j := 14 * g + k) rfl md70 (by omega) (by omega) (by decide) ?_
    refine z_icmp rfl (by first | assumption | (unfold R3; omega)) (by first | assumption | (unfold R3; omega)) (fun c2 => ?_) (fun c2 => ?_)
    · simp only [zcd] at c2
      refine tt_op rfl rfl ?_
      refine tt_ireturn rfl rfl (by rfl) (Nat.le_of_ble_eq_true rfl) (Nat.le_of_ble_eq_true rfl) ?_
      exact q0 (by omega) (by omega)
    · simp only [zcd] at c2
      refine tt_op rfl rfl ?_
      refine tt_goto rfl ?_
      refine tt_ireturn rfl rfl (by rfl) (Nat.le_of_ble_eq_true rfl) (Nat.le_of_ble_eq_true rfl) ?_
      exact q1 (by omega) (by omega)
  refine tt_op rfl rfl ?_
  refine tt_op rfl rfl ?_
  refine step 0 _ (by omega) (fun e l => ?_) (fun e l => ?_) (fun e0 => ?_)
  · rw [ibB_0 e, decide_eq_true l]; exact ⟨rfl, rfl, rfl⟩
  · rw [ibB_0 e, decide_eq_false l]; exact ⟨rfl, rfl, rfl⟩
  refine step 1 _ (by omega) (fun e l => ?_) (fun e l => ?_) (fun e1 => ?_)
  · rw [ibB_1 e0 e, decide_eq_true l]; exact ⟨rfl, rfl, rfl⟩
  · rw [ibB_1 e0 e, decide_eq_false l]; exact ⟨rfl, rfl, rfl⟩
  refine step 2 _ (by omega) (fun e l => ?_) (fun e l => ?_) (fun e2 => ?_)
  · rw [ibB_2 e0 e1 e, decide_eq_true l]; exact ⟨rfl, rfl, rfl⟩
  · rw [ibB_2 e0 e1 e, decide_eq_false l]; exact ⟨rfl, rfl, rfl⟩
  rw [ibB_3 e0 e1 e2]
  refine tt_op rfl rfl ?_
  refine tt_op rfl rfl ?_
  refine z_icmp rfl (by first | assumption | (unfold R3; omega)) (by first | assumption | (unfold R3; omega)) (fun c => ?_) (fun c => absurd (by simp only [zcd] <;> omega) c)
  refine tt_op rfl rfl ?_
  refine tt_ireturn rfl rfl (by rfl) (Nat.le_of_ble_eq_true rfl) (Nat.le_of_ble_eq_true rfl) ?_
  exact ⟨rfl, rfl, rfl⟩
end M2
end
section
/-! The reference: building -/
def mR (P : Nat → V3) (m p q : Nat) : Nat → Nat → S5 → S5
  | 0, _, s => s
  | k + 1, r, s => mR P m p q k (r + 1) (tpS P m p q r s)
def mQ (P : Nat → V3) (m p : Nat) : Nat → Nat → S5 → S5
  | 0, _, s => s
  | k + 1, q, s => mQ P m p k (q + 1) (mR P m p q (m - (q + 1)) (q + 1) s)
def mP (P : Nat → V3) (m : Nat) : Nat → Nat → S5 → S5
  | 0, _, s => s
  | k + 1, p, s => mP P m k (p + 1) (mQ P m p (m - (p + 1)) (p + 1) s)
/-- all planes of the points -/
def mtF (P : Nat → V3) (m : Nat) (s : S5) : S5 := mP P m m 0 s
def gA (s : S5) : Prop := (s.1 = 0 ∨ s.1 = 1) ∧ (∀ j, j < 24 → s.2.2.1 j < 16384) ∧ (∀ j, j < 24 → vbd 3200 (s.2.2.2.1 j)) ∧ ∀ j, j < 24 → -1000000 ≤ s.2.2.2.2 j ∧ s.2.2.2.2 j ≤ 1000000
theorem tdiv_bd' {x y A : Int} (hx : -A ≤ x ∧ x ≤ A) : -A ≤ x.tdiv y ∧ x.tdiv y ≤ A := by
  have h := Int.natAbs_tdiv_le_natAbs x y
  omega
theorem tpS_gA {P : Nat → V3} {m p q r : Nat} (hb : pbd P) (hm : m ≤ 14) (hp : p < m) (hq : q < m) (hr : r < m) {s : S5} (h : gA s) : gA (tpS P m p q r s) := by
  obtain ⟨h1, h2, h3, h4⟩ := h
  have hA := crs_bd hb (show p < 14 by omega) (show q < 14 by omega) (show r < 14 by omega)
  have hH := dot_bd hA (hb p (by omega))
  have hF : tpF P m p q r s.1 = 0 ∨ tpF P m p q r s.1 = 1 := by unfold tpF; split <;> simp
  unfold tpS
  split
  · exact ⟨h1, h2, h3, h4⟩
  · split
    · exact ⟨hF, h2, h3, h4⟩
    · split
      · exact ⟨hF, h2, h3, h4⟩
      · refine ⟨hF, fun j hj => ?_, fun j hj => ?_, fun j hj => ?_⟩
        · show nup s.2.2.1 s.2.1 _ j < 16384
          unfold nup
          split
          · exact bts_lt _ m hm
          · exact h2 j hj
        · show vbd 3200 (vup s.2.2.2.1 s.2.1 _ j)
          unfold vup
          split
          · exact ⟨tdiv_bd' hA.1, tdiv_bd' hA.2.1, tdiv_bd' hA.2.2⟩
          · exact h3 j hj
        · show -1000000 ≤ zup s.2.2.2.2 s.2.1 _ j ∧ zup s.2.2.2.2 s.2.1 _ j ≤ 1000000
          unfold zup
          split
          · exact tdiv_bd' (A := 1000000) (by omega)
          · exact h4 j hj
/-- there is room for all faces -/
def mCap (P : Nat → V3) (m : Nat) : Prop := ∃ J : S5 → Prop, (∀ fb nn lv, J (1, 0, fb, nn, lv)) ∧ (∀ s, J s → s.2.1 ≤ 24) ∧ ∀ p q r s, p < q → q < r → r < m → J s → (tpN P m p q r s → s.2.1 < 24) ∧ J (tpS P m p q r s)
def coB (fb : Nat → Nat) (fa k : Nat) : Bool := decide (2 < cnt (fun f => decide (fb f &&& 2 ^ k = 2 ^ k)) fa)
def coF (fb : Nat → Nat) (fa m : Nat) : Nat := bts (coB fb fa) m
/-- each face has its round -/
def mRows (P : Nat → V3) (m : Nat) : Prop := ∀ fb nn lv, (mtF P m (1, 0, fb, nn, lv)).1 = 0 → ∀ f, f < (mtF P m (1, 0, fb, nn, lv)).2.1 → ∃ R L, rowOk P m ((mtF P m (1, 0, fb, nn, lv)).2.2.1 f &&& coF (mtF P m (1, 0, fb, nn, lv)).2.2.1 (mtF P m (1, 0, fb, nn, lv)).2.1 m) ((mtF P m (1, 0, fb, nn, lv)).2.2.2.1 f) R L
def faR (fr : Nat → Nat) (fa : Nat) (fat : Nat → Nat) : Nat → Nat → Nat
  | 0 => fat
  | k + 1 => nup (faR fr fa fat k) (cnt (fun g => ibB fr g k) fa) k
/-- what is built: flat, corners, faces, bits, sizes, rows, normals, levels, order -/
abbrev B9 : Type := Nat × Nat × Nat × (Nat → Nat) × (Nat → Nat) × (Nat → Nat) × (Nat → V3) × (Nat → Int) × (Nat → Nat)
def mBt (P : Nat → V3) (m : Nat) (t : B9) : Prop :=
  (∃ fb nn lv, (t.1, t.2.2.1, t.2.2.2.1, t.2.2.2.2.2.2.1, t.2.2.2.2.2.2.2.1) = mtF P m (1, 0, fb, nn, lv)) ∧ gA (t.1, t.2.2.1, t.2.2.2.1, t.2.2.2.2.2.2.1, t.2.2.2.2.2.2.2.1) ∧ t.2.2.1 ≤ 24 ∧ (∀ j, j < 336 → t.2.2.2.2.2.1 j < 14) ∧
  (t.1 = 0 → t.2.1 = coF t.2.2.2.1 t.2.2.1 m ∧ (∀ f, f < t.2.2.1 → rowOk P m (t.2.2.2.1 f &&& t.2.1) (t.2.2.2.2.2.2.1 f) (fun k => t.2.2.2.2.2.1 (14 * f + k)) (t.2.2.2.2.1 f)) ∧ ∃ fat, t.2.2.2.2.2.2.2.2 = faR t.2.2.2.2.2.1 t.2.2.1 fat t.2.2.1)
section M3
variable {h : xHp} {m : Nat} {P : Nat → V3} {bu tb fl co fa : Nat} {fb fs fr : Nat → Nat} {nn : Nat → V3} {lv : Nat → Int} {a : V3} {fat : Nat → Nat} {w : Int × V3} {cm : Int} {cX cY cZ cD su sv : Nat → Int} {tu : Nat} {im : Nat → Int} {rk ba : Nat → Nat} {go : Nat → Int}
variable {n : Nat}
section MB
variable {J : S5 → Prop} (Js : ∀ p q r s, p < q → q < r → r < m → J s → (tpN P m p q r s → s.2.1 < 24) ∧ J (tpS P m p q r s)) (Jb : ∀ s, J s → s.2.1 ≤ 24)
set_option maxRecDepth 10000 in
theorem m_build_r (Js : ∀ p q r s, p < q → q < r → r < m → J s → (tpN P m p q r s → s.2.1 < 24) ∧ J (tpS P m p q r s)) (Jb : ∀ s, J s → s.2.1 ≤ 24) (hb : pbd P) (hm : m ≤ 14) {p q : Nat} (hpq : p < q) (hq : q < m) (Q : xQt) : ∀ (k r : Nat) (s : S5) (a : V3), r + k = m → q < r → J s → gA s → (∀ a', J (mR P m p q k r s) → gA (mR P m p q k r s) → xT xmX6_build (3, 0, 0, 0, 0) 80 [some (.ref 64), some (zI p), some (zI q), some (zI m)] [] n (mdH h m P bu tb ((mR P m p q k r s).1) co ((mR P m p q k r s).2.1) ((mR P m p q k r s).2.2.1) fs fr ((mR P m p q k r s).2.2.2.1) ((mR P m p q k r s).2.2.2.2) (a') fat w cm cX cY cZ cD su sv tu im rk ba go) Q) → xT xmX6_build (3, 0, 0, 0, 0) 59 [some (.ref 64), some (zI p), some (zI q), some (zI r)] [] n (mdH h m P bu tb (s.1) co (s.2.1) (s.2.2.1) fs fr (s.2.2.2.1) (s.2.2.2.2) a fat w cm cX cY cZ cD su sv tu im rk ba go) Q := by
  intro k
  induction k with
  | zero =>
    intro r s a hr hqr hJ hg hfin
    have : r = m := by omega
    subst this
    refine tt_op rfl rfl ?_
    refine tt_op rfl rfl ?_
    refine tt_get rfl md64 (by rfl) ?_
    refine z_icmp rfl (by first | assumption | (unfold R3; omega)) (by first | assumption | (unfold R3; omega)) (fun c => ?_) (fun c => absurd (by simp only [zcd] <;> omega) c)
    exact hfin a hJ hg
  | succ k ih =>
    intro r s a hr hqr hJ hg hfin
    have hJ' := Js p q r s hpq hqr (by omega) hJ
    have hg' := tpS_gA hb hm (p := p) (q := q) (r := r) (by omega) (by omega) (by omega) hg
    refine tt_op rfl rfl ?_
    refine tt_op rfl rfl ?_
    refine tt_get rfl md64 (by rfl) ?_
    refine z_icmp rfl (by first | assumption | (unfold R3; omega)) (by first | assumption | (unfold R3; omega)) (fun c => absurd c (by simp only [zcd] <;> omega)) (fun c => ?_)
    refine tt_op rfl rfl ?_
    refine tt_op rfl rfl ?_
    refine tt_op rfl rfl ?_
    refine tt_op rfl rfl ?_
    refine tt_callV (M' := xmX6_tryPlane) rfl rfl rfl md64 rfl (m_tryPlane hb hm (p := p) (q := q) (r := r) (by omega) (by omega) (by omega) (Jb s hJ) hg.2.1 hJ'.1 hg.1) ?_
    rintro res n' h' ⟨rfl, rfl, rfl⟩
    refine z_iinc rfl rfl rfl ?_
    refine tt_goto rfl ?_
    exact ih (r + 1) (tpS P m p q r s) (crs P p q r) (by omega) (by omega) hJ'.2 hg' hfin
set_option maxRecDepth 10000 in
theorem m_build_q (Js : ∀ p q r s, p < q → q < r → r < m → J s → (tpN P m p q r s → s.2.1 < 24) ∧ J (tpS P m p q r s)) (Jb : ∀ s, J s → s.2.1 ≤ 24) (hb : pbd P) (hm : m ≤ 14) {p : Nat} (hp : p < m) (Q : xQt) : ∀ (k q : Nat) (s : S5) (a : V3) (l3 : Option Value), q + k = m → p < q → J s → gA s → (∀ a' l3, J (mQ P m p k q s) → gA (mQ P m p k q s) → xT xmX6_build (3, 0, 0, 0, 0) 86 [some (.ref 64), some (zI p), some (zI m), l3] [] n (mdH h m P bu tb ((mQ P m p k q s).1) co ((mQ P m p k q s).2.1) ((mQ P m p k q s).2.2.1) fs fr ((mQ P m p k q s).2.2.2.1) ((mQ P m p k q s).2.2.2.2) (a') fat w cm cX cY cZ cD su sv tu im rk ba go) Q) → xT xmX6_build (3, 0, 0, 0, 0) 47 [some (.ref 64), some (zI p), some (zI q), l3] [] n (mdH h m P bu tb (s.1) co (s.2.1) (s.2.2.1) fs fr (s.2.2.2.1) (s.2.2.2.2) a fat w cm cX cY cZ cD su sv tu im rk ba go) Q := by
  intro k
  induction k with
  | zero =>
    intro q s a l3 hr hqr hJ hg hfin
    have : q = m := by omega
    subst this
    refine tt_op rfl rfl ?_
    refine tt_op rfl rfl ?_
    refine tt_get rfl md64 (by rfl) ?_
    refine z_icmp rfl (by first | assumption | (unfold R3; omega)) (by first | assumption | (unfold R3; omega)) (fun c => ?_) (fun c => absurd (by simp only [zcd] <;> omega) c)
    exact hfin a l3 hJ hg
  | succ k ih =>
    intro q s a l3 hr hqr hJ hg hfin
    refine tt_op rfl rfl ?_
    refine tt_op rfl rfl ?_
    refine tt_get rfl md64 (by rfl) ?_
    refine z_icmp rfl (by first | assumption | (unfold R3; omega)) (by first | assumption | (unfold R3; omega)) (fun c => absurd c (by simp only [zcd] <;> omega)) (fun c => ?_)
    refine tt_op rfl rfl ?_
    refine tt_op rfl rfl ?_
    refine z_iadd rfl ?_
    refine tt_op rfl rfl ?_
    refine m_build_r Js Jb hb hm hqr (by omega) Q (m - (q + 1)) (q + 1) s a (by omega) (by omega) hJ hg (fun a' hJ' hg' => ?_)
    refine z_iinc rfl rfl rfl ?_
    refine tt_goto rfl ?_
    exact ih (q + 1) _ a' _ (by omega) (by omega) hJ' hg' hfin
set_option maxRecDepth 10000 in
theorem m_build_p (Js : ∀ p q r s, p < q → q < r → r < m → J s → (tpN P m p q r s → s.2.1 < 24) ∧ J (tpS P m p q r s)) (Jb : ∀ s, J s → s.2.1 ≤ 24) (hb : pbd P) (hm : m ≤ 14) (Q : xQt) : ∀ (k p : Nat) (s : S5) (a : V3) (l2 l3 : Option Value), p + k = m → J s → gA s → (∀ a' l2 l3, J (mP P m k p s) → gA (mP P m k p s) → xT xmX6_build (3, 0, 0, 0, 0) 92 [some (.ref 64), some (zI m), l2, l3] [] n (mdH h m P bu tb ((mP P m k p s).1) co ((mP P m k p s).2.1) ((mP P m k p s).2.2.1) fs fr ((mP P m k p s).2.2.2.1) ((mP P m k p s).2.2.2.2) (a') fat w cm cX cY cZ cD su sv tu im rk ba go) Q) → xT xmX6_build (3, 0, 0, 0, 0) 35 [some (.ref 64), some (zI p), l2, l3] [] n (mdH h m P bu tb (s.1) co (s.2.1) (s.2.2.1) fs fr (s.2.2.2.1) (s.2.2.2.2) a fat w cm cX cY cZ cD su sv tu im rk ba go) Q := by
  intro k
  induction k with
  | zero =>
    intro p s a l2 l3 hr hJ hg hfin
    have : p = m := by omega
    subst this
    refine tt_op rfl rfl ?_
    refine tt_op rfl rfl ?_
    refine tt_get rfl md64 (by rfl) ?_
    refine z_icmp rfl (by first | assumption | (unfold R3; omega)) (by first | assumption | (unfold R3; omega)) (fun c => ?_) (fun c => absurd (by simp only [zcd] <;> omega) c)
    exact hfin a l2 l3 hJ hg
  | succ k ih =>
    intro p s a l2 l3 hr hJ hg hfin
    refine tt_op rfl rfl ?_
    refine tt_op rfl rfl ?_
    refine tt_get rfl md64 (by rfl) ?_
    refine z_icmp rfl (by first | assumption | (unfold R3; omega)) (by first | assumption | (unfold R3; omega)) (fun c => absurd c (by simp only [zcd] <;> omega)) (fun c => ?_)
    refine tt_op rfl rfl ?_
    refine tt_op rfl rfl ?_
    refine z_iadd rfl ?_
    refine tt_op rfl rfl ?_
    refine m_build_q Js Jb hb hm (p := p) (by omega) Q (m - (p + 1)) (p + 1) s a _ (by omega) (by omega) hJ hg (fun a' l3 hJ' hg' => ?_)
    refine z_iinc rfl rfl rfl ?_
    refine tt_goto rfl ?_
    exact ih (p + 1) _ a' _ _ (by omega) hJ' hg' hfin
end MB
set_option maxRecDepth 10000 in
set_option maxHeartbeats 1000000 in
theorem m_build_co (hm : m ≤ 14) (hfa : fa ≤ 24) (hfb : ∀ j, j < 24 → fb j < 16384) (Q : xQt) (l2 l3 : Option Value) (hfin : xT xmX6_build (4, 0, 0, 0, 0) 143 [some (.ref 64), some (zI m), l2, l3] [] n (mdH h m P bu tb fl (coF fb fa m) fa fb fs fr nn lv a fat w cm cX cY cZ cD su sv tu im rk ba go) Q) : ∀ (j k : Nat), k + j = m → xT xmX6_build (4, 0, 0, 0, 0) 102 [some (.ref 64), some (zI k), l2, l3] [] n (mdH h m P bu tb fl (bts (coB fb fa) k) fa fb fs fr nn lv a fat w cm cX cY cZ cD su sv tu im rk ba go) Q := by
  intro j
  induction j with
  | zero =>
    intro k hk
    have : k = m := by omega
    subst this
    refine tt_op rfl rfl ?_
    refine tt_op rfl rfl ?_
    refine tt_get rfl md64 (by rfl) ?_
    refine z_icmp rfl (by first | assumption | (unfold R3; omega)) (by first | assumption | (unfold R3; omega)) (fun c => ?_) (fun c => absurd (by simp only [zcd] <;> omega) c)
    exact hfin
  | succ j ih =>
    intro k hk
    have hc := cnt_le (fun f => decide (fb f &&& 2 ^ k = 2 ^ k)) fa
    refine tt_op rfl rfl ?_
    refine tt_op rfl rfl ?_
    refine tt_get rfl md64 (by rfl) ?_
    refine z_icmp rfl (by first | assumption | (unfold R3; omega)) (by first | assumption | (unfold R3; omega)) (fun c => absurd c (by simp only [zcd] <;> omega)) (fun c => ?_)
    refine tt_op rfl rfl ?_
    refine tt_op rfl rfl ?_
    refine tt_get rfl md64 (by rfl) ?_
    refine tt_op rfl rfl ?_
    refine tt_op rfl rfl ?_
    refine tt_op rfl rfl ?_
    refine z_shl1 rfl (by omega) ?_
    refine tt_pV rfl rfl rfl md64 rfl (m_facesOf hfa hfb (2 ^ k) (bits_pow (by omega))) ?_
    refine tt_op rfl rfl ?_
    have nxt : ∀ x : Nat, x = (if coB fb fa k = true then 2 ^ k else 0) → xT xmX6_build (4, 0, 0, 0, 0) 133 [some (.ref 64), some (zI k), l2, l3] [zI x, zI (bts (coB fb fa) k : Nat), .ref 64] n (mdH h m P bu tb fl (bts (coB fb fa) k) fa fb fs fr nn lv a fat w cm cX cY cZ cD su sv tu im rk ba go) Q := by
      intro x hx
      refine z_ior rfl ?_
      refine md_pco rfl (by decide) ?_
      refine z_iinc rfl rfl rfl ?_
      refine tt_goto rfl ?_
      rw [hx]
      exact ih (k + 1) (by omega)
    refine z_icmp rfl ⟨by omega, by omega⟩ ⟨by decide, by decide⟩ (fun c1 => ?_) (fun c1 => ?_)
    · simp only [zcd] at c1
      refine tt_op rfl rfl ?_
      exact nxt 0 (by unfold coB; rw [decide_eq_false (by omega)]; rfl)
    · simp only [zcd] at c1
      refine tt_op rfl rfl ?_
      refine tt_op rfl rfl ?_
      refine z_shl1 rfl (by omega) ?_
      refine tt_goto rfl ?_
      exact nxt (2 ^ k) (by unfold coB; rw [decide_eq_true (by omega)]; rfl)
theorem lrW_in {fr : Nat → Nat} {f L k : Nat} {R : Nat → Nat} (hk : k < L) : lrW fr f R L (14 * f + k) = R k := by
  unfold lrW; rw [if_pos (by omega), show 14 * f + k - 14 * f = k by omega]
theorem lrW_out {fr : Nat → Nat} {f L j : Nat} {R : Nat → Nat} (hj : j < 14 * f) : lrW fr f R L j = fr j := by
  unfold lrW; rw [if_neg (by omega)]
set_option maxRecDepth 10000 in
set_option maxHeartbeats 1000000 in
theorem m_build_lay (hb : pbd P) (hm : m ≤ 14) (hfa : fa ≤ 24) (hfb : ∀ j, j < 24 → fb j < 16384) (hnn : ∀ j, j < 24 → vbd 3200 (nn j)) (hrow : ∀ f, f < fa → ∃ R L, rowOk P m (fb f &&& co) (nn f) R L) (Q : xQt) (l2 l3 : Option Value) (hfin : ∀ a fr fs, (∀ j, j < 336 → fr j < 14) → (∀ f, f < fa → rowOk P m (fb f &&& co) (nn f) (fun k => fr (14 * f + k)) (fs f)) → xT xmX6_build (4, 0, 0, 0, 0) 164 [some (.ref 64), some (zI fa), l2, l3] [] n (mdH h m P bu tb fl co fa fb fs fr nn lv a fat w cm cX cY cZ cD su sv tu im rk ba go) Q) : ∀ (j f : Nat) (a : V3) (fr fs : Nat → Nat), f + j = fa → (∀ j, j < 336 → fr j < 14) → (∀ g, g < f → rowOk P m (fb g &&& co) (nn g) (fun k => fr (14 * g + k)) (fs g)) → xT xmX6_build (4, 0, 0, 0, 0) 145 [some (.ref 64), some (zI f), l2, l3] [] n (mdH h m P bu tb fl co fa fb fs fr nn lv a fat w cm cX cY cZ cD su sv tu im rk ba go) Q := by
  intro j
  induction j with
  | zero =>
    intro f a fr fs hf hr hok
    have : f = fa := by omega
    subst this
    refine tt_op rfl rfl ?_
    refine tt_op rfl rfl ?_
    refine tt_get rfl md64 (by rfl) ?_
    refine z_icmp rfl (by first | assumption | (unfold R3; omega)) (by first | assumption | (unfold R3; omega)) (fun c => ?_) (fun c => absurd (by simp only [zcd] <;> omega) c)
    exact hfin a fr fs hr hok
  | succ j ih =>
    intro f a fr fs hf hr hok
    obtain ⟨R, L, hRL⟩ := hrow f (by omega)
    refine tt_op rfl rfl ?_
    refine tt_op rfl rfl ?_
    refine tt_get rfl md64 (by rfl) ?_
    refine z_icmp rfl (by first | assumption | (unfold R3; omega)) (by first | assumption | (unfold R3; omega)) (fun c => absurd c (by simp only [zcd] <;> omega)) (fun c => ?_)
    refine tt_op rfl rfl ?_
    refine tt_op rfl rfl ?_
    refine tt_callV (M' := xmX6_layRound) rfl rfl rfl md64 rfl (m_layRound hb hm (f := f) (by omega) (hfb f (by omega)) (hnn f (by omega)) R L hRL) ?_
    rintro res n' h' ⟨rfl, rfl, a', rfl⟩
    refine z_iinc rfl rfl rfl ?_
    refine tt_goto rfl ?_
    refine ih (f + 1) a' _ _ (by omega) (fun j hj => ?_) (fun g hg => ?_)
    · unfold lrW
      split
      · rename_i hc
        have := hRL.2.1 (j - 14 * f) (by omega)
        omega
      · exact hr j hj
    · by_cases e : g = f
      · subst e
        show rowOk _ _ _ _ _ (nup fs g L g)
        rw [show nup fs g L g = L by unfold nup; rw [if_pos rfl]]
        exact rowOk_cg hRL (fun k hk => lrW_in hk)
      · show rowOk _ _ _ _ _ (nup fs f L g)
        rw [show nup fs f L g = fs g by unfold nup; rw [if_neg e]]
        have hg' := hok g (by omega)
        exact rowOk_cg hg' (fun k hk => lrW_out (by have := hg'.1.2; omega))
set_option maxRecDepth 10000 in
set_option maxHeartbeats 1000000 in
theorem m_build_at (hfa : fa ≤ 24) (hfr : ∀ j, j < 336 → fr j < 14) (fat0 : Nat → Nat) (Q : xQt) (hfin : Q none n (mdH h m P bu tb fl co fa fb fs fr nn lv a (faR fr fa fat0 fa) w cm cX cY cZ cD su sv tu im rk ba go)) : ∀ (j f : Nat) (l2 l3 : Option Value), f + j = fa → xT xmX6_build (4, 0, 0, 0, 0) 166 [some (.ref 64), some (zI f), l2, l3] [] n (mdH h m P bu tb fl co fa fb fs fr nn lv a (faR fr fa fat0 f) w cm cX cY cZ cD su sv tu im rk ba go) Q := by
  intro j
  induction j with
  | zero =>
    intro f l2 l3 hf
    have : f = fa := by omega
    subst this
    refine tt_op rfl rfl ?_
    refine tt_op rfl rfl ?_
    refine tt_get rfl md64 (by rfl) ?_
    refine z_icmp rfl (by first | assumption | (unfold R3; omega)) (by first | assumption | (unfold R3; omega)) (fun c => ?_) (fun c => absurd (by simp only [zcd] <;> omega) c)
    refine tt_return rfl rfl (Nat.le_of_ble_eq_true rfl) (Nat.le_of_ble_eq_true rfl) ?_
    exact hfin
  | succ j ih =>
    intro f l2 l3 hf
    have hlt := cnt_lt (p := fun g => ibB fr g f) (ibB_self fr f) fa (by omega)
    refine tt_op rfl rfl ?_
    refine tt_op rfl rfl ?_
    refine tt_get rfl md64 (by rfl) ?_
    refine z_icmp rfl (by first | assumption | (unfold R3; omega)) (by first | assumption | (unfold R3; omega)) (fun c => absurd c (by simp only [zcd] <;> omega)) (fun c => ?_)
    refine tt_op rfl rfl ?_
    refine tt_op rfl rfl ?_
    refine tt_op rfl rfl ?_
    refine tt_op rfl rfl ?_
    have inn : ∀ (j g : Nat), g + j = fa → xT xmX6_build (4, 0, 0, 0, 0) 178 [some (.ref 64), some (zI f), some (zI (cnt (fun g => ibB fr g f) g : Nat)), some (zI g)] [] n (mdH h m P bu tb fl co fa fb fs fr nn lv a (faR fr fa fat0 f) w cm cX cY cZ cD su sv tu im rk ba go) Q := by
      intro j
      induction j with
      | zero =>
        intro g hg
        have : g = fa := by omega
        subst this
        refine tt_op rfl rfl ?_
        refine tt_op rfl rfl ?_
        refine tt_get rfl md64 (by rfl) ?_
        refine z_icmp rfl (by first | assumption | (unfold R3; omega)) (by first | assumption | (unfold R3; omega)) (fun c => ?_) (fun c => absurd (by simp only [zcd] <;> omega) c)
        refine tt_op rfl rfl ?_
        refine tt_get rfl md64 (by rfl) ?_
        refine tt_op rfl rfl ?_
        refine tt_op rfl rfl ?_
        refine md_s75 rfl rfl (by omega) ?_
        refine z_iinc rfl rfl rfl ?_
        refine tt_goto rfl ?_
        exact ih (f + 1) _ _ (by omega)
      | succ j ihg =>
        intro g hg
        refine tt_op rfl rfl ?_
        refine tt_op rfl rfl ?_
        refine tt_get rfl md64 (by rfl) ?_
        refine z_icmp rfl (by first | assumption | (unfold R3; omega)) (by first | assumption | (unfold R3; omega)) (fun c => absurd c (by simp only [zcd] <;> omega)) (fun c => ?_)
        refine tt_op rfl rfl ?_
        refine tt_op rfl rfl ?_
        refine tt_op rfl rfl ?_
        refine tt_op rfl rfl ?_
        refine tt_pV rfl rfl rfl md64 rfl (m_isBefore hfr (f := g) (g := f) (by omega) (by omega)) ?_
        have nxt : ∀ x : Nat, x = (if ibB fr g f = true then 1 else 0) → xT xmX6_build (4, 0, 0, 0, 0) 201 [some (.ref 64), some (zI f), some (zI (cnt (fun g => ibB fr g f) g : Nat)), some (zI g)] [zI x, zI (cnt (fun g => ibB fr g f) g : Nat)] n (mdH h m P bu tb fl co fa fb fs fr nn lv a (faR fr fa fat0 f) w cm cX cY cZ cD su sv tu im rk ba go) Q := by
          intro x hx
          refine z_iadd rfl ?_
          refine tt_op rfl rfl ?_
          refine z_iinc rfl rfl rfl ?_
          refine tt_goto rfl ?_
          have e : ((cnt (fun g => ibB fr g f) g : Nat) : Int) + (x : Int) = ((cnt (fun g => ibB fr g f) (g + 1) : Nat) : Int) := by
            rw [hx]
            show _ = (((cnt (fun g => ibB fr g f) g + (if ibB fr g f = true then 1 else 0) : Nat)) : Int)
            omega
          rw [e]
          exact ihg (g + 1) (by omega)
        refine z_if rfl (z_b01 _) (fun c1 => ?_) (fun c1 => ?_)
        · have hy : ibB fr g f = false := by cases hy : ibB fr g f <;> simp_all [zcd]
          refine tt_op rfl rfl ?_
          exact nxt 0 (by rw [hy]; rfl)
        · have hy : ibB fr g f = true := by cases hy : ibB fr g f <;> simp_all [zcd]
          refine tt_op rfl rfl ?_
          refine tt_goto rfl ?_
          exact nxt 1 (by rw [hy]; rfl)
    exact inn fa 0 (by omega)
end M3
end
section
/-- three points' normal -/
def ncr (P : Nat → V3) (p q r : Nat) : V3 := vcr (vsub (P q) (P p)) (vsub (P r) (P p))
def vO : V3 := (0, 0, 0)
theorem v3ext {u v : V3} (h1 : u.1 = v.1) (h2 : u.2.1 = v.2.1) (h3 : u.2.2 = v.2.2) : u = v := Prod.ext h1 (Prod.ext h2 h3)
theorem vO_iff (u : V3) : u = vO ↔ u.1 = 0 ∧ u.2.1 = 0 ∧ u.2.2 = 0 := by
  constructor
  · rintro rfl; exact ⟨rfl, rfl, rfl⟩
  · rintro ⟨a, b, c⟩; exact v3ext a b c
theorem sq_nonneg' (x : Int) : 0 ≤ x * x := by
  by_cases h : 0 ≤ x
  · exact Int.mul_nonneg h h
  · have := Int.mul_nonneg_of_nonpos_of_nonpos (a := x) (b := x) (by omega) (by omega); omega
theorem sq_pos' {x : Int} (h : x ≠ 0) : 0 < x * x := by
  have := sq_nonneg' x
  have h2 : x * x ≠ 0 := by intro e; exact h ((Int.mul_eq_zero.1 e).elim id id)
  omega
theorem dot_self_nonneg (u : V3) : 0 ≤ dot u u := by
  have a := sq_nonneg' u.1; have b := sq_nonneg' u.2.1; have c := sq_nonneg' u.2.2
  simp only [dot]; omega
theorem dot_self_zero {u : V3} (h : dot u u = 0) : u = vO := by
  have a := sq_nonneg' u.1; have b := sq_nonneg' u.2.1; have c := sq_nonneg' u.2.2
  simp only [dot] at h
  refine (vO_iff u).2 ⟨?_, ?_, ?_⟩
  · have : u.1 * u.1 = 0 := by omega
    exact (Int.mul_eq_zero.1 this).elim id id
  · have : u.2.1 * u.2.1 = 0 := by omega
    exact (Int.mul_eq_zero.1 this).elim id id
  · have : u.2.2 * u.2.2 = 0 := by omega
    exact (Int.mul_eq_zero.1 this).elim id id
theorem dot_self_pos {u : V3} (h : u ≠ vO) : 0 < dot u u := by
  have a := dot_self_nonneg u
  have : dot u u ≠ 0 := fun e => h (dot_self_zero e)
  omega
theorem dot_comm (u v : V3) : dot u v = dot v u := by simp only [dot]; grind
theorem dot_sub (n u v : V3) : dot n (vsub u v) = dot n u - dot n v := by simp only [dot, vsub]; grind
theorem dot_sub_l (n u v : V3) : dot (vsub u v) n = dot u n - dot v n := by simp only [dot, vsub]; grind
theorem vcr_self (u : V3) : vcr u u = vO := by simp only [vcr, vO, Prod.mk.injEq]; grind
theorem bac (n a b : V3) : vcr n (vcr a b) = (a.1 * dot n b - b.1 * dot n a, a.2.1 * dot n b - b.2.1 * dot n a, a.2.2 * dot n b - b.2.2 * dot n a) := by
  simp only [dot, vcr, Prod.mk.injEq]; grind
theorem lagr (u v : V3) : dot (vcr u v) (vcr u v) = dot u u * dot v v - dot u v * dot u v := by simp only [dot, vcr]; grind
/-- two vectors along a third -/
theorem par_tr {n n' N : V3} (hN : N ≠ vO) (h : vcr n N = vO) (h' : vcr n' N = vO) : vcr n n' = vO := by
  rw [vO_iff] at h h' ⊢
  have hN' : ¬ (N.1 = 0 ∧ N.2.1 = 0 ∧ N.2.2 = 0) := fun e => hN ((vO_iff N).2 e)
  simp only [vcr] at h h' ⊢
  obtain ⟨a1, a2, a3⟩ := h
  obtain ⟨b1, b2, b3⟩ := h'
  have key : ∀ t : Int, t * N.1 = 0 → t * N.2.1 = 0 → t * N.2.2 = 0 → t = 0 := by
    intro t h1 h2 h3
    rcases Int.mul_eq_zero.1 h1 with h | h
    · exact h
    rcases Int.mul_eq_zero.1 h2 with h2 | h2
    · exact h2
    rcases Int.mul_eq_zero.1 h3 with h3 | h3
    · exact h3
    exact absurd ⟨h, h2, h3⟩ hN'
  refine ⟨?_, ?_, ?_⟩
  · apply key <;> grind
  · apply key <;> grind
  · apply key <;> grind
/-- across both of two, so along their product -/
theorem perp_par {n a b : V3} (ha : dot n a = 0) (hb : dot n b = 0) : vcr n (vcr a b) = vO := by
  rw [bac, ha, hb]; simp [vO]
theorem dvd3 {x x' : Int} {n : V3} (g : gcd3 n = 1) (h1 : x ∣ x' * n.1) (h2 : x ∣ x' * n.2.1) (h3 : x ∣ x' * n.2.2) : x ∣ x' := by
  have a := Int.dvd_coe_gcd h1 h2
  rw [Int.gcd_mul_left] at a
  have b : x ∣ (x'.natAbs : Int) * n.2.2 := by
    rcases Int.natAbs_eq x' with e | e
    · rw [← e]; exact h3
    · have e2 : (x'.natAbs : Int) = -x' := by omega
      rw [e2, Int.neg_mul]; exact Int.dvd_neg.2 h3
  rw [Int.natCast_mul] at a
  have c := Int.dvd_coe_gcd a b
  rw [Int.gcd_mul_left] at c
  have g' : Int.gcd (↑(Int.gcd n.1 n.2.1)) n.2.2 = 1 := g
  rw [g', Nat.mul_one, Int.natAbs_natCast] at c
  exact Int.dvd_natAbs.1 c
theorem gcd3_abs {n n' : V3} (h : vcr n n' = vO) (g : gcd3 n = 1) (g' : gcd3 n' = 1) : dot n n = dot n' n' := by
  rw [vO_iff] at h
  simp only [vcr] at h
  obtain ⟨a1, a2, a3⟩ := h
  have key : ∀ x x' : Int, x' * n.1 = x * n'.1 → x' * n.2.1 = x * n'.2.1 → x' * n.2.2 = x * n'.2.2 → x * x = x' * x' := by
    intro x x' h1 h2 h3
    have e1 : x ∣ x' := dvd3 g ⟨_, h1⟩ ⟨_, h2⟩ ⟨_, h3⟩
    have e2 : x' ∣ x := dvd3 g' ⟨_, h1.symm⟩ ⟨_, h2.symm⟩ ⟨_, h3.symm⟩
    have e3 := Nat.dvd_antisymm (Int.natAbs_dvd_natAbs.2 e1) (Int.natAbs_dvd_natAbs.2 e2)
    have e4 : x = x' ∨ x = -x' := by omega
    rcases e4 with e | e <;> subst e <;> grind
  have k1 := key n.1 n'.1 (by grind) (by grind) (by grind)
  have k2 := key n.2.1 n'.2.1 (by grind) (by grind) (by grind)
  have k3 := key n.2.2 n'.2.2 (by grind) (by grind) (by grind)
  simp only [dot]; omega
theorem par_eq {n n' : V3} (h : vcr n n' = vO) (g : gcd3 n = 1) (g' : gcd3 n' = 1) (hp : 0 ≤ dot n n') : n = n' := by
  have e := gcd3_abs h g g'
  have l := lagr n n'
  rw [h, ← e] at l
  have l2 : dot n n' * dot n n' = dot n n * dot n n := by simp only [vO] at l; simp only [dot] at l ⊢; omega
  have l3 : dot n n' = dot n n := by
    have q : (dot n n' - dot n n) * (dot n n' + dot n n) = 0 := by grind
    have := dot_self_nonneg n
    rcases Int.mul_eq_zero.1 q with q | q <;> omega
  have l4 : dot (vsub n n') (vsub n n') = 0 := by
    have : dot (vsub n n') (vsub n n') = dot n n - 2 * dot n n' + dot n' n' := by simp only [dot, vsub]; grind
    omega
  have l5 := dot_self_zero l4
  rw [vO_iff] at l5
  simp only [vsub] at l5
  exact v3ext (by omega) (by omega) (by omega)
theorem gcd3_ne {n : V3} (g : gcd3 n = 1) : n ≠ vO := by
  rintro rfl; simp [gcd3, vO] at g
/-- a vector is its primitive one, so many times -/
theorem prim_mul (u : V3) (h : u ≠ vO) : 0 < gcd3 u ∧ u = ((gcd3 u : Int) * (prim u).1, (gcd3 u : Int) * (prim u).2.1, (gcd3 u : Int) * (prim u).2.2) ∧ gcd3 (prim u) = 1 := by
  have d2 : (gcd3 u : Int) ∣ u.2.2 := Int.gcd_dvd_right ..
  have d0 : (gcd3 u : Int) ∣ (Int.gcd u.1 u.2.1 : Int) := Int.gcd_dvd_left ..
  have d1 : (gcd3 u : Int) ∣ u.1 := Int.dvd_trans d0 (Int.gcd_dvd_left ..)
  have d3 : (gcd3 u : Int) ∣ u.2.1 := Int.dvd_trans d0 (Int.gcd_dvd_right ..)
  have gp : 0 < gcd3 u := by
    rcases Nat.eq_zero_or_pos (gcd3 u) with e | e
    · rw [e] at d1 d2 d3
      exact absurd ((vO_iff u).2 ⟨Int.zero_dvd.1 d1, Int.zero_dvd.1 d3, Int.zero_dvd.1 d2⟩) h
    · exact e
  have e : u = ((gcd3 u : Int) * (prim u).1, (gcd3 u : Int) * (prim u).2.1, (gcd3 u : Int) * (prim u).2.2) := by
    refine v3ext ?_ ?_ ?_ <;> simp only [prim]
    · exact (Int.mul_tdiv_cancel' d1).symm
    · exact (Int.mul_tdiv_cancel' d3).symm
    · exact (Int.mul_tdiv_cancel' d2).symm
  refine ⟨gp, e, ?_⟩
  have k : gcd3 u = gcd3 u * gcd3 (prim u) := by
    have : gcd3 ((gcd3 u : Int) * (prim u).1, (gcd3 u : Int) * (prim u).2.1, (gcd3 u : Int) * (prim u).2.2) = gcd3 u * gcd3 (prim u) := by
      show Int.gcd (Int.gcd ((gcd3 u : Int) * (prim u).1) ((gcd3 u : Int) * (prim u).2.1) : Int) ((gcd3 u : Int) * (prim u).2.2) = gcd3 u * gcd3 (prim u)
      rw [Int.gcd_mul_left, Int.natAbs_natCast, Int.natCast_mul, Int.gcd_mul_left, Int.natAbs_natCast]; rfl
    rw [← e] at this; exact this
  exact (Nat.mul_right_cancel_iff gp).1 (by rw [Nat.one_mul, Nat.mul_comm]; exact k.symm)
/-- turning a plane until it meets a point -/
theorem rot (x y : Nat → Int) (A : Nat → Prop) (m : Nat) (hy : ∀ k, k < m → A k → 0 ≤ y k) (hx : ∀ k, k < m → A k → y k = 0 → 0 ≤ x k) (hp : ∃ k, k < m ∧ A k ∧ 0 < y k) :
    ∃ r, r < m ∧ A r ∧ 0 < y r ∧ ∀ s, s < m → A s → 0 ≤ x s * y r - x r * y s := by
  induction m with
  | zero => obtain ⟨k, h, _⟩ := hp; omega
  | succ m ih =>
    by_cases hA : A m ∧ 0 < y m
    · by_cases hq : ∃ k, k < m ∧ A k ∧ 0 < y k
      · obtain ⟨r, r1, r2, r3, r4⟩ := ih (fun k h => hy k (by omega)) (fun k h => hx k (by omega)) hq
        by_cases hc : 0 ≤ x m * y r - x r * y m
        · refine ⟨r, by omega, r2, r3, fun s hs as => ?_⟩
          by_cases e : s = m
          · subst e; exact hc
          · exact r4 s (by omega) as
        · refine ⟨m, by omega, hA.1, hA.2, fun s hs as => ?_⟩
          by_cases e : s = m
          · subst e; omega
          have h1 := r4 s (by omega) as
          have h2 := hy s hs as
          have h3 : 0 < x r * y m - x m * y r := by omega
          have h4 : (x s * y m - x m * y s) * y r = (x s * y r - x r * y s) * y m + (x r * y m - x m * y r) * y s := by grind
          have h5 := Int.mul_nonneg h1 (Int.le_of_lt hA.2)
          have h6 := Int.mul_nonneg (Int.le_of_lt h3) h2
          have h7 : 0 ≤ (x s * y m - x m * y s) * y r := by omega
          exact Int.nonneg_of_mul_nonneg_left h7 r3
      · refine ⟨m, by omega, hA.1, hA.2, fun s hs as => ?_⟩
        by_cases e : s = m
        · subst e; omega
        have h2 := hy s hs as
        have h3 : y s = 0 := by
          rcases Int.lt_or_eq_of_le h2 with h | h
          · exact absurd ⟨s, by omega, as, h⟩ hq
          · exact h.symm
        have h4 := hx s hs as h3
        rw [h3, Int.mul_zero, Int.sub_zero]
        exact Int.mul_nonneg h4 (Int.le_of_lt hA.2)
    · have hq : ∃ k, k < m ∧ A k ∧ 0 < y k := by
        obtain ⟨k, k1, k2, k3⟩ := hp
        by_cases e : k = m
        · subst e; exact absurd ⟨k2, k3⟩ hA
        · exact ⟨k, by omega, k2, k3⟩
      obtain ⟨r, r1, r2, r3, r4⟩ := ih (fun k h => hy k (by omega)) (fun k h => hx k (by omega)) hq
      refine ⟨r, by omega, r2, r3, fun s hs as => ?_⟩
      by_cases e : s = m
      · subst e
        have h2 := hy s hs as
        have h3 : y s = 0 := by
          rcases Int.lt_or_eq_of_le h2 with h | h
          · exact absurd ⟨as, h⟩ hA
          · exact h.symm
        have h4 := hx s hs as h3
        rw [h3, Int.mul_zero, Int.sub_zero]
        exact Int.mul_nonneg h4 (Int.le_of_lt r3)
      · exact r4 s (by omega) as
end
section
/-- a face: its primitive normal outward, and its level -/
def isF (P : Nat → V3) (m : Nat) (n : V3) (l : Int) : Prop :=
  gcd3 n = 1 ∧ (∀ k, k < m → dot n (P k) ≤ l) ∧ (∃ k, k < m ∧ dot n (P k) < l) ∧ ∃ p q r, p < m ∧ q < m ∧ r < m ∧ dot n (P p) = l ∧ dot n (P q) = l ∧ dot n (P r) = l ∧ ncr P p q r ≠ vO
/-- not all in one plane -/
def Sol (P : Nat → V3) (m : Nat) : Prop := ∃ p q r s, p < m ∧ q < m ∧ r < m ∧ s < m ∧ dot (ncr P p q r) (vsub (P s) (P p)) ≠ 0
/-- no two points are one -/
def Dis (P : Nat → V3) (m : Nat) : Prop := ∀ j k, j < m → k < m → P j = P k → j = k
theorem par_dot {n N e : V3} (hn : n ≠ vO) (h : vcr n N = vO) (he : dot n e = 0) : dot N e = 0 := by
  rw [vO_iff] at h
  have hn' : ¬ (n.1 = 0 ∧ n.2.1 = 0 ∧ n.2.2 = 0) := fun e => hn ((vO_iff n).2 e)
  simp only [vcr] at h
  simp only [dot] at he ⊢
  obtain ⟨a1, a2, a3⟩ := h
  have k1 : n.1 * (N.1 * e.1 + N.2.1 * e.2.1 + N.2.2 * e.2.2) = 0 := by grind
  have k2 : n.2.1 * (N.1 * e.1 + N.2.1 * e.2.1 + N.2.2 * e.2.2) = 0 := by grind
  have k3 : n.2.2 * (N.1 * e.1 + N.2.1 * e.2.1 + N.2.2 * e.2.2) = 0 := by grind
  rcases Int.mul_eq_zero.1 k1 with h1 | h1
  · rcases Int.mul_eq_zero.1 k2 with h2 | h2
    · rcases Int.mul_eq_zero.1 k3 with h3 | h3
      · exact absurd ⟨h1, h2, h3⟩ hn'
      · exact h3
    · exact h2
  · exact h1
theorem sol_np {P : Nat → V3} {m : Nat} (hs : Sol P m) {n : V3} (hn : n ≠ vO) (l : Int) : ∃ k, k < m ∧ dot n (P k) ≠ l := by
  obtain ⟨p, q, r, s, hp, hq, hr, hs, hd⟩ := hs
  by_cases h1 : dot n (P p) = l
  · by_cases h2 : dot n (P q) = l
    · by_cases h3 : dot n (P r) = l
      · by_cases h4 : dot n (P s) = l
        · have a := perp_par (n := n) (a := vsub (P q) (P p)) (b := vsub (P r) (P p)) (by rw [dot_sub]; omega) (by rw [dot_sub]; omega)
          exact absurd (par_dot hn a (by rw [dot_sub]; omega)) hd
        · exact ⟨s, hs, h4⟩
      · exact ⟨r, hr, h3⟩
    · exact ⟨q, hq, h2⟩
  · exact ⟨p, hp, h1⟩
/-- two faces with three points in common that are no line are one -/
theorem F_uni {P : Nat → V3} {m : Nat} {n n' : V3} {l l' : Int} (h : isF P m n l) (h' : isF P m n' l') {p q r : Nat} (hN : ncr P p q r ≠ vO)
    (p1 : dot n (P p) = l) (q1 : dot n (P q) = l) (r1 : dot n (P r) = l) (p2 : dot n' (P p) = l') (q2 : dot n' (P q) = l') (r2 : dot n' (P r) = l') : n = n' ∧ l = l' := by
  have a := perp_par (n := n) (a := vsub (P q) (P p)) (b := vsub (P r) (P p)) (by rw [dot_sub]; omega) (by rw [dot_sub]; omega)
  have b := perp_par (n := n') (a := vsub (P q) (P p)) (b := vsub (P r) (P p)) (by rw [dot_sub]; omega) (by rw [dot_sub]; omega)
  have c : vcr n n' = vO := par_tr hN a b
  have e : n = n' := by
    by_cases hd : 0 ≤ dot n n'
    · exact par_eq c h.1 h'.1 hd
    · exfalso
      obtain ⟨g, s, ⟨k, k1, k2⟩, _⟩ := h
      have s' := h'.2.1 k k1
      have hn := gcd3_ne h'.1
      -- n' along n, the other way: point k stands above
      have d1 : dot n' n' = dot n n := (gcd3_abs c g h'.1).symm
      have l2 := lagr n n'
      rw [c, d1] at l2
      have l3 : dot n n' * dot n n' = dot n n * dot n n := by simp only [vO] at l2; simp only [dot] at l2 ⊢; omega
      have l4 : dot n n' = - dot n n := by
        have q : (dot n n' - dot n n) * (dot n n' + dot n n) = 0 := by grind
        have := dot_self_nonneg n
        rcases Int.mul_eq_zero.1 q with q | q <;> omega
      have l5 : dot (vsub n (vneg n')) (vsub n (vneg n')) = 0 := by
        have : dot (vsub n (vneg n')) (vsub n (vneg n')) = dot n n + 2 * dot n n' + dot n' n' := by simp only [dot, vsub, vneg]; grind
        omega
      have l6 := (vO_iff _).1 (dot_self_zero l5)
      simp only [vsub, vneg] at l6
      have l7 : ∀ u, dot n' u = - dot n u := by
        intro u; simp only [dot]
        have e1 : n'.1 = -n.1 := by omega
        have e2 : n'.2.1 = -n.2.1 := by omega
        have e3 : n'.2.2 = -n.2.2 := by omega
        rw [e1, e2, e3]; grind
      rw [l7] at s'
      rw [l7] at p2
      omega
  subst e
  exact ⟨rfl, by omega⟩
def vlc (a : Int) (u : V3) (b : Int) (v : V3) : V3 := (a * u.1 + b * v.1, a * u.2.1 + b * v.2.1, a * u.2.2 + b * v.2.2)
theorem dot_lc (a b : Int) (u v w : V3) : dot (vlc a u b v) w = a * dot u w + b * dot v w := by simp only [dot, vlc]; grind
theorem dot_lcr (a b : Int) (u v w : V3) : dot w (vlc a u b v) = a * dot w u + b * dot w v := by simp only [dot, vlc]; grind
theorem lc_ne {c n : V3} {a b : Int} (h : vcr c n ≠ vO) (ha : a ≠ 0) : vlc a c b n ≠ vO := by
  intro e
  apply h
  rw [vO_iff] at e ⊢
  simp only [vlc] at e
  simp only [vcr]
  obtain ⟨e1, e2, e3⟩ := e
  have k : ∀ t : Int, a * t = 0 → t = 0 := fun t ht => (Int.mul_eq_zero.1 ht).resolve_left ha
  refine ⟨k _ ?_, k _ ?_, k _ ?_⟩ <;> grind
/-- a supporting plane turned about a line in it until it meets another point -/
theorem rotS {P : Nat → V3} {m : Nat} (hs : Sol P m) {n c : V3} {v : Nat} (hv : v < m) (hn : ∀ k, k < m → dot n (P k) ≤ dot n (P v)) (hc : vcr c n ≠ vO)
    (hx : ∀ k, k < m → dot n (P k) = dot n (P v) → dot c (P k) ≤ dot c (P v)) :
    ∃ r, r < m ∧ dot n (P r) < dot n (P v) ∧ ∃ n', n' = vlc (dot n (P v) - dot n (P r)) c (dot c (P r) - dot c (P v)) n ∧ n' ≠ vO ∧ (∀ k, k < m → dot n' (P k) ≤ dot n' (P v)) ∧ dot n' (P r) = dot n' (P v) ∧ (∀ k, dot n (P k) = dot n (P v) → dot c (P k) = dot c (P v) → dot n' (P k) = dot n' (P v)) ∧ ∃ k, k < m ∧ dot n' (P k) < dot n' (P v) := by
  have hn0 : n ≠ vO := by
    rintro rfl; apply hc; simp [vcr, vO]
  obtain ⟨k0, h0, h0'⟩ := sol_np hs hn0 (dot n (P v))
  obtain ⟨r, r1, _, r3, r4⟩ := rot (fun k => dot c (P v) - dot c (P k)) (fun k => dot n (P v) - dot n (P k)) (fun _ => True) m (fun k hk _ => by have := hn k hk; omega) (fun k hk _ e => by have := hx k hk (by omega); omega) ⟨k0, h0, trivial, by have := hn k0 h0; omega⟩
  have hne : vlc (dot n (P v) - dot n (P r)) c (dot c (P r) - dot c (P v)) n ≠ vO := lc_ne hc (by omega)
  refine ⟨r, r1, by omega, _, rfl, hne, fun k hk => ?_, ?_, fun k e1 e2 => ?_, ?_⟩
  · have := r4 k hk trivial
    rw [dot_lc, dot_lc]; grind
  · rw [dot_lc, dot_lc]; grind
  · rw [dot_lc, dot_lc, e1, e2]
  · obtain ⟨k, k1, k2⟩ := sol_np hs hne (dot (vlc (dot n (P v) - dot n (P r)) c (dot c (P r) - dot c (P v)) n) (P v))
    refine ⟨k, k1, ?_⟩
    have := r4 k k1 trivial
    have h : dot (vlc (dot n (P v) - dot n (P r)) c (dot c (P r) - dot c (P v)) n) (P k) ≤ dot (vlc (dot n (P v) - dot n (P r)) c (dot c (P r) - dot c (P v)) n) (P v) := by rw [dot_lc, dot_lc]; grind
    omega
theorem dot_prim (u w : V3) (h : u ≠ vO) : dot u w = (gcd3 u : Int) * dot (prim u) w := by
  obtain ⟨a, b, _⟩ := prim_mul u h
  have c1 : u.1 = (gcd3 u : Int) * (prim u).1 := congrArg (fun t : V3 => t.1) b
  have c2 : u.2.1 = (gcd3 u : Int) * (prim u).2.1 := congrArg (fun t : V3 => t.2.1) b
  have c3 : u.2.2 = (gcd3 u : Int) * (prim u).2.2 := congrArg (fun t : V3 => t.2.2) b
  simp only [dot]
  rw [c1, c2, c3]; grind
/-- a supporting plane with three points of no line is a face's -/
theorem F_mk {P : Nat → V3} {m : Nat} {n : V3} {v q r : Nat} (hn : n ≠ vO) (hv : v < m) (hq : q < m) (hr : r < m) (h : ∀ k, k < m → dot n (P k) ≤ dot n (P v)) (eq : dot n (P q) = dot n (P v)) (er : dot n (P r) = dot n (P v)) (hN : ncr P v q r ≠ vO) (hb : ∃ k, k < m ∧ dot n (P k) < dot n (P v)) : isF P m (prim n) (dot (prim n) (P v)) := by
  obtain ⟨g, _, g1⟩ := prim_mul n hn
  have g' : (0 : Int) < (gcd3 n : Int) := by omega
  have ln : ∀ u w : V3, dot n u ≤ dot n w → dot (prim n) u ≤ dot (prim n) w := by
    intro u w e; rw [dot_prim n u hn, dot_prim n w hn] at e; exact Int.le_of_mul_le_mul_left e g'
  have ll : ∀ u w : V3, dot n u < dot n w → dot (prim n) u < dot (prim n) w := by
    intro u w e; rw [dot_prim n u hn, dot_prim n w hn] at e; exact Int.lt_of_mul_lt_mul_left e (by omega)
  refine ⟨g1, fun k hk => ln _ _ (h k hk), ?_, v, q, r, hv, hq, hr, rfl, ?_, ?_, hN⟩
  · obtain ⟨k, k1, k2⟩ := hb; exact ⟨k, k1, ll _ _ k2⟩
  · have a := ln (P q) (P v) (by omega); have b := ln (P v) (P q) (by omega); omega
  · have a := ln (P r) (P v) (by omega); have b := ln (P v) (P r) (by omega); omega
theorem prim_eq0 {n u w : V3} (hn : n ≠ vO) : dot (prim n) u = dot (prim n) w ↔ dot n u = dot n w := by
  obtain ⟨g, _, g1⟩ := prim_mul n hn
  have g' : (0 : Int) < (gcd3 n : Int) := by omega
  rw [dot_prim n u hn, dot_prim n w hn]
  constructor
  · intro e; rw [e]
  · intro e; exact Int.eq_of_mul_eq_mul_left (by omega) e
theorem cr_ne {n e : V3} (hn : n ≠ vO) (he : e ≠ vO) (h : dot n e = 0) : vcr n e ≠ vO := by
  intro k
  have l := lagr n e
  rw [k, h] at l
  have a := dot_self_pos hn; have b := dot_self_pos he
  have c := Int.mul_pos a b
  simp only [vO] at l
  simp only [dot] at l c
  omega
theorem dot_vcr_l (u v : V3) : dot u (vcr u v) = 0 := by simp only [dot, vcr]; grind
theorem dot_vcr_r (u v : V3) : dot v (vcr u v) = 0 := by simp only [dot, vcr]; grind
theorem vcr_anti (u v : V3) : vcr u v = vneg (vcr v u) := by simp only [vcr, vneg, Prod.mk.injEq]; grind
theorem vneg_O {u : V3} : vneg u = vO ↔ u = vO := by
  rw [vO_iff, vO_iff]; simp only [vneg]; omega
theorem vcr_O {u v : V3} : vcr u v = vO ↔ vcr v u = vO := by rw [vcr_anti, vneg_O]
/-- a vector across n -/
theorem ex_perp {n : V3} (hn : n ≠ vO) : ∃ e, e ≠ vO ∧ dot n e = 0 := by
  by_cases h : n.1 = 0 ∧ n.2.1 = 0
  · refine ⟨(1, 0, 0), by simp [vO], ?_⟩
    simp [dot, h.1]
  · refine ⟨(n.2.1, -n.1, 0), ?_, ?_⟩
    · intro e
      rw [vO_iff] at e
      simp only at e
      omega
    · simp only [dot]; grind
/-- what a supporting plane touches lies in a face -/
theorem F_ex {P : Nat → V3} {m : Nat} (hs : Sol P m) {n : V3} {v : Nat} (hn : n ≠ vO) (hv : v < m) (h : ∀ k, k < m → dot n (P k) ≤ dot n (P v)) :
    ∃ n' l', isF P m n' l' ∧ ∀ k, k < m → dot n (P k) = dot n (P v) → dot n' (P k) = l' := by
  -- with a second point in the plane
  have two : ∀ n : V3, n ≠ vO → (∀ k, k < m → dot n (P k) ≤ dot n (P v)) → (∃ w, w < m ∧ dot n (P w) = dot n (P v) ∧ vsub (P w) (P v) ≠ vO) → ∃ n' l', isF P m n' l' ∧ ∀ k, k < m → dot n (P k) = dot n (P v) → dot n' (P k) = l' := by
    intro n hn h ⟨w, hw, w1, w2⟩
    have hpe : dot n (vsub (P w) (P v)) = 0 := by rw [dot_sub]; omega
    by_cases hk : ∃ k, k < m ∧ dot n (P k) = dot n (P v) ∧ ncr P v w k ≠ vO
    · obtain ⟨k, k1, k2, k3⟩ := hk
      obtain ⟨j, j1, j2⟩ := sol_np hs hn (dot n (P v))
      refine ⟨_, _, F_mk hn hv hw k1 h w1 k2 k3 ⟨j, j1, by have := h j j1; omega⟩, fun i hi e => (prim_eq0 hn).2 e⟩
    · have hc : ∀ k, k < m → dot n (P k) = dot n (P v) → dot (vcr n (vsub (P w) (P v))) (P k) = dot (vcr n (vsub (P w) (P v))) (P v) := by
        intro k hk' e
        have a : ncr P v w k = vO := by
          apply Classical.byContradiction; intro e2; exact hk ⟨k, hk', e, e2⟩
        have b := par_dot (e := vcr n (vsub (P w) (P v))) w2 a (by exact dot_vcr_r ..)
        rw [dot_comm, dot_sub] at b; omega
      obtain ⟨r, r1, r2, n', hn', n1, n2, n3, n4, n5⟩ := rotS hs hv h (c := vcr n (vsub (P w) (P v))) (by
        intro e
        have e2 := cr_ne hn w2 hpe
        exact cr_ne e2 hn (by rw [dot_comm]; exact dot_vcr_l ..) e) (fun k hk' e => by have := hc k hk' e; omega)
      refine ⟨_, _, F_mk n1 hv hw r1 n2 (n4 w w1 (hc w hw w1)) n3 ?_ n5, fun i hi e => (prim_eq0 n1).2 (n4 i e (hc i hi e))⟩
      intro e
      have b := par_dot (e := n) w2 e (by rw [dot_comm]; exact hpe)
      rw [dot_comm, dot_sub] at b; omega
  by_cases hw : ∃ w, w < m ∧ dot n (P w) = dot n (P v) ∧ vsub (P w) (P v) ≠ vO
  · exact two n hn h hw
  · have hz : ∀ k, k < m → dot n (P k) = dot n (P v) → P k = P v := by
      intro k hk e
      have a : vsub (P k) (P v) = vO := by
        apply Classical.byContradiction; intro e2; exact hw ⟨k, hk, e, e2⟩
      rw [vO_iff] at a; simp only [vsub] at a
      exact v3ext (by omega) (by omega) (by omega)
    obtain ⟨c, c1, c2⟩ := ex_perp hn
    obtain ⟨r, r1, r2, n', hn', n1, n2, n3, n4, n5⟩ := rotS hs hv h (c := c) (by
      intro e; exact cr_ne c1 hn (by rw [dot_comm]; exact c2) e) (fun k hk' e => by rw [hz k hk' e]; omega)
    obtain ⟨a, l, b, d⟩ := two n' n1 n2 ⟨r, r1, n3, by
      intro e
      rw [vO_iff] at e; simp only [vsub] at e
      have : P r = P v := v3ext (by omega) (by omega) (by omega)
      rw [this] at r2; omega⟩
    refine ⟨a, l, b, fun k hk e => d k hk (n4 k e ?_)⟩
    rw [hz k hk e]
theorem F_sol {P : Nat → V3} {m : Nat} {n : V3} {l : Int} (h : isF P m n l) : Sol P m := by
  obtain ⟨g, s, ⟨k, k1, k2⟩, p, q, r, hp, hq, hr, ep, eq, er, hN⟩ := h
  refine ⟨p, q, r, k, hp, hq, hr, k1, ?_⟩
  intro e
  have a := perp_par (n := n) (a := vsub (P q) (P p)) (b := vsub (P r) (P p)) (by rw [dot_sub]; omega) (by rw [dot_sub]; omega)
  have b := par_dot hN (vcr_O.1 a) e
  rw [dot_sub] at b; omega
end
