section
-- ===== PART A: goes FIRST, ahead of the names: the tables' words, and 'selects' of the private methods out of them =====
/-- a private method of a class that the tables say can be made, by its rows of tables_1 -/
def lw_okq (q : MethodName × Nat) : Prop := (q.1.cls ≠ "java/lang/invoke/MethodHandle" ∧ q.1.cls ≠ "java/lang/invoke/VarHandle") ∧ Cond.instantiable q.1.cls q.2 ∈ tables_1 ∧ Cond.privateMethod q.1 ∈ tables_1 ∧ Cond.instanceMethod q.1 ∈ tables_1
theorem lw_p0 : lw_okq (⟨"SurdFractions$Expansion", "lookForPeriod", "(I)V"⟩, 10) := ⟨⟨by decide +kernel, by decide +kernel⟩, List.mem_of_getElem? (i := 98) (by decide +kernel), List.mem_of_getElem? (i := 295) (by decide +kernel), List.mem_of_getElem? (i := 296) (by decide +kernel)⟩
theorem lw_p1 : lw_okq (⟨"SurdFractions$Expansion", "chainConvergents", "()V"⟩, 10) := ⟨⟨by decide +kernel, by decide +kernel⟩, List.mem_of_getElem? (i := 98) (by decide +kernel), List.mem_of_getElem? (i := 316) (by decide +kernel), List.mem_of_getElem? (i := 317) (by decide +kernel)⟩
theorem lw_p2 : lw_okq (⟨"SurdFractions$History", "dropOldest", "()V"⟩, 2) := ⟨⟨by decide +kernel, by decide +kernel⟩, List.mem_of_getElem? (i := 81) (by decide +kernel), List.mem_of_getElem? (i := 376) (by decide +kernel), List.mem_of_getElem? (i := 377) (by decide +kernel)⟩
theorem lw_p3 : lw_okq (⟨"SurdFractions$Book", "put", "(III)V"⟩, 3) := ⟨⟨by decide +kernel, by decide +kernel⟩, List.mem_of_getElem? (i := 54) (by decide +kernel), List.mem_of_getElem? (i := 400) (by decide +kernel), List.mem_of_getElem? (i := 401) (by decide +kernel)⟩
theorem lw_p4 : lw_okq (⟨"SurdFractions$Expansion", "isNewInPeriod", "(I)Z"⟩, 10) := ⟨⟨by decide +kernel, by decide +kernel⟩, List.mem_of_getElem? (i := 98) (by decide +kernel), List.mem_of_getElem? (i := 451) (by decide +kernel), List.mem_of_getElem? (i := 452) (by decide +kernel)⟩
theorem lw_p5 : lw_okq (⟨"SurdFractions$Neighbours", "takeMediant", "(LSurdFractions$Surd;)V"⟩, 5) := ⟨⟨by decide +kernel, by decide +kernel⟩, List.mem_of_getElem? (i := 192) (by decide +kernel), List.mem_of_getElem? (i := 489) (by decide +kernel), List.mem_of_getElem? (i := 490) (by decide +kernel)⟩
theorem lw_p6 : lw_okq (⟨"SurdFractions", "neighbourPart", "(ZI)I"⟩, 7) := ⟨⟨by decide +kernel, by decide +kernel⟩, List.mem_of_getElem? (i := 15) (by decide +kernel), List.mem_of_getElem? (i := 499) (by decide +kernel), List.mem_of_getElem? (i := 500) (by decide +kernel)⟩
theorem lw_p7 : lw_okq (⟨"SurdFractions$Squares", "goToRootOf", "(J)V"⟩, 5) := ⟨⟨by decide +kernel, by decide +kernel⟩, List.mem_of_getElem? (i := 219) (by decide +kernel), List.mem_of_getElem? (i := 525) (by decide +kernel), List.mem_of_getElem? (i := 526) (by decide +kernel)⟩
theorem lw_p8 : lw_okq (⟨"SurdFractions$Text", "characterAt", "(I)C"⟩, 6) := ⟨⟨by decide +kernel, by decide +kernel⟩, List.mem_of_getElem? (i := 247) (by decide +kernel), List.mem_of_getElem? (i := 561) (by decide +kernel), List.mem_of_getElem? (i := 562) (by decide +kernel)⟩
theorem lw_p9 : lw_okq (⟨"SurdFractions$Text", "readNumber", "(IZ)I"⟩, 6) := ⟨⟨by decide +kernel, by decide +kernel⟩, List.mem_of_getElem? (i := 247) (by decide +kernel), List.mem_of_getElem? (i := 565) (by decide +kernel), List.mem_of_getElem? (i := 566) (by decide +kernel)⟩
theorem lw_p10 : lw_okq (⟨"SurdFractions$Text", "digitAt", "(I)I"⟩, 6) := ⟨⟨by decide +kernel, by decide +kernel⟩, List.mem_of_getElem? (i := 247) (by decide +kernel), List.mem_of_getElem? (i := 569) (by decide +kernel), List.mem_of_getElem? (i := 570) (by decide +kernel)⟩
theorem lw_p11 : lw_okq (⟨"SurdFractions$Text", "setFault", "(II)V"⟩, 6) := ⟨⟨by decide +kernel, by decide +kernel⟩, List.mem_of_getElem? (i := 247) (by decide +kernel), List.mem_of_getElem? (i := 573) (by decide +kernel), List.mem_of_getElem? (i := 574) (by decide +kernel)⟩
theorem lw_p12 : lw_okq (⟨"SurdFractions$Text", "addTerm", "(I)V"⟩, 6) := ⟨⟨by decide +kernel, by decide +kernel⟩, List.mem_of_getElem? (i := 247) (by decide +kernel), List.mem_of_getElem? (i := 577) (by decide +kernel), List.mem_of_getElem? (i := 578) (by decide +kernel)⟩
theorem lw_p13 : lw_okq (⟨"SurdFractions", "toldAbove", "()J"⟩, 7) := ⟨⟨by decide +kernel, by decide +kernel⟩, List.mem_of_getElem? (i := 15) (by decide +kernel), List.mem_of_getElem? (i := 674) (by decide +kernel), List.mem_of_getElem? (i := 675) (by decide +kernel)⟩
theorem lw_p14 : lw_okq (⟨"SurdFractions", "toldPart", "(I)J"⟩, 7) := ⟨⟨by decide +kernel, by decide +kernel⟩, List.mem_of_getElem? (i := 15) (by decide +kernel), List.mem_of_getElem? (i := 678) (by decide +kernel), List.mem_of_getElem? (i := 679) (by decide +kernel)⟩
theorem lw_p15 : lw_okq (⟨"SurdFractionsModel", "changes", "()V"⟩, 22) := ⟨⟨by decide +kernel, by decide +kernel⟩, List.mem_of_getElem? (i := 682) (by decide +kernel), List.mem_of_getElem? (i := 772) (by decide +kernel), List.mem_of_getElem? (i := 773) (by decide +kernel)⟩
def lw_privs_1 : List (MethodName × Nat) := [(⟨"SurdFractions$Expansion", "lookForPeriod", "(I)V"⟩, 10), (⟨"SurdFractions$Expansion", "chainConvergents", "()V"⟩, 10), (⟨"SurdFractions$History", "dropOldest", "()V"⟩, 2), (⟨"SurdFractions$Book", "put", "(III)V"⟩, 3), (⟨"SurdFractions$Expansion", "isNewInPeriod", "(I)Z"⟩, 10), (⟨"SurdFractions$Neighbours", "takeMediant", "(LSurdFractions$Surd;)V"⟩, 5), (⟨"SurdFractions", "neighbourPart", "(ZI)I"⟩, 7), (⟨"SurdFractions$Squares", "goToRootOf", "(J)V"⟩, 5), (⟨"SurdFractions$Text", "characterAt", "(I)C"⟩, 6), (⟨"SurdFractions$Text", "readNumber", "(IZ)I"⟩, 6), (⟨"SurdFractions$Text", "digitAt", "(I)I"⟩, 6), (⟨"SurdFractions$Text", "setFault", "(II)V"⟩, 6), (⟨"SurdFractions$Text", "addTerm", "(I)V"⟩, 6), (⟨"SurdFractions", "toldAbove", "()J"⟩, 7), (⟨"SurdFractions", "toldPart", "(I)J"⟩, 7), (⟨"SurdFractionsModel", "changes", "()V"⟩, 22)]
theorem lw_r1 : ∀ q ∈ lw_privs_1, lw_okq q := List.forall_mem_cons.mpr ⟨lw_p0, List.forall_mem_cons.mpr ⟨lw_p1, List.forall_mem_cons.mpr ⟨lw_p2, List.forall_mem_cons.mpr ⟨lw_p3, List.forall_mem_cons.mpr ⟨lw_p4, List.forall_mem_cons.mpr ⟨lw_p5, List.forall_mem_cons.mpr ⟨lw_p6, List.forall_mem_cons.mpr ⟨lw_p7, List.forall_mem_cons.mpr ⟨lw_p8, List.forall_mem_cons.mpr ⟨lw_p9, List.forall_mem_cons.mpr ⟨lw_p10, List.forall_mem_cons.mpr ⟨lw_p11, List.forall_mem_cons.mpr ⟨lw_p12, List.forall_mem_cons.mpr ⟨lw_p13, List.forall_mem_cons.mpr ⟨lw_p14, List.forall_mem_cons.mpr ⟨lw_p15, fun _ h => absurd h List.not_mem_nil⟩⟩⟩⟩⟩⟩⟩⟩⟩⟩⟩⟩⟩⟩⟩⟩
theorem lw_p16 : lw_okq (⟨"SurdFractionsModel", "lays", "()V"⟩, 22) := ⟨⟨by decide +kernel, by decide +kernel⟩, List.mem_of_getElem? (i := 682) (by decide +kernel), List.mem_of_getElem? (i := 785) (by decide +kernel), List.mem_of_getElem? (i := 786) (by decide +kernel)⟩
theorem lw_p17 : lw_okq (⟨"SurdFractionsModel", "laysOf", "(JJJ)V"⟩, 22) := ⟨⟨by decide +kernel, by decide +kernel⟩, List.mem_of_getElem? (i := 682) (by decide +kernel), List.mem_of_getElem? (i := 789) (by decide +kernel), List.mem_of_getElem? (i := 790) (by decide +kernel)⟩
theorem lw_p18 : lw_okq (⟨"SurdFractionsModel", "period", "()I"⟩, 22) := ⟨⟨by decide +kernel, by decide +kernel⟩, List.mem_of_getElem? (i := 682) (by decide +kernel), List.mem_of_getElem? (i := 801) (by decide +kernel), List.mem_of_getElem? (i := 802) (by decide +kernel)⟩
theorem lw_p19 : lw_okq (⟨"SurdFractionsModel", "greatest", "(I)I"⟩, 22) := ⟨⟨by decide +kernel, by decide +kernel⟩, List.mem_of_getElem? (i := 682) (by decide +kernel), List.mem_of_getElem? (i := 806) (by decide +kernel), List.mem_of_getElem? (i := 807) (by decide +kernel)⟩
theorem lw_p20 : lw_okq (⟨"SurdFractionsModel", "unlike", "(I)I"⟩, 22) := ⟨⟨by decide +kernel, by decide +kernel⟩, List.mem_of_getElem? (i := 682) (by decide +kernel), List.mem_of_getElem? (i := 810) (by decide +kernel), List.mem_of_getElem? (i := 811) (by decide +kernel)⟩
theorem lw_p21 : lw_okq (⟨"SurdFractionsModel", "isMirror", "(I)Z"⟩, 22) := ⟨⟨by decide +kernel, by decide +kernel⟩, List.mem_of_getElem? (i := 682) (by decide +kernel), List.mem_of_getElem? (i := 814) (by decide +kernel), List.mem_of_getElem? (i := 815) (by decide +kernel)⟩
theorem lw_p22 : lw_okq (⟨"SurdFractionsModel", "goesTo", "(I)Z"⟩, 22) := ⟨⟨by decide +kernel, by decide +kernel⟩, List.mem_of_getElem? (i := 682) (by decide +kernel), List.mem_of_getElem? (i := 823) (by decide +kernel), List.mem_of_getElem? (i := 824) (by decide +kernel)⟩
theorem lw_p23 : lw_okq (⟨"SurdFractionsModel", "begins", "()V"⟩, 22) := ⟨⟨by decide +kernel, by decide +kernel⟩, List.mem_of_getElem? (i := 682) (by decide +kernel), List.mem_of_getElem? (i := 827) (by decide +kernel), List.mem_of_getElem? (i := 828) (by decide +kernel)⟩
theorem lw_p24 : lw_okq (⟨"SurdFractionsModel", "goesOn", "(J)Z"⟩, 22) := ⟨⟨by decide +kernel, by decide +kernel⟩, List.mem_of_getElem? (i := 682) (by decide +kernel), List.mem_of_getElem? (i := 831) (by decide +kernel), List.mem_of_getElem? (i := 832) (by decide +kernel)⟩
theorem lw_p25 : lw_okq (⟨"SurdFractionsModel", "seeks", "(I)I"⟩, 22) := ⟨⟨by decide +kernel, by decide +kernel⟩, List.mem_of_getElem? (i := 682) (by decide +kernel), List.mem_of_getElem? (i := 850) (by decide +kernel), List.mem_of_getElem? (i := 851) (by decide +kernel)⟩
theorem lw_p26 : lw_okq (⟨"SurdFractionsModel", "floorOf", "(I)J"⟩, 22) := ⟨⟨by decide +kernel, by decide +kernel⟩, List.mem_of_getElem? (i := 682) (by decide +kernel), List.mem_of_getElem? (i := 854) (by decide +kernel), List.mem_of_getElem? (i := 855) (by decide +kernel)⟩
theorem lw_p27 : lw_okq (⟨"SurdFractionsModel", "isNearer", "(JJJJ)Z"⟩, 22) := ⟨⟨by decide +kernel, by decide +kernel⟩, List.mem_of_getElem? (i := 682) (by decide +kernel), List.mem_of_getElem? (i := 858) (by decide +kernel), List.mem_of_getElem? (i := 859) (by decide +kernel)⟩
theorem lw_p28 : lw_okq (⟨"SurdFractionsModel", "isAbove", "(JJ)Z"⟩, 22) := ⟨⟨by decide +kernel, by decide +kernel⟩, List.mem_of_getElem? (i := 682) (by decide +kernel), List.mem_of_getElem? (i := 862) (by decide +kernel), List.mem_of_getElem? (i := 863) (by decide +kernel)⟩
theorem lw_p29 : lw_okq (⟨"SurdFractionsModel", "best", "(I)I"⟩, 22) := ⟨⟨by decide +kernel, by decide +kernel⟩, List.mem_of_getElem? (i := 682) (by decide +kernel), List.mem_of_getElem? (i := 866) (by decide +kernel), List.mem_of_getElem? (i := 867) (by decide +kernel)⟩
theorem lw_p30 : lw_okq (⟨"SurdFractionsModel", "solves", "(II)V"⟩, 22) := ⟨⟨by decide +kernel, by decide +kernel⟩, List.mem_of_getElem? (i := 682) (by decide +kernel), List.mem_of_getElem? (i := 888) (by decide +kernel), List.mem_of_getElem? (i := 889) (by decide +kernel)⟩
theorem lw_p31 : lw_okq (⟨"SurdFractionsModel", "reads", "()Z"⟩, 22) := ⟨⟨by decide +kernel, by decide +kernel⟩, List.mem_of_getElem? (i := 682) (by decide +kernel), List.mem_of_getElem? (i := 906) (by decide +kernel), List.mem_of_getElem? (i := 907) (by decide +kernel)⟩
def lw_privs_2 : List (MethodName × Nat) := [(⟨"SurdFractionsModel", "lays", "()V"⟩, 22), (⟨"SurdFractionsModel", "laysOf", "(JJJ)V"⟩, 22), (⟨"SurdFractionsModel", "period", "()I"⟩, 22), (⟨"SurdFractionsModel", "greatest", "(I)I"⟩, 22), (⟨"SurdFractionsModel", "unlike", "(I)I"⟩, 22), (⟨"SurdFractionsModel", "isMirror", "(I)Z"⟩, 22), (⟨"SurdFractionsModel", "goesTo", "(I)Z"⟩, 22), (⟨"SurdFractionsModel", "begins", "()V"⟩, 22), (⟨"SurdFractionsModel", "goesOn", "(J)Z"⟩, 22), (⟨"SurdFractionsModel", "seeks", "(I)I"⟩, 22), (⟨"SurdFractionsModel", "floorOf", "(I)J"⟩, 22), (⟨"SurdFractionsModel", "isNearer", "(JJJJ)Z"⟩, 22), (⟨"SurdFractionsModel", "isAbove", "(JJ)Z"⟩, 22), (⟨"SurdFractionsModel", "best", "(I)I"⟩, 22), (⟨"SurdFractionsModel", "solves", "(II)V"⟩, 22), (⟨"SurdFractionsModel", "reads", "()Z"⟩, 22)]
theorem lw_r2 : ∀ q ∈ lw_privs_2, lw_okq q := List.forall_mem_cons.mpr ⟨lw_p16, List.forall_mem_cons.mpr ⟨lw_p17, List.forall_mem_cons.mpr ⟨lw_p18, List.forall_mem_cons.mpr ⟨lw_p19, List.forall_mem_cons.mpr ⟨lw_p20, List.forall_mem_cons.mpr ⟨lw_p21, List.forall_mem_cons.mpr ⟨lw_p22, List.forall_mem_cons.mpr ⟨lw_p23, List.forall_mem_cons.mpr ⟨lw_p24, List.forall_mem_cons.mpr ⟨lw_p25, List.forall_mem_cons.mpr ⟨lw_p26, List.forall_mem_cons.mpr ⟨lw_p27, List.forall_mem_cons.mpr ⟨lw_p28, List.forall_mem_cons.mpr ⟨lw_p29, List.forall_mem_cons.mpr ⟨lw_p30, List.forall_mem_cons.mpr ⟨lw_p31, fun _ h => absurd h List.not_mem_nil⟩⟩⟩⟩⟩⟩⟩⟩⟩⟩⟩⟩⟩⟩⟩⟩
theorem lw_p32 : lw_okq (⟨"SurdFractionsModel", "passes", "(I)Z"⟩, 22) := ⟨⟨by decide +kernel, by decide +kernel⟩, List.mem_of_getElem? (i := 682) (by decide +kernel), List.mem_of_getElem? (i := 910) (by decide +kernel), List.mem_of_getElem? (i := 911) (by decide +kernel)⟩
theorem lw_p33 : lw_okq (⟨"SurdFractionsModel", "isAt", "(II)Z"⟩, 22) := ⟨⟨by decide +kernel, by decide +kernel⟩, List.mem_of_getElem? (i := 682) (by decide +kernel), List.mem_of_getElem? (i := 914) (by decide +kernel), List.mem_of_getElem? (i := 915) (by decide +kernel)⟩
theorem lw_p34 : lw_okq (⟨"SurdFractionsModel", "number", "()Z"⟩, 22) := ⟨⟨by decide +kernel, by decide +kernel⟩, List.mem_of_getElem? (i := 682) (by decide +kernel), List.mem_of_getElem? (i := 918) (by decide +kernel), List.mem_of_getElem? (i := 919) (by decide +kernel)⟩
theorem lw_p35 : lw_okq (⟨"SurdFractionsModel", "later", "()Z"⟩, 22) := ⟨⟨by decide +kernel, by decide +kernel⟩, List.mem_of_getElem? (i := 682) (by decide +kernel), List.mem_of_getElem? (i := 922) (by decide +kernel), List.mem_of_getElem? (i := 923) (by decide +kernel)⟩
theorem lw_p36 : lw_okq (⟨"SurdFractionsModel", "alike", "()I"⟩, 22) := ⟨⟨by decide +kernel, by decide +kernel⟩, List.mem_of_getElem? (i := 682) (by decide +kernel), List.mem_of_getElem? (i := 931) (by decide +kernel), List.mem_of_getElem? (i := 932) (by decide +kernel)⟩
theorem lw_p37 : lw_okq (⟨"SurdFractionsModel", "tells", "()Z"⟩, 22) := ⟨⟨by decide +kernel, by decide +kernel⟩, List.mem_of_getElem? (i := 682) (by decide +kernel), List.mem_of_getElem? (i := 935) (by decide +kernel), List.mem_of_getElem? (i := 936) (by decide +kernel)⟩
theorem lw_p38 : lw_okq (⟨"SurdFractionsModel", "fits", "()Z"⟩, 22) := ⟨⟨by decide +kernel, by decide +kernel⟩, List.mem_of_getElem? (i := 682) (by decide +kernel), List.mem_of_getElem? (i := 939) (by decide +kernel), List.mem_of_getElem? (i := 940) (by decide +kernel)⟩
theorem lw_p39 : lw_okq (⟨"SurdFractionsModel", "isNoted", "(JJ)Z"⟩, 22) := ⟨⟨by decide +kernel, by decide +kernel⟩, List.mem_of_getElem? (i := 682) (by decide +kernel), List.mem_of_getElem? (i := 949) (by decide +kernel), List.mem_of_getElem? (i := 950) (by decide +kernel)⟩
theorem lw_p40 : lw_okq (⟨"SurdFractionsModel", "upOf", "(I)I"⟩, 22) := ⟨⟨by decide +kernel, by decide +kernel⟩, List.mem_of_getElem? (i := 682) (by decide +kernel), List.mem_of_getElem? (i := 953) (by decide +kernel), List.mem_of_getElem? (i := 954) (by decide +kernel)⟩
theorem lw_p41 : lw_okq (⟨"SurdFractionsModel", "lowOf", "(I)I"⟩, 22) := ⟨⟨by decide +kernel, by decide +kernel⟩, List.mem_of_getElem? (i := 682) (by decide +kernel), List.mem_of_getElem? (i := 957) (by decide +kernel), List.mem_of_getElem? (i := 958) (by decide +kernel)⟩
theorem lw_p42 : lw_okq (⟨"SurdFractionsModel", "placeOf", "(I)I"⟩, 22) := ⟨⟨by decide +kernel, by decide +kernel⟩, List.mem_of_getElem? (i := 682) (by decide +kernel), List.mem_of_getElem? (i := 961) (by decide +kernel), List.mem_of_getElem? (i := 962) (by decide +kernel)⟩
theorem lw_p43 : lw_okq (⟨"SurdFractionsModel", "at", "(I)I"⟩, 22) := ⟨⟨by decide +kernel, by decide +kernel⟩, List.mem_of_getElem? (i := 682) (by decide +kernel), List.mem_of_getElem? (i := 969) (by decide +kernel), List.mem_of_getElem? (i := 970) (by decide +kernel)⟩
theorem lw_p44 : lw_okq (⟨"SurdFractionsModel", "isConvergent", "(II)Z"⟩, 22) := ⟨⟨by decide +kernel, by decide +kernel⟩, List.mem_of_getElem? (i := 682) (by decide +kernel), List.mem_of_getElem? (i := 982) (by decide +kernel), List.mem_of_getElem? (i := 983) (by decide +kernel)⟩
theorem lw_p45 : lw_okq (⟨"SurdFractionsModel", "aboveOnes", "()I"⟩, 22) := ⟨⟨by decide +kernel, by decide +kernel⟩, List.mem_of_getElem? (i := 682) (by decide +kernel), List.mem_of_getElem? (i := 990) (by decide +kernel), List.mem_of_getElem? (i := 991) (by decide +kernel)⟩
def lw_privs_3 : List (MethodName × Nat) := [(⟨"SurdFractionsModel", "passes", "(I)Z"⟩, 22), (⟨"SurdFractionsModel", "isAt", "(II)Z"⟩, 22), (⟨"SurdFractionsModel", "number", "()Z"⟩, 22), (⟨"SurdFractionsModel", "later", "()Z"⟩, 22), (⟨"SurdFractionsModel", "alike", "()I"⟩, 22), (⟨"SurdFractionsModel", "tells", "()Z"⟩, 22), (⟨"SurdFractionsModel", "fits", "()Z"⟩, 22), (⟨"SurdFractionsModel", "isNoted", "(JJ)Z"⟩, 22), (⟨"SurdFractionsModel", "upOf", "(I)I"⟩, 22), (⟨"SurdFractionsModel", "lowOf", "(I)I"⟩, 22), (⟨"SurdFractionsModel", "placeOf", "(I)I"⟩, 22), (⟨"SurdFractionsModel", "at", "(I)I"⟩, 22), (⟨"SurdFractionsModel", "isConvergent", "(II)Z"⟩, 22), (⟨"SurdFractionsModel", "aboveOnes", "()I"⟩, 22)]
theorem lw_r3 : ∀ q ∈ lw_privs_3, lw_okq q := List.forall_mem_cons.mpr ⟨lw_p32, List.forall_mem_cons.mpr ⟨lw_p33, List.forall_mem_cons.mpr ⟨lw_p34, List.forall_mem_cons.mpr ⟨lw_p35, List.forall_mem_cons.mpr ⟨lw_p36, List.forall_mem_cons.mpr ⟨lw_p37, List.forall_mem_cons.mpr ⟨lw_p38, List.forall_mem_cons.mpr ⟨lw_p39, List.forall_mem_cons.mpr ⟨lw_p40, List.forall_mem_cons.mpr ⟨lw_p41, List.forall_mem_cons.mpr ⟨lw_p42, List.forall_mem_cons.mpr ⟨lw_p43, List.forall_mem_cons.mpr ⟨lw_p44, List.forall_mem_cons.mpr ⟨lw_p45, fun _ h => absurd h List.not_mem_nil⟩⟩⟩⟩⟩⟩⟩⟩⟩⟩⟩⟩⟩⟩
def lw_privs : List (MethodName × Nat) := lw_privs_1 ++ (lw_privs_2 ++ (lw_privs_3))
def lw_tbl : List Cond := k2_sels lw_privs ++ tables_1
theorem lw_privs_ok : ∀ q ∈ lw_privs, lw_okq q := by
  show ∀ q ∈ lw_privs_1 ++ (lw_privs_2 ++ (lw_privs_3)), lw_okq q
  exact List.forall_mem_append.mpr ⟨lw_r1, List.forall_mem_append.mpr ⟨lw_r2, lw_r3⟩⟩
-- ===== end of PART A; then your names; then what follows =====
end
section
/-! names, fields: out of the printed NAMES (claim) -/
def RX0 : String := "SurdFractions$Book"
def TX0 : u_T := fun k => match k with
  | 0 => ("SurdFractions$Book", "uppers", "[I", true)
  | 1 => ("SurdFractions$Book", "lowers", "[I", true)
  | _ => ("SurdFractions$Book", "size", "I", false)
def tyX0 : Nat → FieldType := fun k => match k with
  | 0 => .array .int
  | 1 => .array .int
  | _ => .int
abbrev wsX00 : List Cond := u_ws RX0 TX0 3
theorem nmX0 : ∀ a, a < 3 → ∀ b, b < 3 → a ≠ b → (TX0 a).2.1 ≠ (TX0 b).2.1 := by decide +kernel
theorem tyX0_ok : ∀ k, k < 3 → parseFieldDescriptor (TX0 k).2.2.1 = some (tyX0 k) := by decide +kernel
abbrev cX0_init : ByteArray := prog_2_method_1_code
def yX0_init : MethodName := ⟨RX0, "<init>", "()V"⟩
abbrev cX0_upperAt : ByteArray := prog_2_method_2_code
def yX0_upperAt : MethodName := ⟨RX0, "upperAt", "(I)I"⟩
abbrev cX0_lowerAt : ByteArray := prog_2_method_3_code
def yX0_lowerAt : MethodName := ⟨RX0, "lowerAt", "(I)I"⟩
abbrev cX0_put : ByteArray := prog_2_method_4_code
def yX0_put : MethodName := ⟨RX0, "put", "(III)V"⟩
abbrev cX0_has : ByteArray := prog_2_method_5_code
def yX0_has : MethodName := ⟨RX0, "has", "(JJ)Z"⟩
abbrev cX0_add : ByteArray := prog_2_method_6_code
def yX0_add : MethodName := ⟨RX0, "add", "(LSurdFractions$Surd;II)I"⟩
abbrev cX0_remove : ByteArray := prog_2_method_7_code
def yX0_remove : MethodName := ⟨RX0, "remove", "(I)V"⟩
abbrev cX0_putInOrder : ByteArray := prog_2_method_8_code
def yX0_putInOrder : MethodName := ⟨RX0, "putInOrder", "(LSurdFractions$Surd;)V"⟩
abbrev cX0_countAbove : ByteArray := prog_2_method_9_code
def yX0_countAbove : MethodName := ⟨RX0, "countAbove", "(LSurdFractions$Surd;)I"⟩
abbrev cX0_copyFrom : ByteArray := prog_2_method_10_code
def yX0_copyFrom : MethodName := ⟨RX0, "copyFrom", "(LSurdFractions$Book;)V"⟩
def RX1 : String := "SurdFractions$Chain"
def TX1 : u_T := fun k => match k with
  | 0 => ("SurdFractions$Chain", "upper", "J", false)
  | 1 => ("SurdFractions$Chain", "lower", "J", false)
  | 2 => ("SurdFractions$Chain", "isOver", "Z", false)
  | 3 => ("SurdFractions$Chain", "upperAhead", "J", false)
  | _ => ("SurdFractions$Chain", "lowerAhead", "J", false)
def tyX1 : Nat → FieldType := fun k => match k with
  | 0 => .long
  | 1 => .long
  | 2 => .boolean
  | 3 => .long
  | _ => .long
abbrev wsX10 : List Cond := u_ws RX1 TX1 5
theorem nmX1 : ∀ a, a < 5 → ∀ b, b < 5 → a ≠ b → (TX1 a).2.1 ≠ (TX1 b).2.1 := by decide +kernel
theorem tyX1_ok : ∀ k, k < 5 → parseFieldDescriptor (TX1 k).2.2.1 = some (tyX1 k) := by decide +kernel
abbrev cX1_init : ByteArray := prog_3_method_1_code
def yX1_init : MethodName := ⟨RX1, "<init>", "()V"⟩
abbrev cX1_begin : ByteArray := prog_3_method_2_code
def yX1_begin : MethodName := ⟨RX1, "begin", "()V"⟩
abbrev cX1_add : ByteArray := prog_3_method_3_code
def yX1_add : MethodName := ⟨RX1, "add", "(J)V"⟩
abbrev cX1_isTooGreat : ByteArray := prog_3_method_4_code
def yX1_isTooGreat : MethodName := ⟨RX1, "isTooGreat", "(JJJ)Z"⟩
def RX2 : String := "SurdFractions$Expansion"
def TX2 : u_T := fun k => match k with
  | 0 => ("SurdFractions$Expansion", "terms", "[I", true)
  | 1 => ("SurdFractions$Expansion", "uppers", "[J", true)
  | 2 => ("SurdFractions$Expansion", "lowers", "[J", true)
  | 3 => ("SurdFractions$Expansion", "steps", "LSurdFractions$Steps;", true)
  | 4 => ("SurdFractions$Expansion", "chain", "LSurdFractions$Chain;", true)
  | 5 => ("SurdFractions$Expansion", "leadTop", "J", false)
  | 6 => ("SurdFractions$Expansion", "leadBottom", "J", false)
  | 7 => ("SurdFractions$Expansion", "lead", "I", false)
  | 8 => ("SurdFractions$Expansion", "period", "I", false)
  | _ => ("SurdFractions$Expansion", "convergents", "I", false)
def tyX2 : Nat → FieldType := fun k => match k with
  | 0 => .array .int
  | 1 => .array .long
  | 2 => .array .long
  | 3 => .object "SurdFractions$Steps"
  | 4 => .object "SurdFractions$Chain"
  | 5 => .long
  | 6 => .long
  | 7 => .int
  | 8 => .int
  | _ => .int
abbrev wsX20 : List Cond := u_ws RX2 TX2 10
theorem nmX2 : ∀ a, a < 10 → ∀ b, b < 10 → a ≠ b → (TX2 a).2.1 ≠ (TX2 b).2.1 := by decide +kernel
theorem tyX2_ok : ∀ k, k < 10 → parseFieldDescriptor (TX2 k).2.2.1 = some (tyX2 k) := by decide +kernel
abbrev cX2_init : ByteArray := prog_4_method_1_code
def yX2_init : MethodName := ⟨RX2, "<init>", "()V"⟩
abbrev cX2_unfold : ByteArray := prog_4_method_2_code
def yX2_unfold : MethodName := ⟨RX2, "unfold", "(LSurdFractions$Surd;)V"⟩
abbrev cX2_lookForPeriod : ByteArray := prog_4_method_3_code
def yX2_lookForPeriod : MethodName := ⟨RX2, "lookForPeriod", "(I)V"⟩
abbrev cX2_chainConvergents : ByteArray := prog_4_method_4_code
def yX2_chainConvergents : MethodName := ⟨RX2, "chainConvergents", "()V"⟩
abbrev cX2_termAt : ByteArray := prog_4_method_5_code
def yX2_termAt : MethodName := ⟨RX2, "termAt", "(I)I"⟩
abbrev cX2_upperAt : ByteArray := prog_4_method_6_code
def yX2_upperAt : MethodName := ⟨RX2, "upperAt", "(I)J"⟩
abbrev cX2_lowerAt : ByteArray := prog_4_method_7_code
def yX2_lowerAt : MethodName := ⟨RX2, "lowerAt", "(I)J"⟩
abbrev cX2_comesAgain : ByteArray := prog_4_method_8_code
def yX2_comesAgain : MethodName := ⟨RX2, "comesAgain", "()Z"⟩
abbrev cX2_greatestOfPeriod : ByteArray := prog_4_method_9_code
def yX2_greatestOfPeriod : MethodName := ⟨RX2, "greatestOfPeriod", "()I"⟩
abbrev cX2_unlikeOfPeriod : ByteArray := prog_4_method_10_code
def yX2_unlikeOfPeriod : MethodName := ⟨RX2, "unlikeOfPeriod", "()I"⟩
abbrev cX2_isNewInPeriod : ByteArray := prog_4_method_11_code
def yX2_isNewInPeriod : MethodName := ⟨RX2, "isNewInPeriod", "(I)Z"⟩
abbrev cX2_isPeriodMirrored : ByteArray := prog_4_method_12_code
def yX2_isPeriodMirrored : MethodName := ⟨RX2, "isPeriodMirrored", "()Z"⟩
abbrev cX2_hasConvergent : ByteArray := prog_4_method_13_code
def yX2_hasConvergent : MethodName := ⟨RX2, "hasConvergent", "(JJ)Z"⟩
abbrev cX2_countShared : ByteArray := prog_4_method_14_code
def yX2_countShared : MethodName := ⟨RX2, "countShared", "(LSurdFractions$Text;)I"⟩
def RX3 : String := "SurdFractions$History"
def TX3 : u_T := fun k => match k with
  | 0 => ("SurdFractions$History", "states", "[LSurdFractions$State;", true)
  | _ => ("SurdFractions$History", "size", "I", false)
def tyX3 : Nat → FieldType := fun k => match k with
  | 0 => .array (.object "SurdFractions$State")
  | _ => .int
abbrev wsX30 : List Cond := u_ws RX3 TX3 2
theorem nmX3 : ∀ a, a < 2 → ∀ b, b < 2 → a ≠ b → (TX3 a).2.1 ≠ (TX3 b).2.1 := by decide +kernel
theorem tyX3_ok : ∀ k, k < 2 → parseFieldDescriptor (TX3 k).2.2.1 = some (tyX3 k) := by decide +kernel
abbrev cX3_init : ByteArray := prog_5_method_1_code
def yX3_init : MethodName := ⟨RX3, "<init>", "()V"⟩
abbrev cX3_keep : ByteArray := prog_5_method_2_code
def yX3_keep : MethodName := ⟨RX3, "keep", "(LSurdFractions$State;)V"⟩
abbrev cX3_takeBack : ByteArray := prog_5_method_3_code
def yX3_takeBack : MethodName := ⟨RX3, "takeBack", "(LSurdFractions$State;)V"⟩
abbrev cX3_dropOldest : ByteArray := prog_5_method_4_code
def yX3_dropOldest : MethodName := ⟨RX3, "dropOldest", "()V"⟩
def RX4 : String := "SurdFractions$Neighbours"
def TX4 : u_T := fun k => match k with
  | 0 => ("SurdFractions$Neighbours", "belowUpper", "J", false)
  | 1 => ("SurdFractions$Neighbours", "belowLower", "J", false)
  | 2 => ("SurdFractions$Neighbours", "aboveUpper", "J", false)
  | 3 => ("SurdFractions$Neighbours", "aboveLower", "J", false)
  | _ => ("SurdFractions$Neighbours", "recordsMet", "I", false)
def tyX4 : Nat → FieldType := fun k => match k with
  | 0 => .long
  | 1 => .long
  | 2 => .long
  | 3 => .long
  | _ => .int
abbrev wsX40 : List Cond := u_ws RX4 TX4 5
theorem nmX4 : ∀ a, a < 5 → ∀ b, b < 5 → a ≠ b → (TX4 a).2.1 ≠ (TX4 b).2.1 := by decide +kernel
theorem tyX4_ok : ∀ k, k < 5 → parseFieldDescriptor (TX4 k).2.2.1 = some (tyX4 k) := by decide +kernel
abbrev cX4_init : ByteArray := prog_6_method_1_code
def yX4_init : MethodName := ⟨RX4, "<init>", "()V"⟩
abbrev cX4_find : ByteArray := prog_6_method_2_code
def yX4_find : MethodName := ⟨RX4, "find", "(LSurdFractions$Surd;II)V"⟩
abbrev cX4_takeMediant : ByteArray := prog_6_method_3_code
def yX4_takeMediant : MethodName := ⟨RX4, "takeMediant", "(LSurdFractions$Surd;)V"⟩
abbrev cX4_isAboveNearer : ByteArray := prog_6_method_4_code
def yX4_isAboveNearer : MethodName := ⟨RX4, "isAboveNearer", "(LSurdFractions$Surd;)Z"⟩
def RX5 : String := "SurdFractions$Squares"
def TX5 : u_T := fun k => match k with
  | 0 => ("SurdFractions$Squares", "steps", "LSurdFractions$Steps;", true)
  | 1 => ("SurdFractions$Squares", "chain", "LSurdFractions$Chain;", true)
  | 2 => ("SurdFractions$Squares", "met", "I", false)
  | 3 => ("SurdFractions$Squares", "x", "J", false)
  | _ => ("SurdFractions$Squares", "y", "J", false)
def tyX5 : Nat → FieldType := fun k => match k with
  | 0 => .object "SurdFractions$Steps"
  | 1 => .object "SurdFractions$Chain"
  | 2 => .int
  | 3 => .long
  | _ => .long
abbrev wsX50 : List Cond := u_ws RX5 TX5 5
theorem nmX5 : ∀ a, a < 5 → ∀ b, b < 5 → a ≠ b → (TX5 a).2.1 ≠ (TX5 b).2.1 := by decide +kernel
theorem tyX5_ok : ∀ k, k < 5 → parseFieldDescriptor (TX5 k).2.2.1 = some (tyX5 k) := by decide +kernel
abbrev cX5_init : ByteArray := prog_7_method_1_code
def yX5_init : MethodName := ⟨RX5, "<init>", "()V"⟩
abbrev cX5_countAll : ByteArray := prog_7_method_2_code
def yX5_countAll : MethodName := ⟨RX5, "countAll", "(II)I"⟩
abbrev cX5_find : ByteArray := prog_7_method_3_code
def yX5_find : MethodName := ⟨RX5, "find", "(III)Z"⟩
abbrev cX5_goToRootOf : ByteArray := prog_7_method_4_code
def yX5_goToRootOf : MethodName := ⟨RX5, "goToRootOf", "(J)V"⟩
abbrev cX5_findLeast : ByteArray := prog_7_method_5_code
def yX5_findLeast : MethodName := ⟨RX5, "findLeast", "(I)Z"⟩
def RX6 : String := "SurdFractions$State"
def TX6 : u_T := fun k => match k with
  | 0 => ("SurdFractions$State", "surd", "LSurdFractions$Surd;", true)
  | _ => ("SurdFractions$State", "book", "LSurdFractions$Book;", true)
def tyX6 : Nat → FieldType := fun k => match k with
  | 0 => .object "SurdFractions$Surd"
  | _ => .object "SurdFractions$Book"
abbrev wsX60 : List Cond := u_ws RX6 TX6 2
theorem nmX6 : ∀ a, a < 2 → ∀ b, b < 2 → a ≠ b → (TX6 a).2.1 ≠ (TX6 b).2.1 := by decide +kernel
theorem tyX6_ok : ∀ k, k < 2 → parseFieldDescriptor (TX6 k).2.2.1 = some (tyX6 k) := by decide +kernel
abbrev cX6_init : ByteArray := prog_8_method_1_code
def yX6_init : MethodName := ⟨RX6, "<init>", "()V"⟩
abbrev cX6_copyFrom : ByteArray := prog_8_method_2_code
def yX6_copyFrom : MethodName := ⟨RX6, "copyFrom", "(LSurdFractions$State;)V"⟩
def RX7 : String := "SurdFractions$Steps"
def TX7 : u_T := fun k => match k with
  | 0 => ("SurdFractions$Steps", "top", "J", false)
  | 1 => ("SurdFractions$Steps", "bottom", "J", false)
  | 2 => ("SurdFractions$Steps", "square", "J", false)
  | _ => ("SurdFractions$Steps", "root", "J", false)
def tyX7 : Nat → FieldType := fun k => match k with
  | 0 => .long
  | 1 => .long
  | 2 => .long
  | _ => .long
abbrev wsX70 : List Cond := u_ws RX7 TX7 4
theorem nmX7 : ∀ a, a < 4 → ∀ b, b < 4 → a ≠ b → (TX7 a).2.1 ≠ (TX7 b).2.1 := by decide +kernel
theorem tyX7_ok : ∀ k, k < 4 → parseFieldDescriptor (TX7 k).2.2.1 = some (tyX7 k) := by decide +kernel
abbrev cX7_init : ByteArray := prog_9_method_1_code
def yX7_init : MethodName := ⟨RX7, "<init>", "()V"⟩
abbrev cX7_begin : ByteArray := prog_9_method_2_code
def yX7_begin : MethodName := ⟨RX7, "begin", "(JJJ)V"⟩
abbrev cX7_whole : ByteArray := prog_9_method_3_code
def yX7_whole : MethodName := ⟨RX7, "whole", "()J"⟩
abbrev cX7_advance : ByteArray := prog_9_method_4_code
def yX7_advance : MethodName := ⟨RX7, "advance", "()V"⟩
abbrev cX7_isReduced : ByteArray := prog_9_method_5_code
def yX7_isReduced : MethodName := ⟨RX7, "isReduced", "()Z"⟩
abbrev cX7_rootOf : ByteArray := prog_9_method_6_code
def yX7_rootOf : MethodName := ⟨RX7, "rootOf", "(J)J"⟩
def RX8 : String := "SurdFractions$Surd"
def TX8 : u_T := fun k => match k with
  | 0 => ("SurdFractions$Surd", "p", "I", false)
  | 1 => ("SurdFractions$Surd", "d", "I", false)
  | _ => ("SurdFractions$Surd", "q", "I", false)
def tyX8 : Nat → FieldType := fun k => match k with
  | 0 => .int
  | 1 => .int
  | _ => .int
abbrev wsX80 : List Cond := u_ws RX8 TX8 3
theorem nmX8 : ∀ a, a < 3 → ∀ b, b < 3 → a ≠ b → (TX8 a).2.1 ≠ (TX8 b).2.1 := by decide +kernel
theorem tyX8_ok : ∀ k, k < 3 → parseFieldDescriptor (TX8 k).2.2.1 = some (tyX8 k) := by decide +kernel
abbrev cX8_init : ByteArray := prog_10_method_1_code
def yX8_init : MethodName := ⟨RX8, "<init>", "()V"⟩
abbrev cX8_set : ByteArray := prog_10_method_2_code
def yX8_set : MethodName := ⟨RX8, "set", "(III)V"⟩
abbrev cX8_isPassedBy : ByteArray := prog_10_method_3_code
def yX8_isPassedBy : MethodName := ⟨RX8, "isPassedBy", "(JJ)Z"⟩
abbrev cX8_isNearer : ByteArray := prog_10_method_4_code
def yX8_isNearer : MethodName := ⟨RX8, "isNearer", "(JJJJ)Z"⟩
def RX9 : String := "SurdFractions$Text"
def TX9 : u_T := fun k => match k with
  | 0 => ("SurdFractions$Text", "characters", "[C", true)
  | 1 => ("SurdFractions$Text", "terms", "[I", true)
  | 2 => ("SurdFractions$Text", "length", "I", false)
  | 3 => ("SurdFractions$Text", "termCount", "I", false)
  | 4 => ("SurdFractions$Text", "faultPlace", "I", false)
  | _ => ("SurdFractions$Text", "faultReason", "I", false)
def tyX9 : Nat → FieldType := fun k => match k with
  | 0 => .array .char
  | 1 => .array .int
  | 2 => .int
  | 3 => .int
  | 4 => .int
  | _ => .int
abbrev wsX90 : List Cond := u_ws RX9 TX9 6
theorem nmX9 : ∀ a, a < 6 → ∀ b, b < 6 → a ≠ b → (TX9 a).2.1 ≠ (TX9 b).2.1 := by decide +kernel
theorem tyX9_ok : ∀ k, k < 6 → parseFieldDescriptor (TX9 k).2.2.1 = some (tyX9 k) := by decide +kernel
abbrev cX9_init : ByteArray := prog_11_method_1_code
def yX9_init : MethodName := ⟨RX9, "<init>", "()V"⟩
abbrev cX9_append : ByteArray := prog_11_method_2_code
def yX9_append : MethodName := ⟨RX9, "append", "(C)V"⟩
abbrev cX9_characterAt : ByteArray := prog_11_method_3_code
def yX9_characterAt : MethodName := ⟨RX9, "characterAt", "(I)C"⟩
abbrev cX9_digitAt : ByteArray := prog_11_method_4_code
def yX9_digitAt : MethodName := ⟨RX9, "digitAt", "(I)I"⟩
abbrev cX9_hasFault : ByteArray := prog_11_method_5_code
def yX9_hasFault : MethodName := ⟨RX9, "hasFault", "()Z"⟩
abbrev cX9_termAt : ByteArray := prog_11_method_6_code
def yX9_termAt : MethodName := ⟨RX9, "termAt", "(I)I"⟩
abbrev cX9_read : ByteArray := prog_11_method_7_code
def yX9_read : MethodName := ⟨RX9, "read", "()V"⟩
abbrev cX9_readNumber : ByteArray := prog_11_method_8_code
def yX9_readNumber : MethodName := ⟨RX9, "readNumber", "(IZ)I"⟩
abbrev cX9_setFault : ByteArray := prog_11_method_9_code
def yX9_setFault : MethodName := ⟨RX9, "setFault", "(II)V"⟩
abbrev cX9_addTerm : ByteArray := prog_11_method_10_code
def yX9_addTerm : MethodName := ⟨RX9, "addTerm", "(I)V"⟩
abbrev cX9_chainTerms : ByteArray := prog_11_method_11_code
def yX9_chainTerms : MethodName := ⟨RX9, "chainTerms", "(LSurdFractions$Chain;)V"⟩
def RX10 : String := "SurdFractions"
def TX10 : u_T := fun k => match k with
  | 0 => ("SurdFractions", "now", "LSurdFractions$State;", true)
  | 1 => ("SurdFractions", "history", "LSurdFractions$History;", true)
  | 2 => ("SurdFractions", "expansion", "LSurdFractions$Expansion;", true)
  | 3 => ("SurdFractions", "neighbours", "LSurdFractions$Neighbours;", true)
  | 4 => ("SurdFractions", "squares", "LSurdFractions$Squares;", true)
  | 5 => ("SurdFractions", "text", "LSurdFractions$Text;", true)
  | _ => ("SurdFractions", "fraction", "LSurdFractions$Chain;", true)
def tyX10 : Nat → FieldType := fun k => match k with
  | 0 => .object "SurdFractions$State"
  | 1 => .object "SurdFractions$History"
  | 2 => .object "SurdFractions$Expansion"
  | 3 => .object "SurdFractions$Neighbours"
  | 4 => .object "SurdFractions$Squares"
  | 5 => .object "SurdFractions$Text"
  | _ => .object "SurdFractions$Chain"
abbrev wsX100 : List Cond := u_ws RX10 TX10 7
theorem nmX10 : ∀ a, a < 7 → ∀ b, b < 7 → a ≠ b → (TX10 a).2.1 ≠ (TX10 b).2.1 := by decide +kernel
theorem tyX10_ok : ∀ k, k < 7 → parseFieldDescriptor (TX10 k).2.2.1 = some (tyX10 k) := by decide +kernel
abbrev cX10_init : ByteArray := prog_1_method_1_code
def yX10_init : MethodName := ⟨RX10, "<init>", "()V"⟩
abbrev cX10_surd : ByteArray := prog_1_method_2_code
def yX10_surd : MethodName := ⟨RX10, "surd", "(III)I"⟩
abbrev cX10_partOf : ByteArray := prog_1_method_3_code
def yX10_partOf : MethodName := ⟨RX10, "partOf", "(I)I"⟩
abbrev cX10_term : ByteArray := prog_1_method_4_code
def yX10_term : MethodName := ⟨RX10, "term", "(I)I"⟩
abbrev cX10_again : ByteArray := prog_1_method_5_code
def yX10_again : MethodName := ⟨RX10, "again", "(I)I"⟩
abbrev cX10_convergent : ByteArray := prog_1_method_6_code
def yX10_convergent : MethodName := ⟨RX10, "convergent", "(II)J"⟩
abbrev cX10_between : ByteArray := prog_1_method_7_code
def yX10_between : MethodName := ⟨RX10, "between", "(III)J"⟩
abbrev cX10_nearest : ByteArray := prog_1_method_8_code
def yX10_nearest : MethodName := ⟨RX10, "nearest", "(II)I"⟩
abbrev cX10_beside : ByteArray := prog_1_method_9_code
def yX10_beside : MethodName := ⟨RX10, "beside", "(III)I"⟩
abbrev cX10_records : ByteArray := prog_1_method_10_code
def yX10_records : MethodName := ⟨RX10, "records", "(I)I"⟩
abbrev cX10_solution : ByteArray := prog_1_method_11_code
def yX10_solution : MethodName := ⟨RX10, "solution", "(III)I"⟩
abbrev cX10_solutions : ByteArray := prog_1_method_12_code
def yX10_solutions : MethodName := ⟨RX10, "solutions", "(I)I"⟩
abbrev cX10_leastSolution : ByteArray := prog_1_method_13_code
def yX10_leastSolution : MethodName := ⟨RX10, "leastSolution", "(I)J"⟩
abbrev cX10_note : ByteArray := prog_1_method_14_code
def yX10_note : MethodName := ⟨RX10, "note", "()I"⟩
abbrev cX10_strike : ByteArray := prog_1_method_15_code
def yX10_strike : MethodName := ⟨RX10, "strike", "(I)I"⟩
abbrev cX10_strikeAll : ByteArray := prog_1_method_16_code
def yX10_strikeAll : MethodName := ⟨RX10, "strikeAll", "()I"⟩
abbrev cX10_noteOf : ByteArray := prog_1_method_17_code
def yX10_noteOf : MethodName := ⟨RX10, "noteOf", "(II)I"⟩
abbrev cX10_count : ByteArray := prog_1_method_18_code
def yX10_count : MethodName := ⟨RX10, "count", "(I)I"⟩
abbrev cX10_undo : ByteArray := prog_1_method_19_code
def yX10_undo : MethodName := ⟨RX10, "undo", "()I"⟩
abbrev cX10_type : ByteArray := prog_1_method_20_code
def yX10_type : MethodName := ⟨RX10, "type", "(I)I"⟩
abbrev cX10_clearText : ByteArray := prog_1_method_21_code
def yX10_clearText : MethodName := ⟨RX10, "clearText", "()I"⟩
abbrev cX10_fault : ByteArray := prog_1_method_22_code
def yX10_fault : MethodName := ⟨RX10, "fault", "(I)I"⟩
abbrev cX10_told : ByteArray := prog_1_method_23_code
def yX10_told : MethodName := ⟨RX10, "told", "(I)J"⟩
abbrev cX10_toldAbove : ByteArray := prog_1_method_24_code
def yX10_toldAbove : MethodName := ⟨RX10, "toldAbove", "()J"⟩
abbrev cX10_toldPart : ByteArray := prog_1_method_25_code
def yX10_toldPart : MethodName := ⟨RX10, "toldPart", "(I)J"⟩
abbrev cX10_neighbourPart : ByteArray := prog_1_method_26_code
def yX10_neighbourPart : MethodName := ⟨RX10, "neighbourPart", "(ZI)I"⟩
abbrev cX10_isWithin : ByteArray := prog_1_method_27_code
def yX10_isWithin : MethodName := ⟨RX10, "isWithin", "(III)Z"⟩
abbrev cX10_isRightSide : ByteArray := prog_1_method_28_code
def yX10_isRightSide : MethodName := ⟨RX10, "isRightSide", "(I)Z"⟩
abbrev cX10_isSquare : ByteArray := prog_1_method_29_code
def yX10_isSquare : MethodName := ⟨RX10, "isSquare", "(I)Z"⟩
abbrev cX10_fitsBook : ByteArray := prog_1_method_30_code
def yX10_fitsBook : MethodName := ⟨RX10, "fitsBook", "(LSurdFractions$Chain;)Z"⟩
abbrev cX10_oneIf : ByteArray := prog_1_method_31_code
def yX10_oneIf : MethodName := ⟨RX10, "oneIf", "(Z)I"⟩
def RX11 : String := "SurdFractionsModel"
def TX11 : u_T := fun k => match k with
  | 0 => ("SurdFractionsModel", "s", "[I", true)
  | 1 => ("SurdFractionsModel", "past", "[I", true)
  | 2 => ("SurdFractionsModel", "pasts", "I", false)
  | 3 => ("SurdFractionsModel", "text", "[I", true)
  | 4 => ("SurdFractionsModel", "typed", "I", false)
  | 5 => ("SurdFractionsModel", "terms", "[I", true)
  | 6 => ("SurdFractionsModel", "over", "[J", true)
  | 7 => ("SurdFractionsModel", "under", "[J", true)
  | 8 => ("SurdFractionsModel", "lead", "I", false)
  | 9 => ("SurdFractionsModel", "up", "J", false)
  | 10 => ("SurdFractionsModel", "low", "J", false)
  | 11 => ("SurdFractionsModel", "upAhead", "J", false)
  | 12 => ("SurdFractionsModel", "lowAhead", "J", false)
  | 13 => ("SurdFractionsModel", "bestUp", "J", false)
  | 14 => ("SurdFractionsModel", "bestLow", "I", false)
  | 15 => ("SurdFractionsModel", "solved", "I", false)
  | 16 => ("SurdFractionsModel", "xNow", "I", false)
  | 17 => ("SurdFractionsModel", "yNow", "I", false)
  | 18 => ("SurdFractionsModel", "spot", "I", false)
  | 19 => ("SurdFractionsModel", "reason", "I", false)
  | 20 => ("SurdFractionsModel", "parts", "I", false)
  | _ => ("SurdFractionsModel", "row", "[I", true)
def tyX11 : Nat → FieldType := fun k => match k with
  | 0 => .array .int
  | 1 => .array .int
  | 2 => .int
  | 3 => .array .int
  | 4 => .int
  | 5 => .array .int
  | 6 => .array .long
  | 7 => .array .long
  | 8 => .int
  | 9 => .long
  | 10 => .long
  | 11 => .long
  | 12 => .long
  | 13 => .long
  | 14 => .int
  | 15 => .int
  | 16 => .int
  | 17 => .int
  | 18 => .int
  | 19 => .int
  | 20 => .int
  | _ => .array .int
abbrev wsX110 : List Cond := u_ws RX11 TX11 22
theorem nmX11 : ∀ a, a < 22 → ∀ b, b < 22 → a ≠ b → (TX11 a).2.1 ≠ (TX11 b).2.1 := by decide +kernel
theorem tyX11_ok : ∀ k, k < 22 → parseFieldDescriptor (TX11 k).2.2.1 = some (tyX11 k) := by decide +kernel
abbrev cX11_init : ByteArray := prog_13_method_1_code
def yX11_init : MethodName := ⟨RX11, "<init>", "()V"⟩
abbrev cX11_in : ByteArray := prog_13_method_3_code
def yX11_in : MethodName := ⟨RX11, "in", "(JJJ)Z"⟩
abbrev cX11_changes : ByteArray := prog_13_method_4_code
def yX11_changes : MethodName := ⟨RX11, "changes", "()V"⟩
abbrev cX11_root : ByteArray := prog_13_method_5_code
def yX11_root : MethodName := ⟨RX11, "root", "(J)J"⟩
abbrev cX11_down : ByteArray := prog_13_method_6_code
def yX11_down : MethodName := ⟨RX11, "down", "(JJ)J"⟩
abbrev cX11_surd : ByteArray := prog_13_method_7_code
def yX11_surd : MethodName := ⟨RX11, "surd", "(III)I"⟩
abbrev cX11_partOf : ByteArray := prog_13_method_8_code
def yX11_partOf : MethodName := ⟨RX11, "partOf", "(I)I"⟩
abbrev cX11_laysOf : ByteArray := prog_13_method_9_code
def yX11_laysOf : MethodName := ⟨RX11, "laysOf", "(JJJ)V"⟩
abbrev cX11_lays : ByteArray := prog_13_method_10_code
def yX11_lays : MethodName := ⟨RX11, "lays", "()V"⟩
abbrev cX11_term : ByteArray := prog_13_method_11_code
def yX11_term : MethodName := ⟨RX11, "term", "(I)I"⟩
abbrev cX11_period : ByteArray := prog_13_method_12_code
def yX11_period : MethodName := ⟨RX11, "period", "()I"⟩
abbrev cX11_greatest : ByteArray := prog_13_method_13_code
def yX11_greatest : MethodName := ⟨RX11, "greatest", "(I)I"⟩
abbrev cX11_unlike : ByteArray := prog_13_method_14_code
def yX11_unlike : MethodName := ⟨RX11, "unlike", "(I)I"⟩
abbrev cX11_isMirror : ByteArray := prog_13_method_15_code
def yX11_isMirror : MethodName := ⟨RX11, "isMirror", "(I)Z"⟩
abbrev cX11_again : ByteArray := prog_13_method_16_code
def yX11_again : MethodName := ⟨RX11, "again", "(I)I"⟩
abbrev cX11_size : ByteArray := prog_13_method_17_code
def yX11_size : MethodName := ⟨RX11, "size", "(J)J"⟩
abbrev cX11_begins : ByteArray := prog_13_method_18_code
def yX11_begins : MethodName := ⟨RX11, "begins", "()V"⟩
abbrev cX11_goesOn : ByteArray := prog_13_method_19_code
def yX11_goesOn : MethodName := ⟨RX11, "goesOn", "(J)Z"⟩
abbrev cX11_goesTo : ByteArray := prog_13_method_20_code
def yX11_goesTo : MethodName := ⟨RX11, "goesTo", "(I)Z"⟩
abbrev cX11_convergent : ByteArray := prog_13_method_21_code
def yX11_convergent : MethodName := ⟨RX11, "convergent", "(II)J"⟩
abbrev cX11_between : ByteArray := prog_13_method_22_code
def yX11_between : MethodName := ⟨RX11, "between", "(III)J"⟩
abbrev cX11_isAbove : ByteArray := prog_13_method_23_code
def yX11_isAbove : MethodName := ⟨RX11, "isAbove", "(JJ)Z"⟩
abbrev cX11_isNearer : ByteArray := prog_13_method_24_code
def yX11_isNearer : MethodName := ⟨RX11, "isNearer", "(JJJJ)Z"⟩
abbrev cX11_floorOf : ByteArray := prog_13_method_25_code
def yX11_floorOf : MethodName := ⟨RX11, "floorOf", "(I)J"⟩
abbrev cX11_seeks : ByteArray := prog_13_method_26_code
def yX11_seeks : MethodName := ⟨RX11, "seeks", "(I)I"⟩
abbrev cX11_best : ByteArray := prog_13_method_27_code
def yX11_best : MethodName := ⟨RX11, "best", "(I)I"⟩
abbrev cX11_nearest : ByteArray := prog_13_method_28_code
def yX11_nearest : MethodName := ⟨RX11, "nearest", "(II)I"⟩
abbrev cX11_beside : ByteArray := prog_13_method_29_code
def yX11_beside : MethodName := ⟨RX11, "beside", "(III)I"⟩
abbrev cX11_records : ByteArray := prog_13_method_30_code
def yX11_records : MethodName := ⟨RX11, "records", "(I)I"⟩
abbrev cX11_solves : ByteArray := prog_13_method_31_code
def yX11_solves : MethodName := ⟨RX11, "solves", "(II)V"⟩
abbrev cX11_isN : ByteArray := prog_13_method_32_code
def yX11_isN : MethodName := ⟨RX11, "isN", "(I)Z"⟩
abbrev cX11_solution : ByteArray := prog_13_method_33_code
def yX11_solution : MethodName := ⟨RX11, "solution", "(III)I"⟩
abbrev cX11_solutions : ByteArray := prog_13_method_34_code
def yX11_solutions : MethodName := ⟨RX11, "solutions", "(I)I"⟩
abbrev cX11_leastSolution : ByteArray := prog_13_method_35_code
def yX11_leastSolution : MethodName := ⟨RX11, "leastSolution", "(I)J"⟩
abbrev cX11_isAt : ByteArray := prog_13_method_36_code
def yX11_isAt : MethodName := ⟨RX11, "isAt", "(II)Z"⟩
abbrev cX11_passes : ByteArray := prog_13_method_37_code
def yX11_passes : MethodName := ⟨RX11, "passes", "(I)Z"⟩
abbrev cX11_number : ByteArray := prog_13_method_38_code
def yX11_number : MethodName := ⟨RX11, "number", "()Z"⟩
abbrev cX11_later : ByteArray := prog_13_method_39_code
def yX11_later : MethodName := ⟨RX11, "later", "()Z"⟩
abbrev cX11_reads : ByteArray := prog_13_method_40_code
def yX11_reads : MethodName := ⟨RX11, "reads", "()Z"⟩
abbrev cX11_fault : ByteArray := prog_13_method_41_code
def yX11_fault : MethodName := ⟨RX11, "fault", "(I)I"⟩
abbrev cX11_tells : ByteArray := prog_13_method_42_code
def yX11_tells : MethodName := ⟨RX11, "tells", "()Z"⟩
abbrev cX11_fits : ByteArray := prog_13_method_43_code
def yX11_fits : MethodName := ⟨RX11, "fits", "()Z"⟩
abbrev cX11_alike : ByteArray := prog_13_method_44_code
def yX11_alike : MethodName := ⟨RX11, "alike", "()I"⟩
abbrev cX11_told : ByteArray := prog_13_method_45_code
def yX11_told : MethodName := ⟨RX11, "told", "(I)J"⟩
abbrev cX11_upOf : ByteArray := prog_13_method_46_code
def yX11_upOf : MethodName := ⟨RX11, "upOf", "(I)I"⟩
abbrev cX11_lowOf : ByteArray := prog_13_method_47_code
def yX11_lowOf : MethodName := ⟨RX11, "lowOf", "(I)I"⟩
abbrev cX11_placeOf : ByteArray := prog_13_method_48_code
def yX11_placeOf : MethodName := ⟨RX11, "placeOf", "(I)I"⟩
abbrev cX11_at : ByteArray := prog_13_method_49_code
def yX11_at : MethodName := ⟨RX11, "at", "(I)I"⟩
abbrev cX11_isNoted : ByteArray := prog_13_method_50_code
def yX11_isNoted : MethodName := ⟨RX11, "isNoted", "(JJ)Z"⟩
abbrev cX11_note : ByteArray := prog_13_method_51_code
def yX11_note : MethodName := ⟨RX11, "note", "()I"⟩
abbrev cX11_strike : ByteArray := prog_13_method_52_code
def yX11_strike : MethodName := ⟨RX11, "strike", "(I)I"⟩
abbrev cX11_strikeAll : ByteArray := prog_13_method_53_code
def yX11_strikeAll : MethodName := ⟨RX11, "strikeAll", "()I"⟩
abbrev cX11_isConvergent : ByteArray := prog_13_method_54_code
def yX11_isConvergent : MethodName := ⟨RX11, "isConvergent", "(II)Z"⟩
abbrev cX11_noteOf : ByteArray := prog_13_method_55_code
def yX11_noteOf : MethodName := ⟨RX11, "noteOf", "(II)I"⟩
abbrev cX11_aboveOnes : ByteArray := prog_13_method_56_code
def yX11_aboveOnes : MethodName := ⟨RX11, "aboveOnes", "()I"⟩
abbrev cX11_count : ByteArray := prog_13_method_57_code
def yX11_count : MethodName := ⟨RX11, "count", "(I)I"⟩
abbrev cX11_undo : ByteArray := prog_13_method_58_code
def yX11_undo : MethodName := ⟨RX11, "undo", "()I"⟩
abbrev cX11_type : ByteArray := prog_13_method_59_code
def yX11_type : MethodName := ⟨RX11, "type", "(I)I"⟩
abbrev cX11_clearText : ByteArray := prog_13_method_60_code
def yX11_clearText : MethodName := ⟨RX11, "clearText", "()I"⟩
def RJ9 : String := "java/lang/Math"
def TJ9 : u_T := fun k => match k with
  | _ => ("", "", "", false)
def tyJ9 : Nat → FieldType := fun k => match k with
  | _ => .int
abbrev wsJ90 : List Cond := u_ws RJ9 TJ9 0
theorem nmJ9 : ∀ a, a < 0 → ∀ b, b < 0 → a ≠ b → (TJ9 a).2.1 ≠ (TJ9 b).2.1 := by decide +kernel
theorem tyJ9_ok : ∀ k, k < 0 → parseFieldDescriptor (TJ9 k).2.2.1 = some (tyJ9 k) := by decide +kernel
abbrev cJ9_floorDiv_f86c9 : ByteArray := prog_14_method_49_code
def yJ9_floorDiv_f86c9 : MethodName := ⟨RJ9, "floorDiv", "(JJ)J"⟩
abbrev cJ9_abs_067f4 : ByteArray := prog_14_method_61_code
def yJ9_abs_067f4 : MethodName := ⟨RJ9, "abs", "(J)J"⟩
abbrev cJ9_max_7cf53 : ByteArray := prog_14_method_65_code
def yJ9_max_7cf53 : MethodName := ⟨RJ9, "max", "(II)I"⟩
def RL : String := "SurdFractionsLaw"
abbrev cL_law : ByteArray := code
def yL_law : MethodName := ⟨RL, "law", "([I)Z"⟩
abbrev vwCl : List vw_C := [(RX0, TX0, 3), (RX1, TX1, 5), (RX2, TX2, 10), (RX3, TX3, 2), (RX4, TX4, 5), (RX5, TX5, 5), (RX6, TX6, 2), (RX7, TX7, 4), (RX8, TX8, 3), (RX9, TX9, 6), (RX10, TX10, 7), (RX11, TX11, 22)]
end
section
theorem dX0_init_0 : decode cX0_init 0 = .ok (.aload_n 0, 1) := by decide +kernel
theorem dX0_init_1 : decode cX0_init 1 = .ok (.invokespecial 3, 3) := by decide +kernel
theorem dX0_init_4 : decode cX0_init 4 = .ok (.aload_n 0, 1) := by decide +kernel
theorem dX0_init_5 : decode cX0_init 5 = .ok (.bipush 8, 2) := by decide +kernel
theorem dX0_init_7 : decode cX0_init 7 = .ok (.newarray .int, 2) := by decide +kernel
theorem dX0_init_9 : decode cX0_init 9 = .ok (.putfield 9, 3) := by decide +kernel
theorem dX0_init_12 : decode cX0_init 12 = .ok (.aload_n 0, 1) := by decide +kernel
theorem dX0_init_13 : decode cX0_init 13 = .ok (.bipush 8, 2) := by decide +kernel
theorem dX0_init_15 : decode cX0_init 15 = .ok (.newarray .int, 2) := by decide +kernel
theorem dX0_init_17 : decode cX0_init 17 = .ok (.putfield 15, 3) := by decide +kernel
theorem dX0_init_20 : decode cX0_init 20 = .ok (.return_, 1) := by decide +kernel
theorem dX0_upperAt_0 : decode cX0_upperAt 0 = .ok (.iload_n 1, 1) := by decide +kernel
theorem dX0_upperAt_1 : decode cX0_upperAt 1 = .ok (.ifCond .lt 21, 3) := by decide +kernel
theorem dX0_upperAt_4 : decode cX0_upperAt 4 = .ok (.iload_n 1, 1) := by decide +kernel
theorem dX0_upperAt_5 : decode cX0_upperAt 5 = .ok (.aload_n 0, 1) := by decide +kernel
theorem dX0_upperAt_6 : decode cX0_upperAt 6 = .ok (.getfield 9, 3) := by decide +kernel
theorem dX0_upperAt_9 : decode cX0_upperAt 9 = .ok (.arraylength, 1) := by decide +kernel
theorem dX0_upperAt_10 : decode cX0_upperAt 10 = .ok (.if_icmp .ge 12, 3) := by decide +kernel
theorem dX0_upperAt_13 : decode cX0_upperAt 13 = .ok (.aload_n 0, 1) := by decide +kernel
theorem dX0_upperAt_14 : decode cX0_upperAt 14 = .ok (.getfield 9, 3) := by decide +kernel
theorem dX0_upperAt_17 : decode cX0_upperAt 17 = .ok (.iload_n 1, 1) := by decide +kernel
theorem dX0_upperAt_18 : decode cX0_upperAt 18 = .ok (.iaload, 1) := by decide +kernel
theorem dX0_upperAt_19 : decode cX0_upperAt 19 = .ok (.goto 4, 3) := by decide +kernel
theorem dX0_upperAt_22 : decode cX0_upperAt 22 = .ok (.iconst 0, 1) := by decide +kernel
theorem dX0_upperAt_23 : decode cX0_upperAt 23 = .ok (.ireturn, 1) := by decide +kernel
theorem dX0_lowerAt_0 : decode cX0_lowerAt 0 = .ok (.iload_n 1, 1) := by decide +kernel
theorem dX0_lowerAt_1 : decode cX0_lowerAt 1 = .ok (.ifCond .lt 21, 3) := by decide +kernel
theorem dX0_lowerAt_4 : decode cX0_lowerAt 4 = .ok (.iload_n 1, 1) := by decide +kernel
theorem dX0_lowerAt_5 : decode cX0_lowerAt 5 = .ok (.aload_n 0, 1) := by decide +kernel
theorem dX0_lowerAt_6 : decode cX0_lowerAt 6 = .ok (.getfield 15, 3) := by decide +kernel
theorem dX0_lowerAt_9 : decode cX0_lowerAt 9 = .ok (.arraylength, 1) := by decide +kernel
theorem dX0_lowerAt_10 : decode cX0_lowerAt 10 = .ok (.if_icmp .ge 12, 3) := by decide +kernel
theorem dX0_lowerAt_13 : decode cX0_lowerAt 13 = .ok (.aload_n 0, 1) := by decide +kernel
theorem dX0_lowerAt_14 : decode cX0_lowerAt 14 = .ok (.getfield 15, 3) := by decide +kernel
theorem dX0_lowerAt_17 : decode cX0_lowerAt 17 = .ok (.iload_n 1, 1) := by decide +kernel
theorem dX0_lowerAt_18 : decode cX0_lowerAt 18 = .ok (.iaload, 1) := by decide +kernel
theorem dX0_lowerAt_19 : decode cX0_lowerAt 19 = .ok (.goto 4, 3) := by decide +kernel
theorem dX0_lowerAt_22 : decode cX0_lowerAt 22 = .ok (.iconst 1, 1) := by decide +kernel
theorem dX0_lowerAt_23 : decode cX0_lowerAt 23 = .ok (.ireturn, 1) := by decide +kernel
theorem dX0_put_0 : decode cX0_put 0 = .ok (.iload_n 1, 1) := by decide +kernel
theorem dX0_put_1 : decode cX0_put 1 = .ok (.ifCond .lt 35, 3) := by decide +kernel
theorem dX0_put_4 : decode cX0_put 4 = .ok (.iload_n 1, 1) := by decide +kernel
theorem dX0_put_5 : decode cX0_put 5 = .ok (.aload_n 0, 1) := by decide +kernel
theorem dX0_put_6 : decode cX0_put 6 = .ok (.getfield 9, 3) := by decide +kernel
theorem dX0_put_9 : decode cX0_put 9 = .ok (.arraylength, 1) := by decide +kernel
theorem dX0_put_10 : decode cX0_put 10 = .ok (.if_icmp .ge 26, 3) := by decide +kernel
theorem dX0_put_13 : decode cX0_put 13 = .ok (.iload_n 1, 1) := by decide +kernel
theorem dX0_put_14 : decode cX0_put 14 = .ok (.aload_n 0, 1) := by decide +kernel
theorem dX0_put_15 : decode cX0_put 15 = .ok (.getfield 15, 3) := by decide +kernel
theorem dX0_put_18 : decode cX0_put 18 = .ok (.arraylength, 1) := by decide +kernel
theorem dX0_put_19 : decode cX0_put 19 = .ok (.if_icmp .ge 17, 3) := by decide +kernel
theorem dX0_put_22 : decode cX0_put 22 = .ok (.aload_n 0, 1) := by decide +kernel
theorem dX0_put_23 : decode cX0_put 23 = .ok (.getfield 9, 3) := by decide +kernel
theorem dX0_put_26 : decode cX0_put 26 = .ok (.iload_n 1, 1) := by decide +kernel
theorem dX0_put_27 : decode cX0_put 27 = .ok (.iload_n 2, 1) := by decide +kernel
theorem dX0_put_28 : decode cX0_put 28 = .ok (.iastore, 1) := by decide +kernel
theorem dX0_put_29 : decode cX0_put 29 = .ok (.aload_n 0, 1) := by decide +kernel
theorem dX0_put_30 : decode cX0_put 30 = .ok (.getfield 15, 3) := by decide +kernel
theorem dX0_put_33 : decode cX0_put 33 = .ok (.iload_n 1, 1) := by decide +kernel
theorem dX0_put_34 : decode cX0_put 34 = .ok (.iload_n 3, 1) := by decide +kernel
theorem dX0_put_35 : decode cX0_put 35 = .ok (.iastore, 1) := by decide +kernel
theorem dX0_put_36 : decode cX0_put 36 = .ok (.return_, 1) := by decide +kernel
theorem dX0_has_0 : decode cX0_has 0 = .ok (.iconst 0, 1) := by decide +kernel
theorem dX0_has_1 : decode cX0_has 1 = .ok (.istore 5, 2) := by decide +kernel
theorem dX0_has_3 : decode cX0_has 3 = .ok (.iload 5, 2) := by decide +kernel
theorem dX0_has_5 : decode cX0_has 5 = .ok (.aload_n 0, 1) := by decide +kernel
theorem dX0_has_6 : decode cX0_has 6 = .ok (.getfield 18, 3) := by decide +kernel
theorem dX0_has_9 : decode cX0_has 9 = .ok (.if_icmp .ge 35, 3) := by decide +kernel
theorem dX0_has_12 : decode cX0_has 12 = .ok (.aload_n 0, 1) := by decide +kernel
theorem dX0_has_13 : decode cX0_has 13 = .ok (.iload 5, 2) := by decide +kernel
theorem dX0_has_15 : decode cX0_has 15 = .ok (.invokevirtual 22, 3) := by decide +kernel
theorem dX0_has_18 : decode cX0_has 18 = .ok (.i2l, 1) := by decide +kernel
theorem dX0_has_19 : decode cX0_has 19 = .ok (.lload_n 1, 1) := by decide +kernel
theorem dX0_has_20 : decode cX0_has 20 = .ok (.lcmp, 1) := by decide +kernel
theorem dX0_has_21 : decode cX0_has 21 = .ok (.ifCond .ne 17, 3) := by decide +kernel
theorem dX0_has_24 : decode cX0_has 24 = .ok (.aload_n 0, 1) := by decide +kernel
theorem dX0_has_25 : decode cX0_has 25 = .ok (.iload 5, 2) := by decide +kernel
theorem dX0_has_27 : decode cX0_has 27 = .ok (.invokevirtual 26, 3) := by decide +kernel
theorem dX0_has_30 : decode cX0_has 30 = .ok (.i2l, 1) := by decide +kernel
theorem dX0_has_31 : decode cX0_has 31 = .ok (.lload_n 3, 1) := by decide +kernel
theorem dX0_has_32 : decode cX0_has 32 = .ok (.lcmp, 1) := by decide +kernel
theorem dX0_has_33 : decode cX0_has 33 = .ok (.ifCond .ne 5, 3) := by decide +kernel
theorem dX0_has_36 : decode cX0_has 36 = .ok (.iconst 1, 1) := by decide +kernel
theorem dX0_has_37 : decode cX0_has 37 = .ok (.ireturn, 1) := by decide +kernel
theorem dX0_has_38 : decode cX0_has 38 = .ok (.iinc 5 1, 3) := by decide +kernel
theorem dX0_has_41 : decode cX0_has 41 = .ok (.goto (-38), 3) := by decide +kernel
theorem dX0_has_44 : decode cX0_has 44 = .ok (.iconst 0, 1) := by decide +kernel
theorem dX0_has_45 : decode cX0_has 45 = .ok (.ireturn, 1) := by decide +kernel
theorem dX0_add_0 : decode cX0_add 0 = .ok (.aload_n 0, 1) := by decide +kernel
theorem dX0_add_1 : decode cX0_add 1 = .ok (.getfield 18, 3) := by decide +kernel
theorem dX0_add_4 : decode cX0_add 4 = .ok (.istore 4, 2) := by decide +kernel
theorem dX0_add_6 : decode cX0_add 6 = .ok (.iload 4, 2) := by decide +kernel
theorem dX0_add_8 : decode cX0_add 8 = .ok (.ifCond .le 60, 3) := by decide +kernel
theorem dX0_add_11 : decode cX0_add 11 = .ok (.aload_n 1, 1) := by decide +kernel
theorem dX0_add_12 : decode cX0_add 12 = .ok (.iload_n 2, 1) := by decide +kernel
theorem dX0_add_13 : decode cX0_add 13 = .ok (.i2l, 1) := by decide +kernel
theorem dX0_add_14 : decode cX0_add 14 = .ok (.iload_n 3, 1) := by decide +kernel
theorem dX0_add_15 : decode cX0_add 15 = .ok (.i2l, 1) := by decide +kernel
theorem dX0_add_16 : decode cX0_add 16 = .ok (.aload_n 0, 1) := by decide +kernel
theorem dX0_add_17 : decode cX0_add 17 = .ok (.iload 4, 2) := by decide +kernel
theorem dX0_add_19 : decode cX0_add 19 = .ok (.iconst 1, 1) := by decide +kernel
theorem dX0_add_20 : decode cX0_add 20 = .ok (.isub, 1) := by decide +kernel
theorem dX0_add_21 : decode cX0_add 21 = .ok (.invokevirtual 22, 3) := by decide +kernel
theorem dX0_add_24 : decode cX0_add 24 = .ok (.i2l, 1) := by decide +kernel
theorem dX0_add_25 : decode cX0_add 25 = .ok (.aload_n 0, 1) := by decide +kernel
theorem dX0_add_26 : decode cX0_add 26 = .ok (.iload 4, 2) := by decide +kernel
theorem dX0_add_28 : decode cX0_add 28 = .ok (.iconst 1, 1) := by decide +kernel
theorem dX0_add_29 : decode cX0_add 29 = .ok (.isub, 1) := by decide +kernel
theorem dX0_add_30 : decode cX0_add 30 = .ok (.invokevirtual 26, 3) := by decide +kernel
theorem dX0_add_33 : decode cX0_add 33 = .ok (.i2l, 1) := by decide +kernel
theorem dX0_add_34 : decode cX0_add 34 = .ok (.invokevirtual 29, 3) := by decide +kernel
theorem dX0_add_37 : decode cX0_add 37 = .ok (.ifCond .eq 31, 3) := by decide +kernel
theorem dX0_add_40 : decode cX0_add 40 = .ok (.aload_n 0, 1) := by decide +kernel
theorem dX0_add_41 : decode cX0_add 41 = .ok (.iload 4, 2) := by decide +kernel
theorem dX0_add_43 : decode cX0_add 43 = .ok (.aload_n 0, 1) := by decide +kernel
theorem dX0_add_44 : decode cX0_add 44 = .ok (.iload 4, 2) := by decide +kernel
theorem dX0_add_46 : decode cX0_add 46 = .ok (.iconst 1, 1) := by decide +kernel
theorem dX0_add_47 : decode cX0_add 47 = .ok (.isub, 1) := by decide +kernel
theorem dX0_add_48 : decode cX0_add 48 = .ok (.invokevirtual 22, 3) := by decide +kernel
theorem dX0_add_51 : decode cX0_add 51 = .ok (.aload_n 0, 1) := by decide +kernel
theorem dX0_add_52 : decode cX0_add 52 = .ok (.iload 4, 2) := by decide +kernel
theorem dX0_add_54 : decode cX0_add 54 = .ok (.iconst 1, 1) := by decide +kernel
theorem dX0_add_55 : decode cX0_add 55 = .ok (.isub, 1) := by decide +kernel
theorem dX0_add_56 : decode cX0_add 56 = .ok (.invokevirtual 26, 3) := by decide +kernel
theorem dX0_add_59 : decode cX0_add 59 = .ok (.invokevirtual 35, 3) := by decide +kernel
theorem dX0_add_62 : decode cX0_add 62 = .ok (.iinc 4 (-1), 3) := by decide +kernel
theorem dX0_add_65 : decode cX0_add 65 = .ok (.goto (-59), 3) := by decide +kernel
theorem dX0_add_68 : decode cX0_add 68 = .ok (.aload_n 0, 1) := by decide +kernel
theorem dX0_add_69 : decode cX0_add 69 = .ok (.iload 4, 2) := by decide +kernel
theorem dX0_add_71 : decode cX0_add 71 = .ok (.iload_n 2, 1) := by decide +kernel
theorem dX0_add_72 : decode cX0_add 72 = .ok (.iload_n 3, 1) := by decide +kernel
theorem dX0_add_73 : decode cX0_add 73 = .ok (.invokevirtual 35, 3) := by decide +kernel
theorem dX0_add_76 : decode cX0_add 76 = .ok (.aload_n 0, 1) := by decide +kernel
theorem dX0_add_77 : decode cX0_add 77 = .ok (.dup, 1) := by decide +kernel
theorem dX0_add_78 : decode cX0_add 78 = .ok (.getfield 18, 3) := by decide +kernel
theorem dX0_add_81 : decode cX0_add 81 = .ok (.iconst 1, 1) := by decide +kernel
theorem dX0_add_82 : decode cX0_add 82 = .ok (.iadd, 1) := by decide +kernel
theorem dX0_add_83 : decode cX0_add 83 = .ok (.putfield 18, 3) := by decide +kernel
theorem dX0_add_86 : decode cX0_add 86 = .ok (.iload 4, 2) := by decide +kernel
theorem dX0_add_88 : decode cX0_add 88 = .ok (.ireturn, 1) := by decide +kernel
theorem dX0_remove_0 : decode cX0_remove 0 = .ok (.aload_n 0, 1) := by decide +kernel
theorem dX0_remove_1 : decode cX0_remove 1 = .ok (.dup, 1) := by decide +kernel
theorem dX0_remove_2 : decode cX0_remove 2 = .ok (.getfield 18, 3) := by decide +kernel
theorem dX0_remove_5 : decode cX0_remove 5 = .ok (.iconst 1, 1) := by decide +kernel
theorem dX0_remove_6 : decode cX0_remove 6 = .ok (.isub, 1) := by decide +kernel
theorem dX0_remove_7 : decode cX0_remove 7 = .ok (.putfield 18, 3) := by decide +kernel
theorem dX0_remove_10 : decode cX0_remove 10 = .ok (.iload_n 1, 1) := by decide +kernel
theorem dX0_remove_11 : decode cX0_remove 11 = .ok (.istore_n 2, 1) := by decide +kernel
theorem dX0_remove_12 : decode cX0_remove 12 = .ok (.iload_n 2, 1) := by decide +kernel
theorem dX0_remove_13 : decode cX0_remove 13 = .ok (.aload_n 0, 1) := by decide +kernel
theorem dX0_remove_14 : decode cX0_remove 14 = .ok (.getfield 18, 3) := by decide +kernel
theorem dX0_remove_17 : decode cX0_remove 17 = .ok (.if_icmp .ge 28, 3) := by decide +kernel
theorem dX0_remove_20 : decode cX0_remove 20 = .ok (.aload_n 0, 1) := by decide +kernel
theorem dX0_remove_21 : decode cX0_remove 21 = .ok (.iload_n 2, 1) := by decide +kernel
theorem dX0_remove_22 : decode cX0_remove 22 = .ok (.aload_n 0, 1) := by decide +kernel
theorem dX0_remove_23 : decode cX0_remove 23 = .ok (.iload_n 2, 1) := by decide +kernel
theorem dX0_remove_24 : decode cX0_remove 24 = .ok (.iconst 1, 1) := by decide +kernel
theorem dX0_remove_25 : decode cX0_remove 25 = .ok (.iadd, 1) := by decide +kernel
theorem dX0_remove_26 : decode cX0_remove 26 = .ok (.invokevirtual 22, 3) := by decide +kernel
theorem dX0_remove_29 : decode cX0_remove 29 = .ok (.aload_n 0, 1) := by decide +kernel
theorem dX0_remove_30 : decode cX0_remove 30 = .ok (.iload_n 2, 1) := by decide +kernel
theorem dX0_remove_31 : decode cX0_remove 31 = .ok (.iconst 1, 1) := by decide +kernel
theorem dX0_remove_32 : decode cX0_remove 32 = .ok (.iadd, 1) := by decide +kernel
theorem dX0_remove_33 : decode cX0_remove 33 = .ok (.invokevirtual 26, 3) := by decide +kernel
theorem dX0_remove_36 : decode cX0_remove 36 = .ok (.invokevirtual 35, 3) := by decide +kernel
theorem dX0_remove_39 : decode cX0_remove 39 = .ok (.iinc 2 1, 3) := by decide +kernel
theorem dX0_remove_42 : decode cX0_remove 42 = .ok (.goto (-30), 3) := by decide +kernel
theorem dX0_remove_45 : decode cX0_remove 45 = .ok (.return_, 1) := by decide +kernel
theorem dX0_putInOrder_0 : decode cX0_putInOrder 0 = .ok (.aload_n 0, 1) := by decide +kernel
theorem dX0_putInOrder_1 : decode cX0_putInOrder 1 = .ok (.getfield 18, 3) := by decide +kernel
theorem dX0_putInOrder_4 : decode cX0_putInOrder 4 = .ok (.istore_n 2, 1) := by decide +kernel
theorem dX0_putInOrder_5 : decode cX0_putInOrder 5 = .ok (.aload_n 0, 1) := by decide +kernel
theorem dX0_putInOrder_6 : decode cX0_putInOrder 6 = .ok (.iconst 0, 1) := by decide +kernel
theorem dX0_putInOrder_7 : decode cX0_putInOrder 7 = .ok (.putfield 18, 3) := by decide +kernel
theorem dX0_putInOrder_10 : decode cX0_putInOrder 10 = .ok (.iconst 0, 1) := by decide +kernel
theorem dX0_putInOrder_11 : decode cX0_putInOrder 11 = .ok (.istore_n 3, 1) := by decide +kernel
theorem dX0_putInOrder_12 : decode cX0_putInOrder 12 = .ok (.iload_n 3, 1) := by decide +kernel
theorem dX0_putInOrder_13 : decode cX0_putInOrder 13 = .ok (.iload_n 2, 1) := by decide +kernel
theorem dX0_putInOrder_14 : decode cX0_putInOrder 14 = .ok (.if_icmp .ge 25, 3) := by decide +kernel
theorem dX0_putInOrder_17 : decode cX0_putInOrder 17 = .ok (.aload_n 0, 1) := by decide +kernel
theorem dX0_putInOrder_18 : decode cX0_putInOrder 18 = .ok (.aload_n 1, 1) := by decide +kernel
theorem dX0_putInOrder_19 : decode cX0_putInOrder 19 = .ok (.aload_n 0, 1) := by decide +kernel
theorem dX0_putInOrder_20 : decode cX0_putInOrder 20 = .ok (.iload_n 3, 1) := by decide +kernel
theorem dX0_putInOrder_21 : decode cX0_putInOrder 21 = .ok (.invokevirtual 22, 3) := by decide +kernel
theorem dX0_putInOrder_24 : decode cX0_putInOrder 24 = .ok (.aload_n 0, 1) := by decide +kernel
theorem dX0_putInOrder_25 : decode cX0_putInOrder 25 = .ok (.iload_n 3, 1) := by decide +kernel
theorem dX0_putInOrder_26 : decode cX0_putInOrder 26 = .ok (.invokevirtual 26, 3) := by decide +kernel
theorem dX0_putInOrder_29 : decode cX0_putInOrder 29 = .ok (.invokevirtual 39, 3) := by decide +kernel
theorem dX0_putInOrder_32 : decode cX0_putInOrder 32 = .ok (.pop, 1) := by decide +kernel
theorem dX0_putInOrder_33 : decode cX0_putInOrder 33 = .ok (.iinc 3 1, 3) := by decide +kernel
theorem dX0_putInOrder_36 : decode cX0_putInOrder 36 = .ok (.goto (-24), 3) := by decide +kernel
theorem dX0_putInOrder_39 : decode cX0_putInOrder 39 = .ok (.return_, 1) := by decide +kernel
theorem dX0_countAbove_0 : decode cX0_countAbove 0 = .ok (.iconst 0, 1) := by decide +kernel
theorem dX0_countAbove_1 : decode cX0_countAbove 1 = .ok (.istore_n 2, 1) := by decide +kernel
theorem dX0_countAbove_2 : decode cX0_countAbove 2 = .ok (.iconst 0, 1) := by decide +kernel
theorem dX0_countAbove_3 : decode cX0_countAbove 3 = .ok (.istore_n 3, 1) := by decide +kernel
theorem dX0_countAbove_4 : decode cX0_countAbove 4 = .ok (.iload_n 3, 1) := by decide +kernel
theorem dX0_countAbove_5 : decode cX0_countAbove 5 = .ok (.aload_n 0, 1) := by decide +kernel
theorem dX0_countAbove_6 : decode cX0_countAbove 6 = .ok (.getfield 18, 3) := by decide +kernel
theorem dX0_countAbove_9 : decode cX0_countAbove 9 = .ok (.if_icmp .ge 31, 3) := by decide +kernel
theorem dX0_countAbove_12 : decode cX0_countAbove 12 = .ok (.aload_n 1, 1) := by decide +kernel
theorem dX0_countAbove_13 : decode cX0_countAbove 13 = .ok (.aload_n 0, 1) := by decide +kernel
theorem dX0_countAbove_14 : decode cX0_countAbove 14 = .ok (.iload_n 3, 1) := by decide +kernel
theorem dX0_countAbove_15 : decode cX0_countAbove 15 = .ok (.invokevirtual 22, 3) := by decide +kernel
theorem dX0_countAbove_18 : decode cX0_countAbove 18 = .ok (.i2l, 1) := by decide +kernel
theorem dX0_countAbove_19 : decode cX0_countAbove 19 = .ok (.aload_n 0, 1) := by decide +kernel
theorem dX0_countAbove_20 : decode cX0_countAbove 20 = .ok (.iload_n 3, 1) := by decide +kernel
theorem dX0_countAbove_21 : decode cX0_countAbove 21 = .ok (.invokevirtual 26, 3) := by decide +kernel
theorem dX0_countAbove_24 : decode cX0_countAbove 24 = .ok (.i2l, 1) := by decide +kernel
theorem dX0_countAbove_25 : decode cX0_countAbove 25 = .ok (.invokevirtual 43, 3) := by decide +kernel
theorem dX0_countAbove_28 : decode cX0_countAbove 28 = .ok (.ifCond .eq 6, 3) := by decide +kernel
theorem dX0_countAbove_31 : decode cX0_countAbove 31 = .ok (.iinc 2 1, 3) := by decide +kernel
theorem dX0_countAbove_34 : decode cX0_countAbove 34 = .ok (.iinc 3 1, 3) := by decide +kernel
theorem dX0_countAbove_37 : decode cX0_countAbove 37 = .ok (.goto (-33), 3) := by decide +kernel
theorem dX0_countAbove_40 : decode cX0_countAbove 40 = .ok (.iload_n 2, 1) := by decide +kernel
theorem dX0_countAbove_41 : decode cX0_countAbove 41 = .ok (.ireturn, 1) := by decide +kernel
theorem dX0_copyFrom_0 : decode cX0_copyFrom 0 = .ok (.aload_n 0, 1) := by decide +kernel
theorem dX0_copyFrom_1 : decode cX0_copyFrom 1 = .ok (.aload_n 1, 1) := by decide +kernel
theorem dX0_copyFrom_2 : decode cX0_copyFrom 2 = .ok (.getfield 18, 3) := by decide +kernel
theorem dX0_copyFrom_5 : decode cX0_copyFrom 5 = .ok (.putfield 18, 3) := by decide +kernel
theorem dX0_copyFrom_8 : decode cX0_copyFrom 8 = .ok (.iconst 0, 1) := by decide +kernel
theorem dX0_copyFrom_9 : decode cX0_copyFrom 9 = .ok (.istore_n 2, 1) := by decide +kernel
theorem dX0_copyFrom_10 : decode cX0_copyFrom 10 = .ok (.iload_n 2, 1) := by decide +kernel
theorem dX0_copyFrom_11 : decode cX0_copyFrom 11 = .ok (.aload_n 0, 1) := by decide +kernel
theorem dX0_copyFrom_12 : decode cX0_copyFrom 12 = .ok (.getfield 18, 3) := by decide +kernel
theorem dX0_copyFrom_15 : decode cX0_copyFrom 15 = .ok (.if_icmp .ge 24, 3) := by decide +kernel
theorem dX0_copyFrom_18 : decode cX0_copyFrom 18 = .ok (.aload_n 0, 1) := by decide +kernel
theorem dX0_copyFrom_19 : decode cX0_copyFrom 19 = .ok (.iload_n 2, 1) := by decide +kernel
theorem dX0_copyFrom_20 : decode cX0_copyFrom 20 = .ok (.aload_n 1, 1) := by decide +kernel
theorem dX0_copyFrom_21 : decode cX0_copyFrom 21 = .ok (.iload_n 2, 1) := by decide +kernel
theorem dX0_copyFrom_22 : decode cX0_copyFrom 22 = .ok (.invokevirtual 22, 3) := by decide +kernel
theorem dX0_copyFrom_25 : decode cX0_copyFrom 25 = .ok (.aload_n 1, 1) := by decide +kernel
theorem dX0_copyFrom_26 : decode cX0_copyFrom 26 = .ok (.iload_n 2, 1) := by decide +kernel
theorem dX0_copyFrom_27 : decode cX0_copyFrom 27 = .ok (.invokevirtual 26, 3) := by decide +kernel
theorem dX0_copyFrom_30 : decode cX0_copyFrom 30 = .ok (.invokevirtual 35, 3) := by decide +kernel
theorem dX0_copyFrom_33 : decode cX0_copyFrom 33 = .ok (.iinc 2 1, 3) := by decide +kernel
theorem dX0_copyFrom_36 : decode cX0_copyFrom 36 = .ok (.goto (-26), 3) := by decide +kernel
theorem dX0_copyFrom_39 : decode cX0_copyFrom 39 = .ok (.return_, 1) := by decide +kernel
theorem dX1_init_0 : decode cX1_init 0 = .ok (.aload_n 0, 1) := by decide +kernel
theorem dX1_init_1 : decode cX1_init 1 = .ok (.invokespecial 3, 3) := by decide +kernel
theorem dX1_init_4 : decode cX1_init 4 = .ok (.return_, 1) := by decide +kernel
theorem dX1_begin_0 : decode cX1_begin 0 = .ok (.aload_n 0, 1) := by decide +kernel
theorem dX1_begin_1 : decode cX1_begin 1 = .ok (.lconst 1, 1) := by decide +kernel
theorem dX1_begin_2 : decode cX1_begin 2 = .ok (.putfield 9, 3) := by decide +kernel
theorem dX1_begin_5 : decode cX1_begin 5 = .ok (.aload_n 0, 1) := by decide +kernel
theorem dX1_begin_6 : decode cX1_begin 6 = .ok (.lconst 0, 1) := by decide +kernel
theorem dX1_begin_7 : decode cX1_begin 7 = .ok (.putfield 15, 3) := by decide +kernel
theorem dX1_begin_10 : decode cX1_begin 10 = .ok (.aload_n 0, 1) := by decide +kernel
theorem dX1_begin_11 : decode cX1_begin 11 = .ok (.lconst 0, 1) := by decide +kernel
theorem dX1_begin_12 : decode cX1_begin 12 = .ok (.putfield 18, 3) := by decide +kernel
theorem dX1_begin_15 : decode cX1_begin 15 = .ok (.aload_n 0, 1) := by decide +kernel
theorem dX1_begin_16 : decode cX1_begin 16 = .ok (.lconst 1, 1) := by decide +kernel
theorem dX1_begin_17 : decode cX1_begin 17 = .ok (.putfield 21, 3) := by decide +kernel
theorem dX1_begin_20 : decode cX1_begin 20 = .ok (.aload_n 0, 1) := by decide +kernel
theorem dX1_begin_21 : decode cX1_begin 21 = .ok (.iconst 0, 1) := by decide +kernel
theorem dX1_begin_22 : decode cX1_begin 22 = .ok (.putfield 24, 3) := by decide +kernel
theorem dX1_begin_25 : decode cX1_begin 25 = .ok (.return_, 1) := by decide +kernel
theorem dX1_add_0 : decode cX1_add 0 = .ok (.aload_n 0, 1) := by decide +kernel
theorem dX1_add_1 : decode cX1_add 1 = .ok (.getfield 24, 3) := by decide +kernel
theorem dX1_add_4 : decode cX1_add 4 = .ok (.ifCond .ne 33, 3) := by decide +kernel
theorem dX1_add_7 : decode cX1_add 7 = .ok (.lload_n 1, 1) := by decide +kernel
theorem dX1_add_8 : decode cX1_add 8 = .ok (.aload_n 0, 1) := by decide +kernel
theorem dX1_add_9 : decode cX1_add 9 = .ok (.getfield 9, 3) := by decide +kernel
theorem dX1_add_12 : decode cX1_add 12 = .ok (.aload_n 0, 1) := by decide +kernel
theorem dX1_add_13 : decode cX1_add 13 = .ok (.getfield 18, 3) := by decide +kernel
theorem dX1_add_16 : decode cX1_add 16 = .ok (.invokestatic 28, 3) := by decide +kernel
theorem dX1_add_19 : decode cX1_add 19 = .ok (.ifCond .ne 18, 3) := by decide +kernel
theorem dX1_add_22 : decode cX1_add 22 = .ok (.lload_n 1, 1) := by decide +kernel
theorem dX1_add_23 : decode cX1_add 23 = .ok (.aload_n 0, 1) := by decide +kernel
theorem dX1_add_24 : decode cX1_add 24 = .ok (.getfield 15, 3) := by decide +kernel
theorem dX1_add_27 : decode cX1_add 27 = .ok (.aload_n 0, 1) := by decide +kernel
theorem dX1_add_28 : decode cX1_add 28 = .ok (.getfield 21, 3) := by decide +kernel
theorem dX1_add_31 : decode cX1_add 31 = .ok (.invokestatic 28, 3) := by decide +kernel
theorem dX1_add_34 : decode cX1_add 34 = .ok (.ifCond .eq 9, 3) := by decide +kernel
theorem dX1_add_37 : decode cX1_add 37 = .ok (.aload_n 0, 1) := by decide +kernel
theorem dX1_add_38 : decode cX1_add 38 = .ok (.iconst 1, 1) := by decide +kernel
theorem dX1_add_39 : decode cX1_add 39 = .ok (.putfield 24, 3) := by decide +kernel
theorem dX1_add_42 : decode cX1_add 42 = .ok (.return_, 1) := by decide +kernel
theorem dX1_add_43 : decode cX1_add 43 = .ok (.lload_n 1, 1) := by decide +kernel
theorem dX1_add_44 : decode cX1_add 44 = .ok (.aload_n 0, 1) := by decide +kernel
theorem dX1_add_45 : decode cX1_add 45 = .ok (.getfield 9, 3) := by decide +kernel
theorem dX1_add_48 : decode cX1_add 48 = .ok (.lmul, 1) := by decide +kernel
theorem dX1_add_49 : decode cX1_add 49 = .ok (.aload_n 0, 1) := by decide +kernel
theorem dX1_add_50 : decode cX1_add 50 = .ok (.getfield 18, 3) := by decide +kernel
theorem dX1_add_53 : decode cX1_add 53 = .ok (.ladd, 1) := by decide +kernel
theorem dX1_add_54 : decode cX1_add 54 = .ok (.lstore_n 3, 1) := by decide +kernel
theorem dX1_add_55 : decode cX1_add 55 = .ok (.lload_n 1, 1) := by decide +kernel
theorem dX1_add_56 : decode cX1_add 56 = .ok (.aload_n 0, 1) := by decide +kernel
theorem dX1_add_57 : decode cX1_add 57 = .ok (.getfield 15, 3) := by decide +kernel
theorem dX1_add_60 : decode cX1_add 60 = .ok (.lmul, 1) := by decide +kernel
theorem dX1_add_61 : decode cX1_add 61 = .ok (.aload_n 0, 1) := by decide +kernel
theorem dX1_add_62 : decode cX1_add 62 = .ok (.getfield 21, 3) := by decide +kernel
theorem dX1_add_65 : decode cX1_add 65 = .ok (.ladd, 1) := by decide +kernel
theorem dX1_add_66 : decode cX1_add 66 = .ok (.lstore 5, 2) := by decide +kernel
theorem dX1_add_68 : decode cX1_add 68 = .ok (.aload_n 0, 1) := by decide +kernel
theorem dX1_add_69 : decode cX1_add 69 = .ok (.aload_n 0, 1) := by decide +kernel
theorem dX1_add_70 : decode cX1_add 70 = .ok (.getfield 9, 3) := by decide +kernel
theorem dX1_add_73 : decode cX1_add 73 = .ok (.putfield 18, 3) := by decide +kernel
theorem dX1_add_76 : decode cX1_add 76 = .ok (.aload_n 0, 1) := by decide +kernel
theorem dX1_add_77 : decode cX1_add 77 = .ok (.aload_n 0, 1) := by decide +kernel
theorem dX1_add_78 : decode cX1_add 78 = .ok (.getfield 15, 3) := by decide +kernel
theorem dX1_add_81 : decode cX1_add 81 = .ok (.putfield 21, 3) := by decide +kernel
theorem dX1_add_84 : decode cX1_add 84 = .ok (.aload_n 0, 1) := by decide +kernel
theorem dX1_add_85 : decode cX1_add 85 = .ok (.lload_n 3, 1) := by decide +kernel
theorem dX1_add_86 : decode cX1_add 86 = .ok (.putfield 9, 3) := by decide +kernel
theorem dX1_add_89 : decode cX1_add 89 = .ok (.aload_n 0, 1) := by decide +kernel
theorem dX1_add_90 : decode cX1_add 90 = .ok (.lload 5, 2) := by decide +kernel
theorem dX1_add_92 : decode cX1_add 92 = .ok (.putfield 15, 3) := by decide +kernel
theorem dX1_add_95 : decode cX1_add 95 = .ok (.return_, 1) := by decide +kernel
theorem dX1_isTooGreat_0 : decode cX1_isTooGreat 0 = .ok (.lload_n 0, 1) := by decide +kernel
theorem dX1_isTooGreat_1 : decode cX1_isTooGreat 1 = .ok (.invokestatic 32, 3) := by decide +kernel
theorem dX1_isTooGreat_4 : decode cX1_isTooGreat 4 = .ok (.lstore 6, 2) := by decide +kernel
theorem dX1_isTooGreat_6 : decode cX1_isTooGreat 6 = .ok (.lload 6, 2) := by decide +kernel
theorem dX1_isTooGreat_8 : decode cX1_isTooGreat 8 = .ok (.lconst 0, 1) := by decide +kernel
theorem dX1_isTooGreat_9 : decode cX1_isTooGreat 9 = .ok (.lcmp, 1) := by decide +kernel
theorem dX1_isTooGreat_10 : decode cX1_isTooGreat 10 = .ok (.ifCond .le 25, 3) := by decide +kernel
theorem dX1_isTooGreat_13 : decode cX1_isTooGreat 13 = .ok (.lload_n 2, 1) := by decide +kernel
theorem dX1_isTooGreat_14 : decode cX1_isTooGreat 14 = .ok (.invokestatic 32, 3) := by decide +kernel
theorem dX1_isTooGreat_17 : decode cX1_isTooGreat 17 = .ok (.ldc2_w 38, 3) := by decide +kernel
theorem dX1_isTooGreat_20 : decode cX1_isTooGreat 20 = .ok (.lload 4, 2) := by decide +kernel
theorem dX1_isTooGreat_22 : decode cX1_isTooGreat 22 = .ok (.invokestatic 32, 3) := by decide +kernel
theorem dX1_isTooGreat_25 : decode cX1_isTooGreat 25 = .ok (.ladd, 1) := by decide +kernel
theorem dX1_isTooGreat_26 : decode cX1_isTooGreat 26 = .ok (.lload 6, 2) := by decide +kernel
theorem dX1_isTooGreat_28 : decode cX1_isTooGreat 28 = .ok (.ldiv, 1) := by decide +kernel
theorem dX1_isTooGreat_29 : decode cX1_isTooGreat 29 = .ok (.lcmp, 1) := by decide +kernel
theorem dX1_isTooGreat_30 : decode cX1_isTooGreat 30 = .ok (.ifCond .le 5, 3) := by decide +kernel
theorem dX1_isTooGreat_33 : decode cX1_isTooGreat 33 = .ok (.iconst 1, 1) := by decide +kernel
theorem dX1_isTooGreat_34 : decode cX1_isTooGreat 34 = .ok (.ireturn, 1) := by decide +kernel
theorem dX1_isTooGreat_35 : decode cX1_isTooGreat 35 = .ok (.lload_n 0, 1) := by decide +kernel
theorem dX1_isTooGreat_36 : decode cX1_isTooGreat 36 = .ok (.lload_n 2, 1) := by decide +kernel
theorem dX1_isTooGreat_37 : decode cX1_isTooGreat 37 = .ok (.lmul, 1) := by decide +kernel
theorem dX1_isTooGreat_38 : decode cX1_isTooGreat 38 = .ok (.lload 4, 2) := by decide +kernel
theorem dX1_isTooGreat_40 : decode cX1_isTooGreat 40 = .ok (.ladd, 1) := by decide +kernel
theorem dX1_isTooGreat_41 : decode cX1_isTooGreat 41 = .ok (.invokestatic 32, 3) := by decide +kernel
theorem dX1_isTooGreat_44 : decode cX1_isTooGreat 44 = .ok (.ldc2_w 38, 3) := by decide +kernel
theorem dX1_isTooGreat_47 : decode cX1_isTooGreat 47 = .ok (.lcmp, 1) := by decide +kernel
theorem dX1_isTooGreat_48 : decode cX1_isTooGreat 48 = .ok (.ifCond .le 7, 3) := by decide +kernel
theorem dX1_isTooGreat_51 : decode cX1_isTooGreat 51 = .ok (.iconst 1, 1) := by decide +kernel
theorem dX1_isTooGreat_52 : decode cX1_isTooGreat 52 = .ok (.goto 4, 3) := by decide +kernel
theorem dX1_isTooGreat_55 : decode cX1_isTooGreat 55 = .ok (.iconst 0, 1) := by decide +kernel
theorem dX1_isTooGreat_56 : decode cX1_isTooGreat 56 = .ok (.ireturn, 1) := by decide +kernel
theorem dX2_init_0 : decode cX2_init 0 = .ok (.aload_n 0, 1) := by decide +kernel
theorem dX2_init_1 : decode cX2_init 1 = .ok (.invokespecial 3, 3) := by decide +kernel
theorem dX2_init_4 : decode cX2_init 4 = .ok (.aload_n 0, 1) := by decide +kernel
theorem dX2_init_5 : decode cX2_init 5 = .ok (.sipush 400, 3) := by decide +kernel
theorem dX2_init_8 : decode cX2_init 8 = .ok (.newarray .int, 2) := by decide +kernel
theorem dX2_init_10 : decode cX2_init 10 = .ok (.putfield 9, 3) := by decide +kernel
theorem dX2_init_13 : decode cX2_init 13 = .ok (.aload_n 0, 1) := by decide +kernel
theorem dX2_init_14 : decode cX2_init 14 = .ok (.sipush 400, 3) := by decide +kernel
theorem dX2_init_17 : decode cX2_init 17 = .ok (.newarray .long, 2) := by decide +kernel
theorem dX2_init_19 : decode cX2_init 19 = .ok (.putfield 15, 3) := by decide +kernel
theorem dX2_init_22 : decode cX2_init 22 = .ok (.aload_n 0, 1) := by decide +kernel
theorem dX2_init_23 : decode cX2_init 23 = .ok (.sipush 400, 3) := by decide +kernel
theorem dX2_init_26 : decode cX2_init 26 = .ok (.newarray .long, 2) := by decide +kernel
theorem dX2_init_28 : decode cX2_init 28 = .ok (.putfield 19, 3) := by decide +kernel
theorem dX2_init_31 : decode cX2_init 31 = .ok (.aload_n 0, 1) := by decide +kernel
theorem dX2_init_32 : decode cX2_init 32 = .ok (.new 22, 3) := by decide +kernel
theorem dX2_init_35 : decode cX2_init 35 = .ok (.dup, 1) := by decide +kernel
theorem dX2_init_36 : decode cX2_init 36 = .ok (.invokespecial 24, 3) := by decide +kernel
theorem dX2_init_39 : decode cX2_init 39 = .ok (.putfield 25, 3) := by decide +kernel
theorem dX2_init_42 : decode cX2_init 42 = .ok (.aload_n 0, 1) := by decide +kernel
theorem dX2_init_43 : decode cX2_init 43 = .ok (.new 29, 3) := by decide +kernel
theorem dX2_init_46 : decode cX2_init 46 = .ok (.dup, 1) := by decide +kernel
theorem dX2_init_47 : decode cX2_init 47 = .ok (.invokespecial 31, 3) := by decide +kernel
theorem dX2_init_50 : decode cX2_init 50 = .ok (.putfield 32, 3) := by decide +kernel
theorem dX2_init_53 : decode cX2_init 53 = .ok (.return_, 1) := by decide +kernel
theorem dX2_unfold_0 : decode cX2_unfold 0 = .ok (.aload_n 0, 1) := by decide +kernel
theorem dX2_unfold_1 : decode cX2_unfold 1 = .ok (.iconst (-1), 1) := by decide +kernel
theorem dX2_unfold_2 : decode cX2_unfold 2 = .ok (.putfield 36, 3) := by decide +kernel
theorem dX2_unfold_5 : decode cX2_unfold 5 = .ok (.aload_n 0, 1) := by decide +kernel
theorem dX2_unfold_6 : decode cX2_unfold 6 = .ok (.iconst 0, 1) := by decide +kernel
theorem dX2_unfold_7 : decode cX2_unfold 7 = .ok (.putfield 40, 3) := by decide +kernel
theorem dX2_unfold_10 : decode cX2_unfold 10 = .ok (.aload_n 0, 1) := by decide +kernel
theorem dX2_unfold_11 : decode cX2_unfold 11 = .ok (.getfield 25, 3) := by decide +kernel
theorem dX2_unfold_14 : decode cX2_unfold 14 = .ok (.aload_n 1, 1) := by decide +kernel
theorem dX2_unfold_15 : decode cX2_unfold 15 = .ok (.getfield 43, 3) := by decide +kernel
theorem dX2_unfold_18 : decode cX2_unfold 18 = .ok (.i2l, 1) := by decide +kernel
theorem dX2_unfold_19 : decode cX2_unfold 19 = .ok (.aload_n 1, 1) := by decide +kernel
theorem dX2_unfold_20 : decode cX2_unfold 20 = .ok (.getfield 48, 3) := by decide +kernel
theorem dX2_unfold_23 : decode cX2_unfold 23 = .ok (.i2l, 1) := by decide +kernel
theorem dX2_unfold_24 : decode cX2_unfold 24 = .ok (.aload_n 1, 1) := by decide +kernel
theorem dX2_unfold_25 : decode cX2_unfold 25 = .ok (.getfield 51, 3) := by decide +kernel
theorem dX2_unfold_28 : decode cX2_unfold 28 = .ok (.i2l, 1) := by decide +kernel
theorem dX2_unfold_29 : decode cX2_unfold 29 = .ok (.invokevirtual 54, 3) := by decide +kernel
theorem dX2_unfold_32 : decode cX2_unfold 32 = .ok (.iconst 0, 1) := by decide +kernel
theorem dX2_unfold_33 : decode cX2_unfold 33 = .ok (.istore_n 2, 1) := by decide +kernel
theorem dX2_unfold_34 : decode cX2_unfold 34 = .ok (.iload_n 2, 1) := by decide +kernel
theorem dX2_unfold_35 : decode cX2_unfold 35 = .ok (.aload_n 0, 1) := by decide +kernel
theorem dX2_unfold_36 : decode cX2_unfold 36 = .ok (.getfield 9, 3) := by decide +kernel
theorem dX2_unfold_39 : decode cX2_unfold 39 = .ok (.arraylength, 1) := by decide +kernel
theorem dX2_unfold_40 : decode cX2_unfold 40 = .ok (.if_icmp .ge 35, 3) := by decide +kernel
theorem dX2_unfold_43 : decode cX2_unfold 43 = .ok (.aload_n 0, 1) := by decide +kernel
theorem dX2_unfold_44 : decode cX2_unfold 44 = .ok (.iload_n 2, 1) := by decide +kernel
theorem dX2_unfold_45 : decode cX2_unfold 45 = .ok (.invokevirtual 58, 3) := by decide +kernel
theorem dX2_unfold_48 : decode cX2_unfold 48 = .ok (.aload_n 0, 1) := by decide +kernel
theorem dX2_unfold_49 : decode cX2_unfold 49 = .ok (.getfield 9, 3) := by decide +kernel
theorem dX2_unfold_52 : decode cX2_unfold 52 = .ok (.iload_n 2, 1) := by decide +kernel
theorem dX2_unfold_53 : decode cX2_unfold 53 = .ok (.aload_n 0, 1) := by decide +kernel
theorem dX2_unfold_54 : decode cX2_unfold 54 = .ok (.getfield 25, 3) := by decide +kernel
theorem dX2_unfold_57 : decode cX2_unfold 57 = .ok (.invokevirtual 62, 3) := by decide +kernel
theorem dX2_unfold_60 : decode cX2_unfold 60 = .ok (.l2i, 1) := by decide +kernel
theorem dX2_unfold_61 : decode cX2_unfold 61 = .ok (.iastore, 1) := by decide +kernel
theorem dX2_unfold_62 : decode cX2_unfold 62 = .ok (.aload_n 0, 1) := by decide +kernel
theorem dX2_unfold_63 : decode cX2_unfold 63 = .ok (.getfield 25, 3) := by decide +kernel
theorem dX2_unfold_66 : decode cX2_unfold 66 = .ok (.invokevirtual 66, 3) := by decide +kernel
theorem dX2_unfold_69 : decode cX2_unfold 69 = .ok (.iinc 2 1, 3) := by decide +kernel
theorem dX2_unfold_72 : decode cX2_unfold 72 = .ok (.goto (-38), 3) := by decide +kernel
theorem dX2_unfold_75 : decode cX2_unfold 75 = .ok (.aload_n 0, 1) := by decide +kernel
theorem dX2_unfold_76 : decode cX2_unfold 76 = .ok (.aload_n 0, 1) := by decide +kernel
theorem dX2_unfold_77 : decode cX2_unfold 77 = .ok (.getfield 9, 3) := by decide +kernel
theorem dX2_unfold_80 : decode cX2_unfold 80 = .ok (.arraylength, 1) := by decide +kernel
theorem dX2_unfold_81 : decode cX2_unfold 81 = .ok (.invokevirtual 58, 3) := by decide +kernel
theorem dX2_unfold_84 : decode cX2_unfold 84 = .ok (.aload_n 0, 1) := by decide +kernel
theorem dX2_unfold_85 : decode cX2_unfold 85 = .ok (.invokevirtual 69, 3) := by decide +kernel
theorem dX2_unfold_88 : decode cX2_unfold 88 = .ok (.return_, 1) := by decide +kernel
theorem dX2_lookForPeriod_0 : decode cX2_lookForPeriod 0 = .ok (.aload_n 0, 1) := by decide +kernel
theorem dX2_lookForPeriod_1 : decode cX2_lookForPeriod 1 = .ok (.getfield 36, 3) := by decide +kernel
theorem dX2_lookForPeriod_4 : decode cX2_lookForPeriod 4 = .ok (.ifCond .ge 43, 3) := by decide +kernel
theorem dX2_lookForPeriod_7 : decode cX2_lookForPeriod 7 = .ok (.aload_n 0, 1) := by decide +kernel
theorem dX2_lookForPeriod_8 : decode cX2_lookForPeriod 8 = .ok (.getfield 25, 3) := by decide +kernel
theorem dX2_lookForPeriod_11 : decode cX2_lookForPeriod 11 = .ok (.invokevirtual 72, 3) := by decide +kernel
theorem dX2_lookForPeriod_14 : decode cX2_lookForPeriod 14 = .ok (.ifCond .eq 80, 3) := by decide +kernel
theorem dX2_lookForPeriod_17 : decode cX2_lookForPeriod 17 = .ok (.aload_n 0, 1) := by decide +kernel
theorem dX2_lookForPeriod_18 : decode cX2_lookForPeriod 18 = .ok (.iload_n 1, 1) := by decide +kernel
theorem dX2_lookForPeriod_19 : decode cX2_lookForPeriod 19 = .ok (.putfield 36, 3) := by decide +kernel
theorem dX2_lookForPeriod_22 : decode cX2_lookForPeriod 22 = .ok (.aload_n 0, 1) := by decide +kernel
theorem dX2_lookForPeriod_23 : decode cX2_lookForPeriod 23 = .ok (.aload_n 0, 1) := by decide +kernel
theorem dX2_lookForPeriod_24 : decode cX2_lookForPeriod 24 = .ok (.getfield 25, 3) := by decide +kernel
theorem dX2_lookForPeriod_27 : decode cX2_lookForPeriod 27 = .ok (.getfield 76, 3) := by decide +kernel
theorem dX2_lookForPeriod_30 : decode cX2_lookForPeriod 30 = .ok (.putfield 80, 3) := by decide +kernel
theorem dX2_lookForPeriod_33 : decode cX2_lookForPeriod 33 = .ok (.aload_n 0, 1) := by decide +kernel
theorem dX2_lookForPeriod_34 : decode cX2_lookForPeriod 34 = .ok (.aload_n 0, 1) := by decide +kernel
theorem dX2_lookForPeriod_35 : decode cX2_lookForPeriod 35 = .ok (.getfield 25, 3) := by decide +kernel
theorem dX2_lookForPeriod_38 : decode cX2_lookForPeriod 38 = .ok (.getfield 83, 3) := by decide +kernel
theorem dX2_lookForPeriod_41 : decode cX2_lookForPeriod 41 = .ok (.putfield 86, 3) := by decide +kernel
theorem dX2_lookForPeriod_44 : decode cX2_lookForPeriod 44 = .ok (.goto 50, 3) := by decide +kernel
theorem dX2_lookForPeriod_47 : decode cX2_lookForPeriod 47 = .ok (.aload_n 0, 1) := by decide +kernel
theorem dX2_lookForPeriod_48 : decode cX2_lookForPeriod 48 = .ok (.getfield 40, 3) := by decide +kernel
theorem dX2_lookForPeriod_51 : decode cX2_lookForPeriod 51 = .ok (.ifCond .ne 43, 3) := by decide +kernel
theorem dX2_lookForPeriod_54 : decode cX2_lookForPeriod 54 = .ok (.aload_n 0, 1) := by decide +kernel
theorem dX2_lookForPeriod_55 : decode cX2_lookForPeriod 55 = .ok (.getfield 25, 3) := by decide +kernel
theorem dX2_lookForPeriod_58 : decode cX2_lookForPeriod 58 = .ok (.getfield 76, 3) := by decide +kernel
theorem dX2_lookForPeriod_61 : decode cX2_lookForPeriod 61 = .ok (.aload_n 0, 1) := by decide +kernel
theorem dX2_lookForPeriod_62 : decode cX2_lookForPeriod 62 = .ok (.getfield 80, 3) := by decide +kernel
theorem dX2_lookForPeriod_65 : decode cX2_lookForPeriod 65 = .ok (.lcmp, 1) := by decide +kernel
theorem dX2_lookForPeriod_66 : decode cX2_lookForPeriod 66 = .ok (.ifCond .ne 28, 3) := by decide +kernel
theorem dX2_lookForPeriod_69 : decode cX2_lookForPeriod 69 = .ok (.aload_n 0, 1) := by decide +kernel
theorem dX2_lookForPeriod_70 : decode cX2_lookForPeriod 70 = .ok (.getfield 25, 3) := by decide +kernel
theorem dX2_lookForPeriod_73 : decode cX2_lookForPeriod 73 = .ok (.getfield 83, 3) := by decide +kernel
theorem dX2_lookForPeriod_76 : decode cX2_lookForPeriod 76 = .ok (.aload_n 0, 1) := by decide +kernel
theorem dX2_lookForPeriod_77 : decode cX2_lookForPeriod 77 = .ok (.getfield 86, 3) := by decide +kernel
theorem dX2_lookForPeriod_80 : decode cX2_lookForPeriod 80 = .ok (.lcmp, 1) := by decide +kernel
theorem dX2_lookForPeriod_81 : decode cX2_lookForPeriod 81 = .ok (.ifCond .ne 13, 3) := by decide +kernel
theorem dX2_lookForPeriod_84 : decode cX2_lookForPeriod 84 = .ok (.aload_n 0, 1) := by decide +kernel
theorem dX2_lookForPeriod_85 : decode cX2_lookForPeriod 85 = .ok (.iload_n 1, 1) := by decide +kernel
theorem dX2_lookForPeriod_86 : decode cX2_lookForPeriod 86 = .ok (.aload_n 0, 1) := by decide +kernel
theorem dX2_lookForPeriod_87 : decode cX2_lookForPeriod 87 = .ok (.getfield 36, 3) := by decide +kernel
theorem dX2_lookForPeriod_90 : decode cX2_lookForPeriod 90 = .ok (.isub, 1) := by decide +kernel
theorem dX2_lookForPeriod_91 : decode cX2_lookForPeriod 91 = .ok (.putfield 40, 3) := by decide +kernel
theorem dX2_lookForPeriod_94 : decode cX2_lookForPeriod 94 = .ok (.return_, 1) := by decide +kernel
theorem dX2_chainConvergents_0 : decode cX2_chainConvergents 0 = .ok (.aload_n 0, 1) := by decide +kernel
theorem dX2_chainConvergents_1 : decode cX2_chainConvergents 1 = .ok (.iconst 0, 1) := by decide +kernel
theorem dX2_chainConvergents_2 : decode cX2_chainConvergents 2 = .ok (.putfield 89, 3) := by decide +kernel
theorem dX2_chainConvergents_5 : decode cX2_chainConvergents 5 = .ok (.aload_n 0, 1) := by decide +kernel
theorem dX2_chainConvergents_6 : decode cX2_chainConvergents 6 = .ok (.getfield 32, 3) := by decide +kernel
theorem dX2_chainConvergents_9 : decode cX2_chainConvergents 9 = .ok (.invokevirtual 92, 3) := by decide +kernel
theorem dX2_chainConvergents_12 : decode cX2_chainConvergents 12 = .ok (.iconst 0, 1) := by decide +kernel
theorem dX2_chainConvergents_13 : decode cX2_chainConvergents 13 = .ok (.istore_n 1, 1) := by decide +kernel
theorem dX2_chainConvergents_14 : decode cX2_chainConvergents 14 = .ok (.iload_n 1, 1) := by decide +kernel
theorem dX2_chainConvergents_15 : decode cX2_chainConvergents 15 = .ok (.sipush 400, 3) := by decide +kernel
theorem dX2_chainConvergents_18 : decode cX2_chainConvergents 18 = .ok (.if_icmp .ge 87, 3) := by decide +kernel
theorem dX2_chainConvergents_21 : decode cX2_chainConvergents 21 = .ok (.iload_n 1, 1) := by decide +kernel
theorem dX2_chainConvergents_22 : decode cX2_chainConvergents 22 = .ok (.aload_n 0, 1) := by decide +kernel
theorem dX2_chainConvergents_23 : decode cX2_chainConvergents 23 = .ok (.getfield 15, 3) := by decide +kernel
theorem dX2_chainConvergents_26 : decode cX2_chainConvergents 26 = .ok (.arraylength, 1) := by decide +kernel
theorem dX2_chainConvergents_27 : decode cX2_chainConvergents 27 = .ok (.if_icmp .ge 78, 3) := by decide +kernel
theorem dX2_chainConvergents_30 : decode cX2_chainConvergents 30 = .ok (.iload_n 1, 1) := by decide +kernel
theorem dX2_chainConvergents_31 : decode cX2_chainConvergents 31 = .ok (.aload_n 0, 1) := by decide +kernel
theorem dX2_chainConvergents_32 : decode cX2_chainConvergents 32 = .ok (.getfield 19, 3) := by decide +kernel
theorem dX2_chainConvergents_35 : decode cX2_chainConvergents 35 = .ok (.arraylength, 1) := by decide +kernel
theorem dX2_chainConvergents_36 : decode cX2_chainConvergents 36 = .ok (.if_icmp .ge 69, 3) := by decide +kernel
theorem dX2_chainConvergents_39 : decode cX2_chainConvergents 39 = .ok (.aload_n 0, 1) := by decide +kernel
theorem dX2_chainConvergents_40 : decode cX2_chainConvergents 40 = .ok (.getfield 32, 3) := by decide +kernel
theorem dX2_chainConvergents_43 : decode cX2_chainConvergents 43 = .ok (.aload_n 0, 1) := by decide +kernel
theorem dX2_chainConvergents_44 : decode cX2_chainConvergents 44 = .ok (.iload_n 1, 1) := by decide +kernel
theorem dX2_chainConvergents_45 : decode cX2_chainConvergents 45 = .ok (.invokevirtual 94, 3) := by decide +kernel
theorem dX2_chainConvergents_48 : decode cX2_chainConvergents 48 = .ok (.i2l, 1) := by decide +kernel
theorem dX2_chainConvergents_49 : decode cX2_chainConvergents 49 = .ok (.invokevirtual 98, 3) := by decide +kernel
theorem dX2_chainConvergents_52 : decode cX2_chainConvergents 52 = .ok (.aload_n 0, 1) := by decide +kernel
theorem dX2_chainConvergents_53 : decode cX2_chainConvergents 53 = .ok (.getfield 32, 3) := by decide +kernel
theorem dX2_chainConvergents_56 : decode cX2_chainConvergents 56 = .ok (.getfield 102, 3) := by decide +kernel
theorem dX2_chainConvergents_59 : decode cX2_chainConvergents 59 = .ok (.ifCond .eq 4, 3) := by decide +kernel
theorem dX2_chainConvergents_62 : decode cX2_chainConvergents 62 = .ok (.return_, 1) := by decide +kernel
theorem dX2_chainConvergents_63 : decode cX2_chainConvergents 63 = .ok (.aload_n 0, 1) := by decide +kernel
theorem dX2_chainConvergents_64 : decode cX2_chainConvergents 64 = .ok (.getfield 15, 3) := by decide +kernel
theorem dX2_chainConvergents_67 : decode cX2_chainConvergents 67 = .ok (.iload_n 1, 1) := by decide +kernel
theorem dX2_chainConvergents_68 : decode cX2_chainConvergents 68 = .ok (.aload_n 0, 1) := by decide +kernel
theorem dX2_chainConvergents_69 : decode cX2_chainConvergents 69 = .ok (.getfield 32, 3) := by decide +kernel
theorem dX2_chainConvergents_72 : decode cX2_chainConvergents 72 = .ok (.getfield 106, 3) := by decide +kernel
theorem dX2_chainConvergents_75 : decode cX2_chainConvergents 75 = .ok (.lastore, 1) := by decide +kernel
theorem dX2_chainConvergents_76 : decode cX2_chainConvergents 76 = .ok (.aload_n 0, 1) := by decide +kernel
theorem dX2_chainConvergents_77 : decode cX2_chainConvergents 77 = .ok (.getfield 19, 3) := by decide +kernel
theorem dX2_chainConvergents_80 : decode cX2_chainConvergents 80 = .ok (.iload_n 1, 1) := by decide +kernel
theorem dX2_chainConvergents_81 : decode cX2_chainConvergents 81 = .ok (.aload_n 0, 1) := by decide +kernel
theorem dX2_chainConvergents_82 : decode cX2_chainConvergents 82 = .ok (.getfield 32, 3) := by decide +kernel
theorem dX2_chainConvergents_85 : decode cX2_chainConvergents 85 = .ok (.getfield 109, 3) := by decide +kernel
theorem dX2_chainConvergents_88 : decode cX2_chainConvergents 88 = .ok (.lastore, 1) := by decide +kernel
theorem dX2_chainConvergents_89 : decode cX2_chainConvergents 89 = .ok (.aload_n 0, 1) := by decide +kernel
theorem dX2_chainConvergents_90 : decode cX2_chainConvergents 90 = .ok (.dup, 1) := by decide +kernel
theorem dX2_chainConvergents_91 : decode cX2_chainConvergents 91 = .ok (.getfield 89, 3) := by decide +kernel
theorem dX2_chainConvergents_94 : decode cX2_chainConvergents 94 = .ok (.iconst 1, 1) := by decide +kernel
theorem dX2_chainConvergents_95 : decode cX2_chainConvergents 95 = .ok (.iadd, 1) := by decide +kernel
theorem dX2_chainConvergents_96 : decode cX2_chainConvergents 96 = .ok (.putfield 89, 3) := by decide +kernel
theorem dX2_chainConvergents_99 : decode cX2_chainConvergents 99 = .ok (.iinc 1 1, 3) := by decide +kernel
theorem dX2_chainConvergents_102 : decode cX2_chainConvergents 102 = .ok (.goto (-88), 3) := by decide +kernel
theorem dX2_chainConvergents_105 : decode cX2_chainConvergents 105 = .ok (.return_, 1) := by decide +kernel
theorem dX2_termAt_0 : decode cX2_termAt 0 = .ok (.iload_n 1, 1) := by decide +kernel
theorem dX2_termAt_1 : decode cX2_termAt 1 = .ok (.ifCond .lt 21, 3) := by decide +kernel
theorem dX2_termAt_4 : decode cX2_termAt 4 = .ok (.iload_n 1, 1) := by decide +kernel
theorem dX2_termAt_5 : decode cX2_termAt 5 = .ok (.aload_n 0, 1) := by decide +kernel
theorem dX2_termAt_6 : decode cX2_termAt 6 = .ok (.getfield 9, 3) := by decide +kernel
theorem dX2_termAt_9 : decode cX2_termAt 9 = .ok (.arraylength, 1) := by decide +kernel
theorem dX2_termAt_10 : decode cX2_termAt 10 = .ok (.if_icmp .ge 12, 3) := by decide +kernel
theorem dX2_termAt_13 : decode cX2_termAt 13 = .ok (.aload_n 0, 1) := by decide +kernel
theorem dX2_termAt_14 : decode cX2_termAt 14 = .ok (.getfield 9, 3) := by decide +kernel
theorem dX2_termAt_17 : decode cX2_termAt 17 = .ok (.iload_n 1, 1) := by decide +kernel
theorem dX2_termAt_18 : decode cX2_termAt 18 = .ok (.iaload, 1) := by decide +kernel
theorem dX2_termAt_19 : decode cX2_termAt 19 = .ok (.goto 4, 3) := by decide +kernel
theorem dX2_termAt_22 : decode cX2_termAt 22 = .ok (.iconst 0, 1) := by decide +kernel
theorem dX2_termAt_23 : decode cX2_termAt 23 = .ok (.ireturn, 1) := by decide +kernel
theorem dX2_upperAt_0 : decode cX2_upperAt 0 = .ok (.iload_n 1, 1) := by decide +kernel
theorem dX2_upperAt_1 : decode cX2_upperAt 1 = .ok (.ifCond .lt 21, 3) := by decide +kernel
theorem dX2_upperAt_4 : decode cX2_upperAt 4 = .ok (.iload_n 1, 1) := by decide +kernel
theorem dX2_upperAt_5 : decode cX2_upperAt 5 = .ok (.aload_n 0, 1) := by decide +kernel
theorem dX2_upperAt_6 : decode cX2_upperAt 6 = .ok (.getfield 15, 3) := by decide +kernel
theorem dX2_upperAt_9 : decode cX2_upperAt 9 = .ok (.arraylength, 1) := by decide +kernel
theorem dX2_upperAt_10 : decode cX2_upperAt 10 = .ok (.if_icmp .ge 12, 3) := by decide +kernel
theorem dX2_upperAt_13 : decode cX2_upperAt 13 = .ok (.aload_n 0, 1) := by decide +kernel
theorem dX2_upperAt_14 : decode cX2_upperAt 14 = .ok (.getfield 15, 3) := by decide +kernel
theorem dX2_upperAt_17 : decode cX2_upperAt 17 = .ok (.iload_n 1, 1) := by decide +kernel
theorem dX2_upperAt_18 : decode cX2_upperAt 18 = .ok (.laload, 1) := by decide +kernel
theorem dX2_upperAt_19 : decode cX2_upperAt 19 = .ok (.goto 4, 3) := by decide +kernel
theorem dX2_upperAt_22 : decode cX2_upperAt 22 = .ok (.lconst 0, 1) := by decide +kernel
theorem dX2_upperAt_23 : decode cX2_upperAt 23 = .ok (.lreturn, 1) := by decide +kernel
theorem dX2_lowerAt_0 : decode cX2_lowerAt 0 = .ok (.iload_n 1, 1) := by decide +kernel
theorem dX2_lowerAt_1 : decode cX2_lowerAt 1 = .ok (.ifCond .lt 21, 3) := by decide +kernel
theorem dX2_lowerAt_4 : decode cX2_lowerAt 4 = .ok (.iload_n 1, 1) := by decide +kernel
theorem dX2_lowerAt_5 : decode cX2_lowerAt 5 = .ok (.aload_n 0, 1) := by decide +kernel
theorem dX2_lowerAt_6 : decode cX2_lowerAt 6 = .ok (.getfield 19, 3) := by decide +kernel
theorem dX2_lowerAt_9 : decode cX2_lowerAt 9 = .ok (.arraylength, 1) := by decide +kernel
theorem dX2_lowerAt_10 : decode cX2_lowerAt 10 = .ok (.if_icmp .ge 12, 3) := by decide +kernel
theorem dX2_lowerAt_13 : decode cX2_lowerAt 13 = .ok (.aload_n 0, 1) := by decide +kernel
theorem dX2_lowerAt_14 : decode cX2_lowerAt 14 = .ok (.getfield 19, 3) := by decide +kernel
theorem dX2_lowerAt_17 : decode cX2_lowerAt 17 = .ok (.iload_n 1, 1) := by decide +kernel
theorem dX2_lowerAt_18 : decode cX2_lowerAt 18 = .ok (.laload, 1) := by decide +kernel
theorem dX2_lowerAt_19 : decode cX2_lowerAt 19 = .ok (.goto 4, 3) := by decide +kernel
theorem dX2_lowerAt_22 : decode cX2_lowerAt 22 = .ok (.lconst 1, 1) := by decide +kernel
theorem dX2_lowerAt_23 : decode cX2_lowerAt 23 = .ok (.lreturn, 1) := by decide +kernel
theorem dX2_comesAgain_0 : decode cX2_comesAgain 0 = .ok (.aload_n 0, 1) := by decide +kernel
theorem dX2_comesAgain_1 : decode cX2_comesAgain 1 = .ok (.getfield 40, 3) := by decide +kernel
theorem dX2_comesAgain_4 : decode cX2_comesAgain 4 = .ok (.ifCond .le 7, 3) := by decide +kernel
theorem dX2_comesAgain_7 : decode cX2_comesAgain 7 = .ok (.iconst 1, 1) := by decide +kernel
theorem dX2_comesAgain_8 : decode cX2_comesAgain 8 = .ok (.goto 4, 3) := by decide +kernel
theorem dX2_comesAgain_11 : decode cX2_comesAgain 11 = .ok (.iconst 0, 1) := by decide +kernel
theorem dX2_comesAgain_12 : decode cX2_comesAgain 12 = .ok (.ireturn, 1) := by decide +kernel
theorem dX2_greatestOfPeriod_0 : decode cX2_greatestOfPeriod 0 = .ok (.iconst 0, 1) := by decide +kernel
theorem dX2_greatestOfPeriod_1 : decode cX2_greatestOfPeriod 1 = .ok (.istore_n 1, 1) := by decide +kernel
theorem dX2_greatestOfPeriod_2 : decode cX2_greatestOfPeriod 2 = .ok (.iconst 0, 1) := by decide +kernel
theorem dX2_greatestOfPeriod_3 : decode cX2_greatestOfPeriod 3 = .ok (.istore_n 2, 1) := by decide +kernel
theorem dX2_greatestOfPeriod_4 : decode cX2_greatestOfPeriod 4 = .ok (.iload_n 2, 1) := by decide +kernel
theorem dX2_greatestOfPeriod_5 : decode cX2_greatestOfPeriod 5 = .ok (.aload_n 0, 1) := by decide +kernel
theorem dX2_greatestOfPeriod_6 : decode cX2_greatestOfPeriod 6 = .ok (.getfield 40, 3) := by decide +kernel
theorem dX2_greatestOfPeriod_9 : decode cX2_greatestOfPeriod 9 = .ok (.if_icmp .ge 24, 3) := by decide +kernel
theorem dX2_greatestOfPeriod_12 : decode cX2_greatestOfPeriod 12 = .ok (.iload_n 1, 1) := by decide +kernel
theorem dX2_greatestOfPeriod_13 : decode cX2_greatestOfPeriod 13 = .ok (.aload_n 0, 1) := by decide +kernel
theorem dX2_greatestOfPeriod_14 : decode cX2_greatestOfPeriod 14 = .ok (.aload_n 0, 1) := by decide +kernel
theorem dX2_greatestOfPeriod_15 : decode cX2_greatestOfPeriod 15 = .ok (.getfield 36, 3) := by decide +kernel
theorem dX2_greatestOfPeriod_18 : decode cX2_greatestOfPeriod 18 = .ok (.iload_n 2, 1) := by decide +kernel
theorem dX2_greatestOfPeriod_19 : decode cX2_greatestOfPeriod 19 = .ok (.iadd, 1) := by decide +kernel
theorem dX2_greatestOfPeriod_20 : decode cX2_greatestOfPeriod 20 = .ok (.invokevirtual 94, 3) := by decide +kernel
theorem dX2_greatestOfPeriod_23 : decode cX2_greatestOfPeriod 23 = .ok (.invokestatic 112, 3) := by decide +kernel
theorem dX2_greatestOfPeriod_26 : decode cX2_greatestOfPeriod 26 = .ok (.istore_n 1, 1) := by decide +kernel
theorem dX2_greatestOfPeriod_27 : decode cX2_greatestOfPeriod 27 = .ok (.iinc 2 1, 3) := by decide +kernel
theorem dX2_greatestOfPeriod_30 : decode cX2_greatestOfPeriod 30 = .ok (.goto (-26), 3) := by decide +kernel
theorem dX2_greatestOfPeriod_33 : decode cX2_greatestOfPeriod 33 = .ok (.iload_n 1, 1) := by decide +kernel
theorem dX2_greatestOfPeriod_34 : decode cX2_greatestOfPeriod 34 = .ok (.ireturn, 1) := by decide +kernel
theorem dX2_unlikeOfPeriod_0 : decode cX2_unlikeOfPeriod 0 = .ok (.iconst 0, 1) := by decide +kernel
theorem dX2_unlikeOfPeriod_1 : decode cX2_unlikeOfPeriod 1 = .ok (.istore_n 1, 1) := by decide +kernel
theorem dX2_unlikeOfPeriod_2 : decode cX2_unlikeOfPeriod 2 = .ok (.iconst 0, 1) := by decide +kernel
theorem dX2_unlikeOfPeriod_3 : decode cX2_unlikeOfPeriod 3 = .ok (.istore_n 2, 1) := by decide +kernel
theorem dX2_unlikeOfPeriod_4 : decode cX2_unlikeOfPeriod 4 = .ok (.iload_n 2, 1) := by decide +kernel
theorem dX2_unlikeOfPeriod_5 : decode cX2_unlikeOfPeriod 5 = .ok (.aload_n 0, 1) := by decide +kernel
theorem dX2_unlikeOfPeriod_6 : decode cX2_unlikeOfPeriod 6 = .ok (.getfield 40, 3) := by decide +kernel
theorem dX2_unlikeOfPeriod_9 : decode cX2_unlikeOfPeriod 9 = .ok (.if_icmp .ge 20, 3) := by decide +kernel
theorem dX2_unlikeOfPeriod_12 : decode cX2_unlikeOfPeriod 12 = .ok (.aload_n 0, 1) := by decide +kernel
theorem dX2_unlikeOfPeriod_13 : decode cX2_unlikeOfPeriod 13 = .ok (.iload_n 2, 1) := by decide +kernel
theorem dX2_unlikeOfPeriod_14 : decode cX2_unlikeOfPeriod 14 = .ok (.invokevirtual 118, 3) := by decide +kernel
theorem dX2_unlikeOfPeriod_17 : decode cX2_unlikeOfPeriod 17 = .ok (.ifCond .eq 6, 3) := by decide +kernel
theorem dX2_unlikeOfPeriod_20 : decode cX2_unlikeOfPeriod 20 = .ok (.iinc 1 1, 3) := by decide +kernel
theorem dX2_unlikeOfPeriod_23 : decode cX2_unlikeOfPeriod 23 = .ok (.iinc 2 1, 3) := by decide +kernel
theorem dX2_unlikeOfPeriod_26 : decode cX2_unlikeOfPeriod 26 = .ok (.goto (-22), 3) := by decide +kernel
theorem dX2_unlikeOfPeriod_29 : decode cX2_unlikeOfPeriod 29 = .ok (.iload_n 1, 1) := by decide +kernel
theorem dX2_unlikeOfPeriod_30 : decode cX2_unlikeOfPeriod 30 = .ok (.ireturn, 1) := by decide +kernel
theorem dX2_isNewInPeriod_0 : decode cX2_isNewInPeriod 0 = .ok (.iconst 0, 1) := by decide +kernel
theorem dX2_isNewInPeriod_1 : decode cX2_isNewInPeriod 1 = .ok (.istore_n 2, 1) := by decide +kernel
theorem dX2_isNewInPeriod_2 : decode cX2_isNewInPeriod 2 = .ok (.iload_n 2, 1) := by decide +kernel
theorem dX2_isNewInPeriod_3 : decode cX2_isNewInPeriod 3 = .ok (.iload_n 1, 1) := by decide +kernel
theorem dX2_isNewInPeriod_4 : decode cX2_isNewInPeriod 4 = .ok (.if_icmp .ge 34, 3) := by decide +kernel
theorem dX2_isNewInPeriod_7 : decode cX2_isNewInPeriod 7 = .ok (.aload_n 0, 1) := by decide +kernel
theorem dX2_isNewInPeriod_8 : decode cX2_isNewInPeriod 8 = .ok (.aload_n 0, 1) := by decide +kernel
theorem dX2_isNewInPeriod_9 : decode cX2_isNewInPeriod 9 = .ok (.getfield 36, 3) := by decide +kernel
theorem dX2_isNewInPeriod_12 : decode cX2_isNewInPeriod 12 = .ok (.iload_n 2, 1) := by decide +kernel
theorem dX2_isNewInPeriod_13 : decode cX2_isNewInPeriod 13 = .ok (.iadd, 1) := by decide +kernel
theorem dX2_isNewInPeriod_14 : decode cX2_isNewInPeriod 14 = .ok (.invokevirtual 94, 3) := by decide +kernel
theorem dX2_isNewInPeriod_17 : decode cX2_isNewInPeriod 17 = .ok (.aload_n 0, 1) := by decide +kernel
theorem dX2_isNewInPeriod_18 : decode cX2_isNewInPeriod 18 = .ok (.aload_n 0, 1) := by decide +kernel
theorem dX2_isNewInPeriod_19 : decode cX2_isNewInPeriod 19 = .ok (.getfield 36, 3) := by decide +kernel
theorem dX2_isNewInPeriod_22 : decode cX2_isNewInPeriod 22 = .ok (.iload_n 1, 1) := by decide +kernel
theorem dX2_isNewInPeriod_23 : decode cX2_isNewInPeriod 23 = .ok (.iadd, 1) := by decide +kernel
theorem dX2_isNewInPeriod_24 : decode cX2_isNewInPeriod 24 = .ok (.invokevirtual 94, 3) := by decide +kernel
theorem dX2_isNewInPeriod_27 : decode cX2_isNewInPeriod 27 = .ok (.if_icmp .ne 5, 3) := by decide +kernel
theorem dX2_isNewInPeriod_30 : decode cX2_isNewInPeriod 30 = .ok (.iconst 0, 1) := by decide +kernel
theorem dX2_isNewInPeriod_31 : decode cX2_isNewInPeriod 31 = .ok (.ireturn, 1) := by decide +kernel
theorem dX2_isNewInPeriod_32 : decode cX2_isNewInPeriod 32 = .ok (.iinc 2 1, 3) := by decide +kernel
theorem dX2_isNewInPeriod_35 : decode cX2_isNewInPeriod 35 = .ok (.goto (-33), 3) := by decide +kernel
theorem dX2_isNewInPeriod_38 : decode cX2_isNewInPeriod 38 = .ok (.iconst 1, 1) := by decide +kernel
theorem dX2_isNewInPeriod_39 : decode cX2_isNewInPeriod 39 = .ok (.ireturn, 1) := by decide +kernel
theorem dX2_isPeriodMirrored_0 : decode cX2_isPeriodMirrored 0 = .ok (.aload_n 0, 1) := by decide +kernel
theorem dX2_isPeriodMirrored_1 : decode cX2_isPeriodMirrored 1 = .ok (.getfield 40, 3) := by decide +kernel
theorem dX2_isPeriodMirrored_4 : decode cX2_isPeriodMirrored 4 = .ok (.iconst 2, 1) := by decide +kernel
theorem dX2_isPeriodMirrored_5 : decode cX2_isPeriodMirrored 5 = .ok (.isub, 1) := by decide +kernel
theorem dX2_isPeriodMirrored_6 : decode cX2_isPeriodMirrored 6 = .ok (.istore_n 1, 1) := by decide +kernel
theorem dX2_isPeriodMirrored_7 : decode cX2_isPeriodMirrored 7 = .ok (.iconst 0, 1) := by decide +kernel
theorem dX2_isPeriodMirrored_8 : decode cX2_isPeriodMirrored 8 = .ok (.istore_n 2, 1) := by decide +kernel
theorem dX2_isPeriodMirrored_9 : decode cX2_isPeriodMirrored 9 = .ok (.iload_n 2, 1) := by decide +kernel
theorem dX2_isPeriodMirrored_10 : decode cX2_isPeriodMirrored 10 = .ok (.iload_n 1, 1) := by decide +kernel
theorem dX2_isPeriodMirrored_11 : decode cX2_isPeriodMirrored 11 = .ok (.iload_n 2, 1) := by decide +kernel
theorem dX2_isPeriodMirrored_12 : decode cX2_isPeriodMirrored 12 = .ok (.isub, 1) := by decide +kernel
theorem dX2_isPeriodMirrored_13 : decode cX2_isPeriodMirrored 13 = .ok (.if_icmp .ge 36, 3) := by decide +kernel
theorem dX2_isPeriodMirrored_16 : decode cX2_isPeriodMirrored 16 = .ok (.aload_n 0, 1) := by decide +kernel
theorem dX2_isPeriodMirrored_17 : decode cX2_isPeriodMirrored 17 = .ok (.aload_n 0, 1) := by decide +kernel
theorem dX2_isPeriodMirrored_18 : decode cX2_isPeriodMirrored 18 = .ok (.getfield 36, 3) := by decide +kernel
theorem dX2_isPeriodMirrored_21 : decode cX2_isPeriodMirrored 21 = .ok (.iload_n 2, 1) := by decide +kernel
theorem dX2_isPeriodMirrored_22 : decode cX2_isPeriodMirrored 22 = .ok (.iadd, 1) := by decide +kernel
theorem dX2_isPeriodMirrored_23 : decode cX2_isPeriodMirrored 23 = .ok (.invokevirtual 94, 3) := by decide +kernel
theorem dX2_isPeriodMirrored_26 : decode cX2_isPeriodMirrored 26 = .ok (.aload_n 0, 1) := by decide +kernel
theorem dX2_isPeriodMirrored_27 : decode cX2_isPeriodMirrored 27 = .ok (.aload_n 0, 1) := by decide +kernel
theorem dX2_isPeriodMirrored_28 : decode cX2_isPeriodMirrored 28 = .ok (.getfield 36, 3) := by decide +kernel
theorem dX2_isPeriodMirrored_31 : decode cX2_isPeriodMirrored 31 = .ok (.iload_n 1, 1) := by decide +kernel
theorem dX2_isPeriodMirrored_32 : decode cX2_isPeriodMirrored 32 = .ok (.iadd, 1) := by decide +kernel
theorem dX2_isPeriodMirrored_33 : decode cX2_isPeriodMirrored 33 = .ok (.iload_n 2, 1) := by decide +kernel
theorem dX2_isPeriodMirrored_34 : decode cX2_isPeriodMirrored 34 = .ok (.isub, 1) := by decide +kernel
theorem dX2_isPeriodMirrored_35 : decode cX2_isPeriodMirrored 35 = .ok (.invokevirtual 94, 3) := by decide +kernel
theorem dX2_isPeriodMirrored_38 : decode cX2_isPeriodMirrored 38 = .ok (.if_icmp .eq 5, 3) := by decide +kernel
theorem dX2_isPeriodMirrored_41 : decode cX2_isPeriodMirrored 41 = .ok (.iconst 0, 1) := by decide +kernel
theorem dX2_isPeriodMirrored_42 : decode cX2_isPeriodMirrored 42 = .ok (.ireturn, 1) := by decide +kernel
theorem dX2_isPeriodMirrored_43 : decode cX2_isPeriodMirrored 43 = .ok (.iinc 2 1, 3) := by decide +kernel
theorem dX2_isPeriodMirrored_46 : decode cX2_isPeriodMirrored 46 = .ok (.goto (-37), 3) := by decide +kernel
theorem dX2_isPeriodMirrored_49 : decode cX2_isPeriodMirrored 49 = .ok (.iconst 1, 1) := by decide +kernel
theorem dX2_isPeriodMirrored_50 : decode cX2_isPeriodMirrored 50 = .ok (.ireturn, 1) := by decide +kernel
theorem dX2_hasConvergent_0 : decode cX2_hasConvergent 0 = .ok (.iconst 0, 1) := by decide +kernel
theorem dX2_hasConvergent_1 : decode cX2_hasConvergent 1 = .ok (.istore 5, 2) := by decide +kernel
theorem dX2_hasConvergent_3 : decode cX2_hasConvergent 3 = .ok (.iload 5, 2) := by decide +kernel
theorem dX2_hasConvergent_5 : decode cX2_hasConvergent 5 = .ok (.aload_n 0, 1) := by decide +kernel
theorem dX2_hasConvergent_6 : decode cX2_hasConvergent 6 = .ok (.getfield 89, 3) := by decide +kernel
theorem dX2_hasConvergent_9 : decode cX2_hasConvergent 9 = .ok (.if_icmp .ge 33, 3) := by decide +kernel
theorem dX2_hasConvergent_12 : decode cX2_hasConvergent 12 = .ok (.aload_n 0, 1) := by decide +kernel
theorem dX2_hasConvergent_13 : decode cX2_hasConvergent 13 = .ok (.iload 5, 2) := by decide +kernel
theorem dX2_hasConvergent_15 : decode cX2_hasConvergent 15 = .ok (.invokevirtual 122, 3) := by decide +kernel
theorem dX2_hasConvergent_18 : decode cX2_hasConvergent 18 = .ok (.lload_n 1, 1) := by decide +kernel
theorem dX2_hasConvergent_19 : decode cX2_hasConvergent 19 = .ok (.lcmp, 1) := by decide +kernel
theorem dX2_hasConvergent_20 : decode cX2_hasConvergent 20 = .ok (.ifCond .ne 16, 3) := by decide +kernel
theorem dX2_hasConvergent_23 : decode cX2_hasConvergent 23 = .ok (.aload_n 0, 1) := by decide +kernel
theorem dX2_hasConvergent_24 : decode cX2_hasConvergent 24 = .ok (.iload 5, 2) := by decide +kernel
theorem dX2_hasConvergent_26 : decode cX2_hasConvergent 26 = .ok (.invokevirtual 126, 3) := by decide +kernel
theorem dX2_hasConvergent_29 : decode cX2_hasConvergent 29 = .ok (.lload_n 3, 1) := by decide +kernel
theorem dX2_hasConvergent_30 : decode cX2_hasConvergent 30 = .ok (.lcmp, 1) := by decide +kernel
theorem dX2_hasConvergent_31 : decode cX2_hasConvergent 31 = .ok (.ifCond .ne 5, 3) := by decide +kernel
theorem dX2_hasConvergent_34 : decode cX2_hasConvergent 34 = .ok (.iconst 1, 1) := by decide +kernel
theorem dX2_hasConvergent_35 : decode cX2_hasConvergent 35 = .ok (.ireturn, 1) := by decide +kernel
theorem dX2_hasConvergent_36 : decode cX2_hasConvergent 36 = .ok (.iinc 5 1, 3) := by decide +kernel
theorem dX2_hasConvergent_39 : decode cX2_hasConvergent 39 = .ok (.goto (-36), 3) := by decide +kernel
theorem dX2_hasConvergent_42 : decode cX2_hasConvergent 42 = .ok (.iconst 0, 1) := by decide +kernel
theorem dX2_hasConvergent_43 : decode cX2_hasConvergent 43 = .ok (.ireturn, 1) := by decide +kernel
theorem dX2_countShared_0 : decode cX2_countShared 0 = .ok (.iconst 0, 1) := by decide +kernel
theorem dX2_countShared_1 : decode cX2_countShared 1 = .ok (.istore_n 2, 1) := by decide +kernel
theorem dX2_countShared_2 : decode cX2_countShared 2 = .ok (.iload_n 2, 1) := by decide +kernel
theorem dX2_countShared_3 : decode cX2_countShared 3 = .ok (.aload_n 1, 1) := by decide +kernel
theorem dX2_countShared_4 : decode cX2_countShared 4 = .ok (.getfield 129, 3) := by decide +kernel
theorem dX2_countShared_7 : decode cX2_countShared 7 = .ok (.if_icmp .ge 22, 3) := by decide +kernel
theorem dX2_countShared_10 : decode cX2_countShared 10 = .ok (.aload_n 1, 1) := by decide +kernel
theorem dX2_countShared_11 : decode cX2_countShared 11 = .ok (.iload_n 2, 1) := by decide +kernel
theorem dX2_countShared_12 : decode cX2_countShared 12 = .ok (.invokevirtual 134, 3) := by decide +kernel
theorem dX2_countShared_15 : decode cX2_countShared 15 = .ok (.aload_n 0, 1) := by decide +kernel
theorem dX2_countShared_16 : decode cX2_countShared 16 = .ok (.iload_n 2, 1) := by decide +kernel
theorem dX2_countShared_17 : decode cX2_countShared 17 = .ok (.invokevirtual 94, 3) := by decide +kernel
theorem dX2_countShared_20 : decode cX2_countShared 20 = .ok (.if_icmp .ne 9, 3) := by decide +kernel
theorem dX2_countShared_23 : decode cX2_countShared 23 = .ok (.iinc 2 1, 3) := by decide +kernel
theorem dX2_countShared_26 : decode cX2_countShared 26 = .ok (.goto (-24), 3) := by decide +kernel
theorem dX2_countShared_29 : decode cX2_countShared 29 = .ok (.iload_n 2, 1) := by decide +kernel
theorem dX2_countShared_30 : decode cX2_countShared 30 = .ok (.ireturn, 1) := by decide +kernel
theorem dX3_init_0 : decode cX3_init 0 = .ok (.aload_n 0, 1) := by decide +kernel
theorem dX3_init_1 : decode cX3_init 1 = .ok (.invokespecial 3, 3) := by decide +kernel
theorem dX3_init_4 : decode cX3_init 4 = .ok (.aload_n 0, 1) := by decide +kernel
theorem dX3_init_5 : decode cX3_init 5 = .ok (.iconst 4, 1) := by decide +kernel
theorem dX3_init_6 : decode cX3_init 6 = .ok (.anewarray 9, 3) := by decide +kernel
theorem dX3_init_9 : decode cX3_init 9 = .ok (.putfield 11, 3) := by decide +kernel
theorem dX3_init_12 : decode cX3_init 12 = .ok (.iconst 0, 1) := by decide +kernel
theorem dX3_init_13 : decode cX3_init 13 = .ok (.istore_n 1, 1) := by decide +kernel
theorem dX3_init_14 : decode cX3_init 14 = .ok (.iload_n 1, 1) := by decide +kernel
theorem dX3_init_15 : decode cX3_init 15 = .ok (.aload_n 0, 1) := by decide +kernel
theorem dX3_init_16 : decode cX3_init 16 = .ok (.getfield 11, 3) := by decide +kernel
theorem dX3_init_19 : decode cX3_init 19 = .ok (.arraylength, 1) := by decide +kernel
theorem dX3_init_20 : decode cX3_init 20 = .ok (.if_icmp .ge 22, 3) := by decide +kernel
theorem dX3_init_23 : decode cX3_init 23 = .ok (.aload_n 0, 1) := by decide +kernel
theorem dX3_init_24 : decode cX3_init 24 = .ok (.getfield 11, 3) := by decide +kernel
theorem dX3_init_27 : decode cX3_init 27 = .ok (.iload_n 1, 1) := by decide +kernel
theorem dX3_init_28 : decode cX3_init 28 = .ok (.new 9, 3) := by decide +kernel
theorem dX3_init_31 : decode cX3_init 31 = .ok (.dup, 1) := by decide +kernel
theorem dX3_init_32 : decode cX3_init 32 = .ok (.invokespecial 17, 3) := by decide +kernel
theorem dX3_init_35 : decode cX3_init 35 = .ok (.aastore, 1) := by decide +kernel
theorem dX3_init_36 : decode cX3_init 36 = .ok (.iinc 1 1, 3) := by decide +kernel
theorem dX3_init_39 : decode cX3_init 39 = .ok (.goto (-25), 3) := by decide +kernel
theorem dX3_init_42 : decode cX3_init 42 = .ok (.return_, 1) := by decide +kernel
theorem dX3_keep_0 : decode cX3_keep 0 = .ok (.aload_n 0, 1) := by decide +kernel
theorem dX3_keep_1 : decode cX3_keep 1 = .ok (.getfield 18, 3) := by decide +kernel
theorem dX3_keep_4 : decode cX3_keep 4 = .ok (.aload_n 0, 1) := by decide +kernel
theorem dX3_keep_5 : decode cX3_keep 5 = .ok (.getfield 11, 3) := by decide +kernel
theorem dX3_keep_8 : decode cX3_keep 8 = .ok (.arraylength, 1) := by decide +kernel
theorem dX3_keep_9 : decode cX3_keep 9 = .ok (.if_icmp .lt 7, 3) := by decide +kernel
theorem dX3_keep_12 : decode cX3_keep 12 = .ok (.aload_n 0, 1) := by decide +kernel
theorem dX3_keep_13 : decode cX3_keep 13 = .ok (.invokevirtual 22, 3) := by decide +kernel
theorem dX3_keep_16 : decode cX3_keep 16 = .ok (.aload_n 0, 1) := by decide +kernel
theorem dX3_keep_17 : decode cX3_keep 17 = .ok (.getfield 18, 3) := by decide +kernel
theorem dX3_keep_20 : decode cX3_keep 20 = .ok (.ifCond .lt 50, 3) := by decide +kernel
theorem dX3_keep_23 : decode cX3_keep 23 = .ok (.aload_n 0, 1) := by decide +kernel
theorem dX3_keep_24 : decode cX3_keep 24 = .ok (.getfield 18, 3) := by decide +kernel
theorem dX3_keep_27 : decode cX3_keep 27 = .ok (.aload_n 0, 1) := by decide +kernel
theorem dX3_keep_28 : decode cX3_keep 28 = .ok (.getfield 11, 3) := by decide +kernel
theorem dX3_keep_31 : decode cX3_keep 31 = .ok (.arraylength, 1) := by decide +kernel
theorem dX3_keep_32 : decode cX3_keep 32 = .ok (.if_icmp .ge 38, 3) := by decide +kernel
theorem dX3_keep_35 : decode cX3_keep 35 = .ok (.aload_n 0, 1) := by decide +kernel
theorem dX3_keep_36 : decode cX3_keep 36 = .ok (.getfield 11, 3) := by decide +kernel
theorem dX3_keep_39 : decode cX3_keep 39 = .ok (.aload_n 0, 1) := by decide +kernel
theorem dX3_keep_40 : decode cX3_keep 40 = .ok (.getfield 18, 3) := by decide +kernel
theorem dX3_keep_43 : decode cX3_keep 43 = .ok (.aaload, 1) := by decide +kernel
theorem dX3_keep_44 : decode cX3_keep 44 = .ok (.ifnull 26, 3) := by decide +kernel
theorem dX3_keep_47 : decode cX3_keep 47 = .ok (.aload_n 0, 1) := by decide +kernel
theorem dX3_keep_48 : decode cX3_keep 48 = .ok (.getfield 11, 3) := by decide +kernel
theorem dX3_keep_51 : decode cX3_keep 51 = .ok (.aload_n 0, 1) := by decide +kernel
theorem dX3_keep_52 : decode cX3_keep 52 = .ok (.getfield 18, 3) := by decide +kernel
theorem dX3_keep_55 : decode cX3_keep 55 = .ok (.aaload, 1) := by decide +kernel
theorem dX3_keep_56 : decode cX3_keep 56 = .ok (.aload_n 1, 1) := by decide +kernel
theorem dX3_keep_57 : decode cX3_keep 57 = .ok (.invokevirtual 25, 3) := by decide +kernel
theorem dX3_keep_60 : decode cX3_keep 60 = .ok (.aload_n 0, 1) := by decide +kernel
theorem dX3_keep_61 : decode cX3_keep 61 = .ok (.dup, 1) := by decide +kernel
theorem dX3_keep_62 : decode cX3_keep 62 = .ok (.getfield 18, 3) := by decide +kernel
theorem dX3_keep_65 : decode cX3_keep 65 = .ok (.iconst 1, 1) := by decide +kernel
theorem dX3_keep_66 : decode cX3_keep 66 = .ok (.iadd, 1) := by decide +kernel
theorem dX3_keep_67 : decode cX3_keep 67 = .ok (.putfield 18, 3) := by decide +kernel
theorem dX3_keep_70 : decode cX3_keep 70 = .ok (.return_, 1) := by decide +kernel
theorem dX3_takeBack_0 : decode cX3_takeBack 0 = .ok (.aload_n 0, 1) := by decide +kernel
theorem dX3_takeBack_1 : decode cX3_takeBack 1 = .ok (.getfield 18, 3) := by decide +kernel
theorem dX3_takeBack_4 : decode cX3_takeBack 4 = .ok (.ifCond .le 52, 3) := by decide +kernel
theorem dX3_takeBack_7 : decode cX3_takeBack 7 = .ok (.aload_n 0, 1) := by decide +kernel
theorem dX3_takeBack_8 : decode cX3_takeBack 8 = .ok (.getfield 18, 3) := by decide +kernel
theorem dX3_takeBack_11 : decode cX3_takeBack 11 = .ok (.aload_n 0, 1) := by decide +kernel
theorem dX3_takeBack_12 : decode cX3_takeBack 12 = .ok (.getfield 11, 3) := by decide +kernel
theorem dX3_takeBack_15 : decode cX3_takeBack 15 = .ok (.arraylength, 1) := by decide +kernel
theorem dX3_takeBack_16 : decode cX3_takeBack 16 = .ok (.if_icmp .gt 40, 3) := by decide +kernel
theorem dX3_takeBack_19 : decode cX3_takeBack 19 = .ok (.aload_n 0, 1) := by decide +kernel
theorem dX3_takeBack_20 : decode cX3_takeBack 20 = .ok (.getfield 11, 3) := by decide +kernel
theorem dX3_takeBack_23 : decode cX3_takeBack 23 = .ok (.aload_n 0, 1) := by decide +kernel
theorem dX3_takeBack_24 : decode cX3_takeBack 24 = .ok (.getfield 18, 3) := by decide +kernel
theorem dX3_takeBack_27 : decode cX3_takeBack 27 = .ok (.iconst 1, 1) := by decide +kernel
theorem dX3_takeBack_28 : decode cX3_takeBack 28 = .ok (.isub, 1) := by decide +kernel
theorem dX3_takeBack_29 : decode cX3_takeBack 29 = .ok (.aaload, 1) := by decide +kernel
theorem dX3_takeBack_30 : decode cX3_takeBack 30 = .ok (.ifnull 26, 3) := by decide +kernel
theorem dX3_takeBack_33 : decode cX3_takeBack 33 = .ok (.aload_n 0, 1) := by decide +kernel
theorem dX3_takeBack_34 : decode cX3_takeBack 34 = .ok (.dup, 1) := by decide +kernel
theorem dX3_takeBack_35 : decode cX3_takeBack 35 = .ok (.getfield 18, 3) := by decide +kernel
theorem dX3_takeBack_38 : decode cX3_takeBack 38 = .ok (.iconst 1, 1) := by decide +kernel
theorem dX3_takeBack_39 : decode cX3_takeBack 39 = .ok (.isub, 1) := by decide +kernel
theorem dX3_takeBack_40 : decode cX3_takeBack 40 = .ok (.putfield 18, 3) := by decide +kernel
theorem dX3_takeBack_43 : decode cX3_takeBack 43 = .ok (.aload_n 1, 1) := by decide +kernel
theorem dX3_takeBack_44 : decode cX3_takeBack 44 = .ok (.aload_n 0, 1) := by decide +kernel
theorem dX3_takeBack_45 : decode cX3_takeBack 45 = .ok (.getfield 11, 3) := by decide +kernel
theorem dX3_takeBack_48 : decode cX3_takeBack 48 = .ok (.aload_n 0, 1) := by decide +kernel
theorem dX3_takeBack_49 : decode cX3_takeBack 49 = .ok (.getfield 18, 3) := by decide +kernel
theorem dX3_takeBack_52 : decode cX3_takeBack 52 = .ok (.aaload, 1) := by decide +kernel
theorem dX3_takeBack_53 : decode cX3_takeBack 53 = .ok (.invokevirtual 25, 3) := by decide +kernel
theorem dX3_takeBack_56 : decode cX3_takeBack 56 = .ok (.return_, 1) := by decide +kernel
theorem dX3_dropOldest_0 : decode cX3_dropOldest 0 = .ok (.aload_n 0, 1) := by decide +kernel
theorem dX3_dropOldest_1 : decode cX3_dropOldest 1 = .ok (.getfield 11, 3) := by decide +kernel
theorem dX3_dropOldest_4 : decode cX3_dropOldest 4 = .ok (.arraylength, 1) := by decide +kernel
theorem dX3_dropOldest_5 : decode cX3_dropOldest 5 = .ok (.ifCond .ne 4, 3) := by decide +kernel
theorem dX3_dropOldest_8 : decode cX3_dropOldest 8 = .ok (.return_, 1) := by decide +kernel
theorem dX3_dropOldest_9 : decode cX3_dropOldest 9 = .ok (.aload_n 0, 1) := by decide +kernel
theorem dX3_dropOldest_10 : decode cX3_dropOldest 10 = .ok (.getfield 11, 3) := by decide +kernel
theorem dX3_dropOldest_13 : decode cX3_dropOldest 13 = .ok (.iconst 0, 1) := by decide +kernel
theorem dX3_dropOldest_14 : decode cX3_dropOldest 14 = .ok (.aaload, 1) := by decide +kernel
theorem dX3_dropOldest_15 : decode cX3_dropOldest 15 = .ok (.astore_n 1, 1) := by decide +kernel
theorem dX3_dropOldest_16 : decode cX3_dropOldest 16 = .ok (.iconst 1, 1) := by decide +kernel
theorem dX3_dropOldest_17 : decode cX3_dropOldest 17 = .ok (.istore_n 2, 1) := by decide +kernel
theorem dX3_dropOldest_18 : decode cX3_dropOldest 18 = .ok (.iload_n 2, 1) := by decide +kernel
theorem dX3_dropOldest_19 : decode cX3_dropOldest 19 = .ok (.aload_n 0, 1) := by decide +kernel
theorem dX3_dropOldest_20 : decode cX3_dropOldest 20 = .ok (.getfield 11, 3) := by decide +kernel
theorem dX3_dropOldest_23 : decode cX3_dropOldest 23 = .ok (.arraylength, 1) := by decide +kernel
theorem dX3_dropOldest_24 : decode cX3_dropOldest 24 = .ok (.if_icmp .ge 23, 3) := by decide +kernel
theorem dX3_dropOldest_27 : decode cX3_dropOldest 27 = .ok (.aload_n 0, 1) := by decide +kernel
theorem dX3_dropOldest_28 : decode cX3_dropOldest 28 = .ok (.getfield 11, 3) := by decide +kernel
theorem dX3_dropOldest_31 : decode cX3_dropOldest 31 = .ok (.iload_n 2, 1) := by decide +kernel
theorem dX3_dropOldest_32 : decode cX3_dropOldest 32 = .ok (.iconst 1, 1) := by decide +kernel
theorem dX3_dropOldest_33 : decode cX3_dropOldest 33 = .ok (.isub, 1) := by decide +kernel
theorem dX3_dropOldest_34 : decode cX3_dropOldest 34 = .ok (.aload_n 0, 1) := by decide +kernel
theorem dX3_dropOldest_35 : decode cX3_dropOldest 35 = .ok (.getfield 11, 3) := by decide +kernel
theorem dX3_dropOldest_38 : decode cX3_dropOldest 38 = .ok (.iload_n 2, 1) := by decide +kernel
theorem dX3_dropOldest_39 : decode cX3_dropOldest 39 = .ok (.aaload, 1) := by decide +kernel
theorem dX3_dropOldest_40 : decode cX3_dropOldest 40 = .ok (.aastore, 1) := by decide +kernel
theorem dX3_dropOldest_41 : decode cX3_dropOldest 41 = .ok (.iinc 2 1, 3) := by decide +kernel
theorem dX3_dropOldest_44 : decode cX3_dropOldest 44 = .ok (.goto (-26), 3) := by decide +kernel
theorem dX3_dropOldest_47 : decode cX3_dropOldest 47 = .ok (.aload_n 0, 1) := by decide +kernel
theorem dX3_dropOldest_48 : decode cX3_dropOldest 48 = .ok (.getfield 11, 3) := by decide +kernel
theorem dX3_dropOldest_51 : decode cX3_dropOldest 51 = .ok (.aload_n 0, 1) := by decide +kernel
theorem dX3_dropOldest_52 : decode cX3_dropOldest 52 = .ok (.getfield 11, 3) := by decide +kernel
theorem dX3_dropOldest_55 : decode cX3_dropOldest 55 = .ok (.arraylength, 1) := by decide +kernel
theorem dX3_dropOldest_56 : decode cX3_dropOldest 56 = .ok (.iconst 1, 1) := by decide +kernel
theorem dX3_dropOldest_57 : decode cX3_dropOldest 57 = .ok (.isub, 1) := by decide +kernel
theorem dX3_dropOldest_58 : decode cX3_dropOldest 58 = .ok (.aload_n 1, 1) := by decide +kernel
theorem dX3_dropOldest_59 : decode cX3_dropOldest 59 = .ok (.aastore, 1) := by decide +kernel
theorem dX3_dropOldest_60 : decode cX3_dropOldest 60 = .ok (.aload_n 0, 1) := by decide +kernel
theorem dX3_dropOldest_61 : decode cX3_dropOldest 61 = .ok (.aload_n 0, 1) := by decide +kernel
theorem dX3_dropOldest_62 : decode cX3_dropOldest 62 = .ok (.getfield 11, 3) := by decide +kernel
theorem dX3_dropOldest_65 : decode cX3_dropOldest 65 = .ok (.arraylength, 1) := by decide +kernel
theorem dX3_dropOldest_66 : decode cX3_dropOldest 66 = .ok (.iconst 1, 1) := by decide +kernel
theorem dX3_dropOldest_67 : decode cX3_dropOldest 67 = .ok (.isub, 1) := by decide +kernel
theorem dX3_dropOldest_68 : decode cX3_dropOldest 68 = .ok (.putfield 18, 3) := by decide +kernel
theorem dX3_dropOldest_71 : decode cX3_dropOldest 71 = .ok (.return_, 1) := by decide +kernel
theorem dX4_init_0 : decode cX4_init 0 = .ok (.aload_n 0, 1) := by decide +kernel
theorem dX4_init_1 : decode cX4_init 1 = .ok (.invokespecial 1, 3) := by decide +kernel
theorem dX4_init_4 : decode cX4_init 4 = .ok (.return_, 1) := by decide +kernel
theorem dX4_find_0 : decode cX4_find 0 = .ok (.aload_n 0, 1) := by decide +kernel
theorem dX4_find_1 : decode cX4_find 1 = .ok (.iload_n 2, 1) := by decide +kernel
theorem dX4_find_2 : decode cX4_find 2 = .ok (.i2l, 1) := by decide +kernel
theorem dX4_find_3 : decode cX4_find 3 = .ok (.putfield 7, 3) := by decide +kernel
theorem dX4_find_6 : decode cX4_find 6 = .ok (.aload_n 0, 1) := by decide +kernel
theorem dX4_find_7 : decode cX4_find 7 = .ok (.lconst 1, 1) := by decide +kernel
theorem dX4_find_8 : decode cX4_find 8 = .ok (.putfield 13, 3) := by decide +kernel
theorem dX4_find_11 : decode cX4_find 11 = .ok (.aload_n 0, 1) := by decide +kernel
theorem dX4_find_12 : decode cX4_find 12 = .ok (.iload_n 2, 1) := by decide +kernel
theorem dX4_find_13 : decode cX4_find 13 = .ok (.iconst 1, 1) := by decide +kernel
theorem dX4_find_14 : decode cX4_find 14 = .ok (.iadd, 1) := by decide +kernel
theorem dX4_find_15 : decode cX4_find 15 = .ok (.i2l, 1) := by decide +kernel
theorem dX4_find_16 : decode cX4_find 16 = .ok (.putfield 16, 3) := by decide +kernel
theorem dX4_find_19 : decode cX4_find 19 = .ok (.aload_n 0, 1) := by decide +kernel
theorem dX4_find_20 : decode cX4_find 20 = .ok (.lconst 1, 1) := by decide +kernel
theorem dX4_find_21 : decode cX4_find 21 = .ok (.putfield 19, 3) := by decide +kernel
theorem dX4_find_24 : decode cX4_find 24 = .ok (.aload_n 0, 1) := by decide +kernel
theorem dX4_find_25 : decode cX4_find 25 = .ok (.iconst 1, 1) := by decide +kernel
theorem dX4_find_26 : decode cX4_find 26 = .ok (.putfield 22, 3) := by decide +kernel
theorem dX4_find_29 : decode cX4_find 29 = .ok (.iconst 0, 1) := by decide +kernel
theorem dX4_find_30 : decode cX4_find 30 = .ok (.istore 4, 2) := by decide +kernel
theorem dX4_find_32 : decode cX4_find 32 = .ok (.iload 4, 2) := by decide +kernel
theorem dX4_find_34 : decode cX4_find 34 = .ok (.iload_n 3, 1) := by decide +kernel
theorem dX4_find_35 : decode cX4_find 35 = .ok (.if_icmp .ge 29, 3) := by decide +kernel
theorem dX4_find_38 : decode cX4_find 38 = .ok (.aload_n 0, 1) := by decide +kernel
theorem dX4_find_39 : decode cX4_find 39 = .ok (.getfield 13, 3) := by decide +kernel
theorem dX4_find_42 : decode cX4_find 42 = .ok (.aload_n 0, 1) := by decide +kernel
theorem dX4_find_43 : decode cX4_find 43 = .ok (.getfield 19, 3) := by decide +kernel
theorem dX4_find_46 : decode cX4_find 46 = .ok (.ladd, 1) := by decide +kernel
theorem dX4_find_47 : decode cX4_find 47 = .ok (.iload_n 3, 1) := by decide +kernel
theorem dX4_find_48 : decode cX4_find 48 = .ok (.i2l, 1) := by decide +kernel
theorem dX4_find_49 : decode cX4_find 49 = .ok (.lcmp, 1) := by decide +kernel
theorem dX4_find_50 : decode cX4_find 50 = .ok (.ifCond .gt 14, 3) := by decide +kernel
theorem dX4_find_53 : decode cX4_find 53 = .ok (.aload_n 0, 1) := by decide +kernel
theorem dX4_find_54 : decode cX4_find 54 = .ok (.aload_n 1, 1) := by decide +kernel
theorem dX4_find_55 : decode cX4_find 55 = .ok (.invokevirtual 26, 3) := by decide +kernel
theorem dX4_find_58 : decode cX4_find 58 = .ok (.iinc 4 1, 3) := by decide +kernel
theorem dX4_find_61 : decode cX4_find 61 = .ok (.goto (-29), 3) := by decide +kernel
theorem dX4_find_64 : decode cX4_find 64 = .ok (.return_, 1) := by decide +kernel
theorem dX4_takeMediant_0 : decode cX4_takeMediant 0 = .ok (.aload_n 0, 1) := by decide +kernel
theorem dX4_takeMediant_1 : decode cX4_takeMediant 1 = .ok (.getfield 7, 3) := by decide +kernel
theorem dX4_takeMediant_4 : decode cX4_takeMediant 4 = .ok (.aload_n 0, 1) := by decide +kernel
theorem dX4_takeMediant_5 : decode cX4_takeMediant 5 = .ok (.getfield 16, 3) := by decide +kernel
theorem dX4_takeMediant_8 : decode cX4_takeMediant 8 = .ok (.ladd, 1) := by decide +kernel
theorem dX4_takeMediant_9 : decode cX4_takeMediant 9 = .ok (.lstore_n 2, 1) := by decide +kernel
theorem dX4_takeMediant_10 : decode cX4_takeMediant 10 = .ok (.aload_n 0, 1) := by decide +kernel
theorem dX4_takeMediant_11 : decode cX4_takeMediant 11 = .ok (.getfield 13, 3) := by decide +kernel
theorem dX4_takeMediant_14 : decode cX4_takeMediant 14 = .ok (.aload_n 0, 1) := by decide +kernel
theorem dX4_takeMediant_15 : decode cX4_takeMediant 15 = .ok (.getfield 19, 3) := by decide +kernel
theorem dX4_takeMediant_18 : decode cX4_takeMediant 18 = .ok (.ladd, 1) := by decide +kernel
theorem dX4_takeMediant_19 : decode cX4_takeMediant 19 = .ok (.lstore 4, 2) := by decide +kernel
theorem dX4_takeMediant_21 : decode cX4_takeMediant 21 = .ok (.aload_n 1, 1) := by decide +kernel
theorem dX4_takeMediant_22 : decode cX4_takeMediant 22 = .ok (.lload_n 2, 1) := by decide +kernel
theorem dX4_takeMediant_23 : decode cX4_takeMediant 23 = .ok (.lload 4, 2) := by decide +kernel
theorem dX4_takeMediant_25 : decode cX4_takeMediant 25 = .ok (.aload_n 0, 1) := by decide +kernel
theorem dX4_takeMediant_26 : decode cX4_takeMediant 26 = .ok (.getfield 7, 3) := by decide +kernel
theorem dX4_takeMediant_29 : decode cX4_takeMediant 29 = .ok (.aload_n 0, 1) := by decide +kernel
theorem dX4_takeMediant_30 : decode cX4_takeMediant 30 = .ok (.getfield 13, 3) := by decide +kernel
theorem dX4_takeMediant_33 : decode cX4_takeMediant 33 = .ok (.invokevirtual 30, 3) := by decide +kernel
theorem dX4_takeMediant_36 : decode cX4_takeMediant 36 = .ok (.ifCond .eq 31, 3) := by decide +kernel
theorem dX4_takeMediant_39 : decode cX4_takeMediant 39 = .ok (.aload_n 1, 1) := by decide +kernel
theorem dX4_takeMediant_40 : decode cX4_takeMediant 40 = .ok (.lload_n 2, 1) := by decide +kernel
theorem dX4_takeMediant_41 : decode cX4_takeMediant 41 = .ok (.lload 4, 2) := by decide +kernel
theorem dX4_takeMediant_43 : decode cX4_takeMediant 43 = .ok (.aload_n 0, 1) := by decide +kernel
theorem dX4_takeMediant_44 : decode cX4_takeMediant 44 = .ok (.getfield 16, 3) := by decide +kernel
theorem dX4_takeMediant_47 : decode cX4_takeMediant 47 = .ok (.aload_n 0, 1) := by decide +kernel
theorem dX4_takeMediant_48 : decode cX4_takeMediant 48 = .ok (.getfield 19, 3) := by decide +kernel
theorem dX4_takeMediant_51 : decode cX4_takeMediant 51 = .ok (.invokevirtual 30, 3) := by decide +kernel
theorem dX4_takeMediant_54 : decode cX4_takeMediant 54 = .ok (.ifCond .eq 13, 3) := by decide +kernel
theorem dX4_takeMediant_57 : decode cX4_takeMediant 57 = .ok (.aload_n 0, 1) := by decide +kernel
theorem dX4_takeMediant_58 : decode cX4_takeMediant 58 = .ok (.dup, 1) := by decide +kernel
theorem dX4_takeMediant_59 : decode cX4_takeMediant 59 = .ok (.getfield 22, 3) := by decide +kernel
theorem dX4_takeMediant_62 : decode cX4_takeMediant 62 = .ok (.iconst 1, 1) := by decide +kernel
theorem dX4_takeMediant_63 : decode cX4_takeMediant 63 = .ok (.iadd, 1) := by decide +kernel
theorem dX4_takeMediant_64 : decode cX4_takeMediant 64 = .ok (.putfield 22, 3) := by decide +kernel
theorem dX4_takeMediant_67 : decode cX4_takeMediant 67 = .ok (.aload_n 1, 1) := by decide +kernel
theorem dX4_takeMediant_68 : decode cX4_takeMediant 68 = .ok (.lload_n 2, 1) := by decide +kernel
theorem dX4_takeMediant_69 : decode cX4_takeMediant 69 = .ok (.lload 4, 2) := by decide +kernel
theorem dX4_takeMediant_71 : decode cX4_takeMediant 71 = .ok (.invokevirtual 36, 3) := by decide +kernel
theorem dX4_takeMediant_74 : decode cX4_takeMediant 74 = .ok (.ifCond .eq 17, 3) := by decide +kernel
theorem dX4_takeMediant_77 : decode cX4_takeMediant 77 = .ok (.aload_n 0, 1) := by decide +kernel
theorem dX4_takeMediant_78 : decode cX4_takeMediant 78 = .ok (.lload_n 2, 1) := by decide +kernel
theorem dX4_takeMediant_79 : decode cX4_takeMediant 79 = .ok (.putfield 16, 3) := by decide +kernel
theorem dX4_takeMediant_82 : decode cX4_takeMediant 82 = .ok (.aload_n 0, 1) := by decide +kernel
theorem dX4_takeMediant_83 : decode cX4_takeMediant 83 = .ok (.lload 4, 2) := by decide +kernel
theorem dX4_takeMediant_85 : decode cX4_takeMediant 85 = .ok (.putfield 19, 3) := by decide +kernel
theorem dX4_takeMediant_88 : decode cX4_takeMediant 88 = .ok (.goto 14, 3) := by decide +kernel
theorem dX4_takeMediant_91 : decode cX4_takeMediant 91 = .ok (.aload_n 0, 1) := by decide +kernel
theorem dX4_takeMediant_92 : decode cX4_takeMediant 92 = .ok (.lload_n 2, 1) := by decide +kernel
theorem dX4_takeMediant_93 : decode cX4_takeMediant 93 = .ok (.putfield 7, 3) := by decide +kernel
theorem dX4_takeMediant_96 : decode cX4_takeMediant 96 = .ok (.aload_n 0, 1) := by decide +kernel
theorem dX4_takeMediant_97 : decode cX4_takeMediant 97 = .ok (.lload 4, 2) := by decide +kernel
theorem dX4_takeMediant_99 : decode cX4_takeMediant 99 = .ok (.putfield 13, 3) := by decide +kernel
theorem dX4_takeMediant_102 : decode cX4_takeMediant 102 = .ok (.return_, 1) := by decide +kernel
theorem dX4_isAboveNearer_0 : decode cX4_isAboveNearer 0 = .ok (.aload_n 1, 1) := by decide +kernel
theorem dX4_isAboveNearer_1 : decode cX4_isAboveNearer 1 = .ok (.aload_n 0, 1) := by decide +kernel
theorem dX4_isAboveNearer_2 : decode cX4_isAboveNearer 2 = .ok (.getfield 16, 3) := by decide +kernel
theorem dX4_isAboveNearer_5 : decode cX4_isAboveNearer 5 = .ok (.aload_n 0, 1) := by decide +kernel
theorem dX4_isAboveNearer_6 : decode cX4_isAboveNearer 6 = .ok (.getfield 19, 3) := by decide +kernel
theorem dX4_isAboveNearer_9 : decode cX4_isAboveNearer 9 = .ok (.aload_n 0, 1) := by decide +kernel
theorem dX4_isAboveNearer_10 : decode cX4_isAboveNearer 10 = .ok (.getfield 7, 3) := by decide +kernel
theorem dX4_isAboveNearer_13 : decode cX4_isAboveNearer 13 = .ok (.aload_n 0, 1) := by decide +kernel
theorem dX4_isAboveNearer_14 : decode cX4_isAboveNearer 14 = .ok (.getfield 13, 3) := by decide +kernel
theorem dX4_isAboveNearer_17 : decode cX4_isAboveNearer 17 = .ok (.invokevirtual 30, 3) := by decide +kernel
theorem dX4_isAboveNearer_20 : decode cX4_isAboveNearer 20 = .ok (.ireturn, 1) := by decide +kernel
theorem dX5_init_0 : decode cX5_init 0 = .ok (.aload_n 0, 1) := by decide +kernel
theorem dX5_init_1 : decode cX5_init 1 = .ok (.invokespecial 3, 3) := by decide +kernel
theorem dX5_init_4 : decode cX5_init 4 = .ok (.aload_n 0, 1) := by decide +kernel
theorem dX5_init_5 : decode cX5_init 5 = .ok (.new 9, 3) := by decide +kernel
theorem dX5_init_8 : decode cX5_init 8 = .ok (.dup, 1) := by decide +kernel
theorem dX5_init_9 : decode cX5_init 9 = .ok (.invokespecial 11, 3) := by decide +kernel
theorem dX5_init_12 : decode cX5_init 12 = .ok (.putfield 12, 3) := by decide +kernel
theorem dX5_init_15 : decode cX5_init 15 = .ok (.aload_n 0, 1) := by decide +kernel
theorem dX5_init_16 : decode cX5_init 16 = .ok (.new 18, 3) := by decide +kernel
theorem dX5_init_19 : decode cX5_init 19 = .ok (.dup, 1) := by decide +kernel
theorem dX5_init_20 : decode cX5_init 20 = .ok (.invokespecial 20, 3) := by decide +kernel
theorem dX5_init_23 : decode cX5_init 23 = .ok (.putfield 21, 3) := by decide +kernel
theorem dX5_init_26 : decode cX5_init 26 = .ok (.return_, 1) := by decide +kernel
theorem dX5_countAll_0 : decode cX5_countAll 0 = .ok (.aload_n 0, 1) := by decide +kernel
theorem dX5_countAll_1 : decode cX5_countAll 1 = .ok (.iload_n 1, 1) := by decide +kernel
theorem dX5_countAll_2 : decode cX5_countAll 2 = .ok (.iload_n 2, 1) := by decide +kernel
theorem dX5_countAll_3 : decode cX5_countAll 3 = .ok (.iconst (-1), 1) := by decide +kernel
theorem dX5_countAll_4 : decode cX5_countAll 4 = .ok (.invokevirtual 25, 3) := by decide +kernel
theorem dX5_countAll_7 : decode cX5_countAll 7 = .ok (.pop, 1) := by decide +kernel
theorem dX5_countAll_8 : decode cX5_countAll 8 = .ok (.aload_n 0, 1) := by decide +kernel
theorem dX5_countAll_9 : decode cX5_countAll 9 = .ok (.getfield 29, 3) := by decide +kernel
theorem dX5_countAll_12 : decode cX5_countAll 12 = .ok (.ireturn, 1) := by decide +kernel
theorem dX5_find_0 : decode cX5_find 0 = .ok (.iload_n 1, 1) := by decide +kernel
theorem dX5_find_1 : decode cX5_find 1 = .ok (.i2l, 1) := by decide +kernel
theorem dX5_find_2 : decode cX5_find 2 = .ok (.invokestatic 33, 3) := by decide +kernel
theorem dX5_find_5 : decode cX5_find 5 = .ok (.lstore 4, 2) := by decide +kernel
theorem dX5_find_7 : decode cX5_find 7 = .ok (.aload_n 0, 1) := by decide +kernel
theorem dX5_find_8 : decode cX5_find 8 = .ok (.iconst 0, 1) := by decide +kernel
theorem dX5_find_9 : decode cX5_find 9 = .ok (.putfield 29, 3) := by decide +kernel
theorem dX5_find_12 : decode cX5_find 12 = .ok (.aload_n 0, 1) := by decide +kernel
theorem dX5_find_13 : decode cX5_find 13 = .ok (.lconst 0, 1) := by decide +kernel
theorem dX5_find_14 : decode cX5_find 14 = .ok (.putfield 37, 3) := by decide +kernel
theorem dX5_find_17 : decode cX5_find 17 = .ok (.aload_n 0, 1) := by decide +kernel
theorem dX5_find_18 : decode cX5_find 18 = .ok (.lconst 0, 1) := by decide +kernel
theorem dX5_find_19 : decode cX5_find 19 = .ok (.putfield 41, 3) := by decide +kernel
theorem dX5_find_22 : decode cX5_find 22 = .ok (.aload_n 0, 1) := by decide +kernel
theorem dX5_find_23 : decode cX5_find 23 = .ok (.getfield 41, 3) := by decide +kernel
theorem dX5_find_26 : decode cX5_find 26 = .ok (.ldc2_w 44, 3) := by decide +kernel
theorem dX5_find_29 : decode cX5_find 29 = .ok (.lcmp, 1) := by decide +kernel
theorem dX5_find_30 : decode cX5_find 30 = .ok (.ifCond .gt 85, 3) := by decide +kernel
theorem dX5_find_33 : decode cX5_find 33 = .ok (.iload_n 1, 1) := by decide +kernel
theorem dX5_find_34 : decode cX5_find 34 = .ok (.i2l, 1) := by decide +kernel
theorem dX5_find_35 : decode cX5_find 35 = .ok (.aload_n 0, 1) := by decide +kernel
theorem dX5_find_36 : decode cX5_find 36 = .ok (.getfield 41, 3) := by decide +kernel
theorem dX5_find_39 : decode cX5_find 39 = .ok (.lmul, 1) := by decide +kernel
theorem dX5_find_40 : decode cX5_find 40 = .ok (.aload_n 0, 1) := by decide +kernel
theorem dX5_find_41 : decode cX5_find 41 = .ok (.getfield 41, 3) := by decide +kernel
theorem dX5_find_44 : decode cX5_find 44 = .ok (.lmul, 1) := by decide +kernel
theorem dX5_find_45 : decode cX5_find 45 = .ok (.iload_n 2, 1) := by decide +kernel
theorem dX5_find_46 : decode cX5_find 46 = .ok (.i2l, 1) := by decide +kernel
theorem dX5_find_47 : decode cX5_find 47 = .ok (.ladd, 1) := by decide +kernel
theorem dX5_find_48 : decode cX5_find 48 = .ok (.lstore 6, 2) := by decide +kernel
theorem dX5_find_50 : decode cX5_find 50 = .ok (.aload_n 0, 1) := by decide +kernel
theorem dX5_find_51 : decode cX5_find 51 = .ok (.lload 6, 2) := by decide +kernel
theorem dX5_find_53 : decode cX5_find 53 = .ok (.invokevirtual 46, 3) := by decide +kernel
theorem dX5_find_56 : decode cX5_find 56 = .ok (.aload_n 0, 1) := by decide +kernel
theorem dX5_find_57 : decode cX5_find 57 = .ok (.getfield 37, 3) := by decide +kernel
theorem dX5_find_60 : decode cX5_find 60 = .ok (.aload_n 0, 1) := by decide +kernel
theorem dX5_find_61 : decode cX5_find 61 = .ok (.getfield 37, 3) := by decide +kernel
theorem dX5_find_64 : decode cX5_find 64 = .ok (.lmul, 1) := by decide +kernel
theorem dX5_find_65 : decode cX5_find 65 = .ok (.lload 6, 2) := by decide +kernel
theorem dX5_find_67 : decode cX5_find 67 = .ok (.lcmp, 1) := by decide +kernel
theorem dX5_find_68 : decode cX5_find 68 = .ok (.ifCond .ne 23, 3) := by decide +kernel
theorem dX5_find_71 : decode cX5_find 71 = .ok (.aload_n 0, 1) := by decide +kernel
theorem dX5_find_72 : decode cX5_find 72 = .ok (.getfield 29, 3) := by decide +kernel
theorem dX5_find_75 : decode cX5_find 75 = .ok (.iload_n 3, 1) := by decide +kernel
theorem dX5_find_76 : decode cX5_find 76 = .ok (.if_icmp .ne 5, 3) := by decide +kernel
theorem dX5_find_79 : decode cX5_find 79 = .ok (.iconst 1, 1) := by decide +kernel
theorem dX5_find_80 : decode cX5_find 80 = .ok (.ireturn, 1) := by decide +kernel
theorem dX5_find_81 : decode cX5_find 81 = .ok (.aload_n 0, 1) := by decide +kernel
theorem dX5_find_82 : decode cX5_find 82 = .ok (.dup, 1) := by decide +kernel
theorem dX5_find_83 : decode cX5_find 83 = .ok (.getfield 29, 3) := by decide +kernel
theorem dX5_find_86 : decode cX5_find 86 = .ok (.iconst 1, 1) := by decide +kernel
theorem dX5_find_87 : decode cX5_find 87 = .ok (.iadd, 1) := by decide +kernel
theorem dX5_find_88 : decode cX5_find 88 = .ok (.putfield 29, 3) := by decide +kernel
theorem dX5_find_91 : decode cX5_find 91 = .ok (.aload_n 0, 1) := by decide +kernel
theorem dX5_find_92 : decode cX5_find 92 = .ok (.dup, 1) := by decide +kernel
theorem dX5_find_93 : decode cX5_find 93 = .ok (.getfield 37, 3) := by decide +kernel
theorem dX5_find_96 : decode cX5_find 96 = .ok (.lload 4, 2) := by decide +kernel
theorem dX5_find_98 : decode cX5_find 98 = .ok (.ladd, 1) := by decide +kernel
theorem dX5_find_99 : decode cX5_find 99 = .ok (.putfield 37, 3) := by decide +kernel
theorem dX5_find_102 : decode cX5_find 102 = .ok (.aload_n 0, 1) := by decide +kernel
theorem dX5_find_103 : decode cX5_find 103 = .ok (.dup, 1) := by decide +kernel
theorem dX5_find_104 : decode cX5_find 104 = .ok (.getfield 41, 3) := by decide +kernel
theorem dX5_find_107 : decode cX5_find 107 = .ok (.lconst 1, 1) := by decide +kernel
theorem dX5_find_108 : decode cX5_find 108 = .ok (.ladd, 1) := by decide +kernel
theorem dX5_find_109 : decode cX5_find 109 = .ok (.putfield 41, 3) := by decide +kernel
theorem dX5_find_112 : decode cX5_find 112 = .ok (.goto (-90), 3) := by decide +kernel
theorem dX5_find_115 : decode cX5_find 115 = .ok (.iconst 0, 1) := by decide +kernel
theorem dX5_find_116 : decode cX5_find 116 = .ok (.ireturn, 1) := by decide +kernel
theorem dX5_goToRootOf_0 : decode cX5_goToRootOf 0 = .ok (.aload_n 0, 1) := by decide +kernel
theorem dX5_goToRootOf_1 : decode cX5_goToRootOf 1 = .ok (.getfield 37, 3) := by decide +kernel
theorem dX5_goToRootOf_4 : decode cX5_goToRootOf 4 = .ok (.lconst 0, 1) := by decide +kernel
theorem dX5_goToRootOf_5 : decode cX5_goToRootOf 5 = .ok (.lcmp, 1) := by decide +kernel
theorem dX5_goToRootOf_6 : decode cX5_goToRootOf 6 = .ok (.ifCond .le 30, 3) := by decide +kernel
theorem dX5_goToRootOf_9 : decode cX5_goToRootOf 9 = .ok (.aload_n 0, 1) := by decide +kernel
theorem dX5_goToRootOf_10 : decode cX5_goToRootOf 10 = .ok (.getfield 37, 3) := by decide +kernel
theorem dX5_goToRootOf_13 : decode cX5_goToRootOf 13 = .ok (.aload_n 0, 1) := by decide +kernel
theorem dX5_goToRootOf_14 : decode cX5_goToRootOf 14 = .ok (.getfield 37, 3) := by decide +kernel
theorem dX5_goToRootOf_17 : decode cX5_goToRootOf 17 = .ok (.lmul, 1) := by decide +kernel
theorem dX5_goToRootOf_18 : decode cX5_goToRootOf 18 = .ok (.lload_n 1, 1) := by decide +kernel
theorem dX5_goToRootOf_19 : decode cX5_goToRootOf 19 = .ok (.lcmp, 1) := by decide +kernel
theorem dX5_goToRootOf_20 : decode cX5_goToRootOf 20 = .ok (.ifCond .le 16, 3) := by decide +kernel
theorem dX5_goToRootOf_23 : decode cX5_goToRootOf 23 = .ok (.aload_n 0, 1) := by decide +kernel
theorem dX5_goToRootOf_24 : decode cX5_goToRootOf 24 = .ok (.dup, 1) := by decide +kernel
theorem dX5_goToRootOf_25 : decode cX5_goToRootOf 25 = .ok (.getfield 37, 3) := by decide +kernel
theorem dX5_goToRootOf_28 : decode cX5_goToRootOf 28 = .ok (.lconst 1, 1) := by decide +kernel
theorem dX5_goToRootOf_29 : decode cX5_goToRootOf 29 = .ok (.lsub, 1) := by decide +kernel
theorem dX5_goToRootOf_30 : decode cX5_goToRootOf 30 = .ok (.putfield 37, 3) := by decide +kernel
theorem dX5_goToRootOf_33 : decode cX5_goToRootOf 33 = .ok (.goto (-33), 3) := by decide +kernel
theorem dX5_goToRootOf_36 : decode cX5_goToRootOf 36 = .ok (.aload_n 0, 1) := by decide +kernel
theorem dX5_goToRootOf_37 : decode cX5_goToRootOf 37 = .ok (.getfield 37, 3) := by decide +kernel
theorem dX5_goToRootOf_40 : decode cX5_goToRootOf 40 = .ok (.ldc2_w 50, 3) := by decide +kernel
theorem dX5_goToRootOf_43 : decode cX5_goToRootOf 43 = .ok (.lcmp, 1) := by decide +kernel
theorem dX5_goToRootOf_44 : decode cX5_goToRootOf 44 = .ok (.ifCond .ge 34, 3) := by decide +kernel
theorem dX5_goToRootOf_47 : decode cX5_goToRootOf 47 = .ok (.aload_n 0, 1) := by decide +kernel
theorem dX5_goToRootOf_48 : decode cX5_goToRootOf 48 = .ok (.getfield 37, 3) := by decide +kernel
theorem dX5_goToRootOf_51 : decode cX5_goToRootOf 51 = .ok (.lconst 1, 1) := by decide +kernel
theorem dX5_goToRootOf_52 : decode cX5_goToRootOf 52 = .ok (.ladd, 1) := by decide +kernel
theorem dX5_goToRootOf_53 : decode cX5_goToRootOf 53 = .ok (.aload_n 0, 1) := by decide +kernel
theorem dX5_goToRootOf_54 : decode cX5_goToRootOf 54 = .ok (.getfield 37, 3) := by decide +kernel
theorem dX5_goToRootOf_57 : decode cX5_goToRootOf 57 = .ok (.lconst 1, 1) := by decide +kernel
theorem dX5_goToRootOf_58 : decode cX5_goToRootOf 58 = .ok (.ladd, 1) := by decide +kernel
theorem dX5_goToRootOf_59 : decode cX5_goToRootOf 59 = .ok (.lmul, 1) := by decide +kernel
theorem dX5_goToRootOf_60 : decode cX5_goToRootOf 60 = .ok (.lload_n 1, 1) := by decide +kernel
theorem dX5_goToRootOf_61 : decode cX5_goToRootOf 61 = .ok (.lcmp, 1) := by decide +kernel
theorem dX5_goToRootOf_62 : decode cX5_goToRootOf 62 = .ok (.ifCond .gt 16, 3) := by decide +kernel
theorem dX5_goToRootOf_65 : decode cX5_goToRootOf 65 = .ok (.aload_n 0, 1) := by decide +kernel
theorem dX5_goToRootOf_66 : decode cX5_goToRootOf 66 = .ok (.dup, 1) := by decide +kernel
theorem dX5_goToRootOf_67 : decode cX5_goToRootOf 67 = .ok (.getfield 37, 3) := by decide +kernel
theorem dX5_goToRootOf_70 : decode cX5_goToRootOf 70 = .ok (.lconst 1, 1) := by decide +kernel
theorem dX5_goToRootOf_71 : decode cX5_goToRootOf 71 = .ok (.ladd, 1) := by decide +kernel
theorem dX5_goToRootOf_72 : decode cX5_goToRootOf 72 = .ok (.putfield 37, 3) := by decide +kernel
theorem dX5_goToRootOf_75 : decode cX5_goToRootOf 75 = .ok (.goto (-39), 3) := by decide +kernel
theorem dX5_goToRootOf_78 : decode cX5_goToRootOf 78 = .ok (.return_, 1) := by decide +kernel
theorem dX5_findLeast_0 : decode cX5_findLeast 0 = .ok (.aload_n 0, 1) := by decide +kernel
theorem dX5_findLeast_1 : decode cX5_findLeast 1 = .ok (.getfield 12, 3) := by decide +kernel
theorem dX5_findLeast_4 : decode cX5_findLeast 4 = .ok (.lconst 0, 1) := by decide +kernel
theorem dX5_findLeast_5 : decode cX5_findLeast 5 = .ok (.iload_n 1, 1) := by decide +kernel
theorem dX5_findLeast_6 : decode cX5_findLeast 6 = .ok (.i2l, 1) := by decide +kernel
theorem dX5_findLeast_7 : decode cX5_findLeast 7 = .ok (.lconst 1, 1) := by decide +kernel
theorem dX5_findLeast_8 : decode cX5_findLeast 8 = .ok (.invokevirtual 52, 3) := by decide +kernel
theorem dX5_findLeast_11 : decode cX5_findLeast 11 = .ok (.aload_n 0, 1) := by decide +kernel
theorem dX5_findLeast_12 : decode cX5_findLeast 12 = .ok (.getfield 21, 3) := by decide +kernel
theorem dX5_findLeast_15 : decode cX5_findLeast 15 = .ok (.invokevirtual 56, 3) := by decide +kernel
theorem dX5_findLeast_18 : decode cX5_findLeast 18 = .ok (.iconst 1, 1) := by decide +kernel
theorem dX5_findLeast_19 : decode cX5_findLeast 19 = .ok (.istore_n 2, 1) := by decide +kernel
theorem dX5_findLeast_20 : decode cX5_findLeast 20 = .ok (.iload_n 2, 1) := by decide +kernel
theorem dX5_findLeast_21 : decode cX5_findLeast 21 = .ok (.sipush 1000, 3) := by decide +kernel
theorem dX5_findLeast_24 : decode cX5_findLeast 24 = .ok (.if_icmp .gt 84, 3) := by decide +kernel
theorem dX5_findLeast_27 : decode cX5_findLeast 27 = .ok (.aload_n 0, 1) := by decide +kernel
theorem dX5_findLeast_28 : decode cX5_findLeast 28 = .ok (.getfield 21, 3) := by decide +kernel
theorem dX5_findLeast_31 : decode cX5_findLeast 31 = .ok (.aload_n 0, 1) := by decide +kernel
theorem dX5_findLeast_32 : decode cX5_findLeast 32 = .ok (.getfield 12, 3) := by decide +kernel
theorem dX5_findLeast_35 : decode cX5_findLeast 35 = .ok (.invokevirtual 58, 3) := by decide +kernel
theorem dX5_findLeast_38 : decode cX5_findLeast 38 = .ok (.invokevirtual 62, 3) := by decide +kernel
theorem dX5_findLeast_41 : decode cX5_findLeast 41 = .ok (.aload_n 0, 1) := by decide +kernel
theorem dX5_findLeast_42 : decode cX5_findLeast 42 = .ok (.getfield 12, 3) := by decide +kernel
theorem dX5_findLeast_45 : decode cX5_findLeast 45 = .ok (.invokevirtual 65, 3) := by decide +kernel
theorem dX5_findLeast_48 : decode cX5_findLeast 48 = .ok (.aload_n 0, 1) := by decide +kernel
theorem dX5_findLeast_49 : decode cX5_findLeast 49 = .ok (.getfield 21, 3) := by decide +kernel
theorem dX5_findLeast_52 : decode cX5_findLeast 52 = .ok (.getfield 68, 3) := by decide +kernel
theorem dX5_findLeast_55 : decode cX5_findLeast 55 = .ok (.ifCond .eq 5, 3) := by decide +kernel
theorem dX5_findLeast_58 : decode cX5_findLeast 58 = .ok (.iconst 0, 1) := by decide +kernel
theorem dX5_findLeast_59 : decode cX5_findLeast 59 = .ok (.ireturn, 1) := by decide +kernel
theorem dX5_findLeast_60 : decode cX5_findLeast 60 = .ok (.aload_n 0, 1) := by decide +kernel
theorem dX5_findLeast_61 : decode cX5_findLeast 61 = .ok (.getfield 12, 3) := by decide +kernel
theorem dX5_findLeast_64 : decode cX5_findLeast 64 = .ok (.getfield 72, 3) := by decide +kernel
theorem dX5_findLeast_67 : decode cX5_findLeast 67 = .ok (.lconst 1, 1) := by decide +kernel
theorem dX5_findLeast_68 : decode cX5_findLeast 68 = .ok (.lcmp, 1) := by decide +kernel
theorem dX5_findLeast_69 : decode cX5_findLeast 69 = .ok (.ifCond .ne 33, 3) := by decide +kernel
theorem dX5_findLeast_72 : decode cX5_findLeast 72 = .ok (.iload_n 2, 1) := by decide +kernel
theorem dX5_findLeast_73 : decode cX5_findLeast 73 = .ok (.iconst 2, 1) := by decide +kernel
theorem dX5_findLeast_74 : decode cX5_findLeast 74 = .ok (.irem, 1) := by decide +kernel
theorem dX5_findLeast_75 : decode cX5_findLeast 75 = .ok (.ifCond .ne 27, 3) := by decide +kernel
theorem dX5_findLeast_78 : decode cX5_findLeast 78 = .ok (.aload_n 0, 1) := by decide +kernel
theorem dX5_findLeast_79 : decode cX5_findLeast 79 = .ok (.aload_n 0, 1) := by decide +kernel
theorem dX5_findLeast_80 : decode cX5_findLeast 80 = .ok (.getfield 21, 3) := by decide +kernel
theorem dX5_findLeast_83 : decode cX5_findLeast 83 = .ok (.getfield 75, 3) := by decide +kernel
theorem dX5_findLeast_86 : decode cX5_findLeast 86 = .ok (.putfield 37, 3) := by decide +kernel
theorem dX5_findLeast_89 : decode cX5_findLeast 89 = .ok (.aload_n 0, 1) := by decide +kernel
theorem dX5_findLeast_90 : decode cX5_findLeast 90 = .ok (.aload_n 0, 1) := by decide +kernel
theorem dX5_findLeast_91 : decode cX5_findLeast 91 = .ok (.getfield 21, 3) := by decide +kernel
theorem dX5_findLeast_94 : decode cX5_findLeast 94 = .ok (.getfield 78, 3) := by decide +kernel
theorem dX5_findLeast_97 : decode cX5_findLeast 97 = .ok (.putfield 41, 3) := by decide +kernel
theorem dX5_findLeast_100 : decode cX5_findLeast 100 = .ok (.iconst 1, 1) := by decide +kernel
theorem dX5_findLeast_101 : decode cX5_findLeast 101 = .ok (.ireturn, 1) := by decide +kernel
theorem dX5_findLeast_102 : decode cX5_findLeast 102 = .ok (.iinc 2 1, 3) := by decide +kernel
theorem dX5_findLeast_105 : decode cX5_findLeast 105 = .ok (.goto (-85), 3) := by decide +kernel
theorem dX5_findLeast_108 : decode cX5_findLeast 108 = .ok (.iconst 0, 1) := by decide +kernel
theorem dX5_findLeast_109 : decode cX5_findLeast 109 = .ok (.ireturn, 1) := by decide +kernel
theorem dX6_init_0 : decode cX6_init 0 = .ok (.aload_n 0, 1) := by decide +kernel
theorem dX6_init_1 : decode cX6_init 1 = .ok (.invokespecial 1, 3) := by decide +kernel
theorem dX6_init_4 : decode cX6_init 4 = .ok (.aload_n 0, 1) := by decide +kernel
theorem dX6_init_5 : decode cX6_init 5 = .ok (.new 7, 3) := by decide +kernel
theorem dX6_init_8 : decode cX6_init 8 = .ok (.dup, 1) := by decide +kernel
theorem dX6_init_9 : decode cX6_init 9 = .ok (.invokespecial 9, 3) := by decide +kernel
theorem dX6_init_12 : decode cX6_init 12 = .ok (.putfield 10, 3) := by decide +kernel
theorem dX6_init_15 : decode cX6_init 15 = .ok (.aload_n 0, 1) := by decide +kernel
theorem dX6_init_16 : decode cX6_init 16 = .ok (.new 16, 3) := by decide +kernel
theorem dX6_init_19 : decode cX6_init 19 = .ok (.dup, 1) := by decide +kernel
theorem dX6_init_20 : decode cX6_init 20 = .ok (.invokespecial 18, 3) := by decide +kernel
theorem dX6_init_23 : decode cX6_init 23 = .ok (.putfield 19, 3) := by decide +kernel
theorem dX6_init_26 : decode cX6_init 26 = .ok (.return_, 1) := by decide +kernel
theorem dX6_copyFrom_0 : decode cX6_copyFrom 0 = .ok (.aload_n 0, 1) := by decide +kernel
theorem dX6_copyFrom_1 : decode cX6_copyFrom 1 = .ok (.getfield 10, 3) := by decide +kernel
theorem dX6_copyFrom_4 : decode cX6_copyFrom 4 = .ok (.aload_n 1, 1) := by decide +kernel
theorem dX6_copyFrom_5 : decode cX6_copyFrom 5 = .ok (.getfield 10, 3) := by decide +kernel
theorem dX6_copyFrom_8 : decode cX6_copyFrom 8 = .ok (.getfield 23, 3) := by decide +kernel
theorem dX6_copyFrom_11 : decode cX6_copyFrom 11 = .ok (.aload_n 1, 1) := by decide +kernel
theorem dX6_copyFrom_12 : decode cX6_copyFrom 12 = .ok (.getfield 10, 3) := by decide +kernel
theorem dX6_copyFrom_15 : decode cX6_copyFrom 15 = .ok (.getfield 27, 3) := by decide +kernel
theorem dX6_copyFrom_18 : decode cX6_copyFrom 18 = .ok (.aload_n 1, 1) := by decide +kernel
theorem dX6_copyFrom_19 : decode cX6_copyFrom 19 = .ok (.getfield 10, 3) := by decide +kernel
theorem dX6_copyFrom_22 : decode cX6_copyFrom 22 = .ok (.getfield 30, 3) := by decide +kernel
theorem dX6_copyFrom_25 : decode cX6_copyFrom 25 = .ok (.invokevirtual 33, 3) := by decide +kernel
theorem dX6_copyFrom_28 : decode cX6_copyFrom 28 = .ok (.aload_n 0, 1) := by decide +kernel
theorem dX6_copyFrom_29 : decode cX6_copyFrom 29 = .ok (.getfield 19, 3) := by decide +kernel
theorem dX6_copyFrom_32 : decode cX6_copyFrom 32 = .ok (.aload_n 1, 1) := by decide +kernel
theorem dX6_copyFrom_33 : decode cX6_copyFrom 33 = .ok (.getfield 19, 3) := by decide +kernel
theorem dX6_copyFrom_36 : decode cX6_copyFrom 36 = .ok (.invokevirtual 37, 3) := by decide +kernel
theorem dX6_copyFrom_39 : decode cX6_copyFrom 39 = .ok (.return_, 1) := by decide +kernel
theorem dX7_init_0 : decode cX7_init 0 = .ok (.aload_n 0, 1) := by decide +kernel
theorem dX7_init_1 : decode cX7_init 1 = .ok (.invokespecial 1, 3) := by decide +kernel
theorem dX7_init_4 : decode cX7_init 4 = .ok (.return_, 1) := by decide +kernel
theorem dX7_begin_0 : decode cX7_begin 0 = .ok (.lload 5, 2) := by decide +kernel
theorem dX7_begin_2 : decode cX7_begin 2 = .ok (.invokestatic 7, 3) := by decide +kernel
theorem dX7_begin_5 : decode cX7_begin 5 = .ok (.lstore 7, 2) := by decide +kernel
theorem dX7_begin_7 : decode cX7_begin 7 = .ok (.aload_n 0, 1) := by decide +kernel
theorem dX7_begin_8 : decode cX7_begin 8 = .ok (.lload_n 1, 1) := by decide +kernel
theorem dX7_begin_9 : decode cX7_begin 9 = .ok (.lload 7, 2) := by decide +kernel
theorem dX7_begin_11 : decode cX7_begin 11 = .ok (.lmul, 1) := by decide +kernel
theorem dX7_begin_12 : decode cX7_begin 12 = .ok (.putfield 13, 3) := by decide +kernel
theorem dX7_begin_15 : decode cX7_begin 15 = .ok (.aload_n 0, 1) := by decide +kernel
theorem dX7_begin_16 : decode cX7_begin 16 = .ok (.lload 5, 2) := by decide +kernel
theorem dX7_begin_18 : decode cX7_begin 18 = .ok (.lload 7, 2) := by decide +kernel
theorem dX7_begin_20 : decode cX7_begin 20 = .ok (.lmul, 1) := by decide +kernel
theorem dX7_begin_21 : decode cX7_begin 21 = .ok (.putfield 19, 3) := by decide +kernel
theorem dX7_begin_24 : decode cX7_begin 24 = .ok (.aload_n 0, 1) := by decide +kernel
theorem dX7_begin_25 : decode cX7_begin 25 = .ok (.lload_n 3, 1) := by decide +kernel
theorem dX7_begin_26 : decode cX7_begin 26 = .ok (.lload 7, 2) := by decide +kernel
theorem dX7_begin_28 : decode cX7_begin 28 = .ok (.lmul, 1) := by decide +kernel
theorem dX7_begin_29 : decode cX7_begin 29 = .ok (.lload 7, 2) := by decide +kernel
theorem dX7_begin_31 : decode cX7_begin 31 = .ok (.lmul, 1) := by decide +kernel
theorem dX7_begin_32 : decode cX7_begin 32 = .ok (.putfield 22, 3) := by decide +kernel
theorem dX7_begin_35 : decode cX7_begin 35 = .ok (.aload_n 0, 1) := by decide +kernel
theorem dX7_begin_36 : decode cX7_begin 36 = .ok (.aload_n 0, 1) := by decide +kernel
theorem dX7_begin_37 : decode cX7_begin 37 = .ok (.getfield 22, 3) := by decide +kernel
theorem dX7_begin_40 : decode cX7_begin 40 = .ok (.invokestatic 25, 3) := by decide +kernel
theorem dX7_begin_43 : decode cX7_begin 43 = .ok (.putfield 28, 3) := by decide +kernel
theorem dX7_begin_46 : decode cX7_begin 46 = .ok (.return_, 1) := by decide +kernel
theorem dX7_whole_0 : decode cX7_whole 0 = .ok (.aload_n 0, 1) := by decide +kernel
theorem dX7_whole_1 : decode cX7_whole 1 = .ok (.getfield 19, 3) := by decide +kernel
theorem dX7_whole_4 : decode cX7_whole 4 = .ok (.lconst 0, 1) := by decide +kernel
theorem dX7_whole_5 : decode cX7_whole 5 = .ok (.lcmp, 1) := by decide +kernel
theorem dX7_whole_6 : decode cX7_whole 6 = .ok (.ifCond .le 20, 3) := by decide +kernel
theorem dX7_whole_9 : decode cX7_whole 9 = .ok (.aload_n 0, 1) := by decide +kernel
theorem dX7_whole_10 : decode cX7_whole 10 = .ok (.getfield 13, 3) := by decide +kernel
theorem dX7_whole_13 : decode cX7_whole 13 = .ok (.aload_n 0, 1) := by decide +kernel
theorem dX7_whole_14 : decode cX7_whole 14 = .ok (.getfield 28, 3) := by decide +kernel
theorem dX7_whole_17 : decode cX7_whole 17 = .ok (.ladd, 1) := by decide +kernel
theorem dX7_whole_18 : decode cX7_whole 18 = .ok (.aload_n 0, 1) := by decide +kernel
theorem dX7_whole_19 : decode cX7_whole 19 = .ok (.getfield 19, 3) := by decide +kernel
theorem dX7_whole_22 : decode cX7_whole 22 = .ok (.invokestatic 31, 3) := by decide +kernel
theorem dX7_whole_25 : decode cX7_whole 25 = .ok (.lreturn, 1) := by decide +kernel
theorem dX7_whole_26 : decode cX7_whole 26 = .ok (.aload_n 0, 1) := by decide +kernel
theorem dX7_whole_27 : decode cX7_whole 27 = .ok (.getfield 19, 3) := by decide +kernel
theorem dX7_whole_30 : decode cX7_whole 30 = .ok (.lconst 0, 1) := by decide +kernel
theorem dX7_whole_31 : decode cX7_whole 31 = .ok (.lcmp, 1) := by decide +kernel
theorem dX7_whole_32 : decode cX7_whole 32 = .ok (.ifCond .ge 25, 3) := by decide +kernel
theorem dX7_whole_35 : decode cX7_whole 35 = .ok (.ldc2_w 35, 3) := by decide +kernel
theorem dX7_whole_38 : decode cX7_whole 38 = .ok (.aload_n 0, 1) := by decide +kernel
theorem dX7_whole_39 : decode cX7_whole 39 = .ok (.getfield 13, 3) := by decide +kernel
theorem dX7_whole_42 : decode cX7_whole 42 = .ok (.aload_n 0, 1) := by decide +kernel
theorem dX7_whole_43 : decode cX7_whole 43 = .ok (.getfield 28, 3) := by decide +kernel
theorem dX7_whole_46 : decode cX7_whole 46 = .ok (.ladd, 1) := by decide +kernel
theorem dX7_whole_47 : decode cX7_whole 47 = .ok (.aload_n 0, 1) := by decide +kernel
theorem dX7_whole_48 : decode cX7_whole 48 = .ok (.getfield 19, 3) := by decide +kernel
theorem dX7_whole_51 : decode cX7_whole 51 = .ok (.lneg, 1) := by decide +kernel
theorem dX7_whole_52 : decode cX7_whole 52 = .ok (.invokestatic 31, 3) := by decide +kernel
theorem dX7_whole_55 : decode cX7_whole 55 = .ok (.lsub, 1) := by decide +kernel
theorem dX7_whole_56 : decode cX7_whole 56 = .ok (.lreturn, 1) := by decide +kernel
theorem dX7_whole_57 : decode cX7_whole 57 = .ok (.lconst 0, 1) := by decide +kernel
theorem dX7_whole_58 : decode cX7_whole 58 = .ok (.lreturn, 1) := by decide +kernel
theorem dX7_advance_0 : decode cX7_advance 0 = .ok (.aload_n 0, 1) := by decide +kernel
theorem dX7_advance_1 : decode cX7_advance 1 = .ok (.getfield 19, 3) := by decide +kernel
theorem dX7_advance_4 : decode cX7_advance 4 = .ok (.lconst 0, 1) := by decide +kernel
theorem dX7_advance_5 : decode cX7_advance 5 = .ok (.lcmp, 1) := by decide +kernel
theorem dX7_advance_6 : decode cX7_advance 6 = .ok (.ifCond .ne 4, 3) := by decide +kernel
theorem dX7_advance_9 : decode cX7_advance 9 = .ok (.return_, 1) := by decide +kernel
theorem dX7_advance_10 : decode cX7_advance 10 = .ok (.aload_n 0, 1) := by decide +kernel
theorem dX7_advance_11 : decode cX7_advance 11 = .ok (.aload_n 0, 1) := by decide +kernel
theorem dX7_advance_12 : decode cX7_advance 12 = .ok (.invokevirtual 37, 3) := by decide +kernel
theorem dX7_advance_15 : decode cX7_advance 15 = .ok (.aload_n 0, 1) := by decide +kernel
theorem dX7_advance_16 : decode cX7_advance 16 = .ok (.getfield 19, 3) := by decide +kernel
theorem dX7_advance_19 : decode cX7_advance 19 = .ok (.lmul, 1) := by decide +kernel
theorem dX7_advance_20 : decode cX7_advance 20 = .ok (.aload_n 0, 1) := by decide +kernel
theorem dX7_advance_21 : decode cX7_advance 21 = .ok (.getfield 13, 3) := by decide +kernel
theorem dX7_advance_24 : decode cX7_advance 24 = .ok (.lsub, 1) := by decide +kernel
theorem dX7_advance_25 : decode cX7_advance 25 = .ok (.putfield 13, 3) := by decide +kernel
theorem dX7_advance_28 : decode cX7_advance 28 = .ok (.aload_n 0, 1) := by decide +kernel
theorem dX7_advance_29 : decode cX7_advance 29 = .ok (.aload_n 0, 1) := by decide +kernel
theorem dX7_advance_30 : decode cX7_advance 30 = .ok (.getfield 22, 3) := by decide +kernel
theorem dX7_advance_33 : decode cX7_advance 33 = .ok (.aload_n 0, 1) := by decide +kernel
theorem dX7_advance_34 : decode cX7_advance 34 = .ok (.getfield 13, 3) := by decide +kernel
theorem dX7_advance_37 : decode cX7_advance 37 = .ok (.aload_n 0, 1) := by decide +kernel
theorem dX7_advance_38 : decode cX7_advance 38 = .ok (.getfield 13, 3) := by decide +kernel
theorem dX7_advance_41 : decode cX7_advance 41 = .ok (.lmul, 1) := by decide +kernel
theorem dX7_advance_42 : decode cX7_advance 42 = .ok (.lsub, 1) := by decide +kernel
theorem dX7_advance_43 : decode cX7_advance 43 = .ok (.aload_n 0, 1) := by decide +kernel
theorem dX7_advance_44 : decode cX7_advance 44 = .ok (.getfield 19, 3) := by decide +kernel
theorem dX7_advance_47 : decode cX7_advance 47 = .ok (.ldiv, 1) := by decide +kernel
theorem dX7_advance_48 : decode cX7_advance 48 = .ok (.putfield 19, 3) := by decide +kernel
theorem dX7_advance_51 : decode cX7_advance 51 = .ok (.return_, 1) := by decide +kernel
theorem dX7_isReduced_0 : decode cX7_isReduced 0 = .ok (.aload_n 0, 1) := by decide +kernel
theorem dX7_isReduced_1 : decode cX7_isReduced 1 = .ok (.getfield 13, 3) := by decide +kernel
theorem dX7_isReduced_4 : decode cX7_isReduced 4 = .ok (.lconst 0, 1) := by decide +kernel
theorem dX7_isReduced_5 : decode cX7_isReduced 5 = .ok (.lcmp, 1) := by decide +kernel
theorem dX7_isReduced_6 : decode cX7_isReduced 6 = .ok (.ifCond .le 53, 3) := by decide +kernel
theorem dX7_isReduced_9 : decode cX7_isReduced 9 = .ok (.aload_n 0, 1) := by decide +kernel
theorem dX7_isReduced_10 : decode cX7_isReduced 10 = .ok (.getfield 13, 3) := by decide +kernel
theorem dX7_isReduced_13 : decode cX7_isReduced 13 = .ok (.aload_n 0, 1) := by decide +kernel
theorem dX7_isReduced_14 : decode cX7_isReduced 14 = .ok (.getfield 28, 3) := by decide +kernel
theorem dX7_isReduced_17 : decode cX7_isReduced 17 = .ok (.lcmp, 1) := by decide +kernel
theorem dX7_isReduced_18 : decode cX7_isReduced 18 = .ok (.ifCond .gt 41, 3) := by decide +kernel
theorem dX7_isReduced_21 : decode cX7_isReduced 21 = .ok (.aload_n 0, 1) := by decide +kernel
theorem dX7_isReduced_22 : decode cX7_isReduced 22 = .ok (.getfield 19, 3) := by decide +kernel
theorem dX7_isReduced_25 : decode cX7_isReduced 25 = .ok (.aload_n 0, 1) := by decide +kernel
theorem dX7_isReduced_26 : decode cX7_isReduced 26 = .ok (.getfield 28, 3) := by decide +kernel
theorem dX7_isReduced_29 : decode cX7_isReduced 29 = .ok (.aload_n 0, 1) := by decide +kernel
theorem dX7_isReduced_30 : decode cX7_isReduced 30 = .ok (.getfield 13, 3) := by decide +kernel
theorem dX7_isReduced_33 : decode cX7_isReduced 33 = .ok (.lsub, 1) := by decide +kernel
theorem dX7_isReduced_34 : decode cX7_isReduced 34 = .ok (.lcmp, 1) := by decide +kernel
theorem dX7_isReduced_35 : decode cX7_isReduced 35 = .ok (.ifCond .le 24, 3) := by decide +kernel
theorem dX7_isReduced_38 : decode cX7_isReduced 38 = .ok (.aload_n 0, 1) := by decide +kernel
theorem dX7_isReduced_39 : decode cX7_isReduced 39 = .ok (.getfield 19, 3) := by decide +kernel
theorem dX7_isReduced_42 : decode cX7_isReduced 42 = .ok (.aload_n 0, 1) := by decide +kernel
theorem dX7_isReduced_43 : decode cX7_isReduced 43 = .ok (.getfield 28, 3) := by decide +kernel
theorem dX7_isReduced_46 : decode cX7_isReduced 46 = .ok (.aload_n 0, 1) := by decide +kernel
theorem dX7_isReduced_47 : decode cX7_isReduced 47 = .ok (.getfield 13, 3) := by decide +kernel
theorem dX7_isReduced_50 : decode cX7_isReduced 50 = .ok (.ladd, 1) := by decide +kernel
theorem dX7_isReduced_51 : decode cX7_isReduced 51 = .ok (.lcmp, 1) := by decide +kernel
theorem dX7_isReduced_52 : decode cX7_isReduced 52 = .ok (.ifCond .gt 7, 3) := by decide +kernel
theorem dX7_isReduced_55 : decode cX7_isReduced 55 = .ok (.iconst 1, 1) := by decide +kernel
theorem dX7_isReduced_56 : decode cX7_isReduced 56 = .ok (.goto 4, 3) := by decide +kernel
theorem dX7_isReduced_59 : decode cX7_isReduced 59 = .ok (.iconst 0, 1) := by decide +kernel
theorem dX7_isReduced_60 : decode cX7_isReduced 60 = .ok (.ireturn, 1) := by decide +kernel
theorem dX7_rootOf_0 : decode cX7_rootOf 0 = .ok (.lconst 0, 1) := by decide +kernel
theorem dX7_rootOf_1 : decode cX7_rootOf 1 = .ok (.lstore_n 2, 1) := by decide +kernel
theorem dX7_rootOf_2 : decode cX7_rootOf 2 = .ok (.ldc2_w 41, 3) := by decide +kernel
theorem dX7_rootOf_5 : decode cX7_rootOf 5 = .ok (.lstore 4, 2) := by decide +kernel
theorem dX7_rootOf_7 : decode cX7_rootOf 7 = .ok (.lload 4, 2) := by decide +kernel
theorem dX7_rootOf_9 : decode cX7_rootOf 9 = .ok (.lconst 0, 1) := by decide +kernel
theorem dX7_rootOf_10 : decode cX7_rootOf 10 = .ok (.lcmp, 1) := by decide +kernel
theorem dX7_rootOf_11 : decode cX7_rootOf 11 = .ok (.ifCond .le 31, 3) := by decide +kernel
theorem dX7_rootOf_14 : decode cX7_rootOf 14 = .ok (.lload_n 2, 1) := by decide +kernel
theorem dX7_rootOf_15 : decode cX7_rootOf 15 = .ok (.lload 4, 2) := by decide +kernel
theorem dX7_rootOf_17 : decode cX7_rootOf 17 = .ok (.ladd, 1) := by decide +kernel
theorem dX7_rootOf_18 : decode cX7_rootOf 18 = .ok (.lload_n 2, 1) := by decide +kernel
theorem dX7_rootOf_19 : decode cX7_rootOf 19 = .ok (.lload 4, 2) := by decide +kernel
theorem dX7_rootOf_21 : decode cX7_rootOf 21 = .ok (.ladd, 1) := by decide +kernel
theorem dX7_rootOf_22 : decode cX7_rootOf 22 = .ok (.lmul, 1) := by decide +kernel
theorem dX7_rootOf_23 : decode cX7_rootOf 23 = .ok (.lload_n 0, 1) := by decide +kernel
theorem dX7_rootOf_24 : decode cX7_rootOf 24 = .ok (.lcmp, 1) := by decide +kernel
theorem dX7_rootOf_25 : decode cX7_rootOf 25 = .ok (.ifCond .gt 8, 3) := by decide +kernel
theorem dX7_rootOf_28 : decode cX7_rootOf 28 = .ok (.lload_n 2, 1) := by decide +kernel
theorem dX7_rootOf_29 : decode cX7_rootOf 29 = .ok (.lload 4, 2) := by decide +kernel
theorem dX7_rootOf_31 : decode cX7_rootOf 31 = .ok (.ladd, 1) := by decide +kernel
theorem dX7_rootOf_32 : decode cX7_rootOf 32 = .ok (.lstore_n 2, 1) := by decide +kernel
theorem dX7_rootOf_33 : decode cX7_rootOf 33 = .ok (.lload 4, 2) := by decide +kernel
theorem dX7_rootOf_35 : decode cX7_rootOf 35 = .ok (.iconst 1, 1) := by decide +kernel
theorem dX7_rootOf_36 : decode cX7_rootOf 36 = .ok (.lshr, 1) := by decide +kernel
theorem dX7_rootOf_37 : decode cX7_rootOf 37 = .ok (.lstore 4, 2) := by decide +kernel
theorem dX7_rootOf_39 : decode cX7_rootOf 39 = .ok (.goto (-32), 3) := by decide +kernel
theorem dX7_rootOf_42 : decode cX7_rootOf 42 = .ok (.lload_n 2, 1) := by decide +kernel
theorem dX7_rootOf_43 : decode cX7_rootOf 43 = .ok (.lreturn, 1) := by decide +kernel
theorem dX8_init_0 : decode cX8_init 0 = .ok (.aload_n 0, 1) := by decide +kernel
theorem dX8_init_1 : decode cX8_init 1 = .ok (.invokespecial 1, 3) := by decide +kernel
theorem dX8_init_4 : decode cX8_init 4 = .ok (.aload_n 0, 1) := by decide +kernel
theorem dX8_init_5 : decode cX8_init 5 = .ok (.iconst 2, 1) := by decide +kernel
theorem dX8_init_6 : decode cX8_init 6 = .ok (.putfield 7, 3) := by decide +kernel
theorem dX8_init_9 : decode cX8_init 9 = .ok (.aload_n 0, 1) := by decide +kernel
theorem dX8_init_10 : decode cX8_init 10 = .ok (.iconst 1, 1) := by decide +kernel
theorem dX8_init_11 : decode cX8_init 11 = .ok (.putfield 13, 3) := by decide +kernel
theorem dX8_init_14 : decode cX8_init 14 = .ok (.return_, 1) := by decide +kernel
theorem dX8_set_0 : decode cX8_set 0 = .ok (.aload_n 0, 1) := by decide +kernel
theorem dX8_set_1 : decode cX8_set 1 = .ok (.iload_n 1, 1) := by decide +kernel
theorem dX8_set_2 : decode cX8_set 2 = .ok (.putfield 16, 3) := by decide +kernel
theorem dX8_set_5 : decode cX8_set 5 = .ok (.aload_n 0, 1) := by decide +kernel
theorem dX8_set_6 : decode cX8_set 6 = .ok (.iload_n 2, 1) := by decide +kernel
theorem dX8_set_7 : decode cX8_set 7 = .ok (.putfield 7, 3) := by decide +kernel
theorem dX8_set_10 : decode cX8_set 10 = .ok (.aload_n 0, 1) := by decide +kernel
theorem dX8_set_11 : decode cX8_set 11 = .ok (.iload_n 3, 1) := by decide +kernel
theorem dX8_set_12 : decode cX8_set 12 = .ok (.putfield 13, 3) := by decide +kernel
theorem dX8_set_15 : decode cX8_set 15 = .ok (.return_, 1) := by decide +kernel
theorem dX8_isPassedBy_0 : decode cX8_isPassedBy 0 = .ok (.aload_n 0, 1) := by decide +kernel
theorem dX8_isPassedBy_1 : decode cX8_isPassedBy 1 = .ok (.getfield 13, 3) := by decide +kernel
theorem dX8_isPassedBy_4 : decode cX8_isPassedBy 4 = .ok (.i2l, 1) := by decide +kernel
theorem dX8_isPassedBy_5 : decode cX8_isPassedBy 5 = .ok (.lload_n 1, 1) := by decide +kernel
theorem dX8_isPassedBy_6 : decode cX8_isPassedBy 6 = .ok (.lmul, 1) := by decide +kernel
theorem dX8_isPassedBy_7 : decode cX8_isPassedBy 7 = .ok (.aload_n 0, 1) := by decide +kernel
theorem dX8_isPassedBy_8 : decode cX8_isPassedBy 8 = .ok (.getfield 16, 3) := by decide +kernel
theorem dX8_isPassedBy_11 : decode cX8_isPassedBy 11 = .ok (.i2l, 1) := by decide +kernel
theorem dX8_isPassedBy_12 : decode cX8_isPassedBy 12 = .ok (.lload_n 3, 1) := by decide +kernel
theorem dX8_isPassedBy_13 : decode cX8_isPassedBy 13 = .ok (.lmul, 1) := by decide +kernel
theorem dX8_isPassedBy_14 : decode cX8_isPassedBy 14 = .ok (.lsub, 1) := by decide +kernel
theorem dX8_isPassedBy_15 : decode cX8_isPassedBy 15 = .ok (.lstore 5, 2) := by decide +kernel
theorem dX8_isPassedBy_17 : decode cX8_isPassedBy 17 = .ok (.lload 5, 2) := by decide +kernel
theorem dX8_isPassedBy_19 : decode cX8_isPassedBy 19 = .ok (.lconst 0, 1) := by decide +kernel
theorem dX8_isPassedBy_20 : decode cX8_isPassedBy 20 = .ok (.lcmp, 1) := by decide +kernel
theorem dX8_isPassedBy_21 : decode cX8_isPassedBy 21 = .ok (.ifCond .le 25, 3) := by decide +kernel
theorem dX8_isPassedBy_24 : decode cX8_isPassedBy 24 = .ok (.lload 5, 2) := by decide +kernel
theorem dX8_isPassedBy_26 : decode cX8_isPassedBy 26 = .ok (.lload 5, 2) := by decide +kernel
theorem dX8_isPassedBy_28 : decode cX8_isPassedBy 28 = .ok (.lmul, 1) := by decide +kernel
theorem dX8_isPassedBy_29 : decode cX8_isPassedBy 29 = .ok (.lload_n 3, 1) := by decide +kernel
theorem dX8_isPassedBy_30 : decode cX8_isPassedBy 30 = .ok (.lload_n 3, 1) := by decide +kernel
theorem dX8_isPassedBy_31 : decode cX8_isPassedBy 31 = .ok (.lmul, 1) := by decide +kernel
theorem dX8_isPassedBy_32 : decode cX8_isPassedBy 32 = .ok (.aload_n 0, 1) := by decide +kernel
theorem dX8_isPassedBy_33 : decode cX8_isPassedBy 33 = .ok (.getfield 7, 3) := by decide +kernel
theorem dX8_isPassedBy_36 : decode cX8_isPassedBy 36 = .ok (.i2l, 1) := by decide +kernel
theorem dX8_isPassedBy_37 : decode cX8_isPassedBy 37 = .ok (.lmul, 1) := by decide +kernel
theorem dX8_isPassedBy_38 : decode cX8_isPassedBy 38 = .ok (.lcmp, 1) := by decide +kernel
theorem dX8_isPassedBy_39 : decode cX8_isPassedBy 39 = .ok (.ifCond .le 7, 3) := by decide +kernel
theorem dX8_isPassedBy_42 : decode cX8_isPassedBy 42 = .ok (.iconst 1, 1) := by decide +kernel
theorem dX8_isPassedBy_43 : decode cX8_isPassedBy 43 = .ok (.goto 4, 3) := by decide +kernel
theorem dX8_isPassedBy_46 : decode cX8_isPassedBy 46 = .ok (.iconst 0, 1) := by decide +kernel
theorem dX8_isPassedBy_47 : decode cX8_isPassedBy 47 = .ok (.istore 7, 2) := by decide +kernel
theorem dX8_isPassedBy_49 : decode cX8_isPassedBy 49 = .ok (.iload 7, 2) := by decide +kernel
theorem dX8_isPassedBy_51 : decode cX8_isPassedBy 51 = .ok (.aload_n 0, 1) := by decide +kernel
theorem dX8_isPassedBy_52 : decode cX8_isPassedBy 52 = .ok (.getfield 13, 3) := by decide +kernel
theorem dX8_isPassedBy_55 : decode cX8_isPassedBy 55 = .ok (.ifCond .le 7, 3) := by decide +kernel
theorem dX8_isPassedBy_58 : decode cX8_isPassedBy 58 = .ok (.iconst 1, 1) := by decide +kernel
theorem dX8_isPassedBy_59 : decode cX8_isPassedBy 59 = .ok (.goto 4, 3) := by decide +kernel
theorem dX8_isPassedBy_62 : decode cX8_isPassedBy 62 = .ok (.iconst 0, 1) := by decide +kernel
theorem dX8_isPassedBy_63 : decode cX8_isPassedBy 63 = .ok (.if_icmp .ne 7, 3) := by decide +kernel
theorem dX8_isPassedBy_66 : decode cX8_isPassedBy 66 = .ok (.iconst 1, 1) := by decide +kernel
theorem dX8_isPassedBy_67 : decode cX8_isPassedBy 67 = .ok (.goto 4, 3) := by decide +kernel
theorem dX8_isPassedBy_70 : decode cX8_isPassedBy 70 = .ok (.iconst 0, 1) := by decide +kernel
theorem dX8_isPassedBy_71 : decode cX8_isPassedBy 71 = .ok (.ireturn, 1) := by decide +kernel
theorem dX8_isNearer_0 : decode cX8_isNearer 0 = .ok (.aload_n 0, 1) := by decide +kernel
theorem dX8_isNearer_1 : decode cX8_isNearer 1 = .ok (.lload_n 1, 1) := by decide +kernel
theorem dX8_isNearer_2 : decode cX8_isNearer 2 = .ok (.lload_n 3, 1) := by decide +kernel
theorem dX8_isNearer_3 : decode cX8_isNearer 3 = .ok (.invokevirtual 19, 3) := by decide +kernel
theorem dX8_isNearer_6 : decode cX8_isNearer 6 = .ok (.istore 9, 2) := by decide +kernel
theorem dX8_isNearer_8 : decode cX8_isNearer 8 = .ok (.lload_n 1, 1) := by decide +kernel
theorem dX8_isNearer_9 : decode cX8_isNearer 9 = .ok (.lload 7, 2) := by decide +kernel
theorem dX8_isNearer_11 : decode cX8_isNearer 11 = .ok (.lmul, 1) := by decide +kernel
theorem dX8_isNearer_12 : decode cX8_isNearer 12 = .ok (.lstore 10, 2) := by decide +kernel
theorem dX8_isNearer_14 : decode cX8_isNearer 14 = .ok (.lload 5, 2) := by decide +kernel
theorem dX8_isNearer_16 : decode cX8_isNearer 16 = .ok (.lload_n 3, 1) := by decide +kernel
theorem dX8_isNearer_17 : decode cX8_isNearer 17 = .ok (.lmul, 1) := by decide +kernel
theorem dX8_isNearer_18 : decode cX8_isNearer 18 = .ok (.lstore 12, 2) := by decide +kernel
theorem dX8_isNearer_20 : decode cX8_isNearer 20 = .ok (.iload 9, 2) := by decide +kernel
theorem dX8_isNearer_22 : decode cX8_isNearer 22 = .ok (.aload_n 0, 1) := by decide +kernel
theorem dX8_isNearer_23 : decode cX8_isNearer 23 = .ok (.lload 5, 2) := by decide +kernel
theorem dX8_isNearer_25 : decode cX8_isNearer 25 = .ok (.lload 7, 2) := by decide +kernel
theorem dX8_isNearer_27 : decode cX8_isNearer 27 = .ok (.invokevirtual 19, 3) := by decide +kernel
theorem dX8_isNearer_30 : decode cX8_isNearer 30 = .ok (.if_icmp .ne 38, 3) := by decide +kernel
theorem dX8_isNearer_33 : decode cX8_isNearer 33 = .ok (.iload 9, 2) := by decide +kernel
theorem dX8_isNearer_35 : decode cX8_isNearer 35 = .ok (.ifCond .eq 19, 3) := by decide +kernel
theorem dX8_isNearer_38 : decode cX8_isNearer 38 = .ok (.lload 10, 2) := by decide +kernel
theorem dX8_isNearer_40 : decode cX8_isNearer 40 = .ok (.lload 12, 2) := by decide +kernel
theorem dX8_isNearer_42 : decode cX8_isNearer 42 = .ok (.lcmp, 1) := by decide +kernel
theorem dX8_isNearer_43 : decode cX8_isNearer 43 = .ok (.ifCond .ge 7, 3) := by decide +kernel
theorem dX8_isNearer_46 : decode cX8_isNearer 46 = .ok (.iconst 1, 1) := by decide +kernel
theorem dX8_isNearer_47 : decode cX8_isNearer 47 = .ok (.goto 20, 3) := by decide +kernel
theorem dX8_isNearer_50 : decode cX8_isNearer 50 = .ok (.iconst 0, 1) := by decide +kernel
theorem dX8_isNearer_51 : decode cX8_isNearer 51 = .ok (.goto 16, 3) := by decide +kernel
theorem dX8_isNearer_54 : decode cX8_isNearer 54 = .ok (.lload 10, 2) := by decide +kernel
theorem dX8_isNearer_56 : decode cX8_isNearer 56 = .ok (.lload 12, 2) := by decide +kernel
theorem dX8_isNearer_58 : decode cX8_isNearer 58 = .ok (.lcmp, 1) := by decide +kernel
theorem dX8_isNearer_59 : decode cX8_isNearer 59 = .ok (.ifCond .le 7, 3) := by decide +kernel
theorem dX8_isNearer_62 : decode cX8_isNearer 62 = .ok (.iconst 1, 1) := by decide +kernel
theorem dX8_isNearer_63 : decode cX8_isNearer 63 = .ok (.goto 4, 3) := by decide +kernel
theorem dX8_isNearer_66 : decode cX8_isNearer 66 = .ok (.iconst 0, 1) := by decide +kernel
theorem dX8_isNearer_67 : decode cX8_isNearer 67 = .ok (.ireturn, 1) := by decide +kernel
theorem dX8_isNearer_68 : decode cX8_isNearer 68 = .ok (.iload 9, 2) := by decide +kernel
theorem dX8_isNearer_70 : decode cX8_isNearer 70 = .ok (.aload_n 0, 1) := by decide +kernel
theorem dX8_isNearer_71 : decode cX8_isNearer 71 = .ok (.lload 10, 2) := by decide +kernel
theorem dX8_isNearer_73 : decode cX8_isNearer 73 = .ok (.lload 12, 2) := by decide +kernel
theorem dX8_isNearer_75 : decode cX8_isNearer 75 = .ok (.ladd, 1) := by decide +kernel
theorem dX8_isNearer_76 : decode cX8_isNearer 76 = .ok (.ldc2_w 23, 3) := by decide +kernel
theorem dX8_isNearer_79 : decode cX8_isNearer 79 = .ok (.lload_n 3, 1) := by decide +kernel
theorem dX8_isNearer_80 : decode cX8_isNearer 80 = .ok (.lmul, 1) := by decide +kernel
theorem dX8_isNearer_81 : decode cX8_isNearer 81 = .ok (.lload 7, 2) := by decide +kernel
theorem dX8_isNearer_83 : decode cX8_isNearer 83 = .ok (.lmul, 1) := by decide +kernel
theorem dX8_isNearer_84 : decode cX8_isNearer 84 = .ok (.invokevirtual 19, 3) := by decide +kernel
theorem dX8_isNearer_87 : decode cX8_isNearer 87 = .ok (.if_icmp .eq 7, 3) := by decide +kernel
theorem dX8_isNearer_90 : decode cX8_isNearer 90 = .ok (.iconst 1, 1) := by decide +kernel
theorem dX8_isNearer_91 : decode cX8_isNearer 91 = .ok (.goto 4, 3) := by decide +kernel
theorem dX8_isNearer_94 : decode cX8_isNearer 94 = .ok (.iconst 0, 1) := by decide +kernel
theorem dX8_isNearer_95 : decode cX8_isNearer 95 = .ok (.ireturn, 1) := by decide +kernel
theorem dX9_init_0 : decode cX9_init 0 = .ok (.aload_n 0, 1) := by decide +kernel
theorem dX9_init_1 : decode cX9_init 1 = .ok (.invokespecial 3, 3) := by decide +kernel
theorem dX9_init_4 : decode cX9_init 4 = .ok (.aload_n 0, 1) := by decide +kernel
theorem dX9_init_5 : decode cX9_init 5 = .ok (.bipush 40, 2) := by decide +kernel
theorem dX9_init_7 : decode cX9_init 7 = .ok (.newarray .char, 2) := by decide +kernel
theorem dX9_init_9 : decode cX9_init 9 = .ok (.putfield 9, 3) := by decide +kernel
theorem dX9_init_12 : decode cX9_init 12 = .ok (.aload_n 0, 1) := by decide +kernel
theorem dX9_init_13 : decode cX9_init 13 = .ok (.bipush 40, 2) := by decide +kernel
theorem dX9_init_15 : decode cX9_init 15 = .ok (.newarray .int, 2) := by decide +kernel
theorem dX9_init_17 : decode cX9_init 17 = .ok (.putfield 15, 3) := by decide +kernel
theorem dX9_init_20 : decode cX9_init 20 = .ok (.return_, 1) := by decide +kernel
theorem dX9_append_0 : decode cX9_append 0 = .ok (.aload_n 0, 1) := by decide +kernel
theorem dX9_append_1 : decode cX9_append 1 = .ok (.getfield 19, 3) := by decide +kernel
theorem dX9_append_4 : decode cX9_append 4 = .ok (.ifCond .lt 35, 3) := by decide +kernel
theorem dX9_append_7 : decode cX9_append 7 = .ok (.aload_n 0, 1) := by decide +kernel
theorem dX9_append_8 : decode cX9_append 8 = .ok (.getfield 19, 3) := by decide +kernel
theorem dX9_append_11 : decode cX9_append 11 = .ok (.aload_n 0, 1) := by decide +kernel
theorem dX9_append_12 : decode cX9_append 12 = .ok (.getfield 9, 3) := by decide +kernel
theorem dX9_append_15 : decode cX9_append 15 = .ok (.arraylength, 1) := by decide +kernel
theorem dX9_append_16 : decode cX9_append 16 = .ok (.if_icmp .ge 23, 3) := by decide +kernel
theorem dX9_append_19 : decode cX9_append 19 = .ok (.aload_n 0, 1) := by decide +kernel
theorem dX9_append_20 : decode cX9_append 20 = .ok (.getfield 9, 3) := by decide +kernel
theorem dX9_append_23 : decode cX9_append 23 = .ok (.aload_n 0, 1) := by decide +kernel
theorem dX9_append_24 : decode cX9_append 24 = .ok (.getfield 19, 3) := by decide +kernel
theorem dX9_append_27 : decode cX9_append 27 = .ok (.iload_n 1, 1) := by decide +kernel
theorem dX9_append_28 : decode cX9_append 28 = .ok (.castore, 1) := by decide +kernel
theorem dX9_append_29 : decode cX9_append 29 = .ok (.aload_n 0, 1) := by decide +kernel
theorem dX9_append_30 : decode cX9_append 30 = .ok (.dup, 1) := by decide +kernel
theorem dX9_append_31 : decode cX9_append 31 = .ok (.getfield 19, 3) := by decide +kernel
theorem dX9_append_34 : decode cX9_append 34 = .ok (.iconst 1, 1) := by decide +kernel
theorem dX9_append_35 : decode cX9_append 35 = .ok (.iadd, 1) := by decide +kernel
theorem dX9_append_36 : decode cX9_append 36 = .ok (.putfield 19, 3) := by decide +kernel
theorem dX9_append_39 : decode cX9_append 39 = .ok (.return_, 1) := by decide +kernel
theorem dX9_characterAt_0 : decode cX9_characterAt 0 = .ok (.iload_n 1, 1) := by decide +kernel
theorem dX9_characterAt_1 : decode cX9_characterAt 1 = .ok (.ifCond .lt 29, 3) := by decide +kernel
theorem dX9_characterAt_4 : decode cX9_characterAt 4 = .ok (.iload_n 1, 1) := by decide +kernel
theorem dX9_characterAt_5 : decode cX9_characterAt 5 = .ok (.aload_n 0, 1) := by decide +kernel
theorem dX9_characterAt_6 : decode cX9_characterAt 6 = .ok (.getfield 19, 3) := by decide +kernel
theorem dX9_characterAt_9 : decode cX9_characterAt 9 = .ok (.if_icmp .ge 21, 3) := by decide +kernel
theorem dX9_characterAt_12 : decode cX9_characterAt 12 = .ok (.iload_n 1, 1) := by decide +kernel
theorem dX9_characterAt_13 : decode cX9_characterAt 13 = .ok (.aload_n 0, 1) := by decide +kernel
theorem dX9_characterAt_14 : decode cX9_characterAt 14 = .ok (.getfield 9, 3) := by decide +kernel
theorem dX9_characterAt_17 : decode cX9_characterAt 17 = .ok (.arraylength, 1) := by decide +kernel
theorem dX9_characterAt_18 : decode cX9_characterAt 18 = .ok (.if_icmp .ge 12, 3) := by decide +kernel
theorem dX9_characterAt_21 : decode cX9_characterAt 21 = .ok (.aload_n 0, 1) := by decide +kernel
theorem dX9_characterAt_22 : decode cX9_characterAt 22 = .ok (.getfield 9, 3) := by decide +kernel
theorem dX9_characterAt_25 : decode cX9_characterAt 25 = .ok (.iload_n 1, 1) := by decide +kernel
theorem dX9_characterAt_26 : decode cX9_characterAt 26 = .ok (.caload, 1) := by decide +kernel
theorem dX9_characterAt_27 : decode cX9_characterAt 27 = .ok (.goto 4, 3) := by decide +kernel
theorem dX9_characterAt_30 : decode cX9_characterAt 30 = .ok (.iconst 0, 1) := by decide +kernel
theorem dX9_characterAt_31 : decode cX9_characterAt 31 = .ok (.ireturn, 1) := by decide +kernel
theorem dX9_digitAt_0 : decode cX9_digitAt 0 = .ok (.aload_n 0, 1) := by decide +kernel
theorem dX9_digitAt_1 : decode cX9_digitAt 1 = .ok (.iload_n 1, 1) := by decide +kernel
theorem dX9_digitAt_2 : decode cX9_digitAt 2 = .ok (.invokevirtual 23, 3) := by decide +kernel
theorem dX9_digitAt_5 : decode cX9_digitAt 5 = .ok (.istore_n 2, 1) := by decide +kernel
theorem dX9_digitAt_6 : decode cX9_digitAt 6 = .ok (.iload_n 2, 1) := by decide +kernel
theorem dX9_digitAt_7 : decode cX9_digitAt 7 = .ok (.bipush 48, 2) := by decide +kernel
theorem dX9_digitAt_9 : decode cX9_digitAt 9 = .ok (.if_icmp .lt 16, 3) := by decide +kernel
theorem dX9_digitAt_12 : decode cX9_digitAt 12 = .ok (.iload_n 2, 1) := by decide +kernel
theorem dX9_digitAt_13 : decode cX9_digitAt 13 = .ok (.bipush 57, 2) := by decide +kernel
theorem dX9_digitAt_15 : decode cX9_digitAt 15 = .ok (.if_icmp .gt 10, 3) := by decide +kernel
theorem dX9_digitAt_18 : decode cX9_digitAt 18 = .ok (.iload_n 2, 1) := by decide +kernel
theorem dX9_digitAt_19 : decode cX9_digitAt 19 = .ok (.bipush 48, 2) := by decide +kernel
theorem dX9_digitAt_21 : decode cX9_digitAt 21 = .ok (.isub, 1) := by decide +kernel
theorem dX9_digitAt_22 : decode cX9_digitAt 22 = .ok (.goto 4, 3) := by decide +kernel
theorem dX9_digitAt_25 : decode cX9_digitAt 25 = .ok (.iconst (-1), 1) := by decide +kernel
theorem dX9_digitAt_26 : decode cX9_digitAt 26 = .ok (.ireturn, 1) := by decide +kernel
theorem dX9_hasFault_0 : decode cX9_hasFault 0 = .ok (.aload_n 0, 1) := by decide +kernel
theorem dX9_hasFault_1 : decode cX9_hasFault 1 = .ok (.getfield 27, 3) := by decide +kernel
theorem dX9_hasFault_4 : decode cX9_hasFault 4 = .ok (.ifCond .eq 7, 3) := by decide +kernel
theorem dX9_hasFault_7 : decode cX9_hasFault 7 = .ok (.iconst 1, 1) := by decide +kernel
theorem dX9_hasFault_8 : decode cX9_hasFault 8 = .ok (.goto 4, 3) := by decide +kernel
theorem dX9_hasFault_11 : decode cX9_hasFault 11 = .ok (.iconst 0, 1) := by decide +kernel
theorem dX9_hasFault_12 : decode cX9_hasFault 12 = .ok (.ireturn, 1) := by decide +kernel
theorem dX9_termAt_0 : decode cX9_termAt 0 = .ok (.iload_n 1, 1) := by decide +kernel
theorem dX9_termAt_1 : decode cX9_termAt 1 = .ok (.ifCond .lt 21, 3) := by decide +kernel
theorem dX9_termAt_4 : decode cX9_termAt 4 = .ok (.iload_n 1, 1) := by decide +kernel
theorem dX9_termAt_5 : decode cX9_termAt 5 = .ok (.aload_n 0, 1) := by decide +kernel
theorem dX9_termAt_6 : decode cX9_termAt 6 = .ok (.getfield 15, 3) := by decide +kernel
theorem dX9_termAt_9 : decode cX9_termAt 9 = .ok (.arraylength, 1) := by decide +kernel
theorem dX9_termAt_10 : decode cX9_termAt 10 = .ok (.if_icmp .ge 12, 3) := by decide +kernel
theorem dX9_termAt_13 : decode cX9_termAt 13 = .ok (.aload_n 0, 1) := by decide +kernel
theorem dX9_termAt_14 : decode cX9_termAt 14 = .ok (.getfield 15, 3) := by decide +kernel
theorem dX9_termAt_17 : decode cX9_termAt 17 = .ok (.iload_n 1, 1) := by decide +kernel
theorem dX9_termAt_18 : decode cX9_termAt 18 = .ok (.iaload, 1) := by decide +kernel
theorem dX9_termAt_19 : decode cX9_termAt 19 = .ok (.goto 4, 3) := by decide +kernel
theorem dX9_termAt_22 : decode cX9_termAt 22 = .ok (.iconst 0, 1) := by decide +kernel
theorem dX9_termAt_23 : decode cX9_termAt 23 = .ok (.ireturn, 1) := by decide +kernel
theorem dX9_read_0 : decode cX9_read 0 = .ok (.aload_n 0, 1) := by decide +kernel
theorem dX9_read_1 : decode cX9_read 1 = .ok (.iconst 0, 1) := by decide +kernel
theorem dX9_read_2 : decode cX9_read 2 = .ok (.putfield 30, 3) := by decide +kernel
theorem dX9_read_5 : decode cX9_read 5 = .ok (.aload_n 0, 1) := by decide +kernel
theorem dX9_read_6 : decode cX9_read 6 = .ok (.iconst 0, 1) := by decide +kernel
theorem dX9_read_7 : decode cX9_read 7 = .ok (.putfield 33, 3) := by decide +kernel
theorem dX9_read_10 : decode cX9_read 10 = .ok (.aload_n 0, 1) := by decide +kernel
theorem dX9_read_11 : decode cX9_read 11 = .ok (.iconst 0, 1) := by decide +kernel
theorem dX9_read_12 : decode cX9_read 12 = .ok (.putfield 27, 3) := by decide +kernel
theorem dX9_read_15 : decode cX9_read 15 = .ok (.aload_n 0, 1) := by decide +kernel
theorem dX9_read_16 : decode cX9_read 16 = .ok (.iconst 0, 1) := by decide +kernel
theorem dX9_read_17 : decode cX9_read 17 = .ok (.invokevirtual 23, 3) := by decide +kernel
theorem dX9_read_20 : decode cX9_read 20 = .ok (.bipush 45, 2) := by decide +kernel
theorem dX9_read_22 : decode cX9_read 22 = .ok (.if_icmp .ne 7, 3) := by decide +kernel
theorem dX9_read_25 : decode cX9_read 25 = .ok (.iconst 1, 1) := by decide +kernel
theorem dX9_read_26 : decode cX9_read 26 = .ok (.goto 4, 3) := by decide +kernel
theorem dX9_read_29 : decode cX9_read 29 = .ok (.iconst 0, 1) := by decide +kernel
theorem dX9_read_30 : decode cX9_read 30 = .ok (.istore_n 1, 1) := by decide +kernel
theorem dX9_read_31 : decode cX9_read 31 = .ok (.aload_n 0, 1) := by decide +kernel
theorem dX9_read_32 : decode cX9_read 32 = .ok (.iload_n 1, 1) := by decide +kernel
theorem dX9_read_33 : decode cX9_read 33 = .ok (.ifCond .eq 7, 3) := by decide +kernel
theorem dX9_read_36 : decode cX9_read 36 = .ok (.iconst 1, 1) := by decide +kernel
theorem dX9_read_37 : decode cX9_read 37 = .ok (.goto 4, 3) := by decide +kernel
theorem dX9_read_40 : decode cX9_read 40 = .ok (.iconst 0, 1) := by decide +kernel
theorem dX9_read_41 : decode cX9_read 41 = .ok (.iload_n 1, 1) := by decide +kernel
theorem dX9_read_42 : decode cX9_read 42 = .ok (.invokevirtual 36, 3) := by decide +kernel
theorem dX9_read_45 : decode cX9_read 45 = .ok (.istore_n 2, 1) := by decide +kernel
theorem dX9_read_46 : decode cX9_read 46 = .ok (.iconst 0, 1) := by decide +kernel
theorem dX9_read_47 : decode cX9_read 47 = .ok (.istore_n 3, 1) := by decide +kernel
theorem dX9_read_48 : decode cX9_read 48 = .ok (.iload_n 3, 1) := by decide +kernel
theorem dX9_read_49 : decode cX9_read 49 = .ok (.bipush 40, 2) := by decide +kernel
theorem dX9_read_51 : decode cX9_read 51 = .ok (.if_icmp .ge 69, 3) := by decide +kernel
theorem dX9_read_54 : decode cX9_read 54 = .ok (.aload_n 0, 1) := by decide +kernel
theorem dX9_read_55 : decode cX9_read 55 = .ok (.getfield 27, 3) := by decide +kernel
theorem dX9_read_58 : decode cX9_read 58 = .ok (.ifCond .ne 62, 3) := by decide +kernel
theorem dX9_read_61 : decode cX9_read 61 = .ok (.iload_n 2, 1) := by decide +kernel
theorem dX9_read_62 : decode cX9_read 62 = .ok (.aload_n 0, 1) := by decide +kernel
theorem dX9_read_63 : decode cX9_read 63 = .ok (.getfield 19, 3) := by decide +kernel
theorem dX9_read_66 : decode cX9_read 66 = .ok (.if_icmp .ge 54, 3) := by decide +kernel
theorem dX9_read_69 : decode cX9_read 69 = .ok (.aload_n 0, 1) := by decide +kernel
theorem dX9_read_70 : decode cX9_read 70 = .ok (.getfield 30, 3) := by decide +kernel
theorem dX9_read_73 : decode cX9_read 73 = .ok (.iconst 1, 1) := by decide +kernel
theorem dX9_read_74 : decode cX9_read 74 = .ok (.if_icmp .ne 8, 3) := by decide +kernel
theorem dX9_read_77 : decode cX9_read 77 = .ok (.bipush 59, 2) := by decide +kernel
theorem dX9_read_79 : decode cX9_read 79 = .ok (.goto 5, 3) := by decide +kernel
theorem dX9_read_82 : decode cX9_read 82 = .ok (.bipush 44, 2) := by decide +kernel
theorem dX9_read_84 : decode cX9_read 84 = .ok (.istore 4, 2) := by decide +kernel
theorem dX9_read_86 : decode cX9_read 86 = .ok (.aload_n 0, 1) := by decide +kernel
theorem dX9_read_87 : decode cX9_read 87 = .ok (.iload_n 2, 1) := by decide +kernel
theorem dX9_read_88 : decode cX9_read 88 = .ok (.invokevirtual 23, 3) := by decide +kernel
theorem dX9_read_91 : decode cX9_read 91 = .ok (.iload 4, 2) := by decide +kernel
theorem dX9_read_93 : decode cX9_read 93 = .ok (.if_icmp .ne 15, 3) := by decide +kernel
theorem dX9_read_96 : decode cX9_read 96 = .ok (.aload_n 0, 1) := by decide +kernel
theorem dX9_read_97 : decode cX9_read 97 = .ok (.iload_n 2, 1) := by decide +kernel
theorem dX9_read_98 : decode cX9_read 98 = .ok (.iconst 1, 1) := by decide +kernel
theorem dX9_read_99 : decode cX9_read 99 = .ok (.iadd, 1) := by decide +kernel
theorem dX9_read_100 : decode cX9_read 100 = .ok (.iconst 0, 1) := by decide +kernel
theorem dX9_read_101 : decode cX9_read 101 = .ok (.invokevirtual 36, 3) := by decide +kernel
theorem dX9_read_104 : decode cX9_read 104 = .ok (.istore_n 2, 1) := by decide +kernel
theorem dX9_read_105 : decode cX9_read 105 = .ok (.goto 9, 3) := by decide +kernel
theorem dX9_read_108 : decode cX9_read 108 = .ok (.aload_n 0, 1) := by decide +kernel
theorem dX9_read_109 : decode cX9_read 109 = .ok (.iload_n 2, 1) := by decide +kernel
theorem dX9_read_110 : decode cX9_read 110 = .ok (.iconst 1, 1) := by decide +kernel
theorem dX9_read_111 : decode cX9_read 111 = .ok (.invokevirtual 40, 3) := by decide +kernel
theorem dX9_read_114 : decode cX9_read 114 = .ok (.iinc 3 1, 3) := by decide +kernel
theorem dX9_read_117 : decode cX9_read 117 = .ok (.goto (-69), 3) := by decide +kernel
theorem dX9_read_120 : decode cX9_read 120 = .ok (.return_, 1) := by decide +kernel
theorem dX9_readNumber_0 : decode cX9_readNumber 0 = .ok (.aload_n 0, 1) := by decide +kernel
theorem dX9_readNumber_1 : decode cX9_readNumber 1 = .ok (.iload_n 1, 1) := by decide +kernel
theorem dX9_readNumber_2 : decode cX9_readNumber 2 = .ok (.invokevirtual 44, 3) := by decide +kernel
theorem dX9_readNumber_5 : decode cX9_readNumber 5 = .ok (.istore_n 3, 1) := by decide +kernel
theorem dX9_readNumber_6 : decode cX9_readNumber 6 = .ok (.iload_n 1, 1) := by decide +kernel
theorem dX9_readNumber_7 : decode cX9_readNumber 7 = .ok (.iconst 1, 1) := by decide +kernel
theorem dX9_readNumber_8 : decode cX9_readNumber 8 = .ok (.iadd, 1) := by decide +kernel
theorem dX9_readNumber_9 : decode cX9_readNumber 9 = .ok (.istore 4, 2) := by decide +kernel
theorem dX9_readNumber_11 : decode cX9_readNumber 11 = .ok (.iload_n 3, 1) := by decide +kernel
theorem dX9_readNumber_12 : decode cX9_readNumber 12 = .ok (.ifCond .ge 12, 3) := by decide +kernel
theorem dX9_readNumber_15 : decode cX9_readNumber 15 = .ok (.aload_n 0, 1) := by decide +kernel
theorem dX9_readNumber_16 : decode cX9_readNumber 16 = .ok (.iload_n 1, 1) := by decide +kernel
theorem dX9_readNumber_17 : decode cX9_readNumber 17 = .ok (.iconst 1, 1) := by decide +kernel
theorem dX9_readNumber_18 : decode cX9_readNumber 18 = .ok (.invokevirtual 40, 3) := by decide +kernel
theorem dX9_readNumber_21 : decode cX9_readNumber 21 = .ok (.iload 4, 2) := by decide +kernel
theorem dX9_readNumber_23 : decode cX9_readNumber 23 = .ok (.ireturn, 1) := by decide +kernel
theorem dX9_readNumber_24 : decode cX9_readNumber 24 = .ok (.iload_n 3, 1) := by decide +kernel
theorem dX9_readNumber_25 : decode cX9_readNumber 25 = .ok (.ifCond .ne 19, 3) := by decide +kernel
theorem dX9_readNumber_28 : decode cX9_readNumber 28 = .ok (.aload_n 0, 1) := by decide +kernel
theorem dX9_readNumber_29 : decode cX9_readNumber 29 = .ok (.getfield 30, 3) := by decide +kernel
theorem dX9_readNumber_32 : decode cX9_readNumber 32 = .ok (.ifCond .le 12, 3) := by decide +kernel
theorem dX9_readNumber_35 : decode cX9_readNumber 35 = .ok (.aload_n 0, 1) := by decide +kernel
theorem dX9_readNumber_36 : decode cX9_readNumber 36 = .ok (.iload_n 1, 1) := by decide +kernel
theorem dX9_readNumber_37 : decode cX9_readNumber 37 = .ok (.iconst 2, 1) := by decide +kernel
theorem dX9_readNumber_38 : decode cX9_readNumber 38 = .ok (.invokevirtual 40, 3) := by decide +kernel
theorem dX9_readNumber_41 : decode cX9_readNumber 41 = .ok (.iload 4, 2) := by decide +kernel
theorem dX9_readNumber_43 : decode cX9_readNumber 43 = .ok (.ireturn, 1) := by decide +kernel
theorem dX9_readNumber_44 : decode cX9_readNumber 44 = .ok (.iload_n 3, 1) := by decide +kernel
theorem dX9_readNumber_45 : decode cX9_readNumber 45 = .ok (.ifCond .le 38, 3) := by decide +kernel
theorem dX9_readNumber_48 : decode cX9_readNumber 48 = .ok (.iload 4, 2) := by decide +kernel
theorem dX9_readNumber_50 : decode cX9_readNumber 50 = .ok (.iload_n 1, 1) := by decide +kernel
theorem dX9_readNumber_51 : decode cX9_readNumber 51 = .ok (.iconst 3, 1) := by decide +kernel
theorem dX9_readNumber_52 : decode cX9_readNumber 52 = .ok (.iadd, 1) := by decide +kernel
theorem dX9_readNumber_53 : decode cX9_readNumber 53 = .ok (.if_icmp .ge 30, 3) := by decide +kernel
theorem dX9_readNumber_56 : decode cX9_readNumber 56 = .ok (.aload_n 0, 1) := by decide +kernel
theorem dX9_readNumber_57 : decode cX9_readNumber 57 = .ok (.iload 4, 2) := by decide +kernel
theorem dX9_readNumber_59 : decode cX9_readNumber 59 = .ok (.invokevirtual 44, 3) := by decide +kernel
theorem dX9_readNumber_62 : decode cX9_readNumber 62 = .ok (.ifCond .lt 21, 3) := by decide +kernel
theorem dX9_readNumber_65 : decode cX9_readNumber 65 = .ok (.bipush 10, 2) := by decide +kernel
theorem dX9_readNumber_67 : decode cX9_readNumber 67 = .ok (.iload_n 3, 1) := by decide +kernel
theorem dX9_readNumber_68 : decode cX9_readNumber 68 = .ok (.imul, 1) := by decide +kernel
theorem dX9_readNumber_69 : decode cX9_readNumber 69 = .ok (.aload_n 0, 1) := by decide +kernel
theorem dX9_readNumber_70 : decode cX9_readNumber 70 = .ok (.iload 4, 2) := by decide +kernel
theorem dX9_readNumber_72 : decode cX9_readNumber 72 = .ok (.invokevirtual 44, 3) := by decide +kernel
theorem dX9_readNumber_75 : decode cX9_readNumber 75 = .ok (.iadd, 1) := by decide +kernel
theorem dX9_readNumber_76 : decode cX9_readNumber 76 = .ok (.istore_n 3, 1) := by decide +kernel
theorem dX9_readNumber_77 : decode cX9_readNumber 77 = .ok (.iinc 4 1, 3) := by decide +kernel
theorem dX9_readNumber_80 : decode cX9_readNumber 80 = .ok (.goto (-36), 3) := by decide +kernel
theorem dX9_readNumber_83 : decode cX9_readNumber 83 = .ok (.aload_n 0, 1) := by decide +kernel
theorem dX9_readNumber_84 : decode cX9_readNumber 84 = .ok (.iload_n 2, 1) := by decide +kernel
theorem dX9_readNumber_85 : decode cX9_readNumber 85 = .ok (.ifCond .eq 8, 3) := by decide +kernel
theorem dX9_readNumber_88 : decode cX9_readNumber 88 = .ok (.iload_n 3, 1) := by decide +kernel
theorem dX9_readNumber_89 : decode cX9_readNumber 89 = .ok (.ineg, 1) := by decide +kernel
theorem dX9_readNumber_90 : decode cX9_readNumber 90 = .ok (.goto 4, 3) := by decide +kernel
theorem dX9_readNumber_93 : decode cX9_readNumber 93 = .ok (.iload_n 3, 1) := by decide +kernel
theorem dX9_readNumber_94 : decode cX9_readNumber 94 = .ok (.invokevirtual 48, 3) := by decide +kernel
theorem dX9_readNumber_97 : decode cX9_readNumber 97 = .ok (.iload 4, 2) := by decide +kernel
theorem dX9_readNumber_99 : decode cX9_readNumber 99 = .ok (.ireturn, 1) := by decide +kernel
theorem dX9_setFault_0 : decode cX9_setFault 0 = .ok (.aload_n 0, 1) := by decide +kernel
theorem dX9_setFault_1 : decode cX9_setFault 1 = .ok (.iload_n 1, 1) := by decide +kernel
theorem dX9_setFault_2 : decode cX9_setFault 2 = .ok (.putfield 33, 3) := by decide +kernel
theorem dX9_setFault_5 : decode cX9_setFault 5 = .ok (.aload_n 0, 1) := by decide +kernel
theorem dX9_setFault_6 : decode cX9_setFault 6 = .ok (.iload_n 2, 1) := by decide +kernel
theorem dX9_setFault_7 : decode cX9_setFault 7 = .ok (.putfield 27, 3) := by decide +kernel
theorem dX9_setFault_10 : decode cX9_setFault 10 = .ok (.return_, 1) := by decide +kernel
theorem dX9_addTerm_0 : decode cX9_addTerm 0 = .ok (.aload_n 0, 1) := by decide +kernel
theorem dX9_addTerm_1 : decode cX9_addTerm 1 = .ok (.getfield 30, 3) := by decide +kernel
theorem dX9_addTerm_4 : decode cX9_addTerm 4 = .ok (.ifCond .lt 35, 3) := by decide +kernel
theorem dX9_addTerm_7 : decode cX9_addTerm 7 = .ok (.aload_n 0, 1) := by decide +kernel
theorem dX9_addTerm_8 : decode cX9_addTerm 8 = .ok (.getfield 30, 3) := by decide +kernel
theorem dX9_addTerm_11 : decode cX9_addTerm 11 = .ok (.aload_n 0, 1) := by decide +kernel
theorem dX9_addTerm_12 : decode cX9_addTerm 12 = .ok (.getfield 15, 3) := by decide +kernel
theorem dX9_addTerm_15 : decode cX9_addTerm 15 = .ok (.arraylength, 1) := by decide +kernel
theorem dX9_addTerm_16 : decode cX9_addTerm 16 = .ok (.if_icmp .ge 23, 3) := by decide +kernel
theorem dX9_addTerm_19 : decode cX9_addTerm 19 = .ok (.aload_n 0, 1) := by decide +kernel
theorem dX9_addTerm_20 : decode cX9_addTerm 20 = .ok (.getfield 15, 3) := by decide +kernel
theorem dX9_addTerm_23 : decode cX9_addTerm 23 = .ok (.aload_n 0, 1) := by decide +kernel
theorem dX9_addTerm_24 : decode cX9_addTerm 24 = .ok (.getfield 30, 3) := by decide +kernel
theorem dX9_addTerm_27 : decode cX9_addTerm 27 = .ok (.iload_n 1, 1) := by decide +kernel
theorem dX9_addTerm_28 : decode cX9_addTerm 28 = .ok (.iastore, 1) := by decide +kernel
theorem dX9_addTerm_29 : decode cX9_addTerm 29 = .ok (.aload_n 0, 1) := by decide +kernel
theorem dX9_addTerm_30 : decode cX9_addTerm 30 = .ok (.dup, 1) := by decide +kernel
theorem dX9_addTerm_31 : decode cX9_addTerm 31 = .ok (.getfield 30, 3) := by decide +kernel
theorem dX9_addTerm_34 : decode cX9_addTerm 34 = .ok (.iconst 1, 1) := by decide +kernel
theorem dX9_addTerm_35 : decode cX9_addTerm 35 = .ok (.iadd, 1) := by decide +kernel
theorem dX9_addTerm_36 : decode cX9_addTerm 36 = .ok (.putfield 30, 3) := by decide +kernel
theorem dX9_addTerm_39 : decode cX9_addTerm 39 = .ok (.return_, 1) := by decide +kernel
theorem dX9_chainTerms_0 : decode cX9_chainTerms 0 = .ok (.aload_n 1, 1) := by decide +kernel
theorem dX9_chainTerms_1 : decode cX9_chainTerms 1 = .ok (.invokevirtual 52, 3) := by decide +kernel
theorem dX9_chainTerms_4 : decode cX9_chainTerms 4 = .ok (.iconst 0, 1) := by decide +kernel
theorem dX9_chainTerms_5 : decode cX9_chainTerms 5 = .ok (.istore_n 2, 1) := by decide +kernel
theorem dX9_chainTerms_6 : decode cX9_chainTerms 6 = .ok (.iload_n 2, 1) := by decide +kernel
theorem dX9_chainTerms_7 : decode cX9_chainTerms 7 = .ok (.aload_n 0, 1) := by decide +kernel
theorem dX9_chainTerms_8 : decode cX9_chainTerms 8 = .ok (.getfield 30, 3) := by decide +kernel
theorem dX9_chainTerms_11 : decode cX9_chainTerms 11 = .ok (.if_icmp .ge 19, 3) := by decide +kernel
theorem dX9_chainTerms_14 : decode cX9_chainTerms 14 = .ok (.aload_n 1, 1) := by decide +kernel
theorem dX9_chainTerms_15 : decode cX9_chainTerms 15 = .ok (.aload_n 0, 1) := by decide +kernel
theorem dX9_chainTerms_16 : decode cX9_chainTerms 16 = .ok (.iload_n 2, 1) := by decide +kernel
theorem dX9_chainTerms_17 : decode cX9_chainTerms 17 = .ok (.invokevirtual 57, 3) := by decide +kernel
theorem dX9_chainTerms_20 : decode cX9_chainTerms 20 = .ok (.i2l, 1) := by decide +kernel
theorem dX9_chainTerms_21 : decode cX9_chainTerms 21 = .ok (.invokevirtual 60, 3) := by decide +kernel
theorem dX9_chainTerms_24 : decode cX9_chainTerms 24 = .ok (.iinc 2 1, 3) := by decide +kernel
theorem dX9_chainTerms_27 : decode cX9_chainTerms 27 = .ok (.goto (-21), 3) := by decide +kernel
theorem dX9_chainTerms_30 : decode cX9_chainTerms 30 = .ok (.return_, 1) := by decide +kernel
theorem dJ9_floorDiv_f86c9_0 : decode cJ9_floorDiv_f86c9 0 = .ok (.lload_n 0, 1) := by decide +kernel
theorem dJ9_floorDiv_f86c9_1 : decode cJ9_floorDiv_f86c9 1 = .ok (.lload_n 2, 1) := by decide +kernel
theorem dJ9_floorDiv_f86c9_2 : decode cJ9_floorDiv_f86c9 2 = .ok (.ldiv, 1) := by decide +kernel
theorem dJ9_floorDiv_f86c9_3 : decode cJ9_floorDiv_f86c9 3 = .ok (.lstore 4, 2) := by decide +kernel
theorem dJ9_floorDiv_f86c9_5 : decode cJ9_floorDiv_f86c9 5 = .ok (.lload_n 0, 1) := by decide +kernel
theorem dJ9_floorDiv_f86c9_6 : decode cJ9_floorDiv_f86c9 6 = .ok (.lload_n 2, 1) := by decide +kernel
theorem dJ9_floorDiv_f86c9_7 : decode cJ9_floorDiv_f86c9 7 = .ok (.lxor, 1) := by decide +kernel
theorem dJ9_floorDiv_f86c9_8 : decode cJ9_floorDiv_f86c9 8 = .ok (.lconst 0, 1) := by decide +kernel
theorem dJ9_floorDiv_f86c9_9 : decode cJ9_floorDiv_f86c9 9 = .ok (.lcmp, 1) := by decide +kernel
theorem dJ9_floorDiv_f86c9_10 : decode cJ9_floorDiv_f86c9 10 = .ok (.ifCond .ge 17, 3) := by decide +kernel
theorem dJ9_floorDiv_f86c9_13 : decode cJ9_floorDiv_f86c9 13 = .ok (.lload 4, 2) := by decide +kernel
theorem dJ9_floorDiv_f86c9_15 : decode cJ9_floorDiv_f86c9 15 = .ok (.lload_n 2, 1) := by decide +kernel
theorem dJ9_floorDiv_f86c9_16 : decode cJ9_floorDiv_f86c9 16 = .ok (.lmul, 1) := by decide +kernel
theorem dJ9_floorDiv_f86c9_17 : decode cJ9_floorDiv_f86c9 17 = .ok (.lload_n 0, 1) := by decide +kernel
theorem dJ9_floorDiv_f86c9_18 : decode cJ9_floorDiv_f86c9 18 = .ok (.lcmp, 1) := by decide +kernel
theorem dJ9_floorDiv_f86c9_19 : decode cJ9_floorDiv_f86c9 19 = .ok (.ifCond .eq 8, 3) := by decide +kernel
theorem dJ9_floorDiv_f86c9_22 : decode cJ9_floorDiv_f86c9 22 = .ok (.lload 4, 2) := by decide +kernel
theorem dJ9_floorDiv_f86c9_24 : decode cJ9_floorDiv_f86c9 24 = .ok (.lconst 1, 1) := by decide +kernel
theorem dJ9_floorDiv_f86c9_25 : decode cJ9_floorDiv_f86c9 25 = .ok (.lsub, 1) := by decide +kernel
theorem dJ9_floorDiv_f86c9_26 : decode cJ9_floorDiv_f86c9 26 = .ok (.lreturn, 1) := by decide +kernel
theorem dJ9_floorDiv_f86c9_27 : decode cJ9_floorDiv_f86c9 27 = .ok (.lload 4, 2) := by decide +kernel
theorem dJ9_floorDiv_f86c9_29 : decode cJ9_floorDiv_f86c9 29 = .ok (.lreturn, 1) := by decide +kernel
theorem dJ9_abs_067f4_0 : decode cJ9_abs_067f4 0 = .ok (.lload_n 0, 1) := by decide +kernel
theorem dJ9_abs_067f4_1 : decode cJ9_abs_067f4 1 = .ok (.lconst 0, 1) := by decide +kernel
theorem dJ9_abs_067f4_2 : decode cJ9_abs_067f4 2 = .ok (.lcmp, 1) := by decide +kernel
theorem dJ9_abs_067f4_3 : decode cJ9_abs_067f4 3 = .ok (.ifCond .ge 8, 3) := by decide +kernel
theorem dJ9_abs_067f4_6 : decode cJ9_abs_067f4 6 = .ok (.lload_n 0, 1) := by decide +kernel
theorem dJ9_abs_067f4_7 : decode cJ9_abs_067f4 7 = .ok (.lneg, 1) := by decide +kernel
theorem dJ9_abs_067f4_8 : decode cJ9_abs_067f4 8 = .ok (.goto 4, 3) := by decide +kernel
theorem dJ9_abs_067f4_11 : decode cJ9_abs_067f4 11 = .ok (.lload_n 0, 1) := by decide +kernel
theorem dJ9_abs_067f4_12 : decode cJ9_abs_067f4 12 = .ok (.lreturn, 1) := by decide +kernel
theorem dJ9_max_7cf53_0 : decode cJ9_max_7cf53 0 = .ok (.iload_n 0, 1) := by decide +kernel
theorem dJ9_max_7cf53_1 : decode cJ9_max_7cf53 1 = .ok (.iload_n 1, 1) := by decide +kernel
theorem dJ9_max_7cf53_2 : decode cJ9_max_7cf53 2 = .ok (.if_icmp .lt 7, 3) := by decide +kernel
theorem dJ9_max_7cf53_5 : decode cJ9_max_7cf53 5 = .ok (.iload_n 0, 1) := by decide +kernel
theorem dJ9_max_7cf53_6 : decode cJ9_max_7cf53 6 = .ok (.goto 4, 3) := by decide +kernel
theorem dJ9_max_7cf53_9 : decode cJ9_max_7cf53 9 = .ok (.iload_n 1, 1) := by decide +kernel
theorem dJ9_max_7cf53_10 : decode cJ9_max_7cf53 10 = .ok (.ireturn, 1) := by decide +kernel
end
section
theorem dX10_init_0 : decode cX10_init 0 = .ok (.aload_n 0, 1) := by decide +kernel
theorem dX10_init_1 : decode cX10_init 1 = .ok (.invokespecial 1, 3) := by decide +kernel
theorem dX10_init_4 : decode cX10_init 4 = .ok (.aload_n 0, 1) := by decide +kernel
theorem dX10_init_5 : decode cX10_init 5 = .ok (.new 7, 3) := by decide +kernel
theorem dX10_init_8 : decode cX10_init 8 = .ok (.dup, 1) := by decide +kernel
theorem dX10_init_9 : decode cX10_init 9 = .ok (.invokespecial 9, 3) := by decide +kernel
theorem dX10_init_12 : decode cX10_init 12 = .ok (.putfield 10, 3) := by decide +kernel
theorem dX10_init_15 : decode cX10_init 15 = .ok (.aload_n 0, 1) := by decide +kernel
theorem dX10_init_16 : decode cX10_init 16 = .ok (.new 16, 3) := by decide +kernel
theorem dX10_init_19 : decode cX10_init 19 = .ok (.dup, 1) := by decide +kernel
theorem dX10_init_20 : decode cX10_init 20 = .ok (.invokespecial 18, 3) := by decide +kernel
theorem dX10_init_23 : decode cX10_init 23 = .ok (.putfield 19, 3) := by decide +kernel
theorem dX10_init_26 : decode cX10_init 26 = .ok (.aload_n 0, 1) := by decide +kernel
theorem dX10_init_27 : decode cX10_init 27 = .ok (.new 23, 3) := by decide +kernel
theorem dX10_init_30 : decode cX10_init 30 = .ok (.dup, 1) := by decide +kernel
theorem dX10_init_31 : decode cX10_init 31 = .ok (.invokespecial 25, 3) := by decide +kernel
theorem dX10_init_34 : decode cX10_init 34 = .ok (.putfield 26, 3) := by decide +kernel
theorem dX10_init_37 : decode cX10_init 37 = .ok (.aload_n 0, 1) := by decide +kernel
theorem dX10_init_38 : decode cX10_init 38 = .ok (.new 30, 3) := by decide +kernel
theorem dX10_init_41 : decode cX10_init 41 = .ok (.dup, 1) := by decide +kernel
theorem dX10_init_42 : decode cX10_init 42 = .ok (.invokespecial 32, 3) := by decide +kernel
theorem dX10_init_45 : decode cX10_init 45 = .ok (.putfield 33, 3) := by decide +kernel
theorem dX10_init_48 : decode cX10_init 48 = .ok (.aload_n 0, 1) := by decide +kernel
theorem dX10_init_49 : decode cX10_init 49 = .ok (.new 37, 3) := by decide +kernel
theorem dX10_init_52 : decode cX10_init 52 = .ok (.dup, 1) := by decide +kernel
theorem dX10_init_53 : decode cX10_init 53 = .ok (.invokespecial 39, 3) := by decide +kernel
theorem dX10_init_56 : decode cX10_init 56 = .ok (.putfield 40, 3) := by decide +kernel
theorem dX10_init_59 : decode cX10_init 59 = .ok (.aload_n 0, 1) := by decide +kernel
theorem dX10_init_60 : decode cX10_init 60 = .ok (.new 44, 3) := by decide +kernel
theorem dX10_init_63 : decode cX10_init 63 = .ok (.dup, 1) := by decide +kernel
theorem dX10_init_64 : decode cX10_init 64 = .ok (.invokespecial 46, 3) := by decide +kernel
theorem dX10_init_67 : decode cX10_init 67 = .ok (.putfield 47, 3) := by decide +kernel
theorem dX10_init_70 : decode cX10_init 70 = .ok (.aload_n 0, 1) := by decide +kernel
theorem dX10_init_71 : decode cX10_init 71 = .ok (.new 51, 3) := by decide +kernel
theorem dX10_init_74 : decode cX10_init 74 = .ok (.dup, 1) := by decide +kernel
theorem dX10_init_75 : decode cX10_init 75 = .ok (.invokespecial 53, 3) := by decide +kernel
theorem dX10_init_78 : decode cX10_init 78 = .ok (.putfield 54, 3) := by decide +kernel
theorem dX10_init_81 : decode cX10_init 81 = .ok (.aload_n 0, 1) := by decide +kernel
theorem dX10_init_82 : decode cX10_init 82 = .ok (.getfield 26, 3) := by decide +kernel
theorem dX10_init_85 : decode cX10_init 85 = .ok (.aload_n 0, 1) := by decide +kernel
theorem dX10_init_86 : decode cX10_init 86 = .ok (.getfield 10, 3) := by decide +kernel
theorem dX10_init_89 : decode cX10_init 89 = .ok (.getfield 58, 3) := by decide +kernel
theorem dX10_init_92 : decode cX10_init 92 = .ok (.invokevirtual 62, 3) := by decide +kernel
theorem dX10_init_95 : decode cX10_init 95 = .ok (.return_, 1) := by decide +kernel
theorem dX10_surd_0 : decode cX10_surd 0 = .ok (.iload_n 1, 1) := by decide +kernel
theorem dX10_surd_1 : decode cX10_surd 1 = .ok (.bipush (-99), 2) := by decide +kernel
theorem dX10_surd_3 : decode cX10_surd 3 = .ok (.bipush 99, 2) := by decide +kernel
theorem dX10_surd_5 : decode cX10_surd 5 = .ok (.invokestatic 66, 3) := by decide +kernel
theorem dX10_surd_8 : decode cX10_surd 8 = .ok (.ifCond .eq 29, 3) := by decide +kernel
theorem dX10_surd_11 : decode cX10_surd 11 = .ok (.iload_n 2, 1) := by decide +kernel
theorem dX10_surd_12 : decode cX10_surd 12 = .ok (.iconst 2, 1) := by decide +kernel
theorem dX10_surd_13 : decode cX10_surd 13 = .ok (.sipush 999, 3) := by decide +kernel
theorem dX10_surd_16 : decode cX10_surd 16 = .ok (.invokestatic 66, 3) := by decide +kernel
theorem dX10_surd_19 : decode cX10_surd 19 = .ok (.ifCond .eq 18, 3) := by decide +kernel
theorem dX10_surd_22 : decode cX10_surd 22 = .ok (.iload_n 3, 1) := by decide +kernel
theorem dX10_surd_23 : decode cX10_surd 23 = .ok (.bipush (-99), 2) := by decide +kernel
theorem dX10_surd_25 : decode cX10_surd 25 = .ok (.bipush 99, 2) := by decide +kernel
theorem dX10_surd_27 : decode cX10_surd 27 = .ok (.invokestatic 66, 3) := by decide +kernel
theorem dX10_surd_30 : decode cX10_surd 30 = .ok (.ifCond .eq 7, 3) := by decide +kernel
theorem dX10_surd_33 : decode cX10_surd 33 = .ok (.iload_n 3, 1) := by decide +kernel
theorem dX10_surd_34 : decode cX10_surd 34 = .ok (.ifCond .ne 6, 3) := by decide +kernel
theorem dX10_surd_37 : decode cX10_surd 37 = .ok (.ldc 70, 2) := by decide +kernel
theorem dX10_surd_39 : decode cX10_surd 39 = .ok (.ireturn, 1) := by decide +kernel
theorem dX10_surd_40 : decode cX10_surd 40 = .ok (.iload_n 2, 1) := by decide +kernel
theorem dX10_surd_41 : decode cX10_surd 41 = .ok (.invokestatic 71, 3) := by decide +kernel
theorem dX10_surd_44 : decode cX10_surd 44 = .ok (.ifCond .eq 6, 3) := by decide +kernel
theorem dX10_surd_47 : decode cX10_surd 47 = .ok (.ldc 75, 2) := by decide +kernel
theorem dX10_surd_49 : decode cX10_surd 49 = .ok (.ireturn, 1) := by decide +kernel
theorem dX10_surd_50 : decode cX10_surd 50 = .ok (.aload_n 0, 1) := by decide +kernel
theorem dX10_surd_51 : decode cX10_surd 51 = .ok (.getfield 19, 3) := by decide +kernel
theorem dX10_surd_54 : decode cX10_surd 54 = .ok (.aload_n 0, 1) := by decide +kernel
theorem dX10_surd_55 : decode cX10_surd 55 = .ok (.getfield 10, 3) := by decide +kernel
theorem dX10_surd_58 : decode cX10_surd 58 = .ok (.invokevirtual 76, 3) := by decide +kernel
theorem dX10_surd_61 : decode cX10_surd 61 = .ok (.aload_n 0, 1) := by decide +kernel
theorem dX10_surd_62 : decode cX10_surd 62 = .ok (.getfield 10, 3) := by decide +kernel
theorem dX10_surd_65 : decode cX10_surd 65 = .ok (.getfield 58, 3) := by decide +kernel
theorem dX10_surd_68 : decode cX10_surd 68 = .ok (.iload_n 1, 1) := by decide +kernel
theorem dX10_surd_69 : decode cX10_surd 69 = .ok (.iload_n 2, 1) := by decide +kernel
theorem dX10_surd_70 : decode cX10_surd 70 = .ok (.iload_n 3, 1) := by decide +kernel
theorem dX10_surd_71 : decode cX10_surd 71 = .ok (.invokevirtual 80, 3) := by decide +kernel
theorem dX10_surd_74 : decode cX10_surd 74 = .ok (.aload_n 0, 1) := by decide +kernel
theorem dX10_surd_75 : decode cX10_surd 75 = .ok (.getfield 10, 3) := by decide +kernel
theorem dX10_surd_78 : decode cX10_surd 78 = .ok (.getfield 86, 3) := by decide +kernel
theorem dX10_surd_81 : decode cX10_surd 81 = .ok (.aload_n 0, 1) := by decide +kernel
theorem dX10_surd_82 : decode cX10_surd 82 = .ok (.getfield 10, 3) := by decide +kernel
theorem dX10_surd_85 : decode cX10_surd 85 = .ok (.getfield 58, 3) := by decide +kernel
theorem dX10_surd_88 : decode cX10_surd 88 = .ok (.invokevirtual 90, 3) := by decide +kernel
theorem dX10_surd_91 : decode cX10_surd 91 = .ok (.aload_n 0, 1) := by decide +kernel
theorem dX10_surd_92 : decode cX10_surd 92 = .ok (.getfield 26, 3) := by decide +kernel
theorem dX10_surd_95 : decode cX10_surd 95 = .ok (.aload_n 0, 1) := by decide +kernel
theorem dX10_surd_96 : decode cX10_surd 96 = .ok (.getfield 10, 3) := by decide +kernel
theorem dX10_surd_99 : decode cX10_surd 99 = .ok (.getfield 58, 3) := by decide +kernel
theorem dX10_surd_102 : decode cX10_surd 102 = .ok (.invokevirtual 62, 3) := by decide +kernel
theorem dX10_surd_105 : decode cX10_surd 105 = .ok (.iconst 0, 1) := by decide +kernel
theorem dX10_surd_106 : decode cX10_surd 106 = .ok (.ireturn, 1) := by decide +kernel
theorem dX10_partOf_0 : decode cX10_partOf 0 = .ok (.iload_n 1, 1) := by decide +kernel
theorem dX10_partOf_1 : decode cX10_partOf 1 = .ok (.tableswitch 72 0 2 #[27, 42, 57], 27) := by decide +kernel
theorem dX10_partOf_28 : decode cX10_partOf 28 = .ok (.aload_n 0, 1) := by decide +kernel
theorem dX10_partOf_29 : decode cX10_partOf 29 = .ok (.getfield 10, 3) := by decide +kernel
theorem dX10_partOf_32 : decode cX10_partOf 32 = .ok (.getfield 58, 3) := by decide +kernel
theorem dX10_partOf_35 : decode cX10_partOf 35 = .ok (.getfield 95, 3) := by decide +kernel
theorem dX10_partOf_38 : decode cX10_partOf 38 = .ok (.sipush 1000, 3) := by decide +kernel
theorem dX10_partOf_41 : decode cX10_partOf 41 = .ok (.iadd, 1) := by decide +kernel
theorem dX10_partOf_42 : decode cX10_partOf 42 = .ok (.ireturn, 1) := by decide +kernel
theorem dX10_partOf_43 : decode cX10_partOf 43 = .ok (.aload_n 0, 1) := by decide +kernel
theorem dX10_partOf_44 : decode cX10_partOf 44 = .ok (.getfield 10, 3) := by decide +kernel
theorem dX10_partOf_47 : decode cX10_partOf 47 = .ok (.getfield 58, 3) := by decide +kernel
theorem dX10_partOf_50 : decode cX10_partOf 50 = .ok (.getfield 99, 3) := by decide +kernel
theorem dX10_partOf_53 : decode cX10_partOf 53 = .ok (.sipush 1000, 3) := by decide +kernel
theorem dX10_partOf_56 : decode cX10_partOf 56 = .ok (.iadd, 1) := by decide +kernel
theorem dX10_partOf_57 : decode cX10_partOf 57 = .ok (.ireturn, 1) := by decide +kernel
theorem dX10_partOf_58 : decode cX10_partOf 58 = .ok (.aload_n 0, 1) := by decide +kernel
theorem dX10_partOf_59 : decode cX10_partOf 59 = .ok (.getfield 10, 3) := by decide +kernel
theorem dX10_partOf_62 : decode cX10_partOf 62 = .ok (.getfield 58, 3) := by decide +kernel
theorem dX10_partOf_65 : decode cX10_partOf 65 = .ok (.getfield 102, 3) := by decide +kernel
theorem dX10_partOf_68 : decode cX10_partOf 68 = .ok (.sipush 1000, 3) := by decide +kernel
theorem dX10_partOf_71 : decode cX10_partOf 71 = .ok (.iadd, 1) := by decide +kernel
theorem dX10_partOf_72 : decode cX10_partOf 72 = .ok (.ireturn, 1) := by decide +kernel
theorem dX10_partOf_73 : decode cX10_partOf 73 = .ok (.ldc 70, 2) := by decide +kernel
theorem dX10_partOf_75 : decode cX10_partOf 75 = .ok (.ireturn, 1) := by decide +kernel
theorem dX10_term_0 : decode cX10_term 0 = .ok (.iload_n 1, 1) := by decide +kernel
theorem dX10_term_1 : decode cX10_term 1 = .ok (.iconst 0, 1) := by decide +kernel
theorem dX10_term_2 : decode cX10_term 2 = .ok (.sipush 399, 3) := by decide +kernel
theorem dX10_term_5 : decode cX10_term 5 = .ok (.invokestatic 66, 3) := by decide +kernel
theorem dX10_term_8 : decode cX10_term 8 = .ok (.ifCond .ne 6, 3) := by decide +kernel
theorem dX10_term_11 : decode cX10_term 11 = .ok (.ldc 70, 2) := by decide +kernel
theorem dX10_term_13 : decode cX10_term 13 = .ok (.ireturn, 1) := by decide +kernel
theorem dX10_term_14 : decode cX10_term 14 = .ok (.aload_n 0, 1) := by decide +kernel
theorem dX10_term_15 : decode cX10_term 15 = .ok (.getfield 26, 3) := by decide +kernel
theorem dX10_term_18 : decode cX10_term 18 = .ok (.iload_n 1, 1) := by decide +kernel
theorem dX10_term_19 : decode cX10_term 19 = .ok (.invokevirtual 105, 3) := by decide +kernel
theorem dX10_term_22 : decode cX10_term 22 = .ok (.sipush 1000, 3) := by decide +kernel
theorem dX10_term_25 : decode cX10_term 25 = .ok (.iadd, 1) := by decide +kernel
theorem dX10_term_26 : decode cX10_term 26 = .ok (.ireturn, 1) := by decide +kernel
theorem dX10_again_0 : decode cX10_again 0 = .ok (.iload_n 1, 1) := by decide +kernel
theorem dX10_again_1 : decode cX10_again 1 = .ok (.iconst 0, 1) := by decide +kernel
theorem dX10_again_2 : decode cX10_again 2 = .ok (.iconst 4, 1) := by decide +kernel
theorem dX10_again_3 : decode cX10_again 3 = .ok (.invokestatic 66, 3) := by decide +kernel
theorem dX10_again_6 : decode cX10_again 6 = .ok (.ifCond .ne 6, 3) := by decide +kernel
theorem dX10_again_9 : decode cX10_again 9 = .ok (.ldc 70, 2) := by decide +kernel
theorem dX10_again_11 : decode cX10_again 11 = .ok (.ireturn, 1) := by decide +kernel
theorem dX10_again_12 : decode cX10_again 12 = .ok (.aload_n 0, 1) := by decide +kernel
theorem dX10_again_13 : decode cX10_again 13 = .ok (.getfield 26, 3) := by decide +kernel
theorem dX10_again_16 : decode cX10_again 16 = .ok (.invokevirtual 109, 3) := by decide +kernel
theorem dX10_again_19 : decode cX10_again 19 = .ok (.ifCond .ne 6, 3) := by decide +kernel
theorem dX10_again_22 : decode cX10_again 22 = .ok (.ldc 113, 2) := by decide +kernel
theorem dX10_again_24 : decode cX10_again 24 = .ok (.ireturn, 1) := by decide +kernel
theorem dX10_again_25 : decode cX10_again 25 = .ok (.iload_n 1, 1) := by decide +kernel
theorem dX10_again_26 : decode cX10_again 26 = .ok (.tableswitch 62 0 3 #[30, 38, 46, 54], 30) := by decide +kernel
theorem dX10_again_56 : decode cX10_again 56 = .ok (.aload_n 0, 1) := by decide +kernel
theorem dX10_again_57 : decode cX10_again 57 = .ok (.getfield 26, 3) := by decide +kernel
theorem dX10_again_60 : decode cX10_again 60 = .ok (.getfield 114, 3) := by decide +kernel
theorem dX10_again_63 : decode cX10_again 63 = .ok (.ireturn, 1) := by decide +kernel
theorem dX10_again_64 : decode cX10_again 64 = .ok (.aload_n 0, 1) := by decide +kernel
theorem dX10_again_65 : decode cX10_again 65 = .ok (.getfield 26, 3) := by decide +kernel
theorem dX10_again_68 : decode cX10_again 68 = .ok (.getfield 117, 3) := by decide +kernel
theorem dX10_again_71 : decode cX10_again 71 = .ok (.ireturn, 1) := by decide +kernel
theorem dX10_again_72 : decode cX10_again 72 = .ok (.aload_n 0, 1) := by decide +kernel
theorem dX10_again_73 : decode cX10_again 73 = .ok (.getfield 26, 3) := by decide +kernel
theorem dX10_again_76 : decode cX10_again 76 = .ok (.invokevirtual 120, 3) := by decide +kernel
theorem dX10_again_79 : decode cX10_again 79 = .ok (.ireturn, 1) := by decide +kernel
theorem dX10_again_80 : decode cX10_again 80 = .ok (.aload_n 0, 1) := by decide +kernel
theorem dX10_again_81 : decode cX10_again 81 = .ok (.getfield 26, 3) := by decide +kernel
theorem dX10_again_84 : decode cX10_again 84 = .ok (.invokevirtual 124, 3) := by decide +kernel
theorem dX10_again_87 : decode cX10_again 87 = .ok (.ireturn, 1) := by decide +kernel
theorem dX10_again_88 : decode cX10_again 88 = .ok (.aload_n 0, 1) := by decide +kernel
theorem dX10_again_89 : decode cX10_again 89 = .ok (.getfield 26, 3) := by decide +kernel
theorem dX10_again_92 : decode cX10_again 92 = .ok (.invokevirtual 127, 3) := by decide +kernel
theorem dX10_again_95 : decode cX10_again 95 = .ok (.invokestatic 130, 3) := by decide +kernel
theorem dX10_again_98 : decode cX10_again 98 = .ok (.ireturn, 1) := by decide +kernel
theorem dX10_convergent_0 : decode cX10_convergent 0 = .ok (.iload_n 1, 1) := by decide +kernel
theorem dX10_convergent_1 : decode cX10_convergent 1 = .ok (.iconst 0, 1) := by decide +kernel
theorem dX10_convergent_2 : decode cX10_convergent 2 = .ok (.sipush 399, 3) := by decide +kernel
theorem dX10_convergent_5 : decode cX10_convergent 5 = .ok (.invokestatic 66, 3) := by decide +kernel
theorem dX10_convergent_8 : decode cX10_convergent 8 = .ok (.ifCond .eq 12, 3) := by decide +kernel
theorem dX10_convergent_11 : decode cX10_convergent 11 = .ok (.iload_n 2, 1) := by decide +kernel
theorem dX10_convergent_12 : decode cX10_convergent 12 = .ok (.iconst 0, 1) := by decide +kernel
theorem dX10_convergent_13 : decode cX10_convergent 13 = .ok (.iconst 1, 1) := by decide +kernel
theorem dX10_convergent_14 : decode cX10_convergent 14 = .ok (.invokestatic 66, 3) := by decide +kernel
theorem dX10_convergent_17 : decode cX10_convergent 17 = .ok (.ifCond .ne 7, 3) := by decide +kernel
theorem dX10_convergent_20 : decode cX10_convergent 20 = .ok (.ldc2_w 134, 3) := by decide +kernel
theorem dX10_convergent_23 : decode cX10_convergent 23 = .ok (.lreturn, 1) := by decide +kernel
theorem dX10_convergent_24 : decode cX10_convergent 24 = .ok (.iload_n 1, 1) := by decide +kernel
theorem dX10_convergent_25 : decode cX10_convergent 25 = .ok (.aload_n 0, 1) := by decide +kernel
theorem dX10_convergent_26 : decode cX10_convergent 26 = .ok (.getfield 26, 3) := by decide +kernel
theorem dX10_convergent_29 : decode cX10_convergent 29 = .ok (.getfield 136, 3) := by decide +kernel
theorem dX10_convergent_32 : decode cX10_convergent 32 = .ok (.if_icmp .lt 7, 3) := by decide +kernel
theorem dX10_convergent_35 : decode cX10_convergent 35 = .ok (.ldc2_w 139, 3) := by decide +kernel
theorem dX10_convergent_38 : decode cX10_convergent 38 = .ok (.lreturn, 1) := by decide +kernel
theorem dX10_convergent_39 : decode cX10_convergent 39 = .ok (.iload_n 2, 1) := by decide +kernel
theorem dX10_convergent_40 : decode cX10_convergent 40 = .ok (.ifCond .ne 18, 3) := by decide +kernel
theorem dX10_convergent_43 : decode cX10_convergent 43 = .ok (.aload_n 0, 1) := by decide +kernel
theorem dX10_convergent_44 : decode cX10_convergent 44 = .ok (.getfield 26, 3) := by decide +kernel
theorem dX10_convergent_47 : decode cX10_convergent 47 = .ok (.iload_n 1, 1) := by decide +kernel
theorem dX10_convergent_48 : decode cX10_convergent 48 = .ok (.invokevirtual 141, 3) := by decide +kernel
theorem dX10_convergent_51 : decode cX10_convergent 51 = .ok (.ldc2_w 145, 3) := by decide +kernel
theorem dX10_convergent_54 : decode cX10_convergent 54 = .ok (.ladd, 1) := by decide +kernel
theorem dX10_convergent_55 : decode cX10_convergent 55 = .ok (.goto 11, 3) := by decide +kernel
theorem dX10_convergent_58 : decode cX10_convergent 58 = .ok (.aload_n 0, 1) := by decide +kernel
theorem dX10_convergent_59 : decode cX10_convergent 59 = .ok (.getfield 26, 3) := by decide +kernel
theorem dX10_convergent_62 : decode cX10_convergent 62 = .ok (.iload_n 1, 1) := by decide +kernel
theorem dX10_convergent_63 : decode cX10_convergent 63 = .ok (.invokevirtual 147, 3) := by decide +kernel
theorem dX10_convergent_66 : decode cX10_convergent 66 = .ok (.lreturn, 1) := by decide +kernel
theorem dX10_between_0 : decode cX10_between 0 = .ok (.iload_n 1, 1) := by decide +kernel
theorem dX10_between_1 : decode cX10_between 1 = .ok (.iconst 2, 1) := by decide +kernel
theorem dX10_between_2 : decode cX10_between 2 = .ok (.sipush 399, 3) := by decide +kernel
theorem dX10_between_5 : decode cX10_between 5 = .ok (.invokestatic 66, 3) := by decide +kernel
theorem dX10_between_8 : decode cX10_between 8 = .ok (.ifCond .eq 30, 3) := by decide +kernel
theorem dX10_between_11 : decode cX10_between 11 = .ok (.iload_n 3, 1) := by decide +kernel
theorem dX10_between_12 : decode cX10_between 12 = .ok (.iconst 0, 1) := by decide +kernel
theorem dX10_between_13 : decode cX10_between 13 = .ok (.iconst 1, 1) := by decide +kernel
theorem dX10_between_14 : decode cX10_between 14 = .ok (.invokestatic 66, 3) := by decide +kernel
theorem dX10_between_17 : decode cX10_between 17 = .ok (.ifCond .eq 21, 3) := by decide +kernel
theorem dX10_between_20 : decode cX10_between 20 = .ok (.iload_n 2, 1) := by decide +kernel
theorem dX10_between_21 : decode cX10_between 21 = .ok (.iconst 1, 1) := by decide +kernel
theorem dX10_between_22 : decode cX10_between 22 = .ok (.aload_n 0, 1) := by decide +kernel
theorem dX10_between_23 : decode cX10_between 23 = .ok (.getfield 26, 3) := by decide +kernel
theorem dX10_between_26 : decode cX10_between 26 = .ok (.iload_n 1, 1) := by decide +kernel
theorem dX10_between_27 : decode cX10_between 27 = .ok (.invokevirtual 105, 3) := by decide +kernel
theorem dX10_between_30 : decode cX10_between 30 = .ok (.iconst 1, 1) := by decide +kernel
theorem dX10_between_31 : decode cX10_between 31 = .ok (.isub, 1) := by decide +kernel
theorem dX10_between_32 : decode cX10_between 32 = .ok (.invokestatic 66, 3) := by decide +kernel
theorem dX10_between_35 : decode cX10_between 35 = .ok (.ifCond .ne 7, 3) := by decide +kernel
theorem dX10_between_38 : decode cX10_between 38 = .ok (.ldc2_w 134, 3) := by decide +kernel
theorem dX10_between_41 : decode cX10_between 41 = .ok (.lreturn, 1) := by decide +kernel
theorem dX10_between_42 : decode cX10_between 42 = .ok (.iload_n 1, 1) := by decide +kernel
theorem dX10_between_43 : decode cX10_between 43 = .ok (.aload_n 0, 1) := by decide +kernel
theorem dX10_between_44 : decode cX10_between 44 = .ok (.getfield 26, 3) := by decide +kernel
theorem dX10_between_47 : decode cX10_between 47 = .ok (.getfield 136, 3) := by decide +kernel
theorem dX10_between_50 : decode cX10_between 50 = .ok (.if_icmp .lt 7, 3) := by decide +kernel
theorem dX10_between_53 : decode cX10_between 53 = .ok (.ldc2_w 139, 3) := by decide +kernel
theorem dX10_between_56 : decode cX10_between 56 = .ok (.lreturn, 1) := by decide +kernel
theorem dX10_between_57 : decode cX10_between 57 = .ok (.iload_n 3, 1) := by decide +kernel
theorem dX10_between_58 : decode cX10_between 58 = .ok (.ifCond .ne 32, 3) := by decide +kernel
theorem dX10_between_61 : decode cX10_between 61 = .ok (.iload_n 2, 1) := by decide +kernel
theorem dX10_between_62 : decode cX10_between 62 = .ok (.i2l, 1) := by decide +kernel
theorem dX10_between_63 : decode cX10_between 63 = .ok (.aload_n 0, 1) := by decide +kernel
theorem dX10_between_64 : decode cX10_between 64 = .ok (.getfield 26, 3) := by decide +kernel
theorem dX10_between_67 : decode cX10_between 67 = .ok (.iload_n 1, 1) := by decide +kernel
theorem dX10_between_68 : decode cX10_between 68 = .ok (.iconst 1, 1) := by decide +kernel
theorem dX10_between_69 : decode cX10_between 69 = .ok (.isub, 1) := by decide +kernel
theorem dX10_between_70 : decode cX10_between 70 = .ok (.invokevirtual 141, 3) := by decide +kernel
theorem dX10_between_73 : decode cX10_between 73 = .ok (.lmul, 1) := by decide +kernel
theorem dX10_between_74 : decode cX10_between 74 = .ok (.aload_n 0, 1) := by decide +kernel
theorem dX10_between_75 : decode cX10_between 75 = .ok (.getfield 26, 3) := by decide +kernel
theorem dX10_between_78 : decode cX10_between 78 = .ok (.iload_n 1, 1) := by decide +kernel
theorem dX10_between_79 : decode cX10_between 79 = .ok (.iconst 2, 1) := by decide +kernel
theorem dX10_between_80 : decode cX10_between 80 = .ok (.isub, 1) := by decide +kernel
theorem dX10_between_81 : decode cX10_between 81 = .ok (.invokevirtual 141, 3) := by decide +kernel
theorem dX10_between_84 : decode cX10_between 84 = .ok (.ladd, 1) := by decide +kernel
theorem dX10_between_85 : decode cX10_between 85 = .ok (.ldc2_w 145, 3) := by decide +kernel
theorem dX10_between_88 : decode cX10_between 88 = .ok (.ladd, 1) := by decide +kernel
theorem dX10_between_89 : decode cX10_between 89 = .ok (.lreturn, 1) := by decide +kernel
theorem dX10_between_90 : decode cX10_between 90 = .ok (.iload_n 2, 1) := by decide +kernel
theorem dX10_between_91 : decode cX10_between 91 = .ok (.i2l, 1) := by decide +kernel
theorem dX10_between_92 : decode cX10_between 92 = .ok (.aload_n 0, 1) := by decide +kernel
theorem dX10_between_93 : decode cX10_between 93 = .ok (.getfield 26, 3) := by decide +kernel
theorem dX10_between_96 : decode cX10_between 96 = .ok (.iload_n 1, 1) := by decide +kernel
theorem dX10_between_97 : decode cX10_between 97 = .ok (.iconst 1, 1) := by decide +kernel
theorem dX10_between_98 : decode cX10_between 98 = .ok (.isub, 1) := by decide +kernel
theorem dX10_between_99 : decode cX10_between 99 = .ok (.invokevirtual 147, 3) := by decide +kernel
theorem dX10_between_102 : decode cX10_between 102 = .ok (.lmul, 1) := by decide +kernel
theorem dX10_between_103 : decode cX10_between 103 = .ok (.aload_n 0, 1) := by decide +kernel
theorem dX10_between_104 : decode cX10_between 104 = .ok (.getfield 26, 3) := by decide +kernel
theorem dX10_between_107 : decode cX10_between 107 = .ok (.iload_n 1, 1) := by decide +kernel
theorem dX10_between_108 : decode cX10_between 108 = .ok (.iconst 2, 1) := by decide +kernel
theorem dX10_between_109 : decode cX10_between 109 = .ok (.isub, 1) := by decide +kernel
theorem dX10_between_110 : decode cX10_between 110 = .ok (.invokevirtual 147, 3) := by decide +kernel
theorem dX10_between_113 : decode cX10_between 113 = .ok (.ladd, 1) := by decide +kernel
theorem dX10_between_114 : decode cX10_between 114 = .ok (.lreturn, 1) := by decide +kernel
theorem dX10_nearest_0 : decode cX10_nearest 0 = .ok (.iload_n 1, 1) := by decide +kernel
theorem dX10_nearest_1 : decode cX10_nearest 1 = .ok (.iconst 1, 1) := by decide +kernel
theorem dX10_nearest_2 : decode cX10_nearest 2 = .ok (.sipush 200, 3) := by decide +kernel
theorem dX10_nearest_5 : decode cX10_nearest 5 = .ok (.invokestatic 66, 3) := by decide +kernel
theorem dX10_nearest_8 : decode cX10_nearest 8 = .ok (.ifCond .eq 12, 3) := by decide +kernel
theorem dX10_nearest_11 : decode cX10_nearest 11 = .ok (.iload_n 2, 1) := by decide +kernel
theorem dX10_nearest_12 : decode cX10_nearest 12 = .ok (.iconst 0, 1) := by decide +kernel
theorem dX10_nearest_13 : decode cX10_nearest 13 = .ok (.iconst 1, 1) := by decide +kernel
theorem dX10_nearest_14 : decode cX10_nearest 14 = .ok (.invokestatic 66, 3) := by decide +kernel
theorem dX10_nearest_17 : decode cX10_nearest 17 = .ok (.ifCond .ne 6, 3) := by decide +kernel
theorem dX10_nearest_20 : decode cX10_nearest 20 = .ok (.ldc 70, 2) := by decide +kernel
theorem dX10_nearest_22 : decode cX10_nearest 22 = .ok (.ireturn, 1) := by decide +kernel
theorem dX10_nearest_23 : decode cX10_nearest 23 = .ok (.aload_n 0, 1) := by decide +kernel
theorem dX10_nearest_24 : decode cX10_nearest 24 = .ok (.getfield 33, 3) := by decide +kernel
theorem dX10_nearest_27 : decode cX10_nearest 27 = .ok (.aload_n 0, 1) := by decide +kernel
theorem dX10_nearest_28 : decode cX10_nearest 28 = .ok (.getfield 10, 3) := by decide +kernel
theorem dX10_nearest_31 : decode cX10_nearest 31 = .ok (.getfield 58, 3) := by decide +kernel
theorem dX10_nearest_34 : decode cX10_nearest 34 = .ok (.aload_n 0, 1) := by decide +kernel
theorem dX10_nearest_35 : decode cX10_nearest 35 = .ok (.getfield 26, 3) := by decide +kernel
theorem dX10_nearest_38 : decode cX10_nearest 38 = .ok (.iconst 0, 1) := by decide +kernel
theorem dX10_nearest_39 : decode cX10_nearest 39 = .ok (.invokevirtual 105, 3) := by decide +kernel
theorem dX10_nearest_42 : decode cX10_nearest 42 = .ok (.iload_n 1, 1) := by decide +kernel
theorem dX10_nearest_43 : decode cX10_nearest 43 = .ok (.invokevirtual 150, 3) := by decide +kernel
theorem dX10_nearest_46 : decode cX10_nearest 46 = .ok (.aload_n 0, 1) := by decide +kernel
theorem dX10_nearest_47 : decode cX10_nearest 47 = .ok (.aload_n 0, 1) := by decide +kernel
theorem dX10_nearest_48 : decode cX10_nearest 48 = .ok (.getfield 33, 3) := by decide +kernel
theorem dX10_nearest_51 : decode cX10_nearest 51 = .ok (.aload_n 0, 1) := by decide +kernel
theorem dX10_nearest_52 : decode cX10_nearest 52 = .ok (.getfield 10, 3) := by decide +kernel
theorem dX10_nearest_55 : decode cX10_nearest 55 = .ok (.getfield 58, 3) := by decide +kernel
theorem dX10_nearest_58 : decode cX10_nearest 58 = .ok (.invokevirtual 154, 3) := by decide +kernel
theorem dX10_nearest_61 : decode cX10_nearest 61 = .ok (.iload_n 2, 1) := by decide +kernel
theorem dX10_nearest_62 : decode cX10_nearest 62 = .ok (.invokevirtual 158, 3) := by decide +kernel
theorem dX10_nearest_65 : decode cX10_nearest 65 = .ok (.ireturn, 1) := by decide +kernel
theorem dX10_beside_0 : decode cX10_beside 0 = .ok (.iload_n 1, 1) := by decide +kernel
theorem dX10_beside_1 : decode cX10_beside 1 = .ok (.iconst 1, 1) := by decide +kernel
theorem dX10_beside_2 : decode cX10_beside 2 = .ok (.sipush 200, 3) := by decide +kernel
theorem dX10_beside_5 : decode cX10_beside 5 = .ok (.invokestatic 66, 3) := by decide +kernel
theorem dX10_beside_8 : decode cX10_beside 8 = .ok (.ifCond .eq 21, 3) := by decide +kernel
theorem dX10_beside_11 : decode cX10_beside 11 = .ok (.iload_n 2, 1) := by decide +kernel
theorem dX10_beside_12 : decode cX10_beside 12 = .ok (.iconst 0, 1) := by decide +kernel
theorem dX10_beside_13 : decode cX10_beside 13 = .ok (.iconst 1, 1) := by decide +kernel
theorem dX10_beside_14 : decode cX10_beside 14 = .ok (.invokestatic 66, 3) := by decide +kernel
theorem dX10_beside_17 : decode cX10_beside 17 = .ok (.ifCond .eq 12, 3) := by decide +kernel
theorem dX10_beside_20 : decode cX10_beside 20 = .ok (.iload_n 3, 1) := by decide +kernel
theorem dX10_beside_21 : decode cX10_beside 21 = .ok (.iconst 0, 1) := by decide +kernel
theorem dX10_beside_22 : decode cX10_beside 22 = .ok (.iconst 1, 1) := by decide +kernel
theorem dX10_beside_23 : decode cX10_beside 23 = .ok (.invokestatic 66, 3) := by decide +kernel
theorem dX10_beside_26 : decode cX10_beside 26 = .ok (.ifCond .ne 6, 3) := by decide +kernel
theorem dX10_beside_29 : decode cX10_beside 29 = .ok (.ldc 70, 2) := by decide +kernel
theorem dX10_beside_31 : decode cX10_beside 31 = .ok (.ireturn, 1) := by decide +kernel
theorem dX10_beside_32 : decode cX10_beside 32 = .ok (.aload_n 0, 1) := by decide +kernel
theorem dX10_beside_33 : decode cX10_beside 33 = .ok (.getfield 33, 3) := by decide +kernel
theorem dX10_beside_36 : decode cX10_beside 36 = .ok (.aload_n 0, 1) := by decide +kernel
theorem dX10_beside_37 : decode cX10_beside 37 = .ok (.getfield 10, 3) := by decide +kernel
theorem dX10_beside_40 : decode cX10_beside 40 = .ok (.getfield 58, 3) := by decide +kernel
theorem dX10_beside_43 : decode cX10_beside 43 = .ok (.aload_n 0, 1) := by decide +kernel
theorem dX10_beside_44 : decode cX10_beside 44 = .ok (.getfield 26, 3) := by decide +kernel
theorem dX10_beside_47 : decode cX10_beside 47 = .ok (.iconst 0, 1) := by decide +kernel
theorem dX10_beside_48 : decode cX10_beside 48 = .ok (.invokevirtual 105, 3) := by decide +kernel
theorem dX10_beside_51 : decode cX10_beside 51 = .ok (.iload_n 1, 1) := by decide +kernel
theorem dX10_beside_52 : decode cX10_beside 52 = .ok (.invokevirtual 150, 3) := by decide +kernel
theorem dX10_beside_55 : decode cX10_beside 55 = .ok (.aload_n 0, 1) := by decide +kernel
theorem dX10_beside_56 : decode cX10_beside 56 = .ok (.iload_n 2, 1) := by decide +kernel
theorem dX10_beside_57 : decode cX10_beside 57 = .ok (.iconst 1, 1) := by decide +kernel
theorem dX10_beside_58 : decode cX10_beside 58 = .ok (.if_icmp .ne 7, 3) := by decide +kernel
theorem dX10_beside_61 : decode cX10_beside 61 = .ok (.iconst 1, 1) := by decide +kernel
theorem dX10_beside_62 : decode cX10_beside 62 = .ok (.goto 4, 3) := by decide +kernel
theorem dX10_beside_65 : decode cX10_beside 65 = .ok (.iconst 0, 1) := by decide +kernel
theorem dX10_beside_66 : decode cX10_beside 66 = .ok (.iload_n 3, 1) := by decide +kernel
theorem dX10_beside_67 : decode cX10_beside 67 = .ok (.invokevirtual 158, 3) := by decide +kernel
theorem dX10_beside_70 : decode cX10_beside 70 = .ok (.ireturn, 1) := by decide +kernel
theorem dX10_records_0 : decode cX10_records 0 = .ok (.iload_n 1, 1) := by decide +kernel
theorem dX10_records_1 : decode cX10_records 1 = .ok (.iconst 1, 1) := by decide +kernel
theorem dX10_records_2 : decode cX10_records 2 = .ok (.sipush 200, 3) := by decide +kernel
theorem dX10_records_5 : decode cX10_records 5 = .ok (.invokestatic 66, 3) := by decide +kernel
theorem dX10_records_8 : decode cX10_records 8 = .ok (.ifCond .ne 6, 3) := by decide +kernel
theorem dX10_records_11 : decode cX10_records 11 = .ok (.ldc 70, 2) := by decide +kernel
theorem dX10_records_13 : decode cX10_records 13 = .ok (.ireturn, 1) := by decide +kernel
theorem dX10_records_14 : decode cX10_records 14 = .ok (.aload_n 0, 1) := by decide +kernel
theorem dX10_records_15 : decode cX10_records 15 = .ok (.getfield 33, 3) := by decide +kernel
theorem dX10_records_18 : decode cX10_records 18 = .ok (.aload_n 0, 1) := by decide +kernel
theorem dX10_records_19 : decode cX10_records 19 = .ok (.getfield 10, 3) := by decide +kernel
theorem dX10_records_22 : decode cX10_records 22 = .ok (.getfield 58, 3) := by decide +kernel
theorem dX10_records_25 : decode cX10_records 25 = .ok (.aload_n 0, 1) := by decide +kernel
theorem dX10_records_26 : decode cX10_records 26 = .ok (.getfield 26, 3) := by decide +kernel
theorem dX10_records_29 : decode cX10_records 29 = .ok (.iconst 0, 1) := by decide +kernel
theorem dX10_records_30 : decode cX10_records 30 = .ok (.invokevirtual 105, 3) := by decide +kernel
theorem dX10_records_33 : decode cX10_records 33 = .ok (.iload_n 1, 1) := by decide +kernel
theorem dX10_records_34 : decode cX10_records 34 = .ok (.invokevirtual 150, 3) := by decide +kernel
theorem dX10_records_37 : decode cX10_records 37 = .ok (.aload_n 0, 1) := by decide +kernel
theorem dX10_records_38 : decode cX10_records 38 = .ok (.getfield 33, 3) := by decide +kernel
theorem dX10_records_41 : decode cX10_records 41 = .ok (.getfield 162, 3) := by decide +kernel
theorem dX10_records_44 : decode cX10_records 44 = .ok (.ireturn, 1) := by decide +kernel
theorem dX10_solution_0 : decode cX10_solution 0 = .ok (.iload_n 1, 1) := by decide +kernel
theorem dX10_solution_1 : decode cX10_solution 1 = .ok (.invokestatic 165, 3) := by decide +kernel
theorem dX10_solution_4 : decode cX10_solution 4 = .ok (.ifCond .eq 16, 3) := by decide +kernel
theorem dX10_solution_7 : decode cX10_solution 7 = .ok (.iload_n 2, 1) := by decide +kernel
theorem dX10_solution_8 : decode cX10_solution 8 = .ok (.ifCond .lt 12, 3) := by decide +kernel
theorem dX10_solution_11 : decode cX10_solution 11 = .ok (.iload_n 3, 1) := by decide +kernel
theorem dX10_solution_12 : decode cX10_solution 12 = .ok (.iconst 0, 1) := by decide +kernel
theorem dX10_solution_13 : decode cX10_solution 13 = .ok (.iconst 1, 1) := by decide +kernel
theorem dX10_solution_14 : decode cX10_solution 14 = .ok (.invokestatic 66, 3) := by decide +kernel
theorem dX10_solution_17 : decode cX10_solution 17 = .ok (.ifCond .ne 6, 3) := by decide +kernel
theorem dX10_solution_20 : decode cX10_solution 20 = .ok (.ldc 70, 2) := by decide +kernel
theorem dX10_solution_22 : decode cX10_solution 22 = .ok (.ireturn, 1) := by decide +kernel
theorem dX10_solution_23 : decode cX10_solution 23 = .ok (.aload_n 0, 1) := by decide +kernel
theorem dX10_solution_24 : decode cX10_solution 24 = .ok (.getfield 40, 3) := by decide +kernel
theorem dX10_solution_27 : decode cX10_solution 27 = .ok (.aload_n 0, 1) := by decide +kernel
theorem dX10_solution_28 : decode cX10_solution 28 = .ok (.getfield 10, 3) := by decide +kernel
theorem dX10_solution_31 : decode cX10_solution 31 = .ok (.getfield 58, 3) := by decide +kernel
theorem dX10_solution_34 : decode cX10_solution 34 = .ok (.getfield 99, 3) := by decide +kernel
theorem dX10_solution_37 : decode cX10_solution 37 = .ok (.iload_n 1, 1) := by decide +kernel
theorem dX10_solution_38 : decode cX10_solution 38 = .ok (.iload_n 2, 1) := by decide +kernel
theorem dX10_solution_39 : decode cX10_solution 39 = .ok (.invokevirtual 168, 3) := by decide +kernel
theorem dX10_solution_42 : decode cX10_solution 42 = .ok (.ifCond .ne 6, 3) := by decide +kernel
theorem dX10_solution_45 : decode cX10_solution 45 = .ok (.ldc 170, 2) := by decide +kernel
theorem dX10_solution_47 : decode cX10_solution 47 = .ok (.ireturn, 1) := by decide +kernel
theorem dX10_solution_48 : decode cX10_solution 48 = .ok (.iload_n 3, 1) := by decide +kernel
theorem dX10_solution_49 : decode cX10_solution 49 = .ok (.ifCond .ne 13, 3) := by decide +kernel
theorem dX10_solution_52 : decode cX10_solution 52 = .ok (.aload_n 0, 1) := by decide +kernel
theorem dX10_solution_53 : decode cX10_solution 53 = .ok (.getfield 40, 3) := by decide +kernel
theorem dX10_solution_56 : decode cX10_solution 56 = .ok (.getfield 171, 3) := by decide +kernel
theorem dX10_solution_59 : decode cX10_solution 59 = .ok (.goto 10, 3) := by decide +kernel
theorem dX10_solution_62 : decode cX10_solution 62 = .ok (.aload_n 0, 1) := by decide +kernel
theorem dX10_solution_63 : decode cX10_solution 63 = .ok (.getfield 40, 3) := by decide +kernel
theorem dX10_solution_66 : decode cX10_solution 66 = .ok (.getfield 175, 3) := by decide +kernel
theorem dX10_solution_69 : decode cX10_solution 69 = .ok (.l2i, 1) := by decide +kernel
theorem dX10_solution_70 : decode cX10_solution 70 = .ok (.ireturn, 1) := by decide +kernel
theorem dX10_solutions_0 : decode cX10_solutions 0 = .ok (.iload_n 1, 1) := by decide +kernel
theorem dX10_solutions_1 : decode cX10_solutions 1 = .ok (.invokestatic 165, 3) := by decide +kernel
theorem dX10_solutions_4 : decode cX10_solutions 4 = .ok (.ifCond .ne 6, 3) := by decide +kernel
theorem dX10_solutions_7 : decode cX10_solutions 7 = .ok (.ldc 70, 2) := by decide +kernel
theorem dX10_solutions_9 : decode cX10_solutions 9 = .ok (.ireturn, 1) := by decide +kernel
theorem dX10_solutions_10 : decode cX10_solutions 10 = .ok (.aload_n 0, 1) := by decide +kernel
theorem dX10_solutions_11 : decode cX10_solutions 11 = .ok (.getfield 40, 3) := by decide +kernel
theorem dX10_solutions_14 : decode cX10_solutions 14 = .ok (.aload_n 0, 1) := by decide +kernel
theorem dX10_solutions_15 : decode cX10_solutions 15 = .ok (.getfield 10, 3) := by decide +kernel
theorem dX10_solutions_18 : decode cX10_solutions 18 = .ok (.getfield 58, 3) := by decide +kernel
theorem dX10_solutions_21 : decode cX10_solutions 21 = .ok (.getfield 99, 3) := by decide +kernel
theorem dX10_solutions_24 : decode cX10_solutions 24 = .ok (.iload_n 1, 1) := by decide +kernel
theorem dX10_solutions_25 : decode cX10_solutions 25 = .ok (.invokevirtual 178, 3) := by decide +kernel
theorem dX10_solutions_28 : decode cX10_solutions 28 = .ok (.ireturn, 1) := by decide +kernel
theorem dX10_leastSolution_0 : decode cX10_leastSolution 0 = .ok (.iload_n 1, 1) := by decide +kernel
theorem dX10_leastSolution_1 : decode cX10_leastSolution 1 = .ok (.iconst 0, 1) := by decide +kernel
theorem dX10_leastSolution_2 : decode cX10_leastSolution 2 = .ok (.iconst 1, 1) := by decide +kernel
theorem dX10_leastSolution_3 : decode cX10_leastSolution 3 = .ok (.invokestatic 66, 3) := by decide +kernel
theorem dX10_leastSolution_6 : decode cX10_leastSolution 6 = .ok (.ifCond .ne 7, 3) := by decide +kernel
theorem dX10_leastSolution_9 : decode cX10_leastSolution 9 = .ok (.ldc2_w 134, 3) := by decide +kernel
theorem dX10_leastSolution_12 : decode cX10_leastSolution 12 = .ok (.lreturn, 1) := by decide +kernel
theorem dX10_leastSolution_13 : decode cX10_leastSolution 13 = .ok (.aload_n 0, 1) := by decide +kernel
theorem dX10_leastSolution_14 : decode cX10_leastSolution 14 = .ok (.getfield 40, 3) := by decide +kernel
theorem dX10_leastSolution_17 : decode cX10_leastSolution 17 = .ok (.aload_n 0, 1) := by decide +kernel
theorem dX10_leastSolution_18 : decode cX10_leastSolution 18 = .ok (.getfield 10, 3) := by decide +kernel
theorem dX10_leastSolution_21 : decode cX10_leastSolution 21 = .ok (.getfield 58, 3) := by decide +kernel
theorem dX10_leastSolution_24 : decode cX10_leastSolution 24 = .ok (.getfield 99, 3) := by decide +kernel
theorem dX10_leastSolution_27 : decode cX10_leastSolution 27 = .ok (.invokevirtual 182, 3) := by decide +kernel
theorem dX10_leastSolution_30 : decode cX10_leastSolution 30 = .ok (.ifCond .ne 7, 3) := by decide +kernel
theorem dX10_leastSolution_33 : decode cX10_leastSolution 33 = .ok (.ldc2_w 139, 3) := by decide +kernel
theorem dX10_leastSolution_36 : decode cX10_leastSolution 36 = .ok (.lreturn, 1) := by decide +kernel
theorem dX10_leastSolution_37 : decode cX10_leastSolution 37 = .ok (.iload_n 1, 1) := by decide +kernel
theorem dX10_leastSolution_38 : decode cX10_leastSolution 38 = .ok (.ifCond .ne 13, 3) := by decide +kernel
theorem dX10_leastSolution_41 : decode cX10_leastSolution 41 = .ok (.aload_n 0, 1) := by decide +kernel
theorem dX10_leastSolution_42 : decode cX10_leastSolution 42 = .ok (.getfield 40, 3) := by decide +kernel
theorem dX10_leastSolution_45 : decode cX10_leastSolution 45 = .ok (.getfield 171, 3) := by decide +kernel
theorem dX10_leastSolution_48 : decode cX10_leastSolution 48 = .ok (.goto 10, 3) := by decide +kernel
theorem dX10_leastSolution_51 : decode cX10_leastSolution 51 = .ok (.aload_n 0, 1) := by decide +kernel
theorem dX10_leastSolution_52 : decode cX10_leastSolution 52 = .ok (.getfield 40, 3) := by decide +kernel
theorem dX10_leastSolution_55 : decode cX10_leastSolution 55 = .ok (.getfield 175, 3) := by decide +kernel
theorem dX10_leastSolution_58 : decode cX10_leastSolution 58 = .ok (.lreturn, 1) := by decide +kernel
theorem dX10_note_0 : decode cX10_note 0 = .ok (.aload_n 0, 1) := by decide +kernel
theorem dX10_note_1 : decode cX10_note 1 = .ok (.getfield 47, 3) := by decide +kernel
theorem dX10_note_4 : decode cX10_note 4 = .ok (.invokevirtual 185, 3) := by decide +kernel
theorem dX10_note_7 : decode cX10_note 7 = .ok (.aload_n 0, 1) := by decide +kernel
theorem dX10_note_8 : decode cX10_note 8 = .ok (.getfield 47, 3) := by decide +kernel
theorem dX10_note_11 : decode cX10_note 11 = .ok (.invokevirtual 188, 3) := by decide +kernel
theorem dX10_note_14 : decode cX10_note 14 = .ok (.ifCond .eq 6, 3) := by decide +kernel
theorem dX10_note_17 : decode cX10_note 17 = .ok (.ldc 75, 2) := by decide +kernel
theorem dX10_note_19 : decode cX10_note 19 = .ok (.ireturn, 1) := by decide +kernel
theorem dX10_note_20 : decode cX10_note 20 = .ok (.aload_n 0, 1) := by decide +kernel
theorem dX10_note_21 : decode cX10_note 21 = .ok (.getfield 47, 3) := by decide +kernel
theorem dX10_note_24 : decode cX10_note 24 = .ok (.aload_n 0, 1) := by decide +kernel
theorem dX10_note_25 : decode cX10_note 25 = .ok (.getfield 54, 3) := by decide +kernel
theorem dX10_note_28 : decode cX10_note 28 = .ok (.invokevirtual 191, 3) := by decide +kernel
theorem dX10_note_31 : decode cX10_note 31 = .ok (.aload_n 0, 1) := by decide +kernel
theorem dX10_note_32 : decode cX10_note 32 = .ok (.getfield 54, 3) := by decide +kernel
theorem dX10_note_35 : decode cX10_note 35 = .ok (.invokestatic 195, 3) := by decide +kernel
theorem dX10_note_38 : decode cX10_note 38 = .ok (.ifCond .eq 30, 3) := by decide +kernel
theorem dX10_note_41 : decode cX10_note 41 = .ok (.aload_n 0, 1) := by decide +kernel
theorem dX10_note_42 : decode cX10_note 42 = .ok (.getfield 10, 3) := by decide +kernel
theorem dX10_note_45 : decode cX10_note 45 = .ok (.getfield 86, 3) := by decide +kernel
theorem dX10_note_48 : decode cX10_note 48 = .ok (.aload_n 0, 1) := by decide +kernel
theorem dX10_note_49 : decode cX10_note 49 = .ok (.getfield 54, 3) := by decide +kernel
theorem dX10_note_52 : decode cX10_note 52 = .ok (.getfield 199, 3) := by decide +kernel
theorem dX10_note_55 : decode cX10_note 55 = .ok (.aload_n 0, 1) := by decide +kernel
theorem dX10_note_56 : decode cX10_note 56 = .ok (.getfield 54, 3) := by decide +kernel
theorem dX10_note_59 : decode cX10_note 59 = .ok (.getfield 202, 3) := by decide +kernel
theorem dX10_note_62 : decode cX10_note 62 = .ok (.invokevirtual 205, 3) := by decide +kernel
theorem dX10_note_65 : decode cX10_note 65 = .ok (.ifCond .eq 6, 3) := by decide +kernel
theorem dX10_note_68 : decode cX10_note 68 = .ok (.ldc 75, 2) := by decide +kernel
theorem dX10_note_70 : decode cX10_note 70 = .ok (.ireturn, 1) := by decide +kernel
theorem dX10_note_71 : decode cX10_note 71 = .ok (.aload_n 0, 1) := by decide +kernel
theorem dX10_note_72 : decode cX10_note 72 = .ok (.getfield 10, 3) := by decide +kernel
theorem dX10_note_75 : decode cX10_note 75 = .ok (.getfield 86, 3) := by decide +kernel
theorem dX10_note_78 : decode cX10_note 78 = .ok (.getfield 209, 3) := by decide +kernel
theorem dX10_note_81 : decode cX10_note 81 = .ok (.bipush 8, 2) := by decide +kernel
theorem dX10_note_83 : decode cX10_note 83 = .ok (.if_icmp .lt 6, 3) := by decide +kernel
theorem dX10_note_86 : decode cX10_note 86 = .ok (.ldc 113, 2) := by decide +kernel
theorem dX10_note_88 : decode cX10_note 88 = .ok (.ireturn, 1) := by decide +kernel
theorem dX10_note_89 : decode cX10_note 89 = .ok (.aload_n 0, 1) := by decide +kernel
theorem dX10_note_90 : decode cX10_note 90 = .ok (.getfield 19, 3) := by decide +kernel
theorem dX10_note_93 : decode cX10_note 93 = .ok (.aload_n 0, 1) := by decide +kernel
theorem dX10_note_94 : decode cX10_note 94 = .ok (.getfield 10, 3) := by decide +kernel
theorem dX10_note_97 : decode cX10_note 97 = .ok (.invokevirtual 76, 3) := by decide +kernel
theorem dX10_note_100 : decode cX10_note 100 = .ok (.aload_n 0, 1) := by decide +kernel
theorem dX10_note_101 : decode cX10_note 101 = .ok (.getfield 10, 3) := by decide +kernel
theorem dX10_note_104 : decode cX10_note 104 = .ok (.getfield 86, 3) := by decide +kernel
theorem dX10_note_107 : decode cX10_note 107 = .ok (.aload_n 0, 1) := by decide +kernel
theorem dX10_note_108 : decode cX10_note 108 = .ok (.getfield 10, 3) := by decide +kernel
theorem dX10_note_111 : decode cX10_note 111 = .ok (.getfield 58, 3) := by decide +kernel
theorem dX10_note_114 : decode cX10_note 114 = .ok (.aload_n 0, 1) := by decide +kernel
theorem dX10_note_115 : decode cX10_note 115 = .ok (.getfield 54, 3) := by decide +kernel
theorem dX10_note_118 : decode cX10_note 118 = .ok (.getfield 199, 3) := by decide +kernel
theorem dX10_note_121 : decode cX10_note 121 = .ok (.l2i, 1) := by decide +kernel
theorem dX10_note_122 : decode cX10_note 122 = .ok (.aload_n 0, 1) := by decide +kernel
theorem dX10_note_123 : decode cX10_note 123 = .ok (.getfield 54, 3) := by decide +kernel
theorem dX10_note_126 : decode cX10_note 126 = .ok (.getfield 202, 3) := by decide +kernel
theorem dX10_note_129 : decode cX10_note 129 = .ok (.l2i, 1) := by decide +kernel
theorem dX10_note_130 : decode cX10_note 130 = .ok (.invokevirtual 212, 3) := by decide +kernel
theorem dX10_note_133 : decode cX10_note 133 = .ok (.ireturn, 1) := by decide +kernel
theorem dX10_strike_0 : decode cX10_strike 0 = .ok (.iload_n 1, 1) := by decide +kernel
theorem dX10_strike_1 : decode cX10_strike 1 = .ok (.ifCond .ge 6, 3) := by decide +kernel
theorem dX10_strike_4 : decode cX10_strike 4 = .ok (.ldc 70, 2) := by decide +kernel
theorem dX10_strike_6 : decode cX10_strike 6 = .ok (.ireturn, 1) := by decide +kernel
theorem dX10_strike_7 : decode cX10_strike 7 = .ok (.iload_n 1, 1) := by decide +kernel
theorem dX10_strike_8 : decode cX10_strike 8 = .ok (.aload_n 0, 1) := by decide +kernel
theorem dX10_strike_9 : decode cX10_strike 9 = .ok (.getfield 10, 3) := by decide +kernel
theorem dX10_strike_12 : decode cX10_strike 12 = .ok (.getfield 86, 3) := by decide +kernel
theorem dX10_strike_15 : decode cX10_strike 15 = .ok (.getfield 209, 3) := by decide +kernel
theorem dX10_strike_18 : decode cX10_strike 18 = .ok (.if_icmp .lt 6, 3) := by decide +kernel
theorem dX10_strike_21 : decode cX10_strike 21 = .ok (.ldc 75, 2) := by decide +kernel
theorem dX10_strike_23 : decode cX10_strike 23 = .ok (.ireturn, 1) := by decide +kernel
theorem dX10_strike_24 : decode cX10_strike 24 = .ok (.aload_n 0, 1) := by decide +kernel
theorem dX10_strike_25 : decode cX10_strike 25 = .ok (.getfield 19, 3) := by decide +kernel
theorem dX10_strike_28 : decode cX10_strike 28 = .ok (.aload_n 0, 1) := by decide +kernel
theorem dX10_strike_29 : decode cX10_strike 29 = .ok (.getfield 10, 3) := by decide +kernel
theorem dX10_strike_32 : decode cX10_strike 32 = .ok (.invokevirtual 76, 3) := by decide +kernel
theorem dX10_strike_35 : decode cX10_strike 35 = .ok (.aload_n 0, 1) := by decide +kernel
theorem dX10_strike_36 : decode cX10_strike 36 = .ok (.getfield 10, 3) := by decide +kernel
theorem dX10_strike_39 : decode cX10_strike 39 = .ok (.getfield 86, 3) := by decide +kernel
theorem dX10_strike_42 : decode cX10_strike 42 = .ok (.iload_n 1, 1) := by decide +kernel
theorem dX10_strike_43 : decode cX10_strike 43 = .ok (.invokevirtual 216, 3) := by decide +kernel
theorem dX10_strike_46 : decode cX10_strike 46 = .ok (.aload_n 0, 1) := by decide +kernel
theorem dX10_strike_47 : decode cX10_strike 47 = .ok (.getfield 10, 3) := by decide +kernel
theorem dX10_strike_50 : decode cX10_strike 50 = .ok (.getfield 86, 3) := by decide +kernel
theorem dX10_strike_53 : decode cX10_strike 53 = .ok (.getfield 209, 3) := by decide +kernel
theorem dX10_strike_56 : decode cX10_strike 56 = .ok (.ireturn, 1) := by decide +kernel
theorem dX10_strikeAll_0 : decode cX10_strikeAll 0 = .ok (.aload_n 0, 1) := by decide +kernel
theorem dX10_strikeAll_1 : decode cX10_strikeAll 1 = .ok (.getfield 10, 3) := by decide +kernel
theorem dX10_strikeAll_4 : decode cX10_strikeAll 4 = .ok (.getfield 86, 3) := by decide +kernel
theorem dX10_strikeAll_7 : decode cX10_strikeAll 7 = .ok (.getfield 209, 3) := by decide +kernel
theorem dX10_strikeAll_10 : decode cX10_strikeAll 10 = .ok (.istore_n 1, 1) := by decide +kernel
theorem dX10_strikeAll_11 : decode cX10_strikeAll 11 = .ok (.aload_n 0, 1) := by decide +kernel
theorem dX10_strikeAll_12 : decode cX10_strikeAll 12 = .ok (.getfield 19, 3) := by decide +kernel
theorem dX10_strikeAll_15 : decode cX10_strikeAll 15 = .ok (.aload_n 0, 1) := by decide +kernel
theorem dX10_strikeAll_16 : decode cX10_strikeAll 16 = .ok (.getfield 10, 3) := by decide +kernel
theorem dX10_strikeAll_19 : decode cX10_strikeAll 19 = .ok (.invokevirtual 76, 3) := by decide +kernel
theorem dX10_strikeAll_22 : decode cX10_strikeAll 22 = .ok (.aload_n 0, 1) := by decide +kernel
theorem dX10_strikeAll_23 : decode cX10_strikeAll 23 = .ok (.getfield 10, 3) := by decide +kernel
theorem dX10_strikeAll_26 : decode cX10_strikeAll 26 = .ok (.getfield 86, 3) := by decide +kernel
theorem dX10_strikeAll_29 : decode cX10_strikeAll 29 = .ok (.iconst 0, 1) := by decide +kernel
theorem dX10_strikeAll_30 : decode cX10_strikeAll 30 = .ok (.putfield 209, 3) := by decide +kernel
theorem dX10_strikeAll_33 : decode cX10_strikeAll 33 = .ok (.iload_n 1, 1) := by decide +kernel
theorem dX10_strikeAll_34 : decode cX10_strikeAll 34 = .ok (.ireturn, 1) := by decide +kernel
theorem dX10_noteOf_0 : decode cX10_noteOf 0 = .ok (.iload_n 1, 1) := by decide +kernel
theorem dX10_noteOf_1 : decode cX10_noteOf 1 = .ok (.ifCond .lt 12, 3) := by decide +kernel
theorem dX10_noteOf_4 : decode cX10_noteOf 4 = .ok (.iload_n 2, 1) := by decide +kernel
theorem dX10_noteOf_5 : decode cX10_noteOf 5 = .ok (.iconst 0, 1) := by decide +kernel
theorem dX10_noteOf_6 : decode cX10_noteOf 6 = .ok (.iconst 3, 1) := by decide +kernel
theorem dX10_noteOf_7 : decode cX10_noteOf 7 = .ok (.invokestatic 66, 3) := by decide +kernel
theorem dX10_noteOf_10 : decode cX10_noteOf 10 = .ok (.ifCond .ne 6, 3) := by decide +kernel
theorem dX10_noteOf_13 : decode cX10_noteOf 13 = .ok (.ldc 70, 2) := by decide +kernel
theorem dX10_noteOf_15 : decode cX10_noteOf 15 = .ok (.ireturn, 1) := by decide +kernel
theorem dX10_noteOf_16 : decode cX10_noteOf 16 = .ok (.iload_n 1, 1) := by decide +kernel
theorem dX10_noteOf_17 : decode cX10_noteOf 17 = .ok (.aload_n 0, 1) := by decide +kernel
theorem dX10_noteOf_18 : decode cX10_noteOf 18 = .ok (.getfield 10, 3) := by decide +kernel
theorem dX10_noteOf_21 : decode cX10_noteOf 21 = .ok (.getfield 86, 3) := by decide +kernel
theorem dX10_noteOf_24 : decode cX10_noteOf 24 = .ok (.getfield 209, 3) := by decide +kernel
theorem dX10_noteOf_27 : decode cX10_noteOf 27 = .ok (.if_icmp .lt 6, 3) := by decide +kernel
theorem dX10_noteOf_30 : decode cX10_noteOf 30 = .ok (.ldc 170, 2) := by decide +kernel
theorem dX10_noteOf_32 : decode cX10_noteOf 32 = .ok (.ireturn, 1) := by decide +kernel
theorem dX10_noteOf_33 : decode cX10_noteOf 33 = .ok (.aload_n 0, 1) := by decide +kernel
theorem dX10_noteOf_34 : decode cX10_noteOf 34 = .ok (.getfield 10, 3) := by decide +kernel
theorem dX10_noteOf_37 : decode cX10_noteOf 37 = .ok (.getfield 86, 3) := by decide +kernel
theorem dX10_noteOf_40 : decode cX10_noteOf 40 = .ok (.iload_n 1, 1) := by decide +kernel
theorem dX10_noteOf_41 : decode cX10_noteOf 41 = .ok (.invokevirtual 220, 3) := by decide +kernel
theorem dX10_noteOf_44 : decode cX10_noteOf 44 = .ok (.istore_n 3, 1) := by decide +kernel
theorem dX10_noteOf_45 : decode cX10_noteOf 45 = .ok (.aload_n 0, 1) := by decide +kernel
theorem dX10_noteOf_46 : decode cX10_noteOf 46 = .ok (.getfield 10, 3) := by decide +kernel
theorem dX10_noteOf_49 : decode cX10_noteOf 49 = .ok (.getfield 86, 3) := by decide +kernel
theorem dX10_noteOf_52 : decode cX10_noteOf 52 = .ok (.iload_n 1, 1) := by decide +kernel
theorem dX10_noteOf_53 : decode cX10_noteOf 53 = .ok (.invokevirtual 222, 3) := by decide +kernel
theorem dX10_noteOf_56 : decode cX10_noteOf 56 = .ok (.istore 4, 2) := by decide +kernel
theorem dX10_noteOf_58 : decode cX10_noteOf 58 = .ok (.iload_n 2, 1) := by decide +kernel
theorem dX10_noteOf_59 : decode cX10_noteOf 59 = .ok (.tableswitch 52 0 2 #[25, 30, 33], 25) := by decide +kernel
theorem dX10_noteOf_84 : decode cX10_noteOf 84 = .ok (.iload_n 3, 1) := by decide +kernel
theorem dX10_noteOf_85 : decode cX10_noteOf 85 = .ok (.ldc 224, 2) := by decide +kernel
theorem dX10_noteOf_87 : decode cX10_noteOf 87 = .ok (.iadd, 1) := by decide +kernel
theorem dX10_noteOf_88 : decode cX10_noteOf 88 = .ok (.ireturn, 1) := by decide +kernel
theorem dX10_noteOf_89 : decode cX10_noteOf 89 = .ok (.iload 4, 2) := by decide +kernel
theorem dX10_noteOf_91 : decode cX10_noteOf 91 = .ok (.ireturn, 1) := by decide +kernel
theorem dX10_noteOf_92 : decode cX10_noteOf 92 = .ok (.aload_n 0, 1) := by decide +kernel
theorem dX10_noteOf_93 : decode cX10_noteOf 93 = .ok (.getfield 10, 3) := by decide +kernel
theorem dX10_noteOf_96 : decode cX10_noteOf 96 = .ok (.getfield 58, 3) := by decide +kernel
theorem dX10_noteOf_99 : decode cX10_noteOf 99 = .ok (.iload_n 3, 1) := by decide +kernel
theorem dX10_noteOf_100 : decode cX10_noteOf 100 = .ok (.i2l, 1) := by decide +kernel
theorem dX10_noteOf_101 : decode cX10_noteOf 101 = .ok (.iload 4, 2) := by decide +kernel
theorem dX10_noteOf_103 : decode cX10_noteOf 103 = .ok (.i2l, 1) := by decide +kernel
theorem dX10_noteOf_104 : decode cX10_noteOf 104 = .ok (.invokevirtual 225, 3) := by decide +kernel
theorem dX10_noteOf_107 : decode cX10_noteOf 107 = .ok (.invokestatic 130, 3) := by decide +kernel
theorem dX10_noteOf_110 : decode cX10_noteOf 110 = .ok (.ireturn, 1) := by decide +kernel
theorem dX10_noteOf_111 : decode cX10_noteOf 111 = .ok (.aload_n 0, 1) := by decide +kernel
theorem dX10_noteOf_112 : decode cX10_noteOf 112 = .ok (.getfield 26, 3) := by decide +kernel
theorem dX10_noteOf_115 : decode cX10_noteOf 115 = .ok (.iload_n 3, 1) := by decide +kernel
theorem dX10_noteOf_116 : decode cX10_noteOf 116 = .ok (.i2l, 1) := by decide +kernel
theorem dX10_noteOf_117 : decode cX10_noteOf 117 = .ok (.iload 4, 2) := by decide +kernel
theorem dX10_noteOf_119 : decode cX10_noteOf 119 = .ok (.i2l, 1) := by decide +kernel
theorem dX10_noteOf_120 : decode cX10_noteOf 120 = .ok (.invokevirtual 228, 3) := by decide +kernel
theorem dX10_noteOf_123 : decode cX10_noteOf 123 = .ok (.invokestatic 130, 3) := by decide +kernel
theorem dX10_noteOf_126 : decode cX10_noteOf 126 = .ok (.ireturn, 1) := by decide +kernel
theorem dX10_count_0 : decode cX10_count 0 = .ok (.iload_n 1, 1) := by decide +kernel
theorem dX10_count_1 : decode cX10_count 1 = .ok (.tableswitch 76 0 3 #[31, 42, 60, 68], 31) := by decide +kernel
theorem dX10_count_32 : decode cX10_count 32 = .ok (.aload_n 0, 1) := by decide +kernel
theorem dX10_count_33 : decode cX10_count 33 = .ok (.getfield 10, 3) := by decide +kernel
theorem dX10_count_36 : decode cX10_count 36 = .ok (.getfield 86, 3) := by decide +kernel
theorem dX10_count_39 : decode cX10_count 39 = .ok (.getfield 209, 3) := by decide +kernel
theorem dX10_count_42 : decode cX10_count 42 = .ok (.ireturn, 1) := by decide +kernel
theorem dX10_count_43 : decode cX10_count 43 = .ok (.aload_n 0, 1) := by decide +kernel
theorem dX10_count_44 : decode cX10_count 44 = .ok (.getfield 10, 3) := by decide +kernel
theorem dX10_count_47 : decode cX10_count 47 = .ok (.getfield 86, 3) := by decide +kernel
theorem dX10_count_50 : decode cX10_count 50 = .ok (.aload_n 0, 1) := by decide +kernel
theorem dX10_count_51 : decode cX10_count 51 = .ok (.getfield 10, 3) := by decide +kernel
theorem dX10_count_54 : decode cX10_count 54 = .ok (.getfield 58, 3) := by decide +kernel
theorem dX10_count_57 : decode cX10_count 57 = .ok (.invokevirtual 231, 3) := by decide +kernel
theorem dX10_count_60 : decode cX10_count 60 = .ok (.ireturn, 1) := by decide +kernel
theorem dX10_count_61 : decode cX10_count 61 = .ok (.aload_n 0, 1) := by decide +kernel
theorem dX10_count_62 : decode cX10_count 62 = .ok (.getfield 19, 3) := by decide +kernel
theorem dX10_count_65 : decode cX10_count 65 = .ok (.getfield 235, 3) := by decide +kernel
theorem dX10_count_68 : decode cX10_count 68 = .ok (.ireturn, 1) := by decide +kernel
theorem dX10_count_69 : decode cX10_count 69 = .ok (.aload_n 0, 1) := by decide +kernel
theorem dX10_count_70 : decode cX10_count 70 = .ok (.getfield 47, 3) := by decide +kernel
theorem dX10_count_73 : decode cX10_count 73 = .ok (.getfield 236, 3) := by decide +kernel
theorem dX10_count_76 : decode cX10_count 76 = .ok (.ireturn, 1) := by decide +kernel
theorem dX10_count_77 : decode cX10_count 77 = .ok (.ldc 70, 2) := by decide +kernel
theorem dX10_count_79 : decode cX10_count 79 = .ok (.ireturn, 1) := by decide +kernel
theorem dX10_undo_0 : decode cX10_undo 0 = .ok (.aload_n 0, 1) := by decide +kernel
theorem dX10_undo_1 : decode cX10_undo 1 = .ok (.getfield 19, 3) := by decide +kernel
theorem dX10_undo_4 : decode cX10_undo 4 = .ok (.getfield 235, 3) := by decide +kernel
theorem dX10_undo_7 : decode cX10_undo 7 = .ok (.ifCond .ne 6, 3) := by decide +kernel
theorem dX10_undo_10 : decode cX10_undo 10 = .ok (.ldc 75, 2) := by decide +kernel
theorem dX10_undo_12 : decode cX10_undo 12 = .ok (.ireturn, 1) := by decide +kernel
theorem dX10_undo_13 : decode cX10_undo 13 = .ok (.aload_n 0, 1) := by decide +kernel
theorem dX10_undo_14 : decode cX10_undo 14 = .ok (.getfield 19, 3) := by decide +kernel
theorem dX10_undo_17 : decode cX10_undo 17 = .ok (.aload_n 0, 1) := by decide +kernel
theorem dX10_undo_18 : decode cX10_undo 18 = .ok (.getfield 10, 3) := by decide +kernel
theorem dX10_undo_21 : decode cX10_undo 21 = .ok (.invokevirtual 239, 3) := by decide +kernel
theorem dX10_undo_24 : decode cX10_undo 24 = .ok (.aload_n 0, 1) := by decide +kernel
theorem dX10_undo_25 : decode cX10_undo 25 = .ok (.getfield 26, 3) := by decide +kernel
theorem dX10_undo_28 : decode cX10_undo 28 = .ok (.aload_n 0, 1) := by decide +kernel
theorem dX10_undo_29 : decode cX10_undo 29 = .ok (.getfield 10, 3) := by decide +kernel
theorem dX10_undo_32 : decode cX10_undo 32 = .ok (.getfield 58, 3) := by decide +kernel
theorem dX10_undo_35 : decode cX10_undo 35 = .ok (.invokevirtual 62, 3) := by decide +kernel
theorem dX10_undo_38 : decode cX10_undo 38 = .ok (.aload_n 0, 1) := by decide +kernel
theorem dX10_undo_39 : decode cX10_undo 39 = .ok (.getfield 19, 3) := by decide +kernel
theorem dX10_undo_42 : decode cX10_undo 42 = .ok (.getfield 235, 3) := by decide +kernel
theorem dX10_undo_45 : decode cX10_undo 45 = .ok (.ireturn, 1) := by decide +kernel
theorem dX10_type_0 : decode cX10_type 0 = .ok (.iload_n 1, 1) := by decide +kernel
theorem dX10_type_1 : decode cX10_type 1 = .ok (.bipush 32, 2) := by decide +kernel
theorem dX10_type_3 : decode cX10_type 3 = .ok (.bipush 126, 2) := by decide +kernel
theorem dX10_type_5 : decode cX10_type 5 = .ok (.invokestatic 66, 3) := by decide +kernel
theorem dX10_type_8 : decode cX10_type 8 = .ok (.ifCond .ne 6, 3) := by decide +kernel
theorem dX10_type_11 : decode cX10_type 11 = .ok (.ldc 70, 2) := by decide +kernel
theorem dX10_type_13 : decode cX10_type 13 = .ok (.ireturn, 1) := by decide +kernel
theorem dX10_type_14 : decode cX10_type 14 = .ok (.aload_n 0, 1) := by decide +kernel
theorem dX10_type_15 : decode cX10_type 15 = .ok (.getfield 47, 3) := by decide +kernel
theorem dX10_type_18 : decode cX10_type 18 = .ok (.getfield 236, 3) := by decide +kernel
theorem dX10_type_21 : decode cX10_type 21 = .ok (.bipush 40, 2) := by decide +kernel
theorem dX10_type_23 : decode cX10_type 23 = .ok (.if_icmp .lt 6, 3) := by decide +kernel
theorem dX10_type_26 : decode cX10_type 26 = .ok (.ldc 113, 2) := by decide +kernel
theorem dX10_type_28 : decode cX10_type 28 = .ok (.ireturn, 1) := by decide +kernel
theorem dX10_type_29 : decode cX10_type 29 = .ok (.aload_n 0, 1) := by decide +kernel
theorem dX10_type_30 : decode cX10_type 30 = .ok (.getfield 47, 3) := by decide +kernel
theorem dX10_type_33 : decode cX10_type 33 = .ok (.iload_n 1, 1) := by decide +kernel
theorem dX10_type_34 : decode cX10_type 34 = .ok (.i2c, 1) := by decide +kernel
theorem dX10_type_35 : decode cX10_type 35 = .ok (.invokevirtual 242, 3) := by decide +kernel
theorem dX10_type_38 : decode cX10_type 38 = .ok (.aload_n 0, 1) := by decide +kernel
theorem dX10_type_39 : decode cX10_type 39 = .ok (.getfield 47, 3) := by decide +kernel
theorem dX10_type_42 : decode cX10_type 42 = .ok (.getfield 236, 3) := by decide +kernel
theorem dX10_type_45 : decode cX10_type 45 = .ok (.ireturn, 1) := by decide +kernel
theorem dX10_clearText_0 : decode cX10_clearText 0 = .ok (.aload_n 0, 1) := by decide +kernel
theorem dX10_clearText_1 : decode cX10_clearText 1 = .ok (.getfield 47, 3) := by decide +kernel
theorem dX10_clearText_4 : decode cX10_clearText 4 = .ok (.getfield 236, 3) := by decide +kernel
theorem dX10_clearText_7 : decode cX10_clearText 7 = .ok (.istore_n 1, 1) := by decide +kernel
theorem dX10_clearText_8 : decode cX10_clearText 8 = .ok (.aload_n 0, 1) := by decide +kernel
theorem dX10_clearText_9 : decode cX10_clearText 9 = .ok (.getfield 47, 3) := by decide +kernel
theorem dX10_clearText_12 : decode cX10_clearText 12 = .ok (.iconst 0, 1) := by decide +kernel
theorem dX10_clearText_13 : decode cX10_clearText 13 = .ok (.putfield 236, 3) := by decide +kernel
theorem dX10_clearText_16 : decode cX10_clearText 16 = .ok (.iload_n 1, 1) := by decide +kernel
theorem dX10_clearText_17 : decode cX10_clearText 17 = .ok (.ireturn, 1) := by decide +kernel
theorem dX10_fault_0 : decode cX10_fault 0 = .ok (.iload_n 1, 1) := by decide +kernel
theorem dX10_fault_1 : decode cX10_fault 1 = .ok (.iconst 0, 1) := by decide +kernel
theorem dX10_fault_2 : decode cX10_fault 2 = .ok (.iconst 1, 1) := by decide +kernel
theorem dX10_fault_3 : decode cX10_fault 3 = .ok (.invokestatic 66, 3) := by decide +kernel
theorem dX10_fault_6 : decode cX10_fault 6 = .ok (.ifCond .ne 6, 3) := by decide +kernel
theorem dX10_fault_9 : decode cX10_fault 9 = .ok (.ldc 70, 2) := by decide +kernel
theorem dX10_fault_11 : decode cX10_fault 11 = .ok (.ireturn, 1) := by decide +kernel
theorem dX10_fault_12 : decode cX10_fault 12 = .ok (.aload_n 0, 1) := by decide +kernel
theorem dX10_fault_13 : decode cX10_fault 13 = .ok (.getfield 47, 3) := by decide +kernel
theorem dX10_fault_16 : decode cX10_fault 16 = .ok (.invokevirtual 185, 3) := by decide +kernel
theorem dX10_fault_19 : decode cX10_fault 19 = .ok (.aload_n 0, 1) := by decide +kernel
theorem dX10_fault_20 : decode cX10_fault 20 = .ok (.getfield 47, 3) := by decide +kernel
theorem dX10_fault_23 : decode cX10_fault 23 = .ok (.invokevirtual 188, 3) := by decide +kernel
theorem dX10_fault_26 : decode cX10_fault 26 = .ok (.ifCond .ne 6, 3) := by decide +kernel
theorem dX10_fault_29 : decode cX10_fault 29 = .ok (.ldc 170, 2) := by decide +kernel
theorem dX10_fault_31 : decode cX10_fault 31 = .ok (.ireturn, 1) := by decide +kernel
theorem dX10_fault_32 : decode cX10_fault 32 = .ok (.iload_n 1, 1) := by decide +kernel
theorem dX10_fault_33 : decode cX10_fault 33 = .ok (.ifCond .ne 13, 3) := by decide +kernel
theorem dX10_fault_36 : decode cX10_fault 36 = .ok (.aload_n 0, 1) := by decide +kernel
theorem dX10_fault_37 : decode cX10_fault 37 = .ok (.getfield 47, 3) := by decide +kernel
theorem dX10_fault_40 : decode cX10_fault 40 = .ok (.getfield 246, 3) := by decide +kernel
theorem dX10_fault_43 : decode cX10_fault 43 = .ok (.goto 10, 3) := by decide +kernel
theorem dX10_fault_46 : decode cX10_fault 46 = .ok (.aload_n 0, 1) := by decide +kernel
theorem dX10_fault_47 : decode cX10_fault 47 = .ok (.getfield 47, 3) := by decide +kernel
theorem dX10_fault_50 : decode cX10_fault 50 = .ok (.getfield 249, 3) := by decide +kernel
theorem dX10_fault_53 : decode cX10_fault 53 = .ok (.ireturn, 1) := by decide +kernel
theorem dX10_told_0 : decode cX10_told 0 = .ok (.iload_n 1, 1) := by decide +kernel
theorem dX10_told_1 : decode cX10_told 1 = .ok (.iconst 0, 1) := by decide +kernel
theorem dX10_told_2 : decode cX10_told 2 = .ok (.iconst 4, 1) := by decide +kernel
theorem dX10_told_3 : decode cX10_told 3 = .ok (.invokestatic 66, 3) := by decide +kernel
theorem dX10_told_6 : decode cX10_told 6 = .ok (.ifCond .ne 7, 3) := by decide +kernel
theorem dX10_told_9 : decode cX10_told 9 = .ok (.ldc2_w 134, 3) := by decide +kernel
theorem dX10_told_12 : decode cX10_told 12 = .ok (.lreturn, 1) := by decide +kernel
theorem dX10_told_13 : decode cX10_told 13 = .ok (.aload_n 0, 1) := by decide +kernel
theorem dX10_told_14 : decode cX10_told 14 = .ok (.getfield 47, 3) := by decide +kernel
theorem dX10_told_17 : decode cX10_told 17 = .ok (.invokevirtual 185, 3) := by decide +kernel
theorem dX10_told_20 : decode cX10_told 20 = .ok (.aload_n 0, 1) := by decide +kernel
theorem dX10_told_21 : decode cX10_told 21 = .ok (.getfield 47, 3) := by decide +kernel
theorem dX10_told_24 : decode cX10_told 24 = .ok (.invokevirtual 188, 3) := by decide +kernel
theorem dX10_told_27 : decode cX10_told 27 = .ok (.ifCond .eq 7, 3) := by decide +kernel
theorem dX10_told_30 : decode cX10_told 30 = .ok (.ldc2_w 252, 3) := by decide +kernel
theorem dX10_told_33 : decode cX10_told 33 = .ok (.lreturn, 1) := by decide +kernel
theorem dX10_told_34 : decode cX10_told 34 = .ok (.iload_n 1, 1) := by decide +kernel
theorem dX10_told_35 : decode cX10_told 35 = .ok (.tableswitch 52 2 4 #[25, 34, 47], 25) := by decide +kernel
theorem dX10_told_60 : decode cX10_told 60 = .ok (.aload_n 0, 1) := by decide +kernel
theorem dX10_told_61 : decode cX10_told 61 = .ok (.getfield 47, 3) := by decide +kernel
theorem dX10_told_64 : decode cX10_told 64 = .ok (.getfield 254, 3) := by decide +kernel
theorem dX10_told_67 : decode cX10_told 67 = .ok (.i2l, 1) := by decide +kernel
theorem dX10_told_68 : decode cX10_told 68 = .ok (.lreturn, 1) := by decide +kernel
theorem dX10_told_69 : decode cX10_told 69 = .ok (.aload_n 0, 1) := by decide +kernel
theorem dX10_told_70 : decode cX10_told 70 = .ok (.getfield 26, 3) := by decide +kernel
theorem dX10_told_73 : decode cX10_told 73 = .ok (.aload_n 0, 1) := by decide +kernel
theorem dX10_told_74 : decode cX10_told 74 = .ok (.getfield 47, 3) := by decide +kernel
theorem dX10_told_77 : decode cX10_told 77 = .ok (.invokevirtual 257, 3) := by decide +kernel
theorem dX10_told_80 : decode cX10_told 80 = .ok (.i2l, 1) := by decide +kernel
theorem dX10_told_81 : decode cX10_told 81 = .ok (.lreturn, 1) := by decide +kernel
theorem dX10_told_82 : decode cX10_told 82 = .ok (.aload_n 0, 1) := by decide +kernel
theorem dX10_told_83 : decode cX10_told 83 = .ok (.invokevirtual 261, 3) := by decide +kernel
theorem dX10_told_86 : decode cX10_told 86 = .ok (.lreturn, 1) := by decide +kernel
theorem dX10_told_87 : decode cX10_told 87 = .ok (.aload_n 0, 1) := by decide +kernel
theorem dX10_told_88 : decode cX10_told 88 = .ok (.iload_n 1, 1) := by decide +kernel
theorem dX10_told_89 : decode cX10_told 89 = .ok (.invokevirtual 265, 3) := by decide +kernel
theorem dX10_told_92 : decode cX10_told 92 = .ok (.lreturn, 1) := by decide +kernel
theorem dX10_toldAbove_0 : decode cX10_toldAbove 0 = .ok (.aload_n 0, 1) := by decide +kernel
theorem dX10_toldAbove_1 : decode cX10_toldAbove 1 = .ok (.getfield 47, 3) := by decide +kernel
theorem dX10_toldAbove_4 : decode cX10_toldAbove 4 = .ok (.aload_n 0, 1) := by decide +kernel
theorem dX10_toldAbove_5 : decode cX10_toldAbove 5 = .ok (.getfield 54, 3) := by decide +kernel
theorem dX10_toldAbove_8 : decode cX10_toldAbove 8 = .ok (.invokevirtual 191, 3) := by decide +kernel
theorem dX10_toldAbove_11 : decode cX10_toldAbove 11 = .ok (.aload_n 0, 1) := by decide +kernel
theorem dX10_toldAbove_12 : decode cX10_toldAbove 12 = .ok (.getfield 54, 3) := by decide +kernel
theorem dX10_toldAbove_15 : decode cX10_toldAbove 15 = .ok (.invokestatic 195, 3) := by decide +kernel
theorem dX10_toldAbove_18 : decode cX10_toldAbove 18 = .ok (.ifCond .eq 34, 3) := by decide +kernel
theorem dX10_toldAbove_21 : decode cX10_toldAbove 21 = .ok (.aload_n 0, 1) := by decide +kernel
theorem dX10_toldAbove_22 : decode cX10_toldAbove 22 = .ok (.getfield 10, 3) := by decide +kernel
theorem dX10_toldAbove_25 : decode cX10_toldAbove 25 = .ok (.getfield 58, 3) := by decide +kernel
theorem dX10_toldAbove_28 : decode cX10_toldAbove 28 = .ok (.aload_n 0, 1) := by decide +kernel
theorem dX10_toldAbove_29 : decode cX10_toldAbove 29 = .ok (.getfield 54, 3) := by decide +kernel
theorem dX10_toldAbove_32 : decode cX10_toldAbove 32 = .ok (.getfield 199, 3) := by decide +kernel
theorem dX10_toldAbove_35 : decode cX10_toldAbove 35 = .ok (.aload_n 0, 1) := by decide +kernel
theorem dX10_toldAbove_36 : decode cX10_toldAbove 36 = .ok (.getfield 54, 3) := by decide +kernel
theorem dX10_toldAbove_39 : decode cX10_toldAbove 39 = .ok (.getfield 202, 3) := by decide +kernel
theorem dX10_toldAbove_42 : decode cX10_toldAbove 42 = .ok (.invokevirtual 225, 3) := by decide +kernel
theorem dX10_toldAbove_45 : decode cX10_toldAbove 45 = .ok (.invokestatic 130, 3) := by decide +kernel
theorem dX10_toldAbove_48 : decode cX10_toldAbove 48 = .ok (.i2l, 1) := by decide +kernel
theorem dX10_toldAbove_49 : decode cX10_toldAbove 49 = .ok (.goto 6, 3) := by decide +kernel
theorem dX10_toldAbove_52 : decode cX10_toldAbove 52 = .ok (.ldc2_w 139, 3) := by decide +kernel
theorem dX10_toldAbove_55 : decode cX10_toldAbove 55 = .ok (.lreturn, 1) := by decide +kernel
theorem dX10_toldPart_0 : decode cX10_toldPart 0 = .ok (.aload_n 0, 1) := by decide +kernel
theorem dX10_toldPart_1 : decode cX10_toldPart 1 = .ok (.getfield 47, 3) := by decide +kernel
theorem dX10_toldPart_4 : decode cX10_toldPart 4 = .ok (.aload_n 0, 1) := by decide +kernel
theorem dX10_toldPart_5 : decode cX10_toldPart 5 = .ok (.getfield 54, 3) := by decide +kernel
theorem dX10_toldPart_8 : decode cX10_toldPart 8 = .ok (.invokevirtual 191, 3) := by decide +kernel
theorem dX10_toldPart_11 : decode cX10_toldPart 11 = .ok (.aload_n 0, 1) := by decide +kernel
theorem dX10_toldPart_12 : decode cX10_toldPart 12 = .ok (.getfield 54, 3) := by decide +kernel
theorem dX10_toldPart_15 : decode cX10_toldPart 15 = .ok (.getfield 268, 3) := by decide +kernel
theorem dX10_toldPart_18 : decode cX10_toldPart 18 = .ok (.ifCond .eq 7, 3) := by decide +kernel
theorem dX10_toldPart_21 : decode cX10_toldPart 21 = .ok (.ldc2_w 139, 3) := by decide +kernel
theorem dX10_toldPart_24 : decode cX10_toldPart 24 = .ok (.lreturn, 1) := by decide +kernel
theorem dX10_toldPart_25 : decode cX10_toldPart 25 = .ok (.iload_n 1, 1) := by decide +kernel
theorem dX10_toldPart_26 : decode cX10_toldPart 26 = .ok (.ifCond .ne 17, 3) := by decide +kernel
theorem dX10_toldPart_29 : decode cX10_toldPart 29 = .ok (.aload_n 0, 1) := by decide +kernel
theorem dX10_toldPart_30 : decode cX10_toldPart 30 = .ok (.getfield 54, 3) := by decide +kernel
theorem dX10_toldPart_33 : decode cX10_toldPart 33 = .ok (.getfield 199, 3) := by decide +kernel
theorem dX10_toldPart_36 : decode cX10_toldPart 36 = .ok (.ldc2_w 145, 3) := by decide +kernel
theorem dX10_toldPart_39 : decode cX10_toldPart 39 = .ok (.ladd, 1) := by decide +kernel
theorem dX10_toldPart_40 : decode cX10_toldPart 40 = .ok (.goto 10, 3) := by decide +kernel
theorem dX10_toldPart_43 : decode cX10_toldPart 43 = .ok (.aload_n 0, 1) := by decide +kernel
theorem dX10_toldPart_44 : decode cX10_toldPart 44 = .ok (.getfield 54, 3) := by decide +kernel
theorem dX10_toldPart_47 : decode cX10_toldPart 47 = .ok (.getfield 202, 3) := by decide +kernel
theorem dX10_toldPart_50 : decode cX10_toldPart 50 = .ok (.lreturn, 1) := by decide +kernel
theorem dX10_neighbourPart_0 : decode cX10_neighbourPart 0 = .ok (.iload_n 2, 1) := by decide +kernel
theorem dX10_neighbourPart_1 : decode cX10_neighbourPart 1 = .ok (.ifCond .ne 29, 3) := by decide +kernel
theorem dX10_neighbourPart_4 : decode cX10_neighbourPart 4 = .ok (.iload_n 1, 1) := by decide +kernel
theorem dX10_neighbourPart_5 : decode cX10_neighbourPart 5 = .ok (.ifCond .eq 13, 3) := by decide +kernel
theorem dX10_neighbourPart_8 : decode cX10_neighbourPart 8 = .ok (.aload_n 0, 1) := by decide +kernel
theorem dX10_neighbourPart_9 : decode cX10_neighbourPart 9 = .ok (.getfield 33, 3) := by decide +kernel
theorem dX10_neighbourPart_12 : decode cX10_neighbourPart 12 = .ok (.getfield 272, 3) := by decide +kernel
theorem dX10_neighbourPart_15 : decode cX10_neighbourPart 15 = .ok (.goto 10, 3) := by decide +kernel
theorem dX10_neighbourPart_18 : decode cX10_neighbourPart 18 = .ok (.aload_n 0, 1) := by decide +kernel
theorem dX10_neighbourPart_19 : decode cX10_neighbourPart 19 = .ok (.getfield 33, 3) := by decide +kernel
theorem dX10_neighbourPart_22 : decode cX10_neighbourPart 22 = .ok (.getfield 275, 3) := by decide +kernel
theorem dX10_neighbourPart_25 : decode cX10_neighbourPart 25 = .ok (.l2i, 1) := by decide +kernel
theorem dX10_neighbourPart_26 : decode cX10_neighbourPart 26 = .ok (.ldc 224, 2) := by decide +kernel
theorem dX10_neighbourPart_28 : decode cX10_neighbourPart 28 = .ok (.iadd, 1) := by decide +kernel
theorem dX10_neighbourPart_29 : decode cX10_neighbourPart 29 = .ok (.ireturn, 1) := by decide +kernel
theorem dX10_neighbourPart_30 : decode cX10_neighbourPart 30 = .ok (.iload_n 1, 1) := by decide +kernel
theorem dX10_neighbourPart_31 : decode cX10_neighbourPart 31 = .ok (.ifCond .eq 13, 3) := by decide +kernel
theorem dX10_neighbourPart_34 : decode cX10_neighbourPart 34 = .ok (.aload_n 0, 1) := by decide +kernel
theorem dX10_neighbourPart_35 : decode cX10_neighbourPart 35 = .ok (.getfield 33, 3) := by decide +kernel
theorem dX10_neighbourPart_38 : decode cX10_neighbourPart 38 = .ok (.getfield 278, 3) := by decide +kernel
theorem dX10_neighbourPart_41 : decode cX10_neighbourPart 41 = .ok (.goto 10, 3) := by decide +kernel
theorem dX10_neighbourPart_44 : decode cX10_neighbourPart 44 = .ok (.aload_n 0, 1) := by decide +kernel
theorem dX10_neighbourPart_45 : decode cX10_neighbourPart 45 = .ok (.getfield 33, 3) := by decide +kernel
theorem dX10_neighbourPart_48 : decode cX10_neighbourPart 48 = .ok (.getfield 281, 3) := by decide +kernel
theorem dX10_neighbourPart_51 : decode cX10_neighbourPart 51 = .ok (.l2i, 1) := by decide +kernel
theorem dX10_neighbourPart_52 : decode cX10_neighbourPart 52 = .ok (.ireturn, 1) := by decide +kernel
theorem dX10_isWithin_0 : decode cX10_isWithin 0 = .ok (.iload_n 0, 1) := by decide +kernel
theorem dX10_isWithin_1 : decode cX10_isWithin 1 = .ok (.iload_n 1, 1) := by decide +kernel
theorem dX10_isWithin_2 : decode cX10_isWithin 2 = .ok (.if_icmp .lt 12, 3) := by decide +kernel
theorem dX10_isWithin_5 : decode cX10_isWithin 5 = .ok (.iload_n 0, 1) := by decide +kernel
theorem dX10_isWithin_6 : decode cX10_isWithin 6 = .ok (.iload_n 2, 1) := by decide +kernel
theorem dX10_isWithin_7 : decode cX10_isWithin 7 = .ok (.if_icmp .gt 7, 3) := by decide +kernel
theorem dX10_isWithin_10 : decode cX10_isWithin 10 = .ok (.iconst 1, 1) := by decide +kernel
theorem dX10_isWithin_11 : decode cX10_isWithin 11 = .ok (.goto 4, 3) := by decide +kernel
theorem dX10_isWithin_14 : decode cX10_isWithin 14 = .ok (.iconst 0, 1) := by decide +kernel
theorem dX10_isWithin_15 : decode cX10_isWithin 15 = .ok (.ireturn, 1) := by decide +kernel
theorem dX10_isRightSide_0 : decode cX10_isRightSide 0 = .ok (.iload_n 0, 1) := by decide +kernel
theorem dX10_isRightSide_1 : decode cX10_isRightSide 1 = .ok (.bipush (-60), 2) := by decide +kernel
theorem dX10_isRightSide_3 : decode cX10_isRightSide 3 = .ok (.bipush 60, 2) := by decide +kernel
theorem dX10_isRightSide_5 : decode cX10_isRightSide 5 = .ok (.invokestatic 66, 3) := by decide +kernel
theorem dX10_isRightSide_8 : decode cX10_isRightSide 8 = .ok (.ifCond .eq 11, 3) := by decide +kernel
theorem dX10_isRightSide_11 : decode cX10_isRightSide 11 = .ok (.iload_n 0, 1) := by decide +kernel
theorem dX10_isRightSide_12 : decode cX10_isRightSide 12 = .ok (.ifCond .eq 7, 3) := by decide +kernel
theorem dX10_isRightSide_15 : decode cX10_isRightSide 15 = .ok (.iconst 1, 1) := by decide +kernel
theorem dX10_isRightSide_16 : decode cX10_isRightSide 16 = .ok (.goto 4, 3) := by decide +kernel
theorem dX10_isRightSide_19 : decode cX10_isRightSide 19 = .ok (.iconst 0, 1) := by decide +kernel
theorem dX10_isRightSide_20 : decode cX10_isRightSide 20 = .ok (.ireturn, 1) := by decide +kernel
theorem dX10_isSquare_0 : decode cX10_isSquare 0 = .ok (.iload_n 0, 1) := by decide +kernel
theorem dX10_isSquare_1 : decode cX10_isSquare 1 = .ok (.i2l, 1) := by decide +kernel
theorem dX10_isSquare_2 : decode cX10_isSquare 2 = .ok (.invokestatic 284, 3) := by decide +kernel
theorem dX10_isSquare_5 : decode cX10_isSquare 5 = .ok (.lstore_n 1, 1) := by decide +kernel
theorem dX10_isSquare_6 : decode cX10_isSquare 6 = .ok (.lload_n 1, 1) := by decide +kernel
theorem dX10_isSquare_7 : decode cX10_isSquare 7 = .ok (.lload_n 1, 1) := by decide +kernel
theorem dX10_isSquare_8 : decode cX10_isSquare 8 = .ok (.lmul, 1) := by decide +kernel
theorem dX10_isSquare_9 : decode cX10_isSquare 9 = .ok (.iload_n 0, 1) := by decide +kernel
theorem dX10_isSquare_10 : decode cX10_isSquare 10 = .ok (.i2l, 1) := by decide +kernel
theorem dX10_isSquare_11 : decode cX10_isSquare 11 = .ok (.lcmp, 1) := by decide +kernel
theorem dX10_isSquare_12 : decode cX10_isSquare 12 = .ok (.ifCond .ne 7, 3) := by decide +kernel
theorem dX10_isSquare_15 : decode cX10_isSquare 15 = .ok (.iconst 1, 1) := by decide +kernel
theorem dX10_isSquare_16 : decode cX10_isSquare 16 = .ok (.goto 4, 3) := by decide +kernel
theorem dX10_isSquare_19 : decode cX10_isSquare 19 = .ok (.iconst 0, 1) := by decide +kernel
theorem dX10_isSquare_20 : decode cX10_isSquare 20 = .ok (.ireturn, 1) := by decide +kernel
theorem dX10_fitsBook_0 : decode cX10_fitsBook 0 = .ok (.aload_n 0, 1) := by decide +kernel
theorem dX10_fitsBook_1 : decode cX10_fitsBook 1 = .ok (.getfield 268, 3) := by decide +kernel
theorem dX10_fitsBook_4 : decode cX10_fitsBook 4 = .ok (.ifCond .ne 32, 3) := by decide +kernel
theorem dX10_fitsBook_7 : decode cX10_fitsBook 7 = .ok (.aload_n 0, 1) := by decide +kernel
theorem dX10_fitsBook_8 : decode cX10_fitsBook 8 = .ok (.getfield 199, 3) := by decide +kernel
theorem dX10_fitsBook_11 : decode cX10_fitsBook 11 = .ok (.invokestatic 290, 3) := by decide +kernel
theorem dX10_fitsBook_14 : decode cX10_fitsBook 14 = .ok (.ldc2_w 295, 3) := by decide +kernel
theorem dX10_fitsBook_17 : decode cX10_fitsBook 17 = .ok (.lcmp, 1) := by decide +kernel
theorem dX10_fitsBook_18 : decode cX10_fitsBook 18 = .ok (.ifCond .gt 18, 3) := by decide +kernel
theorem dX10_fitsBook_21 : decode cX10_fitsBook 21 = .ok (.aload_n 0, 1) := by decide +kernel
theorem dX10_fitsBook_22 : decode cX10_fitsBook 22 = .ok (.getfield 202, 3) := by decide +kernel
theorem dX10_fitsBook_25 : decode cX10_fitsBook 25 = .ok (.ldc2_w 297, 3) := by decide +kernel
theorem dX10_fitsBook_28 : decode cX10_fitsBook 28 = .ok (.lcmp, 1) := by decide +kernel
theorem dX10_fitsBook_29 : decode cX10_fitsBook 29 = .ok (.ifCond .gt 7, 3) := by decide +kernel
theorem dX10_fitsBook_32 : decode cX10_fitsBook 32 = .ok (.iconst 1, 1) := by decide +kernel
theorem dX10_fitsBook_33 : decode cX10_fitsBook 33 = .ok (.goto 4, 3) := by decide +kernel
theorem dX10_fitsBook_36 : decode cX10_fitsBook 36 = .ok (.iconst 0, 1) := by decide +kernel
theorem dX10_fitsBook_37 : decode cX10_fitsBook 37 = .ok (.ireturn, 1) := by decide +kernel
theorem dX10_oneIf_0 : decode cX10_oneIf 0 = .ok (.iload_n 0, 1) := by decide +kernel
theorem dX10_oneIf_1 : decode cX10_oneIf 1 = .ok (.ifCond .eq 7, 3) := by decide +kernel
theorem dX10_oneIf_4 : decode cX10_oneIf 4 = .ok (.iconst 1, 1) := by decide +kernel
theorem dX10_oneIf_5 : decode cX10_oneIf 5 = .ok (.goto 4, 3) := by decide +kernel
theorem dX10_oneIf_8 : decode cX10_oneIf 8 = .ok (.iconst 0, 1) := by decide +kernel
theorem dX10_oneIf_9 : decode cX10_oneIf 9 = .ok (.ireturn, 1) := by decide +kernel
end
section
theorem dX11_init_0 : decode cX11_init 0 = .ok (.aload_n 0, 1) := by decide +kernel
theorem dX11_init_1 : decode cX11_init 1 = .ok (.invokespecial 1, 3) := by decide +kernel
theorem dX11_init_4 : decode cX11_init 4 = .ok (.aload_n 0, 1) := by decide +kernel
theorem dX11_init_5 : decode cX11_init 5 = .ok (.bipush 20, 2) := by decide +kernel
theorem dX11_init_7 : decode cX11_init 7 = .ok (.newarray .int, 2) := by decide +kernel
theorem dX11_init_9 : decode cX11_init 9 = .ok (.putfield 7, 3) := by decide +kernel
theorem dX11_init_12 : decode cX11_init 12 = .ok (.aload_n 0, 1) := by decide +kernel
theorem dX11_init_13 : decode cX11_init 13 = .ok (.bipush 80, 2) := by decide +kernel
theorem dX11_init_15 : decode cX11_init 15 = .ok (.newarray .int, 2) := by decide +kernel
theorem dX11_init_17 : decode cX11_init 17 = .ok (.putfield 13, 3) := by decide +kernel
theorem dX11_init_20 : decode cX11_init 20 = .ok (.aload_n 0, 1) := by decide +kernel
theorem dX11_init_21 : decode cX11_init 21 = .ok (.bipush 40, 2) := by decide +kernel
theorem dX11_init_23 : decode cX11_init 23 = .ok (.newarray .int, 2) := by decide +kernel
theorem dX11_init_25 : decode cX11_init 25 = .ok (.putfield 16, 3) := by decide +kernel
theorem dX11_init_28 : decode cX11_init 28 = .ok (.aload_n 0, 1) := by decide +kernel
theorem dX11_init_29 : decode cX11_init 29 = .ok (.sipush 401, 3) := by decide +kernel
theorem dX11_init_32 : decode cX11_init 32 = .ok (.newarray .int, 2) := by decide +kernel
theorem dX11_init_34 : decode cX11_init 34 = .ok (.putfield 19, 3) := by decide +kernel
theorem dX11_init_37 : decode cX11_init 37 = .ok (.aload_n 0, 1) := by decide +kernel
theorem dX11_init_38 : decode cX11_init 38 = .ok (.sipush 402, 3) := by decide +kernel
theorem dX11_init_41 : decode cX11_init 41 = .ok (.newarray .long, 2) := by decide +kernel
theorem dX11_init_43 : decode cX11_init 43 = .ok (.putfield 22, 3) := by decide +kernel
theorem dX11_init_46 : decode cX11_init 46 = .ok (.aload_n 0, 1) := by decide +kernel
theorem dX11_init_47 : decode cX11_init 47 = .ok (.sipush 402, 3) := by decide +kernel
theorem dX11_init_50 : decode cX11_init 50 = .ok (.newarray .long, 2) := by decide +kernel
theorem dX11_init_52 : decode cX11_init 52 = .ok (.putfield 26, 3) := by decide +kernel
theorem dX11_init_55 : decode cX11_init 55 = .ok (.aload_n 0, 1) := by decide +kernel
theorem dX11_init_56 : decode cX11_init 56 = .ok (.bipush 21, 2) := by decide +kernel
theorem dX11_init_58 : decode cX11_init 58 = .ok (.newarray .int, 2) := by decide +kernel
theorem dX11_init_60 : decode cX11_init 60 = .ok (.putfield 29, 3) := by decide +kernel
theorem dX11_init_63 : decode cX11_init 63 = .ok (.aload_n 0, 1) := by decide +kernel
theorem dX11_init_64 : decode cX11_init 64 = .ok (.getfield 7, 3) := by decide +kernel
theorem dX11_init_67 : decode cX11_init 67 = .ok (.iconst 1, 1) := by decide +kernel
theorem dX11_init_68 : decode cX11_init 68 = .ok (.iconst 2, 1) := by decide +kernel
theorem dX11_init_69 : decode cX11_init 69 = .ok (.iastore, 1) := by decide +kernel
theorem dX11_init_70 : decode cX11_init 70 = .ok (.aload_n 0, 1) := by decide +kernel
theorem dX11_init_71 : decode cX11_init 71 = .ok (.getfield 7, 3) := by decide +kernel
theorem dX11_init_74 : decode cX11_init 74 = .ok (.iconst 2, 1) := by decide +kernel
theorem dX11_init_75 : decode cX11_init 75 = .ok (.iconst 1, 1) := by decide +kernel
theorem dX11_init_76 : decode cX11_init 76 = .ok (.iastore, 1) := by decide +kernel
theorem dX11_init_77 : decode cX11_init 77 = .ok (.return_, 1) := by decide +kernel
theorem dX11_in_0 : decode cX11_in 0 = .ok (.lload_n 0, 1) := by decide +kernel
theorem dX11_in_1 : decode cX11_in 1 = .ok (.lload_n 2, 1) := by decide +kernel
theorem dX11_in_2 : decode cX11_in 2 = .ok (.lcmp, 1) := by decide +kernel
theorem dX11_in_3 : decode cX11_in 3 = .ok (.ifCond .lt 14, 3) := by decide +kernel
theorem dX11_in_6 : decode cX11_in 6 = .ok (.lload_n 0, 1) := by decide +kernel
theorem dX11_in_7 : decode cX11_in 7 = .ok (.lload 4, 2) := by decide +kernel
theorem dX11_in_9 : decode cX11_in 9 = .ok (.lcmp, 1) := by decide +kernel
theorem dX11_in_10 : decode cX11_in 10 = .ok (.ifCond .gt 7, 3) := by decide +kernel
theorem dX11_in_13 : decode cX11_in 13 = .ok (.iconst 1, 1) := by decide +kernel
theorem dX11_in_14 : decode cX11_in 14 = .ok (.goto 4, 3) := by decide +kernel
theorem dX11_in_17 : decode cX11_in 17 = .ok (.iconst 0, 1) := by decide +kernel
theorem dX11_in_18 : decode cX11_in 18 = .ok (.ireturn, 1) := by decide +kernel
theorem dX11_changes_0 : decode cX11_changes 0 = .ok (.aload_n 0, 1) := by decide +kernel
theorem dX11_changes_1 : decode cX11_changes 1 = .ok (.getfield 32, 3) := by decide +kernel
theorem dX11_changes_4 : decode cX11_changes 4 = .ok (.iconst 4, 1) := by decide +kernel
theorem dX11_changes_5 : decode cX11_changes 5 = .ok (.if_icmp .ne 42, 3) := by decide +kernel
theorem dX11_changes_8 : decode cX11_changes 8 = .ok (.iconst 0, 1) := by decide +kernel
theorem dX11_changes_9 : decode cX11_changes 9 = .ok (.istore_n 1, 1) := by decide +kernel
theorem dX11_changes_10 : decode cX11_changes 10 = .ok (.iload_n 1, 1) := by decide +kernel
theorem dX11_changes_11 : decode cX11_changes 11 = .ok (.bipush 60, 2) := by decide +kernel
theorem dX11_changes_13 : decode cX11_changes 13 = .ok (.if_icmp .ge 24, 3) := by decide +kernel
theorem dX11_changes_16 : decode cX11_changes 16 = .ok (.aload_n 0, 1) := by decide +kernel
theorem dX11_changes_17 : decode cX11_changes 17 = .ok (.getfield 13, 3) := by decide +kernel
theorem dX11_changes_20 : decode cX11_changes 20 = .ok (.iload_n 1, 1) := by decide +kernel
theorem dX11_changes_21 : decode cX11_changes 21 = .ok (.aload_n 0, 1) := by decide +kernel
theorem dX11_changes_22 : decode cX11_changes 22 = .ok (.getfield 13, 3) := by decide +kernel
theorem dX11_changes_25 : decode cX11_changes 25 = .ok (.iload_n 1, 1) := by decide +kernel
theorem dX11_changes_26 : decode cX11_changes 26 = .ok (.bipush 20, 2) := by decide +kernel
theorem dX11_changes_28 : decode cX11_changes 28 = .ok (.iadd, 1) := by decide +kernel
theorem dX11_changes_29 : decode cX11_changes 29 = .ok (.iaload, 1) := by decide +kernel
theorem dX11_changes_30 : decode cX11_changes 30 = .ok (.iastore, 1) := by decide +kernel
theorem dX11_changes_31 : decode cX11_changes 31 = .ok (.iinc 1 1, 3) := by decide +kernel
theorem dX11_changes_34 : decode cX11_changes 34 = .ok (.goto (-24), 3) := by decide +kernel
theorem dX11_changes_37 : decode cX11_changes 37 = .ok (.aload_n 0, 1) := by decide +kernel
theorem dX11_changes_38 : decode cX11_changes 38 = .ok (.dup, 1) := by decide +kernel
theorem dX11_changes_39 : decode cX11_changes 39 = .ok (.getfield 32, 3) := by decide +kernel
theorem dX11_changes_42 : decode cX11_changes 42 = .ok (.iconst 1, 1) := by decide +kernel
theorem dX11_changes_43 : decode cX11_changes 43 = .ok (.isub, 1) := by decide +kernel
theorem dX11_changes_44 : decode cX11_changes 44 = .ok (.putfield 32, 3) := by decide +kernel
theorem dX11_changes_47 : decode cX11_changes 47 = .ok (.iconst 0, 1) := by decide +kernel
theorem dX11_changes_48 : decode cX11_changes 48 = .ok (.istore_n 1, 1) := by decide +kernel
theorem dX11_changes_49 : decode cX11_changes 49 = .ok (.iload_n 1, 1) := by decide +kernel
theorem dX11_changes_50 : decode cX11_changes 50 = .ok (.bipush 20, 2) := by decide +kernel
theorem dX11_changes_52 : decode cX11_changes 52 = .ok (.if_icmp .ge 29, 3) := by decide +kernel
theorem dX11_changes_55 : decode cX11_changes 55 = .ok (.aload_n 0, 1) := by decide +kernel
theorem dX11_changes_56 : decode cX11_changes 56 = .ok (.getfield 13, 3) := by decide +kernel
theorem dX11_changes_59 : decode cX11_changes 59 = .ok (.bipush 20, 2) := by decide +kernel
theorem dX11_changes_61 : decode cX11_changes 61 = .ok (.aload_n 0, 1) := by decide +kernel
theorem dX11_changes_62 : decode cX11_changes 62 = .ok (.getfield 32, 3) := by decide +kernel
theorem dX11_changes_65 : decode cX11_changes 65 = .ok (.imul, 1) := by decide +kernel
theorem dX11_changes_66 : decode cX11_changes 66 = .ok (.iload_n 1, 1) := by decide +kernel
theorem dX11_changes_67 : decode cX11_changes 67 = .ok (.iadd, 1) := by decide +kernel
theorem dX11_changes_68 : decode cX11_changes 68 = .ok (.aload_n 0, 1) := by decide +kernel
theorem dX11_changes_69 : decode cX11_changes 69 = .ok (.getfield 7, 3) := by decide +kernel
theorem dX11_changes_72 : decode cX11_changes 72 = .ok (.iload_n 1, 1) := by decide +kernel
theorem dX11_changes_73 : decode cX11_changes 73 = .ok (.iaload, 1) := by decide +kernel
theorem dX11_changes_74 : decode cX11_changes 74 = .ok (.iastore, 1) := by decide +kernel
theorem dX11_changes_75 : decode cX11_changes 75 = .ok (.iinc 1 1, 3) := by decide +kernel
theorem dX11_changes_78 : decode cX11_changes 78 = .ok (.goto (-29), 3) := by decide +kernel
theorem dX11_changes_81 : decode cX11_changes 81 = .ok (.aload_n 0, 1) := by decide +kernel
theorem dX11_changes_82 : decode cX11_changes 82 = .ok (.dup, 1) := by decide +kernel
theorem dX11_changes_83 : decode cX11_changes 83 = .ok (.getfield 32, 3) := by decide +kernel
theorem dX11_changes_86 : decode cX11_changes 86 = .ok (.iconst 1, 1) := by decide +kernel
theorem dX11_changes_87 : decode cX11_changes 87 = .ok (.iadd, 1) := by decide +kernel
theorem dX11_changes_88 : decode cX11_changes 88 = .ok (.putfield 32, 3) := by decide +kernel
theorem dX11_changes_91 : decode cX11_changes 91 = .ok (.return_, 1) := by decide +kernel
theorem dX11_root_0 : decode cX11_root 0 = .ok (.lconst 0, 1) := by decide +kernel
theorem dX11_root_1 : decode cX11_root 1 = .ok (.lstore_n 2, 1) := by decide +kernel
theorem dX11_root_2 : decode cX11_root 2 = .ok (.ldc2_w 36, 3) := by decide +kernel
theorem dX11_root_5 : decode cX11_root 5 = .ok (.lstore 4, 2) := by decide +kernel
theorem dX11_root_7 : decode cX11_root 7 = .ok (.lload 4, 2) := by decide +kernel
theorem dX11_root_9 : decode cX11_root 9 = .ok (.lload_n 2, 1) := by decide +kernel
theorem dX11_root_10 : decode cX11_root 10 = .ok (.lsub, 1) := by decide +kernel
theorem dX11_root_11 : decode cX11_root 11 = .ok (.lconst 1, 1) := by decide +kernel
theorem dX11_root_12 : decode cX11_root 12 = .ok (.lcmp, 1) := by decide +kernel
theorem dX11_root_13 : decode cX11_root 13 = .ok (.ifCond .le 59, 3) := by decide +kernel
theorem dX11_root_16 : decode cX11_root 16 = .ok (.lload_n 2, 1) := by decide +kernel
theorem dX11_root_17 : decode cX11_root 17 = .ok (.lload 4, 2) := by decide +kernel
theorem dX11_root_19 : decode cX11_root 19 = .ok (.ladd, 1) := by decide +kernel
theorem dX11_root_20 : decode cX11_root 20 = .ok (.ldc2_w 38, 3) := by decide +kernel
theorem dX11_root_23 : decode cX11_root 23 = .ok (.ldiv, 1) := by decide +kernel
theorem dX11_root_24 : decode cX11_root 24 = .ok (.lstore 6, 2) := by decide +kernel
theorem dX11_root_26 : decode cX11_root 26 = .ok (.lload 6, 2) := by decide +kernel
theorem dX11_root_28 : decode cX11_root 28 = .ok (.lload 6, 2) := by decide +kernel
theorem dX11_root_30 : decode cX11_root 30 = .ok (.lmul, 1) := by decide +kernel
theorem dX11_root_31 : decode cX11_root 31 = .ok (.lload_n 0, 1) := by decide +kernel
theorem dX11_root_32 : decode cX11_root 32 = .ok (.lcmp, 1) := by decide +kernel
theorem dX11_root_33 : decode cX11_root 33 = .ok (.ifCond .gt 7, 3) := by decide +kernel
theorem dX11_root_36 : decode cX11_root 36 = .ok (.iconst 1, 1) := by decide +kernel
theorem dX11_root_37 : decode cX11_root 37 = .ok (.goto 4, 3) := by decide +kernel
theorem dX11_root_40 : decode cX11_root 40 = .ok (.iconst 0, 1) := by decide +kernel
theorem dX11_root_41 : decode cX11_root 41 = .ok (.istore 8, 2) := by decide +kernel
theorem dX11_root_43 : decode cX11_root 43 = .ok (.iload 8, 2) := by decide +kernel
theorem dX11_root_45 : decode cX11_root 45 = .ok (.ifCond .eq 8, 3) := by decide +kernel
theorem dX11_root_48 : decode cX11_root 48 = .ok (.lload 6, 2) := by decide +kernel
theorem dX11_root_50 : decode cX11_root 50 = .ok (.goto 4, 3) := by decide +kernel
theorem dX11_root_53 : decode cX11_root 53 = .ok (.lload_n 2, 1) := by decide +kernel
theorem dX11_root_54 : decode cX11_root 54 = .ok (.lstore_n 2, 1) := by decide +kernel
theorem dX11_root_55 : decode cX11_root 55 = .ok (.iload 8, 2) := by decide +kernel
theorem dX11_root_57 : decode cX11_root 57 = .ok (.ifCond .eq 8, 3) := by decide +kernel
theorem dX11_root_60 : decode cX11_root 60 = .ok (.lload 4, 2) := by decide +kernel
theorem dX11_root_62 : decode cX11_root 62 = .ok (.goto 5, 3) := by decide +kernel
theorem dX11_root_65 : decode cX11_root 65 = .ok (.lload 6, 2) := by decide +kernel
theorem dX11_root_67 : decode cX11_root 67 = .ok (.lstore 4, 2) := by decide +kernel
theorem dX11_root_69 : decode cX11_root 69 = .ok (.goto (-62), 3) := by decide +kernel
theorem dX11_root_72 : decode cX11_root 72 = .ok (.lload_n 2, 1) := by decide +kernel
theorem dX11_root_73 : decode cX11_root 73 = .ok (.lreturn, 1) := by decide +kernel
theorem dX11_down_0 : decode cX11_down 0 = .ok (.lload_n 0, 1) := by decide +kernel
theorem dX11_down_1 : decode cX11_down 1 = .ok (.lload_n 2, 1) := by decide +kernel
theorem dX11_down_2 : decode cX11_down 2 = .ok (.ldiv, 1) := by decide +kernel
theorem dX11_down_3 : decode cX11_down 3 = .ok (.lstore 4, 2) := by decide +kernel
theorem dX11_down_5 : decode cX11_down 5 = .ok (.lload_n 0, 1) := by decide +kernel
theorem dX11_down_6 : decode cX11_down 6 = .ok (.lload_n 2, 1) := by decide +kernel
theorem dX11_down_7 : decode cX11_down 7 = .ok (.lrem, 1) := by decide +kernel
theorem dX11_down_8 : decode cX11_down 8 = .ok (.lconst 0, 1) := by decide +kernel
theorem dX11_down_9 : decode cX11_down 9 = .ok (.lcmp, 1) := by decide +kernel
theorem dX11_down_10 : decode cX11_down 10 = .ok (.ifCond .ge 10, 3) := by decide +kernel
theorem dX11_down_13 : decode cX11_down 13 = .ok (.lload 4, 2) := by decide +kernel
theorem dX11_down_15 : decode cX11_down 15 = .ok (.lconst 1, 1) := by decide +kernel
theorem dX11_down_16 : decode cX11_down 16 = .ok (.lsub, 1) := by decide +kernel
theorem dX11_down_17 : decode cX11_down 17 = .ok (.goto 5, 3) := by decide +kernel
theorem dX11_down_20 : decode cX11_down 20 = .ok (.lload 4, 2) := by decide +kernel
theorem dX11_down_22 : decode cX11_down 22 = .ok (.lreturn, 1) := by decide +kernel
theorem dX11_surd_0 : decode cX11_surd 0 = .ok (.iload_n 1, 1) := by decide +kernel
theorem dX11_surd_1 : decode cX11_surd 1 = .ok (.i2l, 1) := by decide +kernel
theorem dX11_surd_2 : decode cX11_surd 2 = .ok (.ldc2_w 40, 3) := by decide +kernel
theorem dX11_surd_5 : decode cX11_surd 5 = .ok (.ldc2_w 42, 3) := by decide +kernel
theorem dX11_surd_8 : decode cX11_surd 8 = .ok (.invokestatic 44, 3) := by decide +kernel
theorem dX11_surd_11 : decode cX11_surd 11 = .ok (.ifCond .eq 35, 3) := by decide +kernel
theorem dX11_surd_14 : decode cX11_surd 14 = .ok (.iload_n 2, 1) := by decide +kernel
theorem dX11_surd_15 : decode cX11_surd 15 = .ok (.i2l, 1) := by decide +kernel
theorem dX11_surd_16 : decode cX11_surd 16 = .ok (.ldc2_w 38, 3) := by decide +kernel
theorem dX11_surd_19 : decode cX11_surd 19 = .ok (.ldc2_w 48, 3) := by decide +kernel
theorem dX11_surd_22 : decode cX11_surd 22 = .ok (.invokestatic 44, 3) := by decide +kernel
theorem dX11_surd_25 : decode cX11_surd 25 = .ok (.ifCond .eq 21, 3) := by decide +kernel
theorem dX11_surd_28 : decode cX11_surd 28 = .ok (.iload_n 3, 1) := by decide +kernel
theorem dX11_surd_29 : decode cX11_surd 29 = .ok (.i2l, 1) := by decide +kernel
theorem dX11_surd_30 : decode cX11_surd 30 = .ok (.ldc2_w 40, 3) := by decide +kernel
theorem dX11_surd_33 : decode cX11_surd 33 = .ok (.ldc2_w 42, 3) := by decide +kernel
theorem dX11_surd_36 : decode cX11_surd 36 = .ok (.invokestatic 44, 3) := by decide +kernel
theorem dX11_surd_39 : decode cX11_surd 39 = .ok (.ifCond .eq 7, 3) := by decide +kernel
theorem dX11_surd_42 : decode cX11_surd 42 = .ok (.iload_n 3, 1) := by decide +kernel
theorem dX11_surd_43 : decode cX11_surd 43 = .ok (.ifCond .ne 6, 3) := by decide +kernel
theorem dX11_surd_46 : decode cX11_surd 46 = .ok (.ldc 50, 2) := by decide +kernel
theorem dX11_surd_48 : decode cX11_surd 48 = .ok (.ireturn, 1) := by decide +kernel
theorem dX11_surd_49 : decode cX11_surd 49 = .ok (.iload_n 2, 1) := by decide +kernel
theorem dX11_surd_50 : decode cX11_surd 50 = .ok (.i2l, 1) := by decide +kernel
theorem dX11_surd_51 : decode cX11_surd 51 = .ok (.invokestatic 51, 3) := by decide +kernel
theorem dX11_surd_54 : decode cX11_surd 54 = .ok (.lstore 4, 2) := by decide +kernel
theorem dX11_surd_56 : decode cX11_surd 56 = .ok (.lload 4, 2) := by decide +kernel
theorem dX11_surd_58 : decode cX11_surd 58 = .ok (.lload 4, 2) := by decide +kernel
theorem dX11_surd_60 : decode cX11_surd 60 = .ok (.lmul, 1) := by decide +kernel
theorem dX11_surd_61 : decode cX11_surd 61 = .ok (.iload_n 2, 1) := by decide +kernel
theorem dX11_surd_62 : decode cX11_surd 62 = .ok (.i2l, 1) := by decide +kernel
theorem dX11_surd_63 : decode cX11_surd 63 = .ok (.lcmp, 1) := by decide +kernel
theorem dX11_surd_64 : decode cX11_surd 64 = .ok (.ifCond .ne 6, 3) := by decide +kernel
theorem dX11_surd_67 : decode cX11_surd 67 = .ok (.ldc 55, 2) := by decide +kernel
theorem dX11_surd_69 : decode cX11_surd 69 = .ok (.ireturn, 1) := by decide +kernel
theorem dX11_surd_70 : decode cX11_surd 70 = .ok (.aload_n 0, 1) := by decide +kernel
theorem dX11_surd_71 : decode cX11_surd 71 = .ok (.invokevirtual 56, 3) := by decide +kernel
theorem dX11_surd_74 : decode cX11_surd 74 = .ok (.aload_n 0, 1) := by decide +kernel
theorem dX11_surd_75 : decode cX11_surd 75 = .ok (.getfield 7, 3) := by decide +kernel
theorem dX11_surd_78 : decode cX11_surd 78 = .ok (.iconst 0, 1) := by decide +kernel
theorem dX11_surd_79 : decode cX11_surd 79 = .ok (.iload_n 1, 1) := by decide +kernel
theorem dX11_surd_80 : decode cX11_surd 80 = .ok (.iastore, 1) := by decide +kernel
theorem dX11_surd_81 : decode cX11_surd 81 = .ok (.aload_n 0, 1) := by decide +kernel
theorem dX11_surd_82 : decode cX11_surd 82 = .ok (.getfield 7, 3) := by decide +kernel
theorem dX11_surd_85 : decode cX11_surd 85 = .ok (.iconst 1, 1) := by decide +kernel
theorem dX11_surd_86 : decode cX11_surd 86 = .ok (.iload_n 2, 1) := by decide +kernel
theorem dX11_surd_87 : decode cX11_surd 87 = .ok (.iastore, 1) := by decide +kernel
theorem dX11_surd_88 : decode cX11_surd 88 = .ok (.aload_n 0, 1) := by decide +kernel
theorem dX11_surd_89 : decode cX11_surd 89 = .ok (.getfield 7, 3) := by decide +kernel
theorem dX11_surd_92 : decode cX11_surd 92 = .ok (.iconst 2, 1) := by decide +kernel
theorem dX11_surd_93 : decode cX11_surd 93 = .ok (.iload_n 3, 1) := by decide +kernel
theorem dX11_surd_94 : decode cX11_surd 94 = .ok (.iastore, 1) := by decide +kernel
theorem dX11_surd_95 : decode cX11_surd 95 = .ok (.iconst 0, 1) := by decide +kernel
theorem dX11_surd_96 : decode cX11_surd 96 = .ok (.ireturn, 1) := by decide +kernel
theorem dX11_partOf_0 : decode cX11_partOf 0 = .ok (.iload_n 1, 1) := by decide +kernel
theorem dX11_partOf_1 : decode cX11_partOf 1 = .ok (.i2l, 1) := by decide +kernel
theorem dX11_partOf_2 : decode cX11_partOf 2 = .ok (.lconst 0, 1) := by decide +kernel
theorem dX11_partOf_3 : decode cX11_partOf 3 = .ok (.ldc2_w 38, 3) := by decide +kernel
theorem dX11_partOf_6 : decode cX11_partOf 6 = .ok (.invokestatic 44, 3) := by decide +kernel
theorem dX11_partOf_9 : decode cX11_partOf 9 = .ok (.ifCond .eq 16, 3) := by decide +kernel
theorem dX11_partOf_12 : decode cX11_partOf 12 = .ok (.aload_n 0, 1) := by decide +kernel
theorem dX11_partOf_13 : decode cX11_partOf 13 = .ok (.getfield 7, 3) := by decide +kernel
theorem dX11_partOf_16 : decode cX11_partOf 16 = .ok (.iload_n 1, 1) := by decide +kernel
theorem dX11_partOf_17 : decode cX11_partOf 17 = .ok (.iaload, 1) := by decide +kernel
theorem dX11_partOf_18 : decode cX11_partOf 18 = .ok (.sipush 1000, 3) := by decide +kernel
theorem dX11_partOf_21 : decode cX11_partOf 21 = .ok (.iadd, 1) := by decide +kernel
theorem dX11_partOf_22 : decode cX11_partOf 22 = .ok (.goto 5, 3) := by decide +kernel
theorem dX11_partOf_25 : decode cX11_partOf 25 = .ok (.ldc 50, 2) := by decide +kernel
theorem dX11_partOf_27 : decode cX11_partOf 27 = .ok (.ireturn, 1) := by decide +kernel
theorem dX11_laysOf_0 : decode cX11_laysOf 0 = .ok (.lload_n 3, 1) := by decide +kernel
theorem dX11_laysOf_1 : decode cX11_laysOf 1 = .ok (.invokestatic 51, 3) := by decide +kernel
theorem dX11_laysOf_4 : decode cX11_laysOf 4 = .ok (.lstore 7, 2) := by decide +kernel
theorem dX11_laysOf_6 : decode cX11_laysOf 6 = .ok (.aload_n 0, 1) := by decide +kernel
theorem dX11_laysOf_7 : decode cX11_laysOf 7 = .ok (.getfield 22, 3) := by decide +kernel
theorem dX11_laysOf_10 : decode cX11_laysOf 10 = .ok (.iconst 0, 1) := by decide +kernel
theorem dX11_laysOf_11 : decode cX11_laysOf 11 = .ok (.lload_n 1, 1) := by decide +kernel
theorem dX11_laysOf_12 : decode cX11_laysOf 12 = .ok (.lastore, 1) := by decide +kernel
theorem dX11_laysOf_13 : decode cX11_laysOf 13 = .ok (.aload_n 0, 1) := by decide +kernel
theorem dX11_laysOf_14 : decode cX11_laysOf 14 = .ok (.getfield 26, 3) := by decide +kernel
theorem dX11_laysOf_17 : decode cX11_laysOf 17 = .ok (.iconst 0, 1) := by decide +kernel
theorem dX11_laysOf_18 : decode cX11_laysOf 18 = .ok (.lload 5, 2) := by decide +kernel
theorem dX11_laysOf_20 : decode cX11_laysOf 20 = .ok (.lastore, 1) := by decide +kernel
theorem dX11_laysOf_21 : decode cX11_laysOf 21 = .ok (.iconst 0, 1) := by decide +kernel
theorem dX11_laysOf_22 : decode cX11_laysOf 22 = .ok (.istore 9, 2) := by decide +kernel
theorem dX11_laysOf_24 : decode cX11_laysOf 24 = .ok (.iload 9, 2) := by decide +kernel
theorem dX11_laysOf_26 : decode cX11_laysOf 26 = .ok (.sipush 400, 3) := by decide +kernel
theorem dX11_laysOf_29 : decode cX11_laysOf 29 = .ok (.if_icmp .gt 157, 3) := by decide +kernel
theorem dX11_laysOf_32 : decode cX11_laysOf 32 = .ok (.aload_n 0, 1) := by decide +kernel
theorem dX11_laysOf_33 : decode cX11_laysOf 33 = .ok (.getfield 26, 3) := by decide +kernel
theorem dX11_laysOf_36 : decode cX11_laysOf 36 = .ok (.iload 9, 2) := by decide +kernel
theorem dX11_laysOf_38 : decode cX11_laysOf 38 = .ok (.laload, 1) := by decide +kernel
theorem dX11_laysOf_39 : decode cX11_laysOf 39 = .ok (.lconst 0, 1) := by decide +kernel
theorem dX11_laysOf_40 : decode cX11_laysOf 40 = .ok (.lcmp, 1) := by decide +kernel
theorem dX11_laysOf_41 : decode cX11_laysOf 41 = .ok (.ifCond .ge 14, 3) := by decide +kernel
theorem dX11_laysOf_44 : decode cX11_laysOf 44 = .ok (.aload_n 0, 1) := by decide +kernel
theorem dX11_laysOf_45 : decode cX11_laysOf 45 = .ok (.getfield 26, 3) := by decide +kernel
theorem dX11_laysOf_48 : decode cX11_laysOf 48 = .ok (.iload 9, 2) := by decide +kernel
theorem dX11_laysOf_50 : decode cX11_laysOf 50 = .ok (.laload, 1) := by decide +kernel
theorem dX11_laysOf_51 : decode cX11_laysOf 51 = .ok (.lneg, 1) := by decide +kernel
theorem dX11_laysOf_52 : decode cX11_laysOf 52 = .ok (.goto 10, 3) := by decide +kernel
theorem dX11_laysOf_55 : decode cX11_laysOf 55 = .ok (.aload_n 0, 1) := by decide +kernel
theorem dX11_laysOf_56 : decode cX11_laysOf 56 = .ok (.getfield 26, 3) := by decide +kernel
theorem dX11_laysOf_59 : decode cX11_laysOf 59 = .ok (.iload 9, 2) := by decide +kernel
theorem dX11_laysOf_61 : decode cX11_laysOf 61 = .ok (.laload, 1) := by decide +kernel
theorem dX11_laysOf_62 : decode cX11_laysOf 62 = .ok (.lstore 10, 2) := by decide +kernel
theorem dX11_laysOf_64 : decode cX11_laysOf 64 = .ok (.aload_n 0, 1) := by decide +kernel
theorem dX11_laysOf_65 : decode cX11_laysOf 65 = .ok (.getfield 22, 3) := by decide +kernel
theorem dX11_laysOf_68 : decode cX11_laysOf 68 = .ok (.iload 9, 2) := by decide +kernel
theorem dX11_laysOf_70 : decode cX11_laysOf 70 = .ok (.laload, 1) := by decide +kernel
theorem dX11_laysOf_71 : decode cX11_laysOf 71 = .ok (.lload 7, 2) := by decide +kernel
theorem dX11_laysOf_73 : decode cX11_laysOf 73 = .ok (.ladd, 1) := by decide +kernel
theorem dX11_laysOf_74 : decode cX11_laysOf 74 = .ok (.lload 10, 2) := by decide +kernel
theorem dX11_laysOf_76 : decode cX11_laysOf 76 = .ok (.invokestatic 59, 3) := by decide +kernel
theorem dX11_laysOf_79 : decode cX11_laysOf 79 = .ok (.lstore 12, 2) := by decide +kernel
theorem dX11_laysOf_81 : decode cX11_laysOf 81 = .ok (.aload_n 0, 1) := by decide +kernel
theorem dX11_laysOf_82 : decode cX11_laysOf 82 = .ok (.getfield 26, 3) := by decide +kernel
theorem dX11_laysOf_85 : decode cX11_laysOf 85 = .ok (.iload 9, 2) := by decide +kernel
theorem dX11_laysOf_87 : decode cX11_laysOf 87 = .ok (.laload, 1) := by decide +kernel
theorem dX11_laysOf_88 : decode cX11_laysOf 88 = .ok (.lconst 0, 1) := by decide +kernel
theorem dX11_laysOf_89 : decode cX11_laysOf 89 = .ok (.lcmp, 1) := by decide +kernel
theorem dX11_laysOf_90 : decode cX11_laysOf 90 = .ok (.ifCond .ge 11, 3) := by decide +kernel
theorem dX11_laysOf_93 : decode cX11_laysOf 93 = .ok (.lload 12, 2) := by decide +kernel
theorem dX11_laysOf_95 : decode cX11_laysOf 95 = .ok (.lneg, 1) := by decide +kernel
theorem dX11_laysOf_96 : decode cX11_laysOf 96 = .ok (.lconst 1, 1) := by decide +kernel
theorem dX11_laysOf_97 : decode cX11_laysOf 97 = .ok (.lsub, 1) := by decide +kernel
theorem dX11_laysOf_98 : decode cX11_laysOf 98 = .ok (.goto 5, 3) := by decide +kernel
theorem dX11_laysOf_101 : decode cX11_laysOf 101 = .ok (.lload 12, 2) := by decide +kernel
theorem dX11_laysOf_103 : decode cX11_laysOf 103 = .ok (.lstore 14, 2) := by decide +kernel
theorem dX11_laysOf_105 : decode cX11_laysOf 105 = .ok (.aload_n 0, 1) := by decide +kernel
theorem dX11_laysOf_106 : decode cX11_laysOf 106 = .ok (.getfield 19, 3) := by decide +kernel
theorem dX11_laysOf_109 : decode cX11_laysOf 109 = .ok (.iload 9, 2) := by decide +kernel
theorem dX11_laysOf_111 : decode cX11_laysOf 111 = .ok (.lload 14, 2) := by decide +kernel
theorem dX11_laysOf_113 : decode cX11_laysOf 113 = .ok (.l2i, 1) := by decide +kernel
theorem dX11_laysOf_114 : decode cX11_laysOf 114 = .ok (.iastore, 1) := by decide +kernel
theorem dX11_laysOf_115 : decode cX11_laysOf 115 = .ok (.aload_n 0, 1) := by decide +kernel
theorem dX11_laysOf_116 : decode cX11_laysOf 116 = .ok (.getfield 22, 3) := by decide +kernel
theorem dX11_laysOf_119 : decode cX11_laysOf 119 = .ok (.iload 9, 2) := by decide +kernel
theorem dX11_laysOf_121 : decode cX11_laysOf 121 = .ok (.iconst 1, 1) := by decide +kernel
theorem dX11_laysOf_122 : decode cX11_laysOf 122 = .ok (.iadd, 1) := by decide +kernel
theorem dX11_laysOf_123 : decode cX11_laysOf 123 = .ok (.lload 14, 2) := by decide +kernel
theorem dX11_laysOf_125 : decode cX11_laysOf 125 = .ok (.aload_n 0, 1) := by decide +kernel
theorem dX11_laysOf_126 : decode cX11_laysOf 126 = .ok (.getfield 26, 3) := by decide +kernel
theorem dX11_laysOf_129 : decode cX11_laysOf 129 = .ok (.iload 9, 2) := by decide +kernel
theorem dX11_laysOf_131 : decode cX11_laysOf 131 = .ok (.laload, 1) := by decide +kernel
theorem dX11_laysOf_132 : decode cX11_laysOf 132 = .ok (.lmul, 1) := by decide +kernel
theorem dX11_laysOf_133 : decode cX11_laysOf 133 = .ok (.aload_n 0, 1) := by decide +kernel
theorem dX11_laysOf_134 : decode cX11_laysOf 134 = .ok (.getfield 22, 3) := by decide +kernel
theorem dX11_laysOf_137 : decode cX11_laysOf 137 = .ok (.iload 9, 2) := by decide +kernel
theorem dX11_laysOf_139 : decode cX11_laysOf 139 = .ok (.laload, 1) := by decide +kernel
theorem dX11_laysOf_140 : decode cX11_laysOf 140 = .ok (.lsub, 1) := by decide +kernel
theorem dX11_laysOf_141 : decode cX11_laysOf 141 = .ok (.lastore, 1) := by decide +kernel
theorem dX11_laysOf_142 : decode cX11_laysOf 142 = .ok (.aload_n 0, 1) := by decide +kernel
theorem dX11_laysOf_143 : decode cX11_laysOf 143 = .ok (.getfield 26, 3) := by decide +kernel
theorem dX11_laysOf_146 : decode cX11_laysOf 146 = .ok (.iload 9, 2) := by decide +kernel
theorem dX11_laysOf_148 : decode cX11_laysOf 148 = .ok (.iconst 1, 1) := by decide +kernel
theorem dX11_laysOf_149 : decode cX11_laysOf 149 = .ok (.iadd, 1) := by decide +kernel
theorem dX11_laysOf_150 : decode cX11_laysOf 150 = .ok (.lload_n 3, 1) := by decide +kernel
theorem dX11_laysOf_151 : decode cX11_laysOf 151 = .ok (.aload_n 0, 1) := by decide +kernel
theorem dX11_laysOf_152 : decode cX11_laysOf 152 = .ok (.getfield 22, 3) := by decide +kernel
theorem dX11_laysOf_155 : decode cX11_laysOf 155 = .ok (.iload 9, 2) := by decide +kernel
theorem dX11_laysOf_157 : decode cX11_laysOf 157 = .ok (.iconst 1, 1) := by decide +kernel
theorem dX11_laysOf_158 : decode cX11_laysOf 158 = .ok (.iadd, 1) := by decide +kernel
theorem dX11_laysOf_159 : decode cX11_laysOf 159 = .ok (.laload, 1) := by decide +kernel
theorem dX11_laysOf_160 : decode cX11_laysOf 160 = .ok (.aload_n 0, 1) := by decide +kernel
theorem dX11_laysOf_161 : decode cX11_laysOf 161 = .ok (.getfield 22, 3) := by decide +kernel
theorem dX11_laysOf_164 : decode cX11_laysOf 164 = .ok (.iload 9, 2) := by decide +kernel
theorem dX11_laysOf_166 : decode cX11_laysOf 166 = .ok (.iconst 1, 1) := by decide +kernel
theorem dX11_laysOf_167 : decode cX11_laysOf 167 = .ok (.iadd, 1) := by decide +kernel
theorem dX11_laysOf_168 : decode cX11_laysOf 168 = .ok (.laload, 1) := by decide +kernel
theorem dX11_laysOf_169 : decode cX11_laysOf 169 = .ok (.lmul, 1) := by decide +kernel
theorem dX11_laysOf_170 : decode cX11_laysOf 170 = .ok (.lsub, 1) := by decide +kernel
theorem dX11_laysOf_171 : decode cX11_laysOf 171 = .ok (.aload_n 0, 1) := by decide +kernel
theorem dX11_laysOf_172 : decode cX11_laysOf 172 = .ok (.getfield 26, 3) := by decide +kernel
theorem dX11_laysOf_175 : decode cX11_laysOf 175 = .ok (.iload 9, 2) := by decide +kernel
theorem dX11_laysOf_177 : decode cX11_laysOf 177 = .ok (.laload, 1) := by decide +kernel
theorem dX11_laysOf_178 : decode cX11_laysOf 178 = .ok (.ldiv, 1) := by decide +kernel
theorem dX11_laysOf_179 : decode cX11_laysOf 179 = .ok (.lastore, 1) := by decide +kernel
theorem dX11_laysOf_180 : decode cX11_laysOf 180 = .ok (.iinc 9 1, 3) := by decide +kernel
theorem dX11_laysOf_183 : decode cX11_laysOf 183 = .ok (.goto (-159), 3) := by decide +kernel
theorem dX11_laysOf_186 : decode cX11_laysOf 186 = .ok (.return_, 1) := by decide +kernel
theorem dX11_lays_0 : decode cX11_lays 0 = .ok (.aload_n 0, 1) := by decide +kernel
theorem dX11_lays_1 : decode cX11_lays 1 = .ok (.getfield 7, 3) := by decide +kernel
theorem dX11_lays_4 : decode cX11_lays 4 = .ok (.iconst 2, 1) := by decide +kernel
theorem dX11_lays_5 : decode cX11_lays 5 = .ok (.iaload, 1) := by decide +kernel
theorem dX11_lays_6 : decode cX11_lays 6 = .ok (.ifCond .ge 14, 3) := by decide +kernel
theorem dX11_lays_9 : decode cX11_lays 9 = .ok (.aload_n 0, 1) := by decide +kernel
theorem dX11_lays_10 : decode cX11_lays 10 = .ok (.getfield 7, 3) := by decide +kernel
theorem dX11_lays_13 : decode cX11_lays 13 = .ok (.iconst 2, 1) := by decide +kernel
theorem dX11_lays_14 : decode cX11_lays 14 = .ok (.iaload, 1) := by decide +kernel
theorem dX11_lays_15 : decode cX11_lays 15 = .ok (.ineg, 1) := by decide +kernel
theorem dX11_lays_16 : decode cX11_lays 16 = .ok (.i2l, 1) := by decide +kernel
theorem dX11_lays_17 : decode cX11_lays 17 = .ok (.goto 10, 3) := by decide +kernel
theorem dX11_lays_20 : decode cX11_lays 20 = .ok (.aload_n 0, 1) := by decide +kernel
theorem dX11_lays_21 : decode cX11_lays 21 = .ok (.getfield 7, 3) := by decide +kernel
theorem dX11_lays_24 : decode cX11_lays 24 = .ok (.iconst 2, 1) := by decide +kernel
theorem dX11_lays_25 : decode cX11_lays 25 = .ok (.iaload, 1) := by decide +kernel
theorem dX11_lays_26 : decode cX11_lays 26 = .ok (.i2l, 1) := by decide +kernel
theorem dX11_lays_27 : decode cX11_lays 27 = .ok (.lstore_n 1, 1) := by decide +kernel
theorem dX11_lays_28 : decode cX11_lays 28 = .ok (.aload_n 0, 1) := by decide +kernel
theorem dX11_lays_29 : decode cX11_lays 29 = .ok (.aload_n 0, 1) := by decide +kernel
theorem dX11_lays_30 : decode cX11_lays 30 = .ok (.getfield 7, 3) := by decide +kernel
theorem dX11_lays_33 : decode cX11_lays 33 = .ok (.iconst 0, 1) := by decide +kernel
theorem dX11_lays_34 : decode cX11_lays 34 = .ok (.iaload, 1) := by decide +kernel
theorem dX11_lays_35 : decode cX11_lays 35 = .ok (.i2l, 1) := by decide +kernel
theorem dX11_lays_36 : decode cX11_lays 36 = .ok (.lload_n 1, 1) := by decide +kernel
theorem dX11_lays_37 : decode cX11_lays 37 = .ok (.lmul, 1) := by decide +kernel
theorem dX11_lays_38 : decode cX11_lays 38 = .ok (.aload_n 0, 1) := by decide +kernel
theorem dX11_lays_39 : decode cX11_lays 39 = .ok (.getfield 7, 3) := by decide +kernel
theorem dX11_lays_42 : decode cX11_lays 42 = .ok (.iconst 1, 1) := by decide +kernel
theorem dX11_lays_43 : decode cX11_lays 43 = .ok (.iaload, 1) := by decide +kernel
theorem dX11_lays_44 : decode cX11_lays 44 = .ok (.i2l, 1) := by decide +kernel
theorem dX11_lays_45 : decode cX11_lays 45 = .ok (.lload_n 1, 1) := by decide +kernel
theorem dX11_lays_46 : decode cX11_lays 46 = .ok (.lmul, 1) := by decide +kernel
theorem dX11_lays_47 : decode cX11_lays 47 = .ok (.lload_n 1, 1) := by decide +kernel
theorem dX11_lays_48 : decode cX11_lays 48 = .ok (.lmul, 1) := by decide +kernel
theorem dX11_lays_49 : decode cX11_lays 49 = .ok (.aload_n 0, 1) := by decide +kernel
theorem dX11_lays_50 : decode cX11_lays 50 = .ok (.getfield 7, 3) := by decide +kernel
theorem dX11_lays_53 : decode cX11_lays 53 = .ok (.iconst 2, 1) := by decide +kernel
theorem dX11_lays_54 : decode cX11_lays 54 = .ok (.iaload, 1) := by decide +kernel
theorem dX11_lays_55 : decode cX11_lays 55 = .ok (.i2l, 1) := by decide +kernel
theorem dX11_lays_56 : decode cX11_lays 56 = .ok (.lload_n 1, 1) := by decide +kernel
theorem dX11_lays_57 : decode cX11_lays 57 = .ok (.lmul, 1) := by decide +kernel
theorem dX11_lays_58 : decode cX11_lays 58 = .ok (.invokevirtual 63, 3) := by decide +kernel
theorem dX11_lays_61 : decode cX11_lays 61 = .ok (.return_, 1) := by decide +kernel
theorem dX11_term_0 : decode cX11_term 0 = .ok (.iload_n 1, 1) := by decide +kernel
theorem dX11_term_1 : decode cX11_term 1 = .ok (.i2l, 1) := by decide +kernel
theorem dX11_term_2 : decode cX11_term 2 = .ok (.lconst 0, 1) := by decide +kernel
theorem dX11_term_3 : decode cX11_term 3 = .ok (.ldc2_w 67, 3) := by decide +kernel
theorem dX11_term_6 : decode cX11_term 6 = .ok (.invokestatic 44, 3) := by decide +kernel
theorem dX11_term_9 : decode cX11_term 9 = .ok (.ifCond .ne 6, 3) := by decide +kernel
theorem dX11_term_12 : decode cX11_term 12 = .ok (.ldc 50, 2) := by decide +kernel
theorem dX11_term_14 : decode cX11_term 14 = .ok (.ireturn, 1) := by decide +kernel
theorem dX11_term_15 : decode cX11_term 15 = .ok (.aload_n 0, 1) := by decide +kernel
theorem dX11_term_16 : decode cX11_term 16 = .ok (.invokevirtual 69, 3) := by decide +kernel
theorem dX11_term_19 : decode cX11_term 19 = .ok (.aload_n 0, 1) := by decide +kernel
theorem dX11_term_20 : decode cX11_term 20 = .ok (.getfield 19, 3) := by decide +kernel
theorem dX11_term_23 : decode cX11_term 23 = .ok (.iload_n 1, 1) := by decide +kernel
theorem dX11_term_24 : decode cX11_term 24 = .ok (.iaload, 1) := by decide +kernel
theorem dX11_term_25 : decode cX11_term 25 = .ok (.sipush 1000, 3) := by decide +kernel
theorem dX11_term_28 : decode cX11_term 28 = .ok (.iadd, 1) := by decide +kernel
theorem dX11_term_29 : decode cX11_term 29 = .ok (.ireturn, 1) := by decide +kernel
theorem dX11_period_0 : decode cX11_period 0 = .ok (.aload_n 0, 1) := by decide +kernel
theorem dX11_period_1 : decode cX11_period 1 = .ok (.invokevirtual 69, 3) := by decide +kernel
theorem dX11_period_4 : decode cX11_period 4 = .ok (.iconst 1, 1) := by decide +kernel
theorem dX11_period_5 : decode cX11_period 5 = .ok (.istore_n 1, 1) := by decide +kernel
theorem dX11_period_6 : decode cX11_period 6 = .ok (.iload_n 1, 1) := by decide +kernel
theorem dX11_period_7 : decode cX11_period 7 = .ok (.sipush 400, 3) := by decide +kernel
theorem dX11_period_10 : decode cX11_period 10 = .ok (.if_icmp .gt 63, 3) := by decide +kernel
theorem dX11_period_13 : decode cX11_period 13 = .ok (.iconst 0, 1) := by decide +kernel
theorem dX11_period_14 : decode cX11_period 14 = .ok (.istore_n 2, 1) := by decide +kernel
theorem dX11_period_15 : decode cX11_period 15 = .ok (.iload_n 2, 1) := by decide +kernel
theorem dX11_period_16 : decode cX11_period 16 = .ok (.iload_n 1, 1) := by decide +kernel
theorem dX11_period_17 : decode cX11_period 17 = .ok (.if_icmp .ge 50, 3) := by decide +kernel
theorem dX11_period_20 : decode cX11_period 20 = .ok (.aload_n 0, 1) := by decide +kernel
theorem dX11_period_21 : decode cX11_period 21 = .ok (.getfield 22, 3) := by decide +kernel
theorem dX11_period_24 : decode cX11_period 24 = .ok (.iload_n 2, 1) := by decide +kernel
theorem dX11_period_25 : decode cX11_period 25 = .ok (.laload, 1) := by decide +kernel
theorem dX11_period_26 : decode cX11_period 26 = .ok (.aload_n 0, 1) := by decide +kernel
theorem dX11_period_27 : decode cX11_period 27 = .ok (.getfield 22, 3) := by decide +kernel
theorem dX11_period_30 : decode cX11_period 30 = .ok (.iload_n 1, 1) := by decide +kernel
theorem dX11_period_31 : decode cX11_period 31 = .ok (.laload, 1) := by decide +kernel
theorem dX11_period_32 : decode cX11_period 32 = .ok (.lcmp, 1) := by decide +kernel
theorem dX11_period_33 : decode cX11_period 33 = .ok (.ifCond .ne 28, 3) := by decide +kernel
theorem dX11_period_36 : decode cX11_period 36 = .ok (.aload_n 0, 1) := by decide +kernel
theorem dX11_period_37 : decode cX11_period 37 = .ok (.getfield 26, 3) := by decide +kernel
theorem dX11_period_40 : decode cX11_period 40 = .ok (.iload_n 2, 1) := by decide +kernel
theorem dX11_period_41 : decode cX11_period 41 = .ok (.laload, 1) := by decide +kernel
theorem dX11_period_42 : decode cX11_period 42 = .ok (.aload_n 0, 1) := by decide +kernel
theorem dX11_period_43 : decode cX11_period 43 = .ok (.getfield 26, 3) := by decide +kernel
theorem dX11_period_46 : decode cX11_period 46 = .ok (.iload_n 1, 1) := by decide +kernel
theorem dX11_period_47 : decode cX11_period 47 = .ok (.laload, 1) := by decide +kernel
theorem dX11_period_48 : decode cX11_period 48 = .ok (.lcmp, 1) := by decide +kernel
theorem dX11_period_49 : decode cX11_period 49 = .ok (.ifCond .ne 12, 3) := by decide +kernel
theorem dX11_period_52 : decode cX11_period 52 = .ok (.aload_n 0, 1) := by decide +kernel
theorem dX11_period_53 : decode cX11_period 53 = .ok (.iload_n 2, 1) := by decide +kernel
theorem dX11_period_54 : decode cX11_period 54 = .ok (.putfield 72, 3) := by decide +kernel
theorem dX11_period_57 : decode cX11_period 57 = .ok (.iload_n 1, 1) := by decide +kernel
theorem dX11_period_58 : decode cX11_period 58 = .ok (.iload_n 2, 1) := by decide +kernel
theorem dX11_period_59 : decode cX11_period 59 = .ok (.isub, 1) := by decide +kernel
theorem dX11_period_60 : decode cX11_period 60 = .ok (.ireturn, 1) := by decide +kernel
theorem dX11_period_61 : decode cX11_period 61 = .ok (.iinc 2 1, 3) := by decide +kernel
theorem dX11_period_64 : decode cX11_period 64 = .ok (.goto (-49), 3) := by decide +kernel
theorem dX11_period_67 : decode cX11_period 67 = .ok (.iinc 1 1, 3) := by decide +kernel
theorem dX11_period_70 : decode cX11_period 70 = .ok (.goto (-64), 3) := by decide +kernel
theorem dX11_period_73 : decode cX11_period 73 = .ok (.iconst 0, 1) := by decide +kernel
theorem dX11_period_74 : decode cX11_period 74 = .ok (.ireturn, 1) := by decide +kernel
theorem dX11_greatest_0 : decode cX11_greatest 0 = .ok (.iconst 0, 1) := by decide +kernel
theorem dX11_greatest_1 : decode cX11_greatest 1 = .ok (.istore_n 2, 1) := by decide +kernel
theorem dX11_greatest_2 : decode cX11_greatest 2 = .ok (.aload_n 0, 1) := by decide +kernel
theorem dX11_greatest_3 : decode cX11_greatest 3 = .ok (.getfield 72, 3) := by decide +kernel
theorem dX11_greatest_6 : decode cX11_greatest 6 = .ok (.istore_n 3, 1) := by decide +kernel
theorem dX11_greatest_7 : decode cX11_greatest 7 = .ok (.iload_n 3, 1) := by decide +kernel
theorem dX11_greatest_8 : decode cX11_greatest 8 = .ok (.aload_n 0, 1) := by decide +kernel
theorem dX11_greatest_9 : decode cX11_greatest 9 = .ok (.getfield 72, 3) := by decide +kernel
theorem dX11_greatest_12 : decode cX11_greatest 12 = .ok (.iload_n 1, 1) := by decide +kernel
theorem dX11_greatest_13 : decode cX11_greatest 13 = .ok (.iadd, 1) := by decide +kernel
theorem dX11_greatest_14 : decode cX11_greatest 14 = .ok (.if_icmp .ge 30, 3) := by decide +kernel
theorem dX11_greatest_17 : decode cX11_greatest 17 = .ok (.aload_n 0, 1) := by decide +kernel
theorem dX11_greatest_18 : decode cX11_greatest 18 = .ok (.getfield 19, 3) := by decide +kernel
theorem dX11_greatest_21 : decode cX11_greatest 21 = .ok (.iload_n 3, 1) := by decide +kernel
theorem dX11_greatest_22 : decode cX11_greatest 22 = .ok (.iaload, 1) := by decide +kernel
theorem dX11_greatest_23 : decode cX11_greatest 23 = .ok (.iload_n 2, 1) := by decide +kernel
theorem dX11_greatest_24 : decode cX11_greatest 24 = .ok (.if_icmp .le 12, 3) := by decide +kernel
theorem dX11_greatest_27 : decode cX11_greatest 27 = .ok (.aload_n 0, 1) := by decide +kernel
theorem dX11_greatest_28 : decode cX11_greatest 28 = .ok (.getfield 19, 3) := by decide +kernel
theorem dX11_greatest_31 : decode cX11_greatest 31 = .ok (.iload_n 3, 1) := by decide +kernel
theorem dX11_greatest_32 : decode cX11_greatest 32 = .ok (.iaload, 1) := by decide +kernel
theorem dX11_greatest_33 : decode cX11_greatest 33 = .ok (.goto 4, 3) := by decide +kernel
theorem dX11_greatest_36 : decode cX11_greatest 36 = .ok (.iload_n 2, 1) := by decide +kernel
theorem dX11_greatest_37 : decode cX11_greatest 37 = .ok (.istore_n 2, 1) := by decide +kernel
theorem dX11_greatest_38 : decode cX11_greatest 38 = .ok (.iinc 3 1, 3) := by decide +kernel
theorem dX11_greatest_41 : decode cX11_greatest 41 = .ok (.goto (-34), 3) := by decide +kernel
theorem dX11_greatest_44 : decode cX11_greatest 44 = .ok (.iload_n 2, 1) := by decide +kernel
theorem dX11_greatest_45 : decode cX11_greatest 45 = .ok (.ireturn, 1) := by decide +kernel
theorem dX11_unlike_0 : decode cX11_unlike 0 = .ok (.iconst 0, 1) := by decide +kernel
theorem dX11_unlike_1 : decode cX11_unlike 1 = .ok (.istore_n 2, 1) := by decide +kernel
theorem dX11_unlike_2 : decode cX11_unlike 2 = .ok (.aload_n 0, 1) := by decide +kernel
theorem dX11_unlike_3 : decode cX11_unlike 3 = .ok (.getfield 72, 3) := by decide +kernel
theorem dX11_unlike_6 : decode cX11_unlike 6 = .ok (.istore_n 3, 1) := by decide +kernel
theorem dX11_unlike_7 : decode cX11_unlike 7 = .ok (.iload_n 3, 1) := by decide +kernel
theorem dX11_unlike_8 : decode cX11_unlike 8 = .ok (.aload_n 0, 1) := by decide +kernel
theorem dX11_unlike_9 : decode cX11_unlike 9 = .ok (.getfield 72, 3) := by decide +kernel
theorem dX11_unlike_12 : decode cX11_unlike 12 = .ok (.iload_n 1, 1) := by decide +kernel
theorem dX11_unlike_13 : decode cX11_unlike 13 = .ok (.iadd, 1) := by decide +kernel
theorem dX11_unlike_14 : decode cX11_unlike 14 = .ok (.if_icmp .ge 71, 3) := by decide +kernel
theorem dX11_unlike_17 : decode cX11_unlike 17 = .ok (.iconst 1, 1) := by decide +kernel
theorem dX11_unlike_18 : decode cX11_unlike 18 = .ok (.istore 4, 2) := by decide +kernel
theorem dX11_unlike_20 : decode cX11_unlike 20 = .ok (.aload_n 0, 1) := by decide +kernel
theorem dX11_unlike_21 : decode cX11_unlike 21 = .ok (.getfield 72, 3) := by decide +kernel
theorem dX11_unlike_24 : decode cX11_unlike 24 = .ok (.istore 5, 2) := by decide +kernel
theorem dX11_unlike_26 : decode cX11_unlike 26 = .ok (.iload 5, 2) := by decide +kernel
theorem dX11_unlike_28 : decode cX11_unlike 28 = .ok (.iload_n 3, 1) := by decide +kernel
theorem dX11_unlike_29 : decode cX11_unlike 29 = .ok (.if_icmp .ge 37, 3) := by decide +kernel
theorem dX11_unlike_32 : decode cX11_unlike 32 = .ok (.iload 4, 2) := by decide +kernel
theorem dX11_unlike_34 : decode cX11_unlike 34 = .ok (.ifCond .eq 23, 3) := by decide +kernel
theorem dX11_unlike_37 : decode cX11_unlike 37 = .ok (.aload_n 0, 1) := by decide +kernel
theorem dX11_unlike_38 : decode cX11_unlike 38 = .ok (.getfield 19, 3) := by decide +kernel
theorem dX11_unlike_41 : decode cX11_unlike 41 = .ok (.iload 5, 2) := by decide +kernel
theorem dX11_unlike_43 : decode cX11_unlike 43 = .ok (.iaload, 1) := by decide +kernel
theorem dX11_unlike_44 : decode cX11_unlike 44 = .ok (.aload_n 0, 1) := by decide +kernel
theorem dX11_unlike_45 : decode cX11_unlike 45 = .ok (.getfield 19, 3) := by decide +kernel
theorem dX11_unlike_48 : decode cX11_unlike 48 = .ok (.iload_n 3, 1) := by decide +kernel
theorem dX11_unlike_49 : decode cX11_unlike 49 = .ok (.iaload, 1) := by decide +kernel
theorem dX11_unlike_50 : decode cX11_unlike 50 = .ok (.if_icmp .eq 7, 3) := by decide +kernel
theorem dX11_unlike_53 : decode cX11_unlike 53 = .ok (.iconst 1, 1) := by decide +kernel
theorem dX11_unlike_54 : decode cX11_unlike 54 = .ok (.goto 4, 3) := by decide +kernel
theorem dX11_unlike_57 : decode cX11_unlike 57 = .ok (.iconst 0, 1) := by decide +kernel
theorem dX11_unlike_58 : decode cX11_unlike 58 = .ok (.istore 4, 2) := by decide +kernel
theorem dX11_unlike_60 : decode cX11_unlike 60 = .ok (.iinc 5 1, 3) := by decide +kernel
theorem dX11_unlike_63 : decode cX11_unlike 63 = .ok (.goto (-37), 3) := by decide +kernel
theorem dX11_unlike_66 : decode cX11_unlike 66 = .ok (.iload_n 2, 1) := by decide +kernel
theorem dX11_unlike_67 : decode cX11_unlike 67 = .ok (.iload 4, 2) := by decide +kernel
theorem dX11_unlike_69 : decode cX11_unlike 69 = .ok (.ifCond .eq 7, 3) := by decide +kernel
theorem dX11_unlike_72 : decode cX11_unlike 72 = .ok (.iconst 1, 1) := by decide +kernel
theorem dX11_unlike_73 : decode cX11_unlike 73 = .ok (.goto 4, 3) := by decide +kernel
theorem dX11_unlike_76 : decode cX11_unlike 76 = .ok (.iconst 0, 1) := by decide +kernel
theorem dX11_unlike_77 : decode cX11_unlike 77 = .ok (.iadd, 1) := by decide +kernel
theorem dX11_unlike_78 : decode cX11_unlike 78 = .ok (.istore_n 2, 1) := by decide +kernel
theorem dX11_unlike_79 : decode cX11_unlike 79 = .ok (.iinc 3 1, 3) := by decide +kernel
theorem dX11_unlike_82 : decode cX11_unlike 82 = .ok (.goto (-75), 3) := by decide +kernel
theorem dX11_unlike_85 : decode cX11_unlike 85 = .ok (.iload_n 2, 1) := by decide +kernel
theorem dX11_unlike_86 : decode cX11_unlike 86 = .ok (.ireturn, 1) := by decide +kernel
theorem dX11_isMirror_0 : decode cX11_isMirror 0 = .ok (.iconst 1, 1) := by decide +kernel
theorem dX11_isMirror_1 : decode cX11_isMirror 1 = .ok (.istore_n 2, 1) := by decide +kernel
theorem dX11_isMirror_2 : decode cX11_isMirror 2 = .ok (.iconst 0, 1) := by decide +kernel
theorem dX11_isMirror_3 : decode cX11_isMirror 3 = .ok (.istore_n 3, 1) := by decide +kernel
theorem dX11_isMirror_4 : decode cX11_isMirror 4 = .ok (.iload_n 3, 1) := by decide +kernel
theorem dX11_isMirror_5 : decode cX11_isMirror 5 = .ok (.iload_n 1, 1) := by decide +kernel
theorem dX11_isMirror_6 : decode cX11_isMirror 6 = .ok (.iconst 1, 1) := by decide +kernel
theorem dX11_isMirror_7 : decode cX11_isMirror 7 = .ok (.isub, 1) := by decide +kernel
theorem dX11_isMirror_8 : decode cX11_isMirror 8 = .ok (.if_icmp .ge 48, 3) := by decide +kernel
theorem dX11_isMirror_11 : decode cX11_isMirror 11 = .ok (.iload_n 2, 1) := by decide +kernel
theorem dX11_isMirror_12 : decode cX11_isMirror 12 = .ok (.ifCond .eq 36, 3) := by decide +kernel
theorem dX11_isMirror_15 : decode cX11_isMirror 15 = .ok (.aload_n 0, 1) := by decide +kernel
theorem dX11_isMirror_16 : decode cX11_isMirror 16 = .ok (.getfield 19, 3) := by decide +kernel
theorem dX11_isMirror_19 : decode cX11_isMirror 19 = .ok (.aload_n 0, 1) := by decide +kernel
theorem dX11_isMirror_20 : decode cX11_isMirror 20 = .ok (.getfield 72, 3) := by decide +kernel
theorem dX11_isMirror_23 : decode cX11_isMirror 23 = .ok (.iload_n 3, 1) := by decide +kernel
theorem dX11_isMirror_24 : decode cX11_isMirror 24 = .ok (.iadd, 1) := by decide +kernel
theorem dX11_isMirror_25 : decode cX11_isMirror 25 = .ok (.iaload, 1) := by decide +kernel
theorem dX11_isMirror_26 : decode cX11_isMirror 26 = .ok (.aload_n 0, 1) := by decide +kernel
theorem dX11_isMirror_27 : decode cX11_isMirror 27 = .ok (.getfield 19, 3) := by decide +kernel
theorem dX11_isMirror_30 : decode cX11_isMirror 30 = .ok (.aload_n 0, 1) := by decide +kernel
theorem dX11_isMirror_31 : decode cX11_isMirror 31 = .ok (.getfield 72, 3) := by decide +kernel
theorem dX11_isMirror_34 : decode cX11_isMirror 34 = .ok (.iload_n 1, 1) := by decide +kernel
theorem dX11_isMirror_35 : decode cX11_isMirror 35 = .ok (.iadd, 1) := by decide +kernel
theorem dX11_isMirror_36 : decode cX11_isMirror 36 = .ok (.iconst 2, 1) := by decide +kernel
theorem dX11_isMirror_37 : decode cX11_isMirror 37 = .ok (.isub, 1) := by decide +kernel
theorem dX11_isMirror_38 : decode cX11_isMirror 38 = .ok (.iload_n 3, 1) := by decide +kernel
theorem dX11_isMirror_39 : decode cX11_isMirror 39 = .ok (.isub, 1) := by decide +kernel
theorem dX11_isMirror_40 : decode cX11_isMirror 40 = .ok (.iaload, 1) := by decide +kernel
theorem dX11_isMirror_41 : decode cX11_isMirror 41 = .ok (.if_icmp .ne 7, 3) := by decide +kernel
theorem dX11_isMirror_44 : decode cX11_isMirror 44 = .ok (.iconst 1, 1) := by decide +kernel
theorem dX11_isMirror_45 : decode cX11_isMirror 45 = .ok (.goto 4, 3) := by decide +kernel
theorem dX11_isMirror_48 : decode cX11_isMirror 48 = .ok (.iconst 0, 1) := by decide +kernel
theorem dX11_isMirror_49 : decode cX11_isMirror 49 = .ok (.istore_n 2, 1) := by decide +kernel
theorem dX11_isMirror_50 : decode cX11_isMirror 50 = .ok (.iinc 3 1, 3) := by decide +kernel
theorem dX11_isMirror_53 : decode cX11_isMirror 53 = .ok (.goto (-49), 3) := by decide +kernel
theorem dX11_isMirror_56 : decode cX11_isMirror 56 = .ok (.iload_n 2, 1) := by decide +kernel
theorem dX11_isMirror_57 : decode cX11_isMirror 57 = .ok (.ireturn, 1) := by decide +kernel
theorem dX11_again_0 : decode cX11_again 0 = .ok (.iload_n 1, 1) := by decide +kernel
theorem dX11_again_1 : decode cX11_again 1 = .ok (.i2l, 1) := by decide +kernel
theorem dX11_again_2 : decode cX11_again 2 = .ok (.lconst 0, 1) := by decide +kernel
theorem dX11_again_3 : decode cX11_again 3 = .ok (.ldc2_w 75, 3) := by decide +kernel
theorem dX11_again_6 : decode cX11_again 6 = .ok (.invokestatic 44, 3) := by decide +kernel
theorem dX11_again_9 : decode cX11_again 9 = .ok (.ifCond .ne 6, 3) := by decide +kernel
theorem dX11_again_12 : decode cX11_again 12 = .ok (.ldc 50, 2) := by decide +kernel
theorem dX11_again_14 : decode cX11_again 14 = .ok (.ireturn, 1) := by decide +kernel
theorem dX11_again_15 : decode cX11_again 15 = .ok (.aload_n 0, 1) := by decide +kernel
theorem dX11_again_16 : decode cX11_again 16 = .ok (.invokevirtual 77, 3) := by decide +kernel
theorem dX11_again_19 : decode cX11_again 19 = .ok (.istore_n 2, 1) := by decide +kernel
theorem dX11_again_20 : decode cX11_again 20 = .ok (.iload_n 2, 1) := by decide +kernel
theorem dX11_again_21 : decode cX11_again 21 = .ok (.ifCond .ne 6, 3) := by decide +kernel
theorem dX11_again_24 : decode cX11_again 24 = .ok (.ldc 81, 2) := by decide +kernel
theorem dX11_again_26 : decode cX11_again 26 = .ok (.ireturn, 1) := by decide +kernel
theorem dX11_again_27 : decode cX11_again 27 = .ok (.iload_n 1, 1) := by decide +kernel
theorem dX11_again_28 : decode cX11_again 28 = .ok (.ifCond .ne 10, 3) := by decide +kernel
theorem dX11_again_31 : decode cX11_again 31 = .ok (.aload_n 0, 1) := by decide +kernel
theorem dX11_again_32 : decode cX11_again 32 = .ok (.getfield 72, 3) := by decide +kernel
theorem dX11_again_35 : decode cX11_again 35 = .ok (.goto 51, 3) := by decide +kernel
theorem dX11_again_38 : decode cX11_again 38 = .ok (.iload_n 1, 1) := by decide +kernel
theorem dX11_again_39 : decode cX11_again 39 = .ok (.iconst 1, 1) := by decide +kernel
theorem dX11_again_40 : decode cX11_again 40 = .ok (.if_icmp .ne 7, 3) := by decide +kernel
theorem dX11_again_43 : decode cX11_again 43 = .ok (.iload_n 2, 1) := by decide +kernel
theorem dX11_again_44 : decode cX11_again 44 = .ok (.goto 42, 3) := by decide +kernel
theorem dX11_again_47 : decode cX11_again 47 = .ok (.iload_n 1, 1) := by decide +kernel
theorem dX11_again_48 : decode cX11_again 48 = .ok (.iconst 2, 1) := by decide +kernel
theorem dX11_again_49 : decode cX11_again 49 = .ok (.if_icmp .ne 11, 3) := by decide +kernel
theorem dX11_again_52 : decode cX11_again 52 = .ok (.aload_n 0, 1) := by decide +kernel
theorem dX11_again_53 : decode cX11_again 53 = .ok (.iload_n 2, 1) := by decide +kernel
theorem dX11_again_54 : decode cX11_again 54 = .ok (.invokevirtual 82, 3) := by decide +kernel
theorem dX11_again_57 : decode cX11_again 57 = .ok (.goto 29, 3) := by decide +kernel
theorem dX11_again_60 : decode cX11_again 60 = .ok (.iload_n 1, 1) := by decide +kernel
theorem dX11_again_61 : decode cX11_again 61 = .ok (.iconst 3, 1) := by decide +kernel
theorem dX11_again_62 : decode cX11_again 62 = .ok (.if_icmp .ne 11, 3) := by decide +kernel
theorem dX11_again_65 : decode cX11_again 65 = .ok (.aload_n 0, 1) := by decide +kernel
theorem dX11_again_66 : decode cX11_again 66 = .ok (.iload_n 2, 1) := by decide +kernel
theorem dX11_again_67 : decode cX11_again 67 = .ok (.invokevirtual 86, 3) := by decide +kernel
theorem dX11_again_70 : decode cX11_again 70 = .ok (.goto 16, 3) := by decide +kernel
theorem dX11_again_73 : decode cX11_again 73 = .ok (.aload_n 0, 1) := by decide +kernel
theorem dX11_again_74 : decode cX11_again 74 = .ok (.iload_n 2, 1) := by decide +kernel
theorem dX11_again_75 : decode cX11_again 75 = .ok (.invokevirtual 89, 3) := by decide +kernel
theorem dX11_again_78 : decode cX11_again 78 = .ok (.ifCond .eq 7, 3) := by decide +kernel
theorem dX11_again_81 : decode cX11_again 81 = .ok (.iconst 1, 1) := by decide +kernel
theorem dX11_again_82 : decode cX11_again 82 = .ok (.goto 4, 3) := by decide +kernel
theorem dX11_again_85 : decode cX11_again 85 = .ok (.iconst 0, 1) := by decide +kernel
theorem dX11_again_86 : decode cX11_again 86 = .ok (.ireturn, 1) := by decide +kernel
theorem dX11_size_0 : decode cX11_size 0 = .ok (.lload_n 0, 1) := by decide +kernel
theorem dX11_size_1 : decode cX11_size 1 = .ok (.lconst 0, 1) := by decide +kernel
theorem dX11_size_2 : decode cX11_size 2 = .ok (.lcmp, 1) := by decide +kernel
theorem dX11_size_3 : decode cX11_size 3 = .ok (.ifCond .ge 8, 3) := by decide +kernel
theorem dX11_size_6 : decode cX11_size 6 = .ok (.lload_n 0, 1) := by decide +kernel
theorem dX11_size_7 : decode cX11_size 7 = .ok (.lneg, 1) := by decide +kernel
theorem dX11_size_8 : decode cX11_size 8 = .ok (.goto 4, 3) := by decide +kernel
theorem dX11_size_11 : decode cX11_size 11 = .ok (.lload_n 0, 1) := by decide +kernel
theorem dX11_size_12 : decode cX11_size 12 = .ok (.lreturn, 1) := by decide +kernel
theorem dX11_begins_0 : decode cX11_begins 0 = .ok (.aload_n 0, 1) := by decide +kernel
theorem dX11_begins_1 : decode cX11_begins 1 = .ok (.lconst 1, 1) := by decide +kernel
theorem dX11_begins_2 : decode cX11_begins 2 = .ok (.putfield 93, 3) := by decide +kernel
theorem dX11_begins_5 : decode cX11_begins 5 = .ok (.aload_n 0, 1) := by decide +kernel
theorem dX11_begins_6 : decode cX11_begins 6 = .ok (.lconst 0, 1) := by decide +kernel
theorem dX11_begins_7 : decode cX11_begins 7 = .ok (.putfield 97, 3) := by decide +kernel
theorem dX11_begins_10 : decode cX11_begins 10 = .ok (.aload_n 0, 1) := by decide +kernel
theorem dX11_begins_11 : decode cX11_begins 11 = .ok (.lconst 0, 1) := by decide +kernel
theorem dX11_begins_12 : decode cX11_begins 12 = .ok (.putfield 100, 3) := by decide +kernel
theorem dX11_begins_15 : decode cX11_begins 15 = .ok (.aload_n 0, 1) := by decide +kernel
theorem dX11_begins_16 : decode cX11_begins 16 = .ok (.lconst 1, 1) := by decide +kernel
theorem dX11_begins_17 : decode cX11_begins 17 = .ok (.putfield 103, 3) := by decide +kernel
theorem dX11_begins_20 : decode cX11_begins 20 = .ok (.return_, 1) := by decide +kernel
theorem dX11_goesOn_0 : decode cX11_goesOn 0 = .ok (.lload_n 1, 1) := by decide +kernel
theorem dX11_goesOn_1 : decode cX11_goesOn 1 = .ok (.invokestatic 106, 3) := by decide +kernel
theorem dX11_goesOn_4 : decode cX11_goesOn 4 = .ok (.lconst 1, 1) := by decide +kernel
theorem dX11_goesOn_5 : decode cX11_goesOn 5 = .ok (.ladd, 1) := by decide +kernel
theorem dX11_goesOn_6 : decode cX11_goesOn 6 = .ok (.lstore_n 3, 1) := by decide +kernel
theorem dX11_goesOn_7 : decode cX11_goesOn 7 = .ok (.aload_n 0, 1) := by decide +kernel
theorem dX11_goesOn_8 : decode cX11_goesOn 8 = .ok (.getfield 93, 3) := by decide +kernel
theorem dX11_goesOn_11 : decode cX11_goesOn 11 = .ok (.invokestatic 106, 3) := by decide +kernel
theorem dX11_goesOn_14 : decode cX11_goesOn 14 = .ok (.ldc2_w 109, 3) := by decide +kernel
theorem dX11_goesOn_17 : decode cX11_goesOn 17 = .ok (.lload_n 3, 1) := by decide +kernel
theorem dX11_goesOn_18 : decode cX11_goesOn 18 = .ok (.ldiv, 1) := by decide +kernel
theorem dX11_goesOn_19 : decode cX11_goesOn 19 = .ok (.lcmp, 1) := by decide +kernel
theorem dX11_goesOn_20 : decode cX11_goesOn 20 = .ok (.ifCond .gt 16, 3) := by decide +kernel
theorem dX11_goesOn_23 : decode cX11_goesOn 23 = .ok (.aload_n 0, 1) := by decide +kernel
theorem dX11_goesOn_24 : decode cX11_goesOn 24 = .ok (.getfield 97, 3) := by decide +kernel
theorem dX11_goesOn_27 : decode cX11_goesOn 27 = .ok (.ldc2_w 109, 3) := by decide +kernel
theorem dX11_goesOn_30 : decode cX11_goesOn 30 = .ok (.lload_n 3, 1) := by decide +kernel
theorem dX11_goesOn_31 : decode cX11_goesOn 31 = .ok (.ldiv, 1) := by decide +kernel
theorem dX11_goesOn_32 : decode cX11_goesOn 32 = .ok (.lcmp, 1) := by decide +kernel
theorem dX11_goesOn_33 : decode cX11_goesOn 33 = .ok (.ifCond .le 5, 3) := by decide +kernel
theorem dX11_goesOn_36 : decode cX11_goesOn 36 = .ok (.iconst 0, 1) := by decide +kernel
theorem dX11_goesOn_37 : decode cX11_goesOn 37 = .ok (.ireturn, 1) := by decide +kernel
theorem dX11_goesOn_38 : decode cX11_goesOn 38 = .ok (.lload_n 1, 1) := by decide +kernel
theorem dX11_goesOn_39 : decode cX11_goesOn 39 = .ok (.aload_n 0, 1) := by decide +kernel
theorem dX11_goesOn_40 : decode cX11_goesOn 40 = .ok (.getfield 93, 3) := by decide +kernel
theorem dX11_goesOn_43 : decode cX11_goesOn 43 = .ok (.lmul, 1) := by decide +kernel
theorem dX11_goesOn_44 : decode cX11_goesOn 44 = .ok (.aload_n 0, 1) := by decide +kernel
theorem dX11_goesOn_45 : decode cX11_goesOn 45 = .ok (.getfield 100, 3) := by decide +kernel
theorem dX11_goesOn_48 : decode cX11_goesOn 48 = .ok (.ladd, 1) := by decide +kernel
theorem dX11_goesOn_49 : decode cX11_goesOn 49 = .ok (.lstore 5, 2) := by decide +kernel
theorem dX11_goesOn_51 : decode cX11_goesOn 51 = .ok (.lload_n 1, 1) := by decide +kernel
theorem dX11_goesOn_52 : decode cX11_goesOn 52 = .ok (.aload_n 0, 1) := by decide +kernel
theorem dX11_goesOn_53 : decode cX11_goesOn 53 = .ok (.getfield 97, 3) := by decide +kernel
theorem dX11_goesOn_56 : decode cX11_goesOn 56 = .ok (.lmul, 1) := by decide +kernel
theorem dX11_goesOn_57 : decode cX11_goesOn 57 = .ok (.aload_n 0, 1) := by decide +kernel
theorem dX11_goesOn_58 : decode cX11_goesOn 58 = .ok (.getfield 103, 3) := by decide +kernel
theorem dX11_goesOn_61 : decode cX11_goesOn 61 = .ok (.ladd, 1) := by decide +kernel
theorem dX11_goesOn_62 : decode cX11_goesOn 62 = .ok (.lstore 7, 2) := by decide +kernel
theorem dX11_goesOn_64 : decode cX11_goesOn 64 = .ok (.lload 5, 2) := by decide +kernel
theorem dX11_goesOn_66 : decode cX11_goesOn 66 = .ok (.invokestatic 106, 3) := by decide +kernel
theorem dX11_goesOn_69 : decode cX11_goesOn 69 = .ok (.ldc2_w 111, 3) := by decide +kernel
theorem dX11_goesOn_72 : decode cX11_goesOn 72 = .ok (.lcmp, 1) := by decide +kernel
theorem dX11_goesOn_73 : decode cX11_goesOn 73 = .ok (.ifCond .gt 12, 3) := by decide +kernel
theorem dX11_goesOn_76 : decode cX11_goesOn 76 = .ok (.lload 7, 2) := by decide +kernel
theorem dX11_goesOn_78 : decode cX11_goesOn 78 = .ok (.ldc2_w 111, 3) := by decide +kernel
theorem dX11_goesOn_81 : decode cX11_goesOn 81 = .ok (.lcmp, 1) := by decide +kernel
theorem dX11_goesOn_82 : decode cX11_goesOn 82 = .ok (.ifCond .le 5, 3) := by decide +kernel
theorem dX11_goesOn_85 : decode cX11_goesOn 85 = .ok (.iconst 0, 1) := by decide +kernel
theorem dX11_goesOn_86 : decode cX11_goesOn 86 = .ok (.ireturn, 1) := by decide +kernel
theorem dX11_goesOn_87 : decode cX11_goesOn 87 = .ok (.aload_n 0, 1) := by decide +kernel
theorem dX11_goesOn_88 : decode cX11_goesOn 88 = .ok (.aload_n 0, 1) := by decide +kernel
theorem dX11_goesOn_89 : decode cX11_goesOn 89 = .ok (.getfield 93, 3) := by decide +kernel
theorem dX11_goesOn_92 : decode cX11_goesOn 92 = .ok (.putfield 100, 3) := by decide +kernel
theorem dX11_goesOn_95 : decode cX11_goesOn 95 = .ok (.aload_n 0, 1) := by decide +kernel
theorem dX11_goesOn_96 : decode cX11_goesOn 96 = .ok (.aload_n 0, 1) := by decide +kernel
theorem dX11_goesOn_97 : decode cX11_goesOn 97 = .ok (.getfield 97, 3) := by decide +kernel
theorem dX11_goesOn_100 : decode cX11_goesOn 100 = .ok (.putfield 103, 3) := by decide +kernel
theorem dX11_goesOn_103 : decode cX11_goesOn 103 = .ok (.aload_n 0, 1) := by decide +kernel
theorem dX11_goesOn_104 : decode cX11_goesOn 104 = .ok (.lload 5, 2) := by decide +kernel
theorem dX11_goesOn_106 : decode cX11_goesOn 106 = .ok (.putfield 93, 3) := by decide +kernel
theorem dX11_goesOn_109 : decode cX11_goesOn 109 = .ok (.aload_n 0, 1) := by decide +kernel
theorem dX11_goesOn_110 : decode cX11_goesOn 110 = .ok (.lload 7, 2) := by decide +kernel
theorem dX11_goesOn_112 : decode cX11_goesOn 112 = .ok (.putfield 97, 3) := by decide +kernel
theorem dX11_goesOn_115 : decode cX11_goesOn 115 = .ok (.iconst 1, 1) := by decide +kernel
theorem dX11_goesOn_116 : decode cX11_goesOn 116 = .ok (.ireturn, 1) := by decide +kernel
theorem dX11_goesTo_0 : decode cX11_goesTo 0 = .ok (.aload_n 0, 1) := by decide +kernel
theorem dX11_goesTo_1 : decode cX11_goesTo 1 = .ok (.invokevirtual 69, 3) := by decide +kernel
theorem dX11_goesTo_4 : decode cX11_goesTo 4 = .ok (.aload_n 0, 1) := by decide +kernel
theorem dX11_goesTo_5 : decode cX11_goesTo 5 = .ok (.invokevirtual 113, 3) := by decide +kernel
theorem dX11_goesTo_8 : decode cX11_goesTo 8 = .ok (.iconst 1, 1) := by decide +kernel
theorem dX11_goesTo_9 : decode cX11_goesTo 9 = .ok (.istore_n 2, 1) := by decide +kernel
theorem dX11_goesTo_10 : decode cX11_goesTo 10 = .ok (.iconst 0, 1) := by decide +kernel
theorem dX11_goesTo_11 : decode cX11_goesTo 11 = .ok (.istore_n 3, 1) := by decide +kernel
theorem dX11_goesTo_12 : decode cX11_goesTo 12 = .ok (.iload_n 3, 1) := by decide +kernel
theorem dX11_goesTo_13 : decode cX11_goesTo 13 = .ok (.iload_n 1, 1) := by decide +kernel
theorem dX11_goesTo_14 : decode cX11_goesTo 14 = .ok (.if_icmp .gt 25, 3) := by decide +kernel
theorem dX11_goesTo_17 : decode cX11_goesTo 17 = .ok (.iload_n 2, 1) := by decide +kernel
theorem dX11_goesTo_18 : decode cX11_goesTo 18 = .ok (.ifCond .eq 21, 3) := by decide +kernel
theorem dX11_goesTo_21 : decode cX11_goesTo 21 = .ok (.aload_n 0, 1) := by decide +kernel
theorem dX11_goesTo_22 : decode cX11_goesTo 22 = .ok (.aload_n 0, 1) := by decide +kernel
theorem dX11_goesTo_23 : decode cX11_goesTo 23 = .ok (.getfield 19, 3) := by decide +kernel
theorem dX11_goesTo_26 : decode cX11_goesTo 26 = .ok (.iload_n 3, 1) := by decide +kernel
theorem dX11_goesTo_27 : decode cX11_goesTo 27 = .ok (.iaload, 1) := by decide +kernel
theorem dX11_goesTo_28 : decode cX11_goesTo 28 = .ok (.i2l, 1) := by decide +kernel
theorem dX11_goesTo_29 : decode cX11_goesTo 29 = .ok (.invokevirtual 116, 3) := by decide +kernel
theorem dX11_goesTo_32 : decode cX11_goesTo 32 = .ok (.istore_n 2, 1) := by decide +kernel
theorem dX11_goesTo_33 : decode cX11_goesTo 33 = .ok (.iinc 3 1, 3) := by decide +kernel
theorem dX11_goesTo_36 : decode cX11_goesTo 36 = .ok (.goto (-24), 3) := by decide +kernel
theorem dX11_goesTo_39 : decode cX11_goesTo 39 = .ok (.iload_n 2, 1) := by decide +kernel
theorem dX11_goesTo_40 : decode cX11_goesTo 40 = .ok (.ireturn, 1) := by decide +kernel
theorem dX11_convergent_0 : decode cX11_convergent 0 = .ok (.iload_n 1, 1) := by decide +kernel
theorem dX11_convergent_1 : decode cX11_convergent 1 = .ok (.i2l, 1) := by decide +kernel
theorem dX11_convergent_2 : decode cX11_convergent 2 = .ok (.lconst 0, 1) := by decide +kernel
theorem dX11_convergent_3 : decode cX11_convergent 3 = .ok (.ldc2_w 67, 3) := by decide +kernel
theorem dX11_convergent_6 : decode cX11_convergent 6 = .ok (.invokestatic 44, 3) := by decide +kernel
theorem dX11_convergent_9 : decode cX11_convergent 9 = .ok (.ifCond .eq 13, 3) := by decide +kernel
theorem dX11_convergent_12 : decode cX11_convergent 12 = .ok (.iload_n 2, 1) := by decide +kernel
theorem dX11_convergent_13 : decode cX11_convergent 13 = .ok (.i2l, 1) := by decide +kernel
theorem dX11_convergent_14 : decode cX11_convergent 14 = .ok (.lconst 0, 1) := by decide +kernel
theorem dX11_convergent_15 : decode cX11_convergent 15 = .ok (.lconst 1, 1) := by decide +kernel
theorem dX11_convergent_16 : decode cX11_convergent 16 = .ok (.invokestatic 44, 3) := by decide +kernel
theorem dX11_convergent_19 : decode cX11_convergent 19 = .ok (.ifCond .ne 7, 3) := by decide +kernel
theorem dX11_convergent_22 : decode cX11_convergent 22 = .ok (.ldc2_w 120, 3) := by decide +kernel
theorem dX11_convergent_25 : decode cX11_convergent 25 = .ok (.lreturn, 1) := by decide +kernel
theorem dX11_convergent_26 : decode cX11_convergent 26 = .ok (.aload_n 0, 1) := by decide +kernel
theorem dX11_convergent_27 : decode cX11_convergent 27 = .ok (.iload_n 1, 1) := by decide +kernel
theorem dX11_convergent_28 : decode cX11_convergent 28 = .ok (.invokevirtual 122, 3) := by decide +kernel
theorem dX11_convergent_31 : decode cX11_convergent 31 = .ok (.ifCond .ne 9, 3) := by decide +kernel
theorem dX11_convergent_34 : decode cX11_convergent 34 = .ok (.ldc2_w 125, 3) := by decide +kernel
theorem dX11_convergent_37 : decode cX11_convergent 37 = .ok (.goto 22, 3) := by decide +kernel
theorem dX11_convergent_40 : decode cX11_convergent 40 = .ok (.iload_n 2, 1) := by decide +kernel
theorem dX11_convergent_41 : decode cX11_convergent 41 = .ok (.ifCond .ne 14, 3) := by decide +kernel
theorem dX11_convergent_44 : decode cX11_convergent 44 = .ok (.aload_n 0, 1) := by decide +kernel
theorem dX11_convergent_45 : decode cX11_convergent 45 = .ok (.getfield 93, 3) := by decide +kernel
theorem dX11_convergent_48 : decode cX11_convergent 48 = .ok (.ldc2_w 111, 3) := by decide +kernel
theorem dX11_convergent_51 : decode cX11_convergent 51 = .ok (.ladd, 1) := by decide +kernel
theorem dX11_convergent_52 : decode cX11_convergent 52 = .ok (.goto 7, 3) := by decide +kernel
theorem dX11_convergent_55 : decode cX11_convergent 55 = .ok (.aload_n 0, 1) := by decide +kernel
theorem dX11_convergent_56 : decode cX11_convergent 56 = .ok (.getfield 97, 3) := by decide +kernel
theorem dX11_convergent_59 : decode cX11_convergent 59 = .ok (.lreturn, 1) := by decide +kernel
theorem dX11_between_0 : decode cX11_between 0 = .ok (.iload_n 1, 1) := by decide +kernel
theorem dX11_between_1 : decode cX11_between 1 = .ok (.i2l, 1) := by decide +kernel
theorem dX11_between_2 : decode cX11_between 2 = .ok (.ldc2_w 38, 3) := by decide +kernel
theorem dX11_between_5 : decode cX11_between 5 = .ok (.ldc2_w 67, 3) := by decide +kernel
theorem dX11_between_8 : decode cX11_between 8 = .ok (.invokestatic 44, 3) := by decide +kernel
theorem dX11_between_11 : decode cX11_between 11 = .ok (.ifCond .eq 18, 3) := by decide +kernel
theorem dX11_between_14 : decode cX11_between 14 = .ok (.iload_n 2, 1) := by decide +kernel
theorem dX11_between_15 : decode cX11_between 15 = .ok (.iconst 1, 1) := by decide +kernel
theorem dX11_between_16 : decode cX11_between 16 = .ok (.if_icmp .lt 13, 3) := by decide +kernel
theorem dX11_between_19 : decode cX11_between 19 = .ok (.iload_n 3, 1) := by decide +kernel
theorem dX11_between_20 : decode cX11_between 20 = .ok (.i2l, 1) := by decide +kernel
theorem dX11_between_21 : decode cX11_between 21 = .ok (.lconst 0, 1) := by decide +kernel
theorem dX11_between_22 : decode cX11_between 22 = .ok (.lconst 1, 1) := by decide +kernel
theorem dX11_between_23 : decode cX11_between 23 = .ok (.invokestatic 44, 3) := by decide +kernel
theorem dX11_between_26 : decode cX11_between 26 = .ok (.ifCond .ne 7, 3) := by decide +kernel
theorem dX11_between_29 : decode cX11_between 29 = .ok (.ldc2_w 120, 3) := by decide +kernel
theorem dX11_between_32 : decode cX11_between 32 = .ok (.lreturn, 1) := by decide +kernel
theorem dX11_between_33 : decode cX11_between 33 = .ok (.aload_n 0, 1) := by decide +kernel
theorem dX11_between_34 : decode cX11_between 34 = .ok (.invokevirtual 69, 3) := by decide +kernel
theorem dX11_between_37 : decode cX11_between 37 = .ok (.iload_n 2, 1) := by decide +kernel
theorem dX11_between_38 : decode cX11_between 38 = .ok (.aload_n 0, 1) := by decide +kernel
theorem dX11_between_39 : decode cX11_between 39 = .ok (.getfield 19, 3) := by decide +kernel
theorem dX11_between_42 : decode cX11_between 42 = .ok (.iload_n 1, 1) := by decide +kernel
theorem dX11_between_43 : decode cX11_between 43 = .ok (.iaload, 1) := by decide +kernel
theorem dX11_between_44 : decode cX11_between 44 = .ok (.if_icmp .lt 7, 3) := by decide +kernel
theorem dX11_between_47 : decode cX11_between 47 = .ok (.ldc2_w 120, 3) := by decide +kernel
theorem dX11_between_50 : decode cX11_between 50 = .ok (.lreturn, 1) := by decide +kernel
theorem dX11_between_51 : decode cX11_between 51 = .ok (.aload_n 0, 1) := by decide +kernel
theorem dX11_between_52 : decode cX11_between 52 = .ok (.iload_n 1, 1) := by decide +kernel
theorem dX11_between_53 : decode cX11_between 53 = .ok (.invokevirtual 122, 3) := by decide +kernel
theorem dX11_between_56 : decode cX11_between 56 = .ok (.ifCond .ne 7, 3) := by decide +kernel
theorem dX11_between_59 : decode cX11_between 59 = .ok (.ldc2_w 125, 3) := by decide +kernel
theorem dX11_between_62 : decode cX11_between 62 = .ok (.lreturn, 1) := by decide +kernel
theorem dX11_between_63 : decode cX11_between 63 = .ok (.aload_n 0, 1) := by decide +kernel
theorem dX11_between_64 : decode cX11_between 64 = .ok (.getfield 19, 3) := by decide +kernel
theorem dX11_between_67 : decode cX11_between 67 = .ok (.iload_n 1, 1) := by decide +kernel
theorem dX11_between_68 : decode cX11_between 68 = .ok (.iaload, 1) := by decide +kernel
theorem dX11_between_69 : decode cX11_between 69 = .ok (.iload_n 2, 1) := by decide +kernel
theorem dX11_between_70 : decode cX11_between 70 = .ok (.isub, 1) := by decide +kernel
theorem dX11_between_71 : decode cX11_between 71 = .ok (.i2l, 1) := by decide +kernel
theorem dX11_between_72 : decode cX11_between 72 = .ok (.lstore 4, 2) := by decide +kernel
theorem dX11_between_74 : decode cX11_between 74 = .ok (.iload_n 3, 1) := by decide +kernel
theorem dX11_between_75 : decode cX11_between 75 = .ok (.ifCond .ne 22, 3) := by decide +kernel
theorem dX11_between_78 : decode cX11_between 78 = .ok (.aload_n 0, 1) := by decide +kernel
theorem dX11_between_79 : decode cX11_between 79 = .ok (.getfield 93, 3) := by decide +kernel
theorem dX11_between_82 : decode cX11_between 82 = .ok (.lload 4, 2) := by decide +kernel
theorem dX11_between_84 : decode cX11_between 84 = .ok (.aload_n 0, 1) := by decide +kernel
theorem dX11_between_85 : decode cX11_between 85 = .ok (.getfield 100, 3) := by decide +kernel
theorem dX11_between_88 : decode cX11_between 88 = .ok (.lmul, 1) := by decide +kernel
theorem dX11_between_89 : decode cX11_between 89 = .ok (.lsub, 1) := by decide +kernel
theorem dX11_between_90 : decode cX11_between 90 = .ok (.ldc2_w 111, 3) := by decide +kernel
theorem dX11_between_93 : decode cX11_between 93 = .ok (.ladd, 1) := by decide +kernel
theorem dX11_between_94 : decode cX11_between 94 = .ok (.goto 15, 3) := by decide +kernel
theorem dX11_between_97 : decode cX11_between 97 = .ok (.aload_n 0, 1) := by decide +kernel
theorem dX11_between_98 : decode cX11_between 98 = .ok (.getfield 97, 3) := by decide +kernel
theorem dX11_between_101 : decode cX11_between 101 = .ok (.lload 4, 2) := by decide +kernel
theorem dX11_between_103 : decode cX11_between 103 = .ok (.aload_n 0, 1) := by decide +kernel
theorem dX11_between_104 : decode cX11_between 104 = .ok (.getfield 103, 3) := by decide +kernel
theorem dX11_between_107 : decode cX11_between 107 = .ok (.lmul, 1) := by decide +kernel
theorem dX11_between_108 : decode cX11_between 108 = .ok (.lsub, 1) := by decide +kernel
theorem dX11_between_109 : decode cX11_between 109 = .ok (.lreturn, 1) := by decide +kernel
theorem dX11_isAbove_0 : decode cX11_isAbove 0 = .ok (.lload_n 1, 1) := by decide +kernel
theorem dX11_isAbove_1 : decode cX11_isAbove 1 = .ok (.aload_n 0, 1) := by decide +kernel
theorem dX11_isAbove_2 : decode cX11_isAbove 2 = .ok (.getfield 7, 3) := by decide +kernel
theorem dX11_isAbove_5 : decode cX11_isAbove 5 = .ok (.iconst 2, 1) := by decide +kernel
theorem dX11_isAbove_6 : decode cX11_isAbove 6 = .ok (.iaload, 1) := by decide +kernel
theorem dX11_isAbove_7 : decode cX11_isAbove 7 = .ok (.i2l, 1) := by decide +kernel
theorem dX11_isAbove_8 : decode cX11_isAbove 8 = .ok (.lmul, 1) := by decide +kernel
theorem dX11_isAbove_9 : decode cX11_isAbove 9 = .ok (.aload_n 0, 1) := by decide +kernel
theorem dX11_isAbove_10 : decode cX11_isAbove 10 = .ok (.getfield 7, 3) := by decide +kernel
theorem dX11_isAbove_13 : decode cX11_isAbove 13 = .ok (.iconst 0, 1) := by decide +kernel
theorem dX11_isAbove_14 : decode cX11_isAbove 14 = .ok (.iaload, 1) := by decide +kernel
theorem dX11_isAbove_15 : decode cX11_isAbove 15 = .ok (.i2l, 1) := by decide +kernel
theorem dX11_isAbove_16 : decode cX11_isAbove 16 = .ok (.lload_n 3, 1) := by decide +kernel
theorem dX11_isAbove_17 : decode cX11_isAbove 17 = .ok (.lmul, 1) := by decide +kernel
theorem dX11_isAbove_18 : decode cX11_isAbove 18 = .ok (.lsub, 1) := by decide +kernel
theorem dX11_isAbove_19 : decode cX11_isAbove 19 = .ok (.lstore 5, 2) := by decide +kernel
theorem dX11_isAbove_21 : decode cX11_isAbove 21 = .ok (.lload 5, 2) := by decide +kernel
theorem dX11_isAbove_23 : decode cX11_isAbove 23 = .ok (.lconst 0, 1) := by decide +kernel
theorem dX11_isAbove_24 : decode cX11_isAbove 24 = .ok (.lcmp, 1) := by decide +kernel
theorem dX11_isAbove_25 : decode cX11_isAbove 25 = .ok (.ifCond .lt 23, 3) := by decide +kernel
theorem dX11_isAbove_28 : decode cX11_isAbove 28 = .ok (.lload_n 3, 1) := by decide +kernel
theorem dX11_isAbove_29 : decode cX11_isAbove 29 = .ok (.lload_n 3, 1) := by decide +kernel
theorem dX11_isAbove_30 : decode cX11_isAbove 30 = .ok (.lmul, 1) := by decide +kernel
theorem dX11_isAbove_31 : decode cX11_isAbove 31 = .ok (.aload_n 0, 1) := by decide +kernel
theorem dX11_isAbove_32 : decode cX11_isAbove 32 = .ok (.getfield 7, 3) := by decide +kernel
theorem dX11_isAbove_35 : decode cX11_isAbove 35 = .ok (.iconst 1, 1) := by decide +kernel
theorem dX11_isAbove_36 : decode cX11_isAbove 36 = .ok (.iaload, 1) := by decide +kernel
theorem dX11_isAbove_37 : decode cX11_isAbove 37 = .ok (.i2l, 1) := by decide +kernel
theorem dX11_isAbove_38 : decode cX11_isAbove 38 = .ok (.lmul, 1) := by decide +kernel
theorem dX11_isAbove_39 : decode cX11_isAbove 39 = .ok (.lload 5, 2) := by decide +kernel
theorem dX11_isAbove_41 : decode cX11_isAbove 41 = .ok (.lload 5, 2) := by decide +kernel
theorem dX11_isAbove_43 : decode cX11_isAbove 43 = .ok (.lmul, 1) := by decide +kernel
theorem dX11_isAbove_44 : decode cX11_isAbove 44 = .ok (.lcmp, 1) := by decide +kernel
theorem dX11_isAbove_45 : decode cX11_isAbove 45 = .ok (.ifCond .le 7, 3) := by decide +kernel
theorem dX11_isAbove_48 : decode cX11_isAbove 48 = .ok (.iconst 1, 1) := by decide +kernel
theorem dX11_isAbove_49 : decode cX11_isAbove 49 = .ok (.goto 4, 3) := by decide +kernel
theorem dX11_isAbove_52 : decode cX11_isAbove 52 = .ok (.iconst 0, 1) := by decide +kernel
theorem dX11_isAbove_53 : decode cX11_isAbove 53 = .ok (.istore 7, 2) := by decide +kernel
theorem dX11_isAbove_55 : decode cX11_isAbove 55 = .ok (.aload_n 0, 1) := by decide +kernel
theorem dX11_isAbove_56 : decode cX11_isAbove 56 = .ok (.getfield 7, 3) := by decide +kernel
theorem dX11_isAbove_59 : decode cX11_isAbove 59 = .ok (.iconst 2, 1) := by decide +kernel
theorem dX11_isAbove_60 : decode cX11_isAbove 60 = .ok (.iaload, 1) := by decide +kernel
theorem dX11_isAbove_61 : decode cX11_isAbove 61 = .ok (.ifCond .le 8, 3) := by decide +kernel
theorem dX11_isAbove_64 : decode cX11_isAbove 64 = .ok (.iload 7, 2) := by decide +kernel
theorem dX11_isAbove_66 : decode cX11_isAbove 66 = .ok (.goto 13, 3) := by decide +kernel
theorem dX11_isAbove_69 : decode cX11_isAbove 69 = .ok (.iload 7, 2) := by decide +kernel
theorem dX11_isAbove_71 : decode cX11_isAbove 71 = .ok (.ifCond .ne 7, 3) := by decide +kernel
theorem dX11_isAbove_74 : decode cX11_isAbove 74 = .ok (.iconst 1, 1) := by decide +kernel
theorem dX11_isAbove_75 : decode cX11_isAbove 75 = .ok (.goto 4, 3) := by decide +kernel
theorem dX11_isAbove_78 : decode cX11_isAbove 78 = .ok (.iconst 0, 1) := by decide +kernel
theorem dX11_isAbove_79 : decode cX11_isAbove 79 = .ok (.ireturn, 1) := by decide +kernel
theorem dX11_isNearer_0 : decode cX11_isNearer 0 = .ok (.aload_n 0, 1) := by decide +kernel
theorem dX11_isNearer_1 : decode cX11_isNearer 1 = .ok (.lload_n 1, 1) := by decide +kernel
theorem dX11_isNearer_2 : decode cX11_isNearer 2 = .ok (.lload_n 3, 1) := by decide +kernel
theorem dX11_isNearer_3 : decode cX11_isNearer 3 = .ok (.invokevirtual 127, 3) := by decide +kernel
theorem dX11_isNearer_6 : decode cX11_isNearer 6 = .ok (.istore 9, 2) := by decide +kernel
theorem dX11_isNearer_8 : decode cX11_isNearer 8 = .ok (.aload_n 0, 1) := by decide +kernel
theorem dX11_isNearer_9 : decode cX11_isNearer 9 = .ok (.lload 5, 2) := by decide +kernel
theorem dX11_isNearer_11 : decode cX11_isNearer 11 = .ok (.lload 7, 2) := by decide +kernel
theorem dX11_isNearer_13 : decode cX11_isNearer 13 = .ok (.invokevirtual 127, 3) := by decide +kernel
theorem dX11_isNearer_16 : decode cX11_isNearer 16 = .ok (.istore 10, 2) := by decide +kernel
theorem dX11_isNearer_18 : decode cX11_isNearer 18 = .ok (.iload 9, 2) := by decide +kernel
theorem dX11_isNearer_20 : decode cX11_isNearer 20 = .ok (.iload 10, 2) := by decide +kernel
theorem dX11_isNearer_22 : decode cX11_isNearer 22 = .ok (.if_icmp .ne 46, 3) := by decide +kernel
theorem dX11_isNearer_25 : decode cX11_isNearer 25 = .ok (.iload 9, 2) := by decide +kernel
theorem dX11_isNearer_27 : decode cX11_isNearer 27 = .ok (.ifCond .eq 23, 3) := by decide +kernel
theorem dX11_isNearer_30 : decode cX11_isNearer 30 = .ok (.lload_n 1, 1) := by decide +kernel
theorem dX11_isNearer_31 : decode cX11_isNearer 31 = .ok (.lload 7, 2) := by decide +kernel
theorem dX11_isNearer_33 : decode cX11_isNearer 33 = .ok (.lmul, 1) := by decide +kernel
theorem dX11_isNearer_34 : decode cX11_isNearer 34 = .ok (.lload 5, 2) := by decide +kernel
theorem dX11_isNearer_36 : decode cX11_isNearer 36 = .ok (.lload_n 3, 1) := by decide +kernel
theorem dX11_isNearer_37 : decode cX11_isNearer 37 = .ok (.lmul, 1) := by decide +kernel
theorem dX11_isNearer_38 : decode cX11_isNearer 38 = .ok (.lcmp, 1) := by decide +kernel
theorem dX11_isNearer_39 : decode cX11_isNearer 39 = .ok (.ifCond .le 7, 3) := by decide +kernel
theorem dX11_isNearer_42 : decode cX11_isNearer 42 = .ok (.iconst 1, 1) := by decide +kernel
theorem dX11_isNearer_43 : decode cX11_isNearer 43 = .ok (.goto 24, 3) := by decide +kernel
theorem dX11_isNearer_46 : decode cX11_isNearer 46 = .ok (.iconst 0, 1) := by decide +kernel
theorem dX11_isNearer_47 : decode cX11_isNearer 47 = .ok (.goto 20, 3) := by decide +kernel
theorem dX11_isNearer_50 : decode cX11_isNearer 50 = .ok (.lload_n 1, 1) := by decide +kernel
theorem dX11_isNearer_51 : decode cX11_isNearer 51 = .ok (.lload 7, 2) := by decide +kernel
theorem dX11_isNearer_53 : decode cX11_isNearer 53 = .ok (.lmul, 1) := by decide +kernel
theorem dX11_isNearer_54 : decode cX11_isNearer 54 = .ok (.lload 5, 2) := by decide +kernel
theorem dX11_isNearer_56 : decode cX11_isNearer 56 = .ok (.lload_n 3, 1) := by decide +kernel
theorem dX11_isNearer_57 : decode cX11_isNearer 57 = .ok (.lmul, 1) := by decide +kernel
theorem dX11_isNearer_58 : decode cX11_isNearer 58 = .ok (.lcmp, 1) := by decide +kernel
theorem dX11_isNearer_59 : decode cX11_isNearer 59 = .ok (.ifCond .ge 7, 3) := by decide +kernel
theorem dX11_isNearer_62 : decode cX11_isNearer 62 = .ok (.iconst 1, 1) := by decide +kernel
theorem dX11_isNearer_63 : decode cX11_isNearer 63 = .ok (.goto 4, 3) := by decide +kernel
theorem dX11_isNearer_66 : decode cX11_isNearer 66 = .ok (.iconst 0, 1) := by decide +kernel
theorem dX11_isNearer_67 : decode cX11_isNearer 67 = .ok (.ireturn, 1) := by decide +kernel
theorem dX11_isNearer_68 : decode cX11_isNearer 68 = .ok (.aload_n 0, 1) := by decide +kernel
theorem dX11_isNearer_69 : decode cX11_isNearer 69 = .ok (.lload_n 1, 1) := by decide +kernel
theorem dX11_isNearer_70 : decode cX11_isNearer 70 = .ok (.lload 7, 2) := by decide +kernel
theorem dX11_isNearer_72 : decode cX11_isNearer 72 = .ok (.lmul, 1) := by decide +kernel
theorem dX11_isNearer_73 : decode cX11_isNearer 73 = .ok (.lload 5, 2) := by decide +kernel
theorem dX11_isNearer_75 : decode cX11_isNearer 75 = .ok (.lload_n 3, 1) := by decide +kernel
theorem dX11_isNearer_76 : decode cX11_isNearer 76 = .ok (.lmul, 1) := by decide +kernel
theorem dX11_isNearer_77 : decode cX11_isNearer 77 = .ok (.ladd, 1) := by decide +kernel
theorem dX11_isNearer_78 : decode cX11_isNearer 78 = .ok (.ldc2_w 38, 3) := by decide +kernel
theorem dX11_isNearer_81 : decode cX11_isNearer 81 = .ok (.lload_n 3, 1) := by decide +kernel
theorem dX11_isNearer_82 : decode cX11_isNearer 82 = .ok (.lmul, 1) := by decide +kernel
theorem dX11_isNearer_83 : decode cX11_isNearer 83 = .ok (.lload 7, 2) := by decide +kernel
theorem dX11_isNearer_85 : decode cX11_isNearer 85 = .ok (.lmul, 1) := by decide +kernel
theorem dX11_isNearer_86 : decode cX11_isNearer 86 = .ok (.invokevirtual 127, 3) := by decide +kernel
theorem dX11_isNearer_89 : decode cX11_isNearer 89 = .ok (.istore 11, 2) := by decide +kernel
theorem dX11_isNearer_91 : decode cX11_isNearer 91 = .ok (.iload 9, 2) := by decide +kernel
theorem dX11_isNearer_93 : decode cX11_isNearer 93 = .ok (.ifCond .eq 16, 3) := by decide +kernel
theorem dX11_isNearer_96 : decode cX11_isNearer 96 = .ok (.iload 11, 2) := by decide +kernel
theorem dX11_isNearer_98 : decode cX11_isNearer 98 = .ok (.ifCond .ne 7, 3) := by decide +kernel
theorem dX11_isNearer_101 : decode cX11_isNearer 101 = .ok (.iconst 1, 1) := by decide +kernel
theorem dX11_isNearer_102 : decode cX11_isNearer 102 = .ok (.goto 9, 3) := by decide +kernel
theorem dX11_isNearer_105 : decode cX11_isNearer 105 = .ok (.iconst 0, 1) := by decide +kernel
theorem dX11_isNearer_106 : decode cX11_isNearer 106 = .ok (.goto 5, 3) := by decide +kernel
theorem dX11_isNearer_109 : decode cX11_isNearer 109 = .ok (.iload 11, 2) := by decide +kernel
theorem dX11_isNearer_111 : decode cX11_isNearer 111 = .ok (.ireturn, 1) := by decide +kernel
theorem dX11_floorOf_0 : decode cX11_floorOf 0 = .ok (.iload_n 1, 1) := by decide +kernel
theorem dX11_floorOf_1 : decode cX11_floorOf 1 = .ok (.i2l, 1) := by decide +kernel
theorem dX11_floorOf_2 : decode cX11_floorOf 2 = .ok (.iload_n 1, 1) := by decide +kernel
theorem dX11_floorOf_3 : decode cX11_floorOf 3 = .ok (.i2l, 1) := by decide +kernel
theorem dX11_floorOf_4 : decode cX11_floorOf 4 = .ok (.lmul, 1) := by decide +kernel
theorem dX11_floorOf_5 : decode cX11_floorOf 5 = .ok (.aload_n 0, 1) := by decide +kernel
theorem dX11_floorOf_6 : decode cX11_floorOf 6 = .ok (.getfield 7, 3) := by decide +kernel
theorem dX11_floorOf_9 : decode cX11_floorOf 9 = .ok (.iconst 1, 1) := by decide +kernel
theorem dX11_floorOf_10 : decode cX11_floorOf 10 = .ok (.iaload, 1) := by decide +kernel
theorem dX11_floorOf_11 : decode cX11_floorOf 11 = .ok (.i2l, 1) := by decide +kernel
theorem dX11_floorOf_12 : decode cX11_floorOf 12 = .ok (.lmul, 1) := by decide +kernel
theorem dX11_floorOf_13 : decode cX11_floorOf 13 = .ok (.invokestatic 51, 3) := by decide +kernel
theorem dX11_floorOf_16 : decode cX11_floorOf 16 = .ok (.iload_n 1, 1) := by decide +kernel
theorem dX11_floorOf_17 : decode cX11_floorOf 17 = .ok (.i2l, 1) := by decide +kernel
theorem dX11_floorOf_18 : decode cX11_floorOf 18 = .ok (.aload_n 0, 1) := by decide +kernel
theorem dX11_floorOf_19 : decode cX11_floorOf 19 = .ok (.getfield 7, 3) := by decide +kernel
theorem dX11_floorOf_22 : decode cX11_floorOf 22 = .ok (.iconst 0, 1) := by decide +kernel
theorem dX11_floorOf_23 : decode cX11_floorOf 23 = .ok (.iaload, 1) := by decide +kernel
theorem dX11_floorOf_24 : decode cX11_floorOf 24 = .ok (.i2l, 1) := by decide +kernel
theorem dX11_floorOf_25 : decode cX11_floorOf 25 = .ok (.lmul, 1) := by decide +kernel
theorem dX11_floorOf_26 : decode cX11_floorOf 26 = .ok (.ladd, 1) := by decide +kernel
theorem dX11_floorOf_27 : decode cX11_floorOf 27 = .ok (.lstore_n 2, 1) := by decide +kernel
theorem dX11_floorOf_28 : decode cX11_floorOf 28 = .ok (.aload_n 0, 1) := by decide +kernel
theorem dX11_floorOf_29 : decode cX11_floorOf 29 = .ok (.getfield 7, 3) := by decide +kernel
theorem dX11_floorOf_32 : decode cX11_floorOf 32 = .ok (.iconst 2, 1) := by decide +kernel
theorem dX11_floorOf_33 : decode cX11_floorOf 33 = .ok (.iaload, 1) := by decide +kernel
theorem dX11_floorOf_34 : decode cX11_floorOf 34 = .ok (.ifCond .le 17, 3) := by decide +kernel
theorem dX11_floorOf_37 : decode cX11_floorOf 37 = .ok (.lload_n 2, 1) := by decide +kernel
theorem dX11_floorOf_38 : decode cX11_floorOf 38 = .ok (.aload_n 0, 1) := by decide +kernel
theorem dX11_floorOf_39 : decode cX11_floorOf 39 = .ok (.getfield 7, 3) := by decide +kernel
theorem dX11_floorOf_42 : decode cX11_floorOf 42 = .ok (.iconst 2, 1) := by decide +kernel
theorem dX11_floorOf_43 : decode cX11_floorOf 43 = .ok (.iaload, 1) := by decide +kernel
theorem dX11_floorOf_44 : decode cX11_floorOf 44 = .ok (.i2l, 1) := by decide +kernel
theorem dX11_floorOf_45 : decode cX11_floorOf 45 = .ok (.invokestatic 59, 3) := by decide +kernel
theorem dX11_floorOf_48 : decode cX11_floorOf 48 = .ok (.goto 18, 3) := by decide +kernel
theorem dX11_floorOf_51 : decode cX11_floorOf 51 = .ok (.lload_n 2, 1) := by decide +kernel
theorem dX11_floorOf_52 : decode cX11_floorOf 52 = .ok (.aload_n 0, 1) := by decide +kernel
theorem dX11_floorOf_53 : decode cX11_floorOf 53 = .ok (.getfield 7, 3) := by decide +kernel
theorem dX11_floorOf_56 : decode cX11_floorOf 56 = .ok (.iconst 2, 1) := by decide +kernel
theorem dX11_floorOf_57 : decode cX11_floorOf 57 = .ok (.iaload, 1) := by decide +kernel
theorem dX11_floorOf_58 : decode cX11_floorOf 58 = .ok (.ineg, 1) := by decide +kernel
theorem dX11_floorOf_59 : decode cX11_floorOf 59 = .ok (.i2l, 1) := by decide +kernel
theorem dX11_floorOf_60 : decode cX11_floorOf 60 = .ok (.invokestatic 59, 3) := by decide +kernel
theorem dX11_floorOf_63 : decode cX11_floorOf 63 = .ok (.lneg, 1) := by decide +kernel
theorem dX11_floorOf_64 : decode cX11_floorOf 64 = .ok (.lconst 1, 1) := by decide +kernel
theorem dX11_floorOf_65 : decode cX11_floorOf 65 = .ok (.lsub, 1) := by decide +kernel
theorem dX11_floorOf_66 : decode cX11_floorOf 66 = .ok (.lreturn, 1) := by decide +kernel
theorem dX11_seeks_0 : decode cX11_seeks 0 = .ok (.iconst 0, 1) := by decide +kernel
theorem dX11_seeks_1 : decode cX11_seeks 1 = .ok (.istore_n 2, 1) := by decide +kernel
theorem dX11_seeks_2 : decode cX11_seeks 2 = .ok (.iconst 1, 1) := by decide +kernel
theorem dX11_seeks_3 : decode cX11_seeks 3 = .ok (.istore_n 3, 1) := by decide +kernel
theorem dX11_seeks_4 : decode cX11_seeks 4 = .ok (.iload_n 3, 1) := by decide +kernel
theorem dX11_seeks_5 : decode cX11_seeks 5 = .ok (.iload_n 1, 1) := by decide +kernel
theorem dX11_seeks_6 : decode cX11_seeks 6 = .ok (.if_icmp .gt 83, 3) := by decide +kernel
theorem dX11_seeks_9 : decode cX11_seeks 9 = .ok (.aload_n 0, 1) := by decide +kernel
theorem dX11_seeks_10 : decode cX11_seeks 10 = .ok (.iload_n 3, 1) := by decide +kernel
theorem dX11_seeks_11 : decode cX11_seeks 11 = .ok (.invokevirtual 131, 3) := by decide +kernel
theorem dX11_seeks_14 : decode cX11_seeks 14 = .ok (.lstore 4, 2) := by decide +kernel
theorem dX11_seeks_16 : decode cX11_seeks 16 = .ok (.aload_n 0, 1) := by decide +kernel
theorem dX11_seeks_17 : decode cX11_seeks 17 = .ok (.lload 4, 2) := by decide +kernel
theorem dX11_seeks_19 : decode cX11_seeks 19 = .ok (.lconst 1, 1) := by decide +kernel
theorem dX11_seeks_20 : decode cX11_seeks 20 = .ok (.ladd, 1) := by decide +kernel
theorem dX11_seeks_21 : decode cX11_seeks 21 = .ok (.iload_n 3, 1) := by decide +kernel
theorem dX11_seeks_22 : decode cX11_seeks 22 = .ok (.i2l, 1) := by decide +kernel
theorem dX11_seeks_23 : decode cX11_seeks 23 = .ok (.lload 4, 2) := by decide +kernel
theorem dX11_seeks_25 : decode cX11_seeks 25 = .ok (.iload_n 3, 1) := by decide +kernel
theorem dX11_seeks_26 : decode cX11_seeks 26 = .ok (.i2l, 1) := by decide +kernel
theorem dX11_seeks_27 : decode cX11_seeks 27 = .ok (.invokevirtual 135, 3) := by decide +kernel
theorem dX11_seeks_30 : decode cX11_seeks 30 = .ok (.ifCond .eq 10, 3) := by decide +kernel
theorem dX11_seeks_33 : decode cX11_seeks 33 = .ok (.lload 4, 2) := by decide +kernel
theorem dX11_seeks_35 : decode cX11_seeks 35 = .ok (.lconst 1, 1) := by decide +kernel
theorem dX11_seeks_36 : decode cX11_seeks 36 = .ok (.ladd, 1) := by decide +kernel
theorem dX11_seeks_37 : decode cX11_seeks 37 = .ok (.goto 5, 3) := by decide +kernel
theorem dX11_seeks_40 : decode cX11_seeks 40 = .ok (.lload 4, 2) := by decide +kernel
theorem dX11_seeks_42 : decode cX11_seeks 42 = .ok (.lstore 4, 2) := by decide +kernel
theorem dX11_seeks_44 : decode cX11_seeks 44 = .ok (.iload_n 3, 1) := by decide +kernel
theorem dX11_seeks_45 : decode cX11_seeks 45 = .ok (.iconst 1, 1) := by decide +kernel
theorem dX11_seeks_46 : decode cX11_seeks 46 = .ok (.if_icmp .eq 23, 3) := by decide +kernel
theorem dX11_seeks_49 : decode cX11_seeks 49 = .ok (.aload_n 0, 1) := by decide +kernel
theorem dX11_seeks_50 : decode cX11_seeks 50 = .ok (.lload 4, 2) := by decide +kernel
theorem dX11_seeks_52 : decode cX11_seeks 52 = .ok (.iload_n 3, 1) := by decide +kernel
theorem dX11_seeks_53 : decode cX11_seeks 53 = .ok (.i2l, 1) := by decide +kernel
theorem dX11_seeks_54 : decode cX11_seeks 54 = .ok (.aload_n 0, 1) := by decide +kernel
theorem dX11_seeks_55 : decode cX11_seeks 55 = .ok (.getfield 139, 3) := by decide +kernel
theorem dX11_seeks_58 : decode cX11_seeks 58 = .ok (.aload_n 0, 1) := by decide +kernel
theorem dX11_seeks_59 : decode cX11_seeks 59 = .ok (.getfield 142, 3) := by decide +kernel
theorem dX11_seeks_62 : decode cX11_seeks 62 = .ok (.i2l, 1) := by decide +kernel
theorem dX11_seeks_63 : decode cX11_seeks 63 = .ok (.invokevirtual 135, 3) := by decide +kernel
theorem dX11_seeks_66 : decode cX11_seeks 66 = .ok (.ifCond .eq 17, 3) := by decide +kernel
theorem dX11_seeks_69 : decode cX11_seeks 69 = .ok (.aload_n 0, 1) := by decide +kernel
theorem dX11_seeks_70 : decode cX11_seeks 70 = .ok (.lload 4, 2) := by decide +kernel
theorem dX11_seeks_72 : decode cX11_seeks 72 = .ok (.putfield 139, 3) := by decide +kernel
theorem dX11_seeks_75 : decode cX11_seeks 75 = .ok (.aload_n 0, 1) := by decide +kernel
theorem dX11_seeks_76 : decode cX11_seeks 76 = .ok (.iload_n 3, 1) := by decide +kernel
theorem dX11_seeks_77 : decode cX11_seeks 77 = .ok (.putfield 142, 3) := by decide +kernel
theorem dX11_seeks_80 : decode cX11_seeks 80 = .ok (.iinc 2 1, 3) := by decide +kernel
theorem dX11_seeks_83 : decode cX11_seeks 83 = .ok (.iinc 3 1, 3) := by decide +kernel
theorem dX11_seeks_86 : decode cX11_seeks 86 = .ok (.goto (-82), 3) := by decide +kernel
theorem dX11_seeks_89 : decode cX11_seeks 89 = .ok (.iload_n 2, 1) := by decide +kernel
theorem dX11_seeks_90 : decode cX11_seeks 90 = .ok (.ireturn, 1) := by decide +kernel
theorem dX11_best_0 : decode cX11_best 0 = .ok (.iload_n 1, 1) := by decide +kernel
theorem dX11_best_1 : decode cX11_best 1 = .ok (.ifCond .ne 14, 3) := by decide +kernel
theorem dX11_best_4 : decode cX11_best 4 = .ok (.aload_n 0, 1) := by decide +kernel
theorem dX11_best_5 : decode cX11_best 5 = .ok (.getfield 139, 3) := by decide +kernel
theorem dX11_best_8 : decode cX11_best 8 = .ok (.l2i, 1) := by decide +kernel
theorem dX11_best_9 : decode cX11_best 9 = .ok (.ldc 145, 2) := by decide +kernel
theorem dX11_best_11 : decode cX11_best 11 = .ok (.iadd, 1) := by decide +kernel
theorem dX11_best_12 : decode cX11_best 12 = .ok (.goto 7, 3) := by decide +kernel
theorem dX11_best_15 : decode cX11_best 15 = .ok (.aload_n 0, 1) := by decide +kernel
theorem dX11_best_16 : decode cX11_best 16 = .ok (.getfield 142, 3) := by decide +kernel
theorem dX11_best_19 : decode cX11_best 19 = .ok (.ireturn, 1) := by decide +kernel
theorem dX11_nearest_0 : decode cX11_nearest 0 = .ok (.iload_n 1, 1) := by decide +kernel
theorem dX11_nearest_1 : decode cX11_nearest 1 = .ok (.i2l, 1) := by decide +kernel
theorem dX11_nearest_2 : decode cX11_nearest 2 = .ok (.lconst 1, 1) := by decide +kernel
theorem dX11_nearest_3 : decode cX11_nearest 3 = .ok (.ldc2_w 146, 3) := by decide +kernel
theorem dX11_nearest_6 : decode cX11_nearest 6 = .ok (.invokestatic 44, 3) := by decide +kernel
theorem dX11_nearest_9 : decode cX11_nearest 9 = .ok (.ifCond .eq 13, 3) := by decide +kernel
theorem dX11_nearest_12 : decode cX11_nearest 12 = .ok (.iload_n 2, 1) := by decide +kernel
theorem dX11_nearest_13 : decode cX11_nearest 13 = .ok (.i2l, 1) := by decide +kernel
theorem dX11_nearest_14 : decode cX11_nearest 14 = .ok (.lconst 0, 1) := by decide +kernel
theorem dX11_nearest_15 : decode cX11_nearest 15 = .ok (.lconst 1, 1) := by decide +kernel
theorem dX11_nearest_16 : decode cX11_nearest 16 = .ok (.invokestatic 44, 3) := by decide +kernel
theorem dX11_nearest_19 : decode cX11_nearest 19 = .ok (.ifCond .ne 6, 3) := by decide +kernel
theorem dX11_nearest_22 : decode cX11_nearest 22 = .ok (.ldc 50, 2) := by decide +kernel
theorem dX11_nearest_24 : decode cX11_nearest 24 = .ok (.ireturn, 1) := by decide +kernel
theorem dX11_nearest_25 : decode cX11_nearest 25 = .ok (.aload_n 0, 1) := by decide +kernel
theorem dX11_nearest_26 : decode cX11_nearest 26 = .ok (.iload_n 1, 1) := by decide +kernel
theorem dX11_nearest_27 : decode cX11_nearest 27 = .ok (.invokevirtual 148, 3) := by decide +kernel
theorem dX11_nearest_30 : decode cX11_nearest 30 = .ok (.pop, 1) := by decide +kernel
theorem dX11_nearest_31 : decode cX11_nearest 31 = .ok (.aload_n 0, 1) := by decide +kernel
theorem dX11_nearest_32 : decode cX11_nearest 32 = .ok (.iload_n 2, 1) := by decide +kernel
theorem dX11_nearest_33 : decode cX11_nearest 33 = .ok (.invokevirtual 151, 3) := by decide +kernel
theorem dX11_nearest_36 : decode cX11_nearest 36 = .ok (.ireturn, 1) := by decide +kernel
theorem dX11_beside_0 : decode cX11_beside 0 = .ok (.iload_n 1, 1) := by decide +kernel
theorem dX11_beside_1 : decode cX11_beside 1 = .ok (.i2l, 1) := by decide +kernel
theorem dX11_beside_2 : decode cX11_beside 2 = .ok (.lconst 1, 1) := by decide +kernel
theorem dX11_beside_3 : decode cX11_beside 3 = .ok (.ldc2_w 146, 3) := by decide +kernel
theorem dX11_beside_6 : decode cX11_beside 6 = .ok (.invokestatic 44, 3) := by decide +kernel
theorem dX11_beside_9 : decode cX11_beside 9 = .ok (.ifCond .eq 23, 3) := by decide +kernel
theorem dX11_beside_12 : decode cX11_beside 12 = .ok (.iload_n 2, 1) := by decide +kernel
theorem dX11_beside_13 : decode cX11_beside 13 = .ok (.i2l, 1) := by decide +kernel
theorem dX11_beside_14 : decode cX11_beside 14 = .ok (.lconst 0, 1) := by decide +kernel
theorem dX11_beside_15 : decode cX11_beside 15 = .ok (.lconst 1, 1) := by decide +kernel
theorem dX11_beside_16 : decode cX11_beside 16 = .ok (.invokestatic 44, 3) := by decide +kernel
theorem dX11_beside_19 : decode cX11_beside 19 = .ok (.ifCond .eq 13, 3) := by decide +kernel
theorem dX11_beside_22 : decode cX11_beside 22 = .ok (.iload_n 3, 1) := by decide +kernel
theorem dX11_beside_23 : decode cX11_beside 23 = .ok (.i2l, 1) := by decide +kernel
theorem dX11_beside_24 : decode cX11_beside 24 = .ok (.lconst 0, 1) := by decide +kernel
theorem dX11_beside_25 : decode cX11_beside 25 = .ok (.lconst 1, 1) := by decide +kernel
theorem dX11_beside_26 : decode cX11_beside 26 = .ok (.invokestatic 44, 3) := by decide +kernel
theorem dX11_beside_29 : decode cX11_beside 29 = .ok (.ifCond .ne 6, 3) := by decide +kernel
theorem dX11_beside_32 : decode cX11_beside 32 = .ok (.ldc 50, 2) := by decide +kernel
theorem dX11_beside_34 : decode cX11_beside 34 = .ok (.ireturn, 1) := by decide +kernel
theorem dX11_beside_35 : decode cX11_beside 35 = .ok (.iconst 1, 1) := by decide +kernel
theorem dX11_beside_36 : decode cX11_beside 36 = .ok (.istore 4, 2) := by decide +kernel
theorem dX11_beside_38 : decode cX11_beside 38 = .ok (.iload 4, 2) := by decide +kernel
theorem dX11_beside_40 : decode cX11_beside 40 = .ok (.iload_n 1, 1) := by decide +kernel
theorem dX11_beside_41 : decode cX11_beside 41 = .ok (.if_icmp .gt 78, 3) := by decide +kernel
theorem dX11_beside_44 : decode cX11_beside 44 = .ok (.aload_n 0, 1) := by decide +kernel
theorem dX11_beside_45 : decode cX11_beside 45 = .ok (.iload 4, 2) := by decide +kernel
theorem dX11_beside_47 : decode cX11_beside 47 = .ok (.invokevirtual 131, 3) := by decide +kernel
theorem dX11_beside_50 : decode cX11_beside 50 = .ok (.iload_n 2, 1) := by decide +kernel
theorem dX11_beside_51 : decode cX11_beside 51 = .ok (.i2l, 1) := by decide +kernel
theorem dX11_beside_52 : decode cX11_beside 52 = .ok (.ladd, 1) := by decide +kernel
theorem dX11_beside_53 : decode cX11_beside 53 = .ok (.lstore 5, 2) := by decide +kernel
theorem dX11_beside_55 : decode cX11_beside 55 = .ok (.lload 5, 2) := by decide +kernel
theorem dX11_beside_57 : decode cX11_beside 57 = .ok (.aload_n 0, 1) := by decide +kernel
theorem dX11_beside_58 : decode cX11_beside 58 = .ok (.getfield 142, 3) := by decide +kernel
theorem dX11_beside_61 : decode cX11_beside 61 = .ok (.i2l, 1) := by decide +kernel
theorem dX11_beside_62 : decode cX11_beside 62 = .ok (.lmul, 1) := by decide +kernel
theorem dX11_beside_63 : decode cX11_beside 63 = .ok (.aload_n 0, 1) := by decide +kernel
theorem dX11_beside_64 : decode cX11_beside 64 = .ok (.getfield 139, 3) := by decide +kernel
theorem dX11_beside_67 : decode cX11_beside 67 = .ok (.iload 4, 2) := by decide +kernel
theorem dX11_beside_69 : decode cX11_beside 69 = .ok (.i2l, 1) := by decide +kernel
theorem dX11_beside_70 : decode cX11_beside 70 = .ok (.lmul, 1) := by decide +kernel
theorem dX11_beside_71 : decode cX11_beside 71 = .ok (.lsub, 1) := by decide +kernel
theorem dX11_beside_72 : decode cX11_beside 72 = .ok (.lstore 7, 2) := by decide +kernel
theorem dX11_beside_74 : decode cX11_beside 74 = .ok (.iload 4, 2) := by decide +kernel
theorem dX11_beside_76 : decode cX11_beside 76 = .ok (.iconst 1, 1) := by decide +kernel
theorem dX11_beside_77 : decode cX11_beside 77 = .ok (.if_icmp .eq 24, 3) := by decide +kernel
theorem dX11_beside_80 : decode cX11_beside 80 = .ok (.iload_n 2, 1) := by decide +kernel
theorem dX11_beside_81 : decode cX11_beside 81 = .ok (.ifCond .ne 13, 3) := by decide +kernel
theorem dX11_beside_84 : decode cX11_beside 84 = .ok (.lload 7, 2) := by decide +kernel
theorem dX11_beside_86 : decode cX11_beside 86 = .ok (.lconst 0, 1) := by decide +kernel
theorem dX11_beside_87 : decode cX11_beside 87 = .ok (.lcmp, 1) := by decide +kernel
theorem dX11_beside_88 : decode cX11_beside 88 = .ok (.ifCond .le 25, 3) := by decide +kernel
theorem dX11_beside_91 : decode cX11_beside 91 = .ok (.goto 10, 3) := by decide +kernel
theorem dX11_beside_94 : decode cX11_beside 94 = .ok (.lload 7, 2) := by decide +kernel
theorem dX11_beside_96 : decode cX11_beside 96 = .ok (.lconst 0, 1) := by decide +kernel
theorem dX11_beside_97 : decode cX11_beside 97 = .ok (.lcmp, 1) := by decide +kernel
theorem dX11_beside_98 : decode cX11_beside 98 = .ok (.ifCond .ge 15, 3) := by decide +kernel
theorem dX11_beside_101 : decode cX11_beside 101 = .ok (.aload_n 0, 1) := by decide +kernel
theorem dX11_beside_102 : decode cX11_beside 102 = .ok (.lload 5, 2) := by decide +kernel
theorem dX11_beside_104 : decode cX11_beside 104 = .ok (.putfield 139, 3) := by decide +kernel
theorem dX11_beside_107 : decode cX11_beside 107 = .ok (.aload_n 0, 1) := by decide +kernel
theorem dX11_beside_108 : decode cX11_beside 108 = .ok (.iload 4, 2) := by decide +kernel
theorem dX11_beside_110 : decode cX11_beside 110 = .ok (.putfield 142, 3) := by decide +kernel
theorem dX11_beside_113 : decode cX11_beside 113 = .ok (.iinc 4 1, 3) := by decide +kernel
theorem dX11_beside_116 : decode cX11_beside 116 = .ok (.goto (-78), 3) := by decide +kernel
theorem dX11_beside_119 : decode cX11_beside 119 = .ok (.aload_n 0, 1) := by decide +kernel
theorem dX11_beside_120 : decode cX11_beside 120 = .ok (.iload_n 3, 1) := by decide +kernel
theorem dX11_beside_121 : decode cX11_beside 121 = .ok (.invokevirtual 151, 3) := by decide +kernel
theorem dX11_beside_124 : decode cX11_beside 124 = .ok (.ireturn, 1) := by decide +kernel
theorem dX11_records_0 : decode cX11_records 0 = .ok (.iload_n 1, 1) := by decide +kernel
theorem dX11_records_1 : decode cX11_records 1 = .ok (.i2l, 1) := by decide +kernel
theorem dX11_records_2 : decode cX11_records 2 = .ok (.lconst 1, 1) := by decide +kernel
theorem dX11_records_3 : decode cX11_records 3 = .ok (.ldc2_w 146, 3) := by decide +kernel
theorem dX11_records_6 : decode cX11_records 6 = .ok (.invokestatic 44, 3) := by decide +kernel
theorem dX11_records_9 : decode cX11_records 9 = .ok (.ifCond .eq 11, 3) := by decide +kernel
theorem dX11_records_12 : decode cX11_records 12 = .ok (.aload_n 0, 1) := by decide +kernel
theorem dX11_records_13 : decode cX11_records 13 = .ok (.iload_n 1, 1) := by decide +kernel
theorem dX11_records_14 : decode cX11_records 14 = .ok (.invokevirtual 148, 3) := by decide +kernel
theorem dX11_records_17 : decode cX11_records 17 = .ok (.goto 5, 3) := by decide +kernel
theorem dX11_records_20 : decode cX11_records 20 = .ok (.ldc 50, 2) := by decide +kernel
theorem dX11_records_22 : decode cX11_records 22 = .ok (.ireturn, 1) := by decide +kernel
theorem dX11_solves_0 : decode cX11_solves 0 = .ok (.aload_n 0, 1) := by decide +kernel
theorem dX11_solves_1 : decode cX11_solves 1 = .ok (.iconst 0, 1) := by decide +kernel
theorem dX11_solves_2 : decode cX11_solves 2 = .ok (.putfield 154, 3) := by decide +kernel
theorem dX11_solves_5 : decode cX11_solves 5 = .ok (.iconst 0, 1) := by decide +kernel
theorem dX11_solves_6 : decode cX11_solves 6 = .ok (.istore_n 3, 1) := by decide +kernel
theorem dX11_solves_7 : decode cX11_solves 7 = .ok (.iload_n 3, 1) := by decide +kernel
theorem dX11_solves_8 : decode cX11_solves 8 = .ok (.sipush 5000, 3) := by decide +kernel
theorem dX11_solves_11 : decode cX11_solves 11 = .ok (.if_icmp .gt 117, 3) := by decide +kernel
theorem dX11_solves_14 : decode cX11_solves 14 = .ok (.iload_n 1, 1) := by decide +kernel
theorem dX11_solves_15 : decode cX11_solves 15 = .ok (.i2l, 1) := by decide +kernel
theorem dX11_solves_16 : decode cX11_solves 16 = .ok (.aload_n 0, 1) := by decide +kernel
theorem dX11_solves_17 : decode cX11_solves 17 = .ok (.getfield 7, 3) := by decide +kernel
theorem dX11_solves_20 : decode cX11_solves 20 = .ok (.iconst 1, 1) := by decide +kernel
theorem dX11_solves_21 : decode cX11_solves 21 = .ok (.iaload, 1) := by decide +kernel
theorem dX11_solves_22 : decode cX11_solves 22 = .ok (.i2l, 1) := by decide +kernel
theorem dX11_solves_23 : decode cX11_solves 23 = .ok (.iload_n 3, 1) := by decide +kernel
theorem dX11_solves_24 : decode cX11_solves 24 = .ok (.i2l, 1) := by decide +kernel
theorem dX11_solves_25 : decode cX11_solves 25 = .ok (.lmul, 1) := by decide +kernel
theorem dX11_solves_26 : decode cX11_solves 26 = .ok (.iload_n 3, 1) := by decide +kernel
theorem dX11_solves_27 : decode cX11_solves 27 = .ok (.i2l, 1) := by decide +kernel
theorem dX11_solves_28 : decode cX11_solves 28 = .ok (.lmul, 1) := by decide +kernel
theorem dX11_solves_29 : decode cX11_solves 29 = .ok (.ladd, 1) := by decide +kernel
theorem dX11_solves_30 : decode cX11_solves 30 = .ok (.lstore 4, 2) := by decide +kernel
theorem dX11_solves_32 : decode cX11_solves 32 = .ok (.lload 4, 2) := by decide +kernel
theorem dX11_solves_34 : decode cX11_solves 34 = .ok (.lconst 0, 1) := by decide +kernel
theorem dX11_solves_35 : decode cX11_solves 35 = .ok (.lcmp, 1) := by decide +kernel
theorem dX11_solves_36 : decode cX11_solves 36 = .ok (.ifCond .ge 9, 3) := by decide +kernel
theorem dX11_solves_39 : decode cX11_solves 39 = .ok (.ldc2_w 157, 3) := by decide +kernel
theorem dX11_solves_42 : decode cX11_solves 42 = .ok (.goto 8, 3) := by decide +kernel
theorem dX11_solves_45 : decode cX11_solves 45 = .ok (.lload 4, 2) := by decide +kernel
theorem dX11_solves_47 : decode cX11_solves 47 = .ok (.invokestatic 51, 3) := by decide +kernel
theorem dX11_solves_50 : decode cX11_solves 50 = .ok (.lstore 6, 2) := by decide +kernel
theorem dX11_solves_52 : decode cX11_solves 52 = .ok (.lload 6, 2) := by decide +kernel
theorem dX11_solves_54 : decode cX11_solves 54 = .ok (.lconst 0, 1) := by decide +kernel
theorem dX11_solves_55 : decode cX11_solves 55 = .ok (.lcmp, 1) := by decide +kernel
theorem dX11_solves_56 : decode cX11_solves 56 = .ok (.ifCond .lt 66, 3) := by decide +kernel
theorem dX11_solves_59 : decode cX11_solves 59 = .ok (.lload 6, 2) := by decide +kernel
theorem dX11_solves_61 : decode cX11_solves 61 = .ok (.lload 6, 2) := by decide +kernel
theorem dX11_solves_63 : decode cX11_solves 63 = .ok (.lmul, 1) := by decide +kernel
theorem dX11_solves_64 : decode cX11_solves 64 = .ok (.lload 4, 2) := by decide +kernel
theorem dX11_solves_66 : decode cX11_solves 66 = .ok (.lcmp, 1) := by decide +kernel
theorem dX11_solves_67 : decode cX11_solves 67 = .ok (.ifCond .ne 55, 3) := by decide +kernel
theorem dX11_solves_70 : decode cX11_solves 70 = .ok (.aload_n 0, 1) := by decide +kernel
theorem dX11_solves_71 : decode cX11_solves 71 = .ok (.aload_n 0, 1) := by decide +kernel
theorem dX11_solves_72 : decode cX11_solves 72 = .ok (.getfield 154, 3) := by decide +kernel
theorem dX11_solves_75 : decode cX11_solves 75 = .ok (.iload_n 2, 1) := by decide +kernel
theorem dX11_solves_76 : decode cX11_solves 76 = .ok (.if_icmp .ne 9, 3) := by decide +kernel
theorem dX11_solves_79 : decode cX11_solves 79 = .ok (.lload 6, 2) := by decide +kernel
theorem dX11_solves_81 : decode cX11_solves 81 = .ok (.l2i, 1) := by decide +kernel
theorem dX11_solves_82 : decode cX11_solves 82 = .ok (.goto 7, 3) := by decide +kernel
theorem dX11_solves_85 : decode cX11_solves 85 = .ok (.aload_n 0, 1) := by decide +kernel
theorem dX11_solves_86 : decode cX11_solves 86 = .ok (.getfield 159, 3) := by decide +kernel
theorem dX11_solves_89 : decode cX11_solves 89 = .ok (.putfield 159, 3) := by decide +kernel
theorem dX11_solves_92 : decode cX11_solves 92 = .ok (.aload_n 0, 1) := by decide +kernel
theorem dX11_solves_93 : decode cX11_solves 93 = .ok (.aload_n 0, 1) := by decide +kernel
theorem dX11_solves_94 : decode cX11_solves 94 = .ok (.getfield 154, 3) := by decide +kernel
theorem dX11_solves_97 : decode cX11_solves 97 = .ok (.iload_n 2, 1) := by decide +kernel
theorem dX11_solves_98 : decode cX11_solves 98 = .ok (.if_icmp .ne 7, 3) := by decide +kernel
theorem dX11_solves_101 : decode cX11_solves 101 = .ok (.iload_n 3, 1) := by decide +kernel
theorem dX11_solves_102 : decode cX11_solves 102 = .ok (.goto 7, 3) := by decide +kernel
theorem dX11_solves_105 : decode cX11_solves 105 = .ok (.aload_n 0, 1) := by decide +kernel
theorem dX11_solves_106 : decode cX11_solves 106 = .ok (.getfield 162, 3) := by decide +kernel
theorem dX11_solves_109 : decode cX11_solves 109 = .ok (.putfield 162, 3) := by decide +kernel
theorem dX11_solves_112 : decode cX11_solves 112 = .ok (.aload_n 0, 1) := by decide +kernel
theorem dX11_solves_113 : decode cX11_solves 113 = .ok (.dup, 1) := by decide +kernel
theorem dX11_solves_114 : decode cX11_solves 114 = .ok (.getfield 154, 3) := by decide +kernel
theorem dX11_solves_117 : decode cX11_solves 117 = .ok (.iconst 1, 1) := by decide +kernel
theorem dX11_solves_118 : decode cX11_solves 118 = .ok (.iadd, 1) := by decide +kernel
theorem dX11_solves_119 : decode cX11_solves 119 = .ok (.putfield 154, 3) := by decide +kernel
theorem dX11_solves_122 : decode cX11_solves 122 = .ok (.iinc 3 1, 3) := by decide +kernel
theorem dX11_solves_125 : decode cX11_solves 125 = .ok (.goto (-118), 3) := by decide +kernel
theorem dX11_solves_128 : decode cX11_solves 128 = .ok (.return_, 1) := by decide +kernel
theorem dX11_isN_0 : decode cX11_isN 0 = .ok (.iload_n 0, 1) := by decide +kernel
theorem dX11_isN_1 : decode cX11_isN 1 = .ok (.i2l, 1) := by decide +kernel
theorem dX11_isN_2 : decode cX11_isN 2 = .ok (.ldc2_w 165, 3) := by decide +kernel
theorem dX11_isN_5 : decode cX11_isN 5 = .ok (.ldc2_w 167, 3) := by decide +kernel
theorem dX11_isN_8 : decode cX11_isN 8 = .ok (.invokestatic 44, 3) := by decide +kernel
theorem dX11_isN_11 : decode cX11_isN 11 = .ok (.ifCond .eq 11, 3) := by decide +kernel
theorem dX11_isN_14 : decode cX11_isN 14 = .ok (.iload_n 0, 1) := by decide +kernel
theorem dX11_isN_15 : decode cX11_isN 15 = .ok (.ifCond .eq 7, 3) := by decide +kernel
theorem dX11_isN_18 : decode cX11_isN 18 = .ok (.iconst 1, 1) := by decide +kernel
theorem dX11_isN_19 : decode cX11_isN 19 = .ok (.goto 4, 3) := by decide +kernel
theorem dX11_isN_22 : decode cX11_isN 22 = .ok (.iconst 0, 1) := by decide +kernel
theorem dX11_isN_23 : decode cX11_isN 23 = .ok (.ireturn, 1) := by decide +kernel
theorem dX11_solution_0 : decode cX11_solution 0 = .ok (.iload_n 1, 1) := by decide +kernel
theorem dX11_solution_1 : decode cX11_solution 1 = .ok (.invokestatic 169, 3) := by decide +kernel
theorem dX11_solution_4 : decode cX11_solution 4 = .ok (.ifCond .eq 17, 3) := by decide +kernel
theorem dX11_solution_7 : decode cX11_solution 7 = .ok (.iload_n 2, 1) := by decide +kernel
theorem dX11_solution_8 : decode cX11_solution 8 = .ok (.ifCond .lt 13, 3) := by decide +kernel
theorem dX11_solution_11 : decode cX11_solution 11 = .ok (.iload_n 3, 1) := by decide +kernel
theorem dX11_solution_12 : decode cX11_solution 12 = .ok (.i2l, 1) := by decide +kernel
theorem dX11_solution_13 : decode cX11_solution 13 = .ok (.lconst 0, 1) := by decide +kernel
theorem dX11_solution_14 : decode cX11_solution 14 = .ok (.lconst 1, 1) := by decide +kernel
theorem dX11_solution_15 : decode cX11_solution 15 = .ok (.invokestatic 44, 3) := by decide +kernel
theorem dX11_solution_18 : decode cX11_solution 18 = .ok (.ifCond .ne 6, 3) := by decide +kernel
theorem dX11_solution_21 : decode cX11_solution 21 = .ok (.ldc 50, 2) := by decide +kernel
theorem dX11_solution_23 : decode cX11_solution 23 = .ok (.ireturn, 1) := by decide +kernel
theorem dX11_solution_24 : decode cX11_solution 24 = .ok (.aload_n 0, 1) := by decide +kernel
theorem dX11_solution_25 : decode cX11_solution 25 = .ok (.iload_n 1, 1) := by decide +kernel
theorem dX11_solution_26 : decode cX11_solution 26 = .ok (.iload_n 2, 1) := by decide +kernel
theorem dX11_solution_27 : decode cX11_solution 27 = .ok (.invokevirtual 172, 3) := by decide +kernel
theorem dX11_solution_30 : decode cX11_solution 30 = .ok (.iload_n 2, 1) := by decide +kernel
theorem dX11_solution_31 : decode cX11_solution 31 = .ok (.aload_n 0, 1) := by decide +kernel
theorem dX11_solution_32 : decode cX11_solution 32 = .ok (.getfield 154, 3) := by decide +kernel
theorem dX11_solution_35 : decode cX11_solution 35 = .ok (.if_icmp .lt 8, 3) := by decide +kernel
theorem dX11_solution_38 : decode cX11_solution 38 = .ok (.ldc 176, 2) := by decide +kernel
theorem dX11_solution_40 : decode cX11_solution 40 = .ok (.goto 18, 3) := by decide +kernel
theorem dX11_solution_43 : decode cX11_solution 43 = .ok (.iload_n 3, 1) := by decide +kernel
theorem dX11_solution_44 : decode cX11_solution 44 = .ok (.ifCond .ne 10, 3) := by decide +kernel
theorem dX11_solution_47 : decode cX11_solution 47 = .ok (.aload_n 0, 1) := by decide +kernel
theorem dX11_solution_48 : decode cX11_solution 48 = .ok (.getfield 159, 3) := by decide +kernel
theorem dX11_solution_51 : decode cX11_solution 51 = .ok (.goto 7, 3) := by decide +kernel
theorem dX11_solution_54 : decode cX11_solution 54 = .ok (.aload_n 0, 1) := by decide +kernel
theorem dX11_solution_55 : decode cX11_solution 55 = .ok (.getfield 162, 3) := by decide +kernel
theorem dX11_solution_58 : decode cX11_solution 58 = .ok (.ireturn, 1) := by decide +kernel
theorem dX11_solutions_0 : decode cX11_solutions 0 = .ok (.iload_n 1, 1) := by decide +kernel
theorem dX11_solutions_1 : decode cX11_solutions 1 = .ok (.invokestatic 169, 3) := by decide +kernel
theorem dX11_solutions_4 : decode cX11_solutions 4 = .ok (.ifCond .ne 6, 3) := by decide +kernel
theorem dX11_solutions_7 : decode cX11_solutions 7 = .ok (.ldc 50, 2) := by decide +kernel
theorem dX11_solutions_9 : decode cX11_solutions 9 = .ok (.ireturn, 1) := by decide +kernel
theorem dX11_solutions_10 : decode cX11_solutions 10 = .ok (.aload_n 0, 1) := by decide +kernel
theorem dX11_solutions_11 : decode cX11_solutions 11 = .ok (.iload_n 1, 1) := by decide +kernel
theorem dX11_solutions_12 : decode cX11_solutions 12 = .ok (.ldc 176, 2) := by decide +kernel
theorem dX11_solutions_14 : decode cX11_solutions 14 = .ok (.invokevirtual 172, 3) := by decide +kernel
theorem dX11_solutions_17 : decode cX11_solutions 17 = .ok (.aload_n 0, 1) := by decide +kernel
theorem dX11_solutions_18 : decode cX11_solutions 18 = .ok (.getfield 154, 3) := by decide +kernel
theorem dX11_solutions_21 : decode cX11_solutions 21 = .ok (.ireturn, 1) := by decide +kernel
theorem dX11_leastSolution_0 : decode cX11_leastSolution 0 = .ok (.iload_n 1, 1) := by decide +kernel
theorem dX11_leastSolution_1 : decode cX11_leastSolution 1 = .ok (.i2l, 1) := by decide +kernel
theorem dX11_leastSolution_2 : decode cX11_leastSolution 2 = .ok (.lconst 0, 1) := by decide +kernel
theorem dX11_leastSolution_3 : decode cX11_leastSolution 3 = .ok (.lconst 1, 1) := by decide +kernel
theorem dX11_leastSolution_4 : decode cX11_leastSolution 4 = .ok (.invokestatic 44, 3) := by decide +kernel
theorem dX11_leastSolution_7 : decode cX11_leastSolution 7 = .ok (.ifCond .ne 7, 3) := by decide +kernel
theorem dX11_leastSolution_10 : decode cX11_leastSolution 10 = .ok (.ldc2_w 120, 3) := by decide +kernel
theorem dX11_leastSolution_13 : decode cX11_leastSolution 13 = .ok (.lreturn, 1) := by decide +kernel
theorem dX11_leastSolution_14 : decode cX11_leastSolution 14 = .ok (.aload_n 0, 1) := by decide +kernel
theorem dX11_leastSolution_15 : decode cX11_leastSolution 15 = .ok (.lconst 0, 1) := by decide +kernel
theorem dX11_leastSolution_16 : decode cX11_leastSolution 16 = .ok (.aload_n 0, 1) := by decide +kernel
theorem dX11_leastSolution_17 : decode cX11_leastSolution 17 = .ok (.getfield 7, 3) := by decide +kernel
theorem dX11_leastSolution_20 : decode cX11_leastSolution 20 = .ok (.iconst 1, 1) := by decide +kernel
theorem dX11_leastSolution_21 : decode cX11_leastSolution 21 = .ok (.iaload, 1) := by decide +kernel
theorem dX11_leastSolution_22 : decode cX11_leastSolution 22 = .ok (.i2l, 1) := by decide +kernel
theorem dX11_leastSolution_23 : decode cX11_leastSolution 23 = .ok (.lconst 1, 1) := by decide +kernel
theorem dX11_leastSolution_24 : decode cX11_leastSolution 24 = .ok (.invokevirtual 63, 3) := by decide +kernel
theorem dX11_leastSolution_27 : decode cX11_leastSolution 27 = .ok (.aload_n 0, 1) := by decide +kernel
theorem dX11_leastSolution_28 : decode cX11_leastSolution 28 = .ok (.invokevirtual 113, 3) := by decide +kernel
theorem dX11_leastSolution_31 : decode cX11_leastSolution 31 = .ok (.iconst 0, 1) := by decide +kernel
theorem dX11_leastSolution_32 : decode cX11_leastSolution 32 = .ok (.istore_n 2, 1) := by decide +kernel
theorem dX11_leastSolution_33 : decode cX11_leastSolution 33 = .ok (.iload_n 2, 1) := by decide +kernel
theorem dX11_leastSolution_34 : decode cX11_leastSolution 34 = .ok (.sipush 400, 3) := by decide +kernel
theorem dX11_leastSolution_37 : decode cX11_leastSolution 37 = .ok (.if_icmp .ge 63, 3) := by decide +kernel
theorem dX11_leastSolution_40 : decode cX11_leastSolution 40 = .ok (.aload_n 0, 1) := by decide +kernel
theorem dX11_leastSolution_41 : decode cX11_leastSolution 41 = .ok (.aload_n 0, 1) := by decide +kernel
theorem dX11_leastSolution_42 : decode cX11_leastSolution 42 = .ok (.getfield 19, 3) := by decide +kernel
theorem dX11_leastSolution_45 : decode cX11_leastSolution 45 = .ok (.iload_n 2, 1) := by decide +kernel
theorem dX11_leastSolution_46 : decode cX11_leastSolution 46 = .ok (.iaload, 1) := by decide +kernel
theorem dX11_leastSolution_47 : decode cX11_leastSolution 47 = .ok (.i2l, 1) := by decide +kernel
theorem dX11_leastSolution_48 : decode cX11_leastSolution 48 = .ok (.invokevirtual 116, 3) := by decide +kernel
theorem dX11_leastSolution_51 : decode cX11_leastSolution 51 = .ok (.ifCond .ne 7, 3) := by decide +kernel
theorem dX11_leastSolution_54 : decode cX11_leastSolution 54 = .ok (.ldc2_w 125, 3) := by decide +kernel
theorem dX11_leastSolution_57 : decode cX11_leastSolution 57 = .ok (.lreturn, 1) := by decide +kernel
theorem dX11_leastSolution_58 : decode cX11_leastSolution 58 = .ok (.iload_n 2, 1) := by decide +kernel
theorem dX11_leastSolution_59 : decode cX11_leastSolution 59 = .ok (.iconst 2, 1) := by decide +kernel
theorem dX11_leastSolution_60 : decode cX11_leastSolution 60 = .ok (.irem, 1) := by decide +kernel
theorem dX11_leastSolution_61 : decode cX11_leastSolution 61 = .ok (.iconst 1, 1) := by decide +kernel
theorem dX11_leastSolution_62 : decode cX11_leastSolution 62 = .ok (.if_icmp .ne 32, 3) := by decide +kernel
theorem dX11_leastSolution_65 : decode cX11_leastSolution 65 = .ok (.aload_n 0, 1) := by decide +kernel
theorem dX11_leastSolution_66 : decode cX11_leastSolution 66 = .ok (.getfield 26, 3) := by decide +kernel
theorem dX11_leastSolution_69 : decode cX11_leastSolution 69 = .ok (.iload_n 2, 1) := by decide +kernel
theorem dX11_leastSolution_70 : decode cX11_leastSolution 70 = .ok (.iconst 1, 1) := by decide +kernel
theorem dX11_leastSolution_71 : decode cX11_leastSolution 71 = .ok (.iadd, 1) := by decide +kernel
theorem dX11_leastSolution_72 : decode cX11_leastSolution 72 = .ok (.laload, 1) := by decide +kernel
theorem dX11_leastSolution_73 : decode cX11_leastSolution 73 = .ok (.lconst 1, 1) := by decide +kernel
theorem dX11_leastSolution_74 : decode cX11_leastSolution 74 = .ok (.lcmp, 1) := by decide +kernel
theorem dX11_leastSolution_75 : decode cX11_leastSolution 75 = .ok (.ifCond .ne 19, 3) := by decide +kernel
theorem dX11_leastSolution_78 : decode cX11_leastSolution 78 = .ok (.iload_n 1, 1) := by decide +kernel
theorem dX11_leastSolution_79 : decode cX11_leastSolution 79 = .ok (.ifCond .ne 10, 3) := by decide +kernel
theorem dX11_leastSolution_82 : decode cX11_leastSolution 82 = .ok (.aload_n 0, 1) := by decide +kernel
theorem dX11_leastSolution_83 : decode cX11_leastSolution 83 = .ok (.getfield 93, 3) := by decide +kernel
theorem dX11_leastSolution_86 : decode cX11_leastSolution 86 = .ok (.goto 7, 3) := by decide +kernel
theorem dX11_leastSolution_89 : decode cX11_leastSolution 89 = .ok (.aload_n 0, 1) := by decide +kernel
theorem dX11_leastSolution_90 : decode cX11_leastSolution 90 = .ok (.getfield 97, 3) := by decide +kernel
theorem dX11_leastSolution_93 : decode cX11_leastSolution 93 = .ok (.lreturn, 1) := by decide +kernel
theorem dX11_leastSolution_94 : decode cX11_leastSolution 94 = .ok (.iinc 2 1, 3) := by decide +kernel
theorem dX11_leastSolution_97 : decode cX11_leastSolution 97 = .ok (.goto (-64), 3) := by decide +kernel
theorem dX11_leastSolution_100 : decode cX11_leastSolution 100 = .ok (.ldc2_w 125, 3) := by decide +kernel
theorem dX11_leastSolution_103 : decode cX11_leastSolution 103 = .ok (.lreturn, 1) := by decide +kernel
theorem dX11_isAt_0 : decode cX11_isAt 0 = .ok (.aload_n 0, 1) := by decide +kernel
theorem dX11_isAt_1 : decode cX11_isAt 1 = .ok (.getfield 177, 3) := by decide +kernel
theorem dX11_isAt_4 : decode cX11_isAt 4 = .ok (.aload_n 0, 1) := by decide +kernel
theorem dX11_isAt_5 : decode cX11_isAt 5 = .ok (.getfield 180, 3) := by decide +kernel
theorem dX11_isAt_8 : decode cX11_isAt 8 = .ok (.if_icmp .ge 27, 3) := by decide +kernel
theorem dX11_isAt_11 : decode cX11_isAt 11 = .ok (.aload_n 0, 1) := by decide +kernel
theorem dX11_isAt_12 : decode cX11_isAt 12 = .ok (.getfield 16, 3) := by decide +kernel
theorem dX11_isAt_15 : decode cX11_isAt 15 = .ok (.aload_n 0, 1) := by decide +kernel
theorem dX11_isAt_16 : decode cX11_isAt 16 = .ok (.getfield 177, 3) := by decide +kernel
theorem dX11_isAt_19 : decode cX11_isAt 19 = .ok (.iaload, 1) := by decide +kernel
theorem dX11_isAt_20 : decode cX11_isAt 20 = .ok (.i2l, 1) := by decide +kernel
theorem dX11_isAt_21 : decode cX11_isAt 21 = .ok (.iload_n 1, 1) := by decide +kernel
theorem dX11_isAt_22 : decode cX11_isAt 22 = .ok (.i2l, 1) := by decide +kernel
theorem dX11_isAt_23 : decode cX11_isAt 23 = .ok (.iload_n 2, 1) := by decide +kernel
theorem dX11_isAt_24 : decode cX11_isAt 24 = .ok (.i2l, 1) := by decide +kernel
theorem dX11_isAt_25 : decode cX11_isAt 25 = .ok (.invokestatic 44, 3) := by decide +kernel
theorem dX11_isAt_28 : decode cX11_isAt 28 = .ok (.ifCond .eq 7, 3) := by decide +kernel
theorem dX11_isAt_31 : decode cX11_isAt 31 = .ok (.iconst 1, 1) := by decide +kernel
theorem dX11_isAt_32 : decode cX11_isAt 32 = .ok (.goto 4, 3) := by decide +kernel
theorem dX11_isAt_35 : decode cX11_isAt 35 = .ok (.iconst 0, 1) := by decide +kernel
theorem dX11_isAt_36 : decode cX11_isAt 36 = .ok (.ireturn, 1) := by decide +kernel
theorem dX11_passes_0 : decode cX11_passes 0 = .ok (.aload_n 0, 1) := by decide +kernel
theorem dX11_passes_1 : decode cX11_passes 1 = .ok (.iload_n 1, 1) := by decide +kernel
theorem dX11_passes_2 : decode cX11_passes 2 = .ok (.iload_n 1, 1) := by decide +kernel
theorem dX11_passes_3 : decode cX11_passes 3 = .ok (.invokevirtual 183, 3) := by decide +kernel
theorem dX11_passes_6 : decode cX11_passes 6 = .ok (.istore_n 2, 1) := by decide +kernel
theorem dX11_passes_7 : decode cX11_passes 7 = .ok (.aload_n 0, 1) := by decide +kernel
theorem dX11_passes_8 : decode cX11_passes 8 = .ok (.dup, 1) := by decide +kernel
theorem dX11_passes_9 : decode cX11_passes 9 = .ok (.getfield 177, 3) := by decide +kernel
theorem dX11_passes_12 : decode cX11_passes 12 = .ok (.iload_n 2, 1) := by decide +kernel
theorem dX11_passes_13 : decode cX11_passes 13 = .ok (.ifCond .eq 7, 3) := by decide +kernel
theorem dX11_passes_16 : decode cX11_passes 16 = .ok (.iconst 1, 1) := by decide +kernel
theorem dX11_passes_17 : decode cX11_passes 17 = .ok (.goto 4, 3) := by decide +kernel
theorem dX11_passes_20 : decode cX11_passes 20 = .ok (.iconst 0, 1) := by decide +kernel
theorem dX11_passes_21 : decode cX11_passes 21 = .ok (.iadd, 1) := by decide +kernel
theorem dX11_passes_22 : decode cX11_passes 22 = .ok (.putfield 177, 3) := by decide +kernel
theorem dX11_passes_25 : decode cX11_passes 25 = .ok (.iload_n 2, 1) := by decide +kernel
theorem dX11_passes_26 : decode cX11_passes 26 = .ok (.ireturn, 1) := by decide +kernel
theorem dX11_number_0 : decode cX11_number 0 = .ok (.aload_n 0, 1) := by decide +kernel
theorem dX11_number_1 : decode cX11_number 1 = .ok (.getfield 177, 3) := by decide +kernel
theorem dX11_number_4 : decode cX11_number 4 = .ok (.istore_n 1, 1) := by decide +kernel
theorem dX11_number_5 : decode cX11_number 5 = .ok (.iconst 0, 1) := by decide +kernel
theorem dX11_number_6 : decode cX11_number 6 = .ok (.istore_n 2, 1) := by decide +kernel
theorem dX11_number_7 : decode cX11_number 7 = .ok (.aload_n 0, 1) := by decide +kernel
theorem dX11_number_8 : decode cX11_number 8 = .ok (.bipush 48, 2) := by decide +kernel
theorem dX11_number_10 : decode cX11_number 10 = .ok (.bipush 57, 2) := by decide +kernel
theorem dX11_number_12 : decode cX11_number 12 = .ok (.invokevirtual 183, 3) := by decide +kernel
theorem dX11_number_15 : decode cX11_number 15 = .ok (.ifCond .eq 56, 3) := by decide +kernel
theorem dX11_number_18 : decode cX11_number 18 = .ok (.aload_n 0, 1) := by decide +kernel
theorem dX11_number_19 : decode cX11_number 19 = .ok (.getfield 177, 3) := by decide +kernel
theorem dX11_number_22 : decode cX11_number 22 = .ok (.iload_n 1, 1) := by decide +kernel
theorem dX11_number_23 : decode cX11_number 23 = .ok (.isub, 1) := by decide +kernel
theorem dX11_number_24 : decode cX11_number 24 = .ok (.iconst 3, 1) := by decide +kernel
theorem dX11_number_25 : decode cX11_number 25 = .ok (.if_icmp .ge 46, 3) := by decide +kernel
theorem dX11_number_28 : decode cX11_number 28 = .ok (.aload_n 0, 1) := by decide +kernel
theorem dX11_number_29 : decode cX11_number 29 = .ok (.getfield 177, 3) := by decide +kernel
theorem dX11_number_32 : decode cX11_number 32 = .ok (.iload_n 1, 1) := by decide +kernel
theorem dX11_number_33 : decode cX11_number 33 = .ok (.if_icmp .eq 7, 3) := by decide +kernel
theorem dX11_number_36 : decode cX11_number 36 = .ok (.iload_n 2, 1) := by decide +kernel
theorem dX11_number_37 : decode cX11_number 37 = .ok (.ifCond .le 34, 3) := by decide +kernel
theorem dX11_number_40 : decode cX11_number 40 = .ok (.bipush 10, 2) := by decide +kernel
theorem dX11_number_42 : decode cX11_number 42 = .ok (.iload_n 2, 1) := by decide +kernel
theorem dX11_number_43 : decode cX11_number 43 = .ok (.imul, 1) := by decide +kernel
theorem dX11_number_44 : decode cX11_number 44 = .ok (.aload_n 0, 1) := by decide +kernel
theorem dX11_number_45 : decode cX11_number 45 = .ok (.getfield 16, 3) := by decide +kernel
theorem dX11_number_48 : decode cX11_number 48 = .ok (.aload_n 0, 1) := by decide +kernel
theorem dX11_number_49 : decode cX11_number 49 = .ok (.getfield 177, 3) := by decide +kernel
theorem dX11_number_52 : decode cX11_number 52 = .ok (.iaload, 1) := by decide +kernel
theorem dX11_number_53 : decode cX11_number 53 = .ok (.iadd, 1) := by decide +kernel
theorem dX11_number_54 : decode cX11_number 54 = .ok (.bipush 48, 2) := by decide +kernel
theorem dX11_number_56 : decode cX11_number 56 = .ok (.isub, 1) := by decide +kernel
theorem dX11_number_57 : decode cX11_number 57 = .ok (.istore_n 2, 1) := by decide +kernel
theorem dX11_number_58 : decode cX11_number 58 = .ok (.aload_n 0, 1) := by decide +kernel
theorem dX11_number_59 : decode cX11_number 59 = .ok (.dup, 1) := by decide +kernel
theorem dX11_number_60 : decode cX11_number 60 = .ok (.getfield 177, 3) := by decide +kernel
theorem dX11_number_63 : decode cX11_number 63 = .ok (.iconst 1, 1) := by decide +kernel
theorem dX11_number_64 : decode cX11_number 64 = .ok (.iadd, 1) := by decide +kernel
theorem dX11_number_65 : decode cX11_number 65 = .ok (.putfield 177, 3) := by decide +kernel
theorem dX11_number_68 : decode cX11_number 68 = .ok (.goto (-61), 3) := by decide +kernel
theorem dX11_number_71 : decode cX11_number 71 = .ok (.aload_n 0, 1) := by decide +kernel
theorem dX11_number_72 : decode cX11_number 72 = .ok (.getfield 29, 3) := by decide +kernel
theorem dX11_number_75 : decode cX11_number 75 = .ok (.aload_n 0, 1) := by decide +kernel
theorem dX11_number_76 : decode cX11_number 76 = .ok (.getfield 187, 3) := by decide +kernel
theorem dX11_number_79 : decode cX11_number 79 = .ok (.iload_n 2, 1) := by decide +kernel
theorem dX11_number_80 : decode cX11_number 80 = .ok (.iastore, 1) := by decide +kernel
theorem dX11_number_81 : decode cX11_number 81 = .ok (.aload_n 0, 1) := by decide +kernel
theorem dX11_number_82 : decode cX11_number 82 = .ok (.getfield 177, 3) := by decide +kernel
theorem dX11_number_85 : decode cX11_number 85 = .ok (.iload_n 1, 1) := by decide +kernel
theorem dX11_number_86 : decode cX11_number 86 = .ok (.if_icmp .le 7, 3) := by decide +kernel
theorem dX11_number_89 : decode cX11_number 89 = .ok (.iconst 1, 1) := by decide +kernel
theorem dX11_number_90 : decode cX11_number 90 = .ok (.goto 4, 3) := by decide +kernel
theorem dX11_number_93 : decode cX11_number 93 = .ok (.iconst 0, 1) := by decide +kernel
theorem dX11_number_94 : decode cX11_number 94 = .ok (.ireturn, 1) := by decide +kernel
theorem dX11_later_0 : decode cX11_later 0 = .ok (.aload_n 0, 1) := by decide +kernel
theorem dX11_later_1 : decode cX11_later 1 = .ok (.getfield 177, 3) := by decide +kernel
theorem dX11_later_4 : decode cX11_later 4 = .ok (.istore_n 1, 1) := by decide +kernel
theorem dX11_later_5 : decode cX11_later 5 = .ok (.aload_n 0, 1) := by decide +kernel
theorem dX11_later_6 : decode cX11_later 6 = .ok (.invokevirtual 190, 3) := by decide +kernel
theorem dX11_later_9 : decode cX11_later 9 = .ok (.ifCond .ne 5, 3) := by decide +kernel
theorem dX11_later_12 : decode cX11_later 12 = .ok (.iconst 0, 1) := by decide +kernel
theorem dX11_later_13 : decode cX11_later 13 = .ok (.ireturn, 1) := by decide +kernel
theorem dX11_later_14 : decode cX11_later 14 = .ok (.aload_n 0, 1) := by decide +kernel
theorem dX11_later_15 : decode cX11_later 15 = .ok (.getfield 29, 3) := by decide +kernel
theorem dX11_later_18 : decode cX11_later 18 = .ok (.aload_n 0, 1) := by decide +kernel
theorem dX11_later_19 : decode cX11_later 19 = .ok (.getfield 187, 3) := by decide +kernel
theorem dX11_later_22 : decode cX11_later 22 = .ok (.iaload, 1) := by decide +kernel
theorem dX11_later_23 : decode cX11_later 23 = .ok (.ifCond .ne 15, 3) := by decide +kernel
theorem dX11_later_26 : decode cX11_later 26 = .ok (.aload_n 0, 1) := by decide +kernel
theorem dX11_later_27 : decode cX11_later 27 = .ok (.iload_n 1, 1) := by decide +kernel
theorem dX11_later_28 : decode cX11_later 28 = .ok (.putfield 177, 3) := by decide +kernel
theorem dX11_later_31 : decode cX11_later 31 = .ok (.aload_n 0, 1) := by decide +kernel
theorem dX11_later_32 : decode cX11_later 32 = .ok (.iconst 2, 1) := by decide +kernel
theorem dX11_later_33 : decode cX11_later 33 = .ok (.putfield 194, 3) := by decide +kernel
theorem dX11_later_36 : decode cX11_later 36 = .ok (.iconst 0, 1) := by decide +kernel
theorem dX11_later_37 : decode cX11_later 37 = .ok (.ireturn, 1) := by decide +kernel
theorem dX11_later_38 : decode cX11_later 38 = .ok (.aload_n 0, 1) := by decide +kernel
theorem dX11_later_39 : decode cX11_later 39 = .ok (.dup, 1) := by decide +kernel
theorem dX11_later_40 : decode cX11_later 40 = .ok (.getfield 187, 3) := by decide +kernel
theorem dX11_later_43 : decode cX11_later 43 = .ok (.iconst 1, 1) := by decide +kernel
theorem dX11_later_44 : decode cX11_later 44 = .ok (.iadd, 1) := by decide +kernel
theorem dX11_later_45 : decode cX11_later 45 = .ok (.putfield 187, 3) := by decide +kernel
theorem dX11_later_48 : decode cX11_later 48 = .ok (.iconst 1, 1) := by decide +kernel
theorem dX11_later_49 : decode cX11_later 49 = .ok (.ireturn, 1) := by decide +kernel
theorem dX11_reads_0 : decode cX11_reads 0 = .ok (.aload_n 0, 1) := by decide +kernel
theorem dX11_reads_1 : decode cX11_reads 1 = .ok (.iconst 0, 1) := by decide +kernel
theorem dX11_reads_2 : decode cX11_reads 2 = .ok (.putfield 177, 3) := by decide +kernel
theorem dX11_reads_5 : decode cX11_reads 5 = .ok (.aload_n 0, 1) := by decide +kernel
theorem dX11_reads_6 : decode cX11_reads 6 = .ok (.iconst 1, 1) := by decide +kernel
theorem dX11_reads_7 : decode cX11_reads 7 = .ok (.putfield 194, 3) := by decide +kernel
theorem dX11_reads_10 : decode cX11_reads 10 = .ok (.aload_n 0, 1) := by decide +kernel
theorem dX11_reads_11 : decode cX11_reads 11 = .ok (.iconst 0, 1) := by decide +kernel
theorem dX11_reads_12 : decode cX11_reads 12 = .ok (.putfield 187, 3) := by decide +kernel
theorem dX11_reads_15 : decode cX11_reads 15 = .ok (.aload_n 0, 1) := by decide +kernel
theorem dX11_reads_16 : decode cX11_reads 16 = .ok (.bipush 45, 2) := by decide +kernel
theorem dX11_reads_18 : decode cX11_reads 18 = .ok (.invokevirtual 197, 3) := by decide +kernel
theorem dX11_reads_21 : decode cX11_reads 21 = .ok (.istore_n 1, 1) := by decide +kernel
theorem dX11_reads_22 : decode cX11_reads 22 = .ok (.aload_n 0, 1) := by decide +kernel
theorem dX11_reads_23 : decode cX11_reads 23 = .ok (.invokevirtual 190, 3) := by decide +kernel
theorem dX11_reads_26 : decode cX11_reads 26 = .ok (.ifCond .ne 5, 3) := by decide +kernel
theorem dX11_reads_29 : decode cX11_reads 29 = .ok (.iconst 0, 1) := by decide +kernel
theorem dX11_reads_30 : decode cX11_reads 30 = .ok (.ireturn, 1) := by decide +kernel
theorem dX11_reads_31 : decode cX11_reads 31 = .ok (.aload_n 0, 1) := by decide +kernel
theorem dX11_reads_32 : decode cX11_reads 32 = .ok (.getfield 29, 3) := by decide +kernel
theorem dX11_reads_35 : decode cX11_reads 35 = .ok (.iconst 0, 1) := by decide +kernel
theorem dX11_reads_36 : decode cX11_reads 36 = .ok (.iload_n 1, 1) := by decide +kernel
theorem dX11_reads_37 : decode cX11_reads 37 = .ok (.ifCond .eq 13, 3) := by decide +kernel
theorem dX11_reads_40 : decode cX11_reads 40 = .ok (.aload_n 0, 1) := by decide +kernel
theorem dX11_reads_41 : decode cX11_reads 41 = .ok (.getfield 29, 3) := by decide +kernel
theorem dX11_reads_44 : decode cX11_reads 44 = .ok (.iconst 0, 1) := by decide +kernel
theorem dX11_reads_45 : decode cX11_reads 45 = .ok (.iaload, 1) := by decide +kernel
theorem dX11_reads_46 : decode cX11_reads 46 = .ok (.ineg, 1) := by decide +kernel
theorem dX11_reads_47 : decode cX11_reads 47 = .ok (.goto 9, 3) := by decide +kernel
theorem dX11_reads_50 : decode cX11_reads 50 = .ok (.aload_n 0, 1) := by decide +kernel
theorem dX11_reads_51 : decode cX11_reads 51 = .ok (.getfield 29, 3) := by decide +kernel
theorem dX11_reads_54 : decode cX11_reads 54 = .ok (.iconst 0, 1) := by decide +kernel
theorem dX11_reads_55 : decode cX11_reads 55 = .ok (.iaload, 1) := by decide +kernel
theorem dX11_reads_56 : decode cX11_reads 56 = .ok (.iastore, 1) := by decide +kernel
theorem dX11_reads_57 : decode cX11_reads 57 = .ok (.aload_n 0, 1) := by decide +kernel
theorem dX11_reads_58 : decode cX11_reads 58 = .ok (.iconst 1, 1) := by decide +kernel
theorem dX11_reads_59 : decode cX11_reads 59 = .ok (.putfield 187, 3) := by decide +kernel
theorem dX11_reads_62 : decode cX11_reads 62 = .ok (.aload_n 0, 1) := by decide +kernel
theorem dX11_reads_63 : decode cX11_reads 63 = .ok (.bipush 59, 2) := by decide +kernel
theorem dX11_reads_65 : decode cX11_reads 65 = .ok (.invokevirtual 197, 3) := by decide +kernel
theorem dX11_reads_68 : decode cX11_reads 68 = .ok (.ifCond .eq 10, 3) := by decide +kernel
theorem dX11_reads_71 : decode cX11_reads 71 = .ok (.aload_n 0, 1) := by decide +kernel
theorem dX11_reads_72 : decode cX11_reads 72 = .ok (.invokevirtual 200, 3) := by decide +kernel
theorem dX11_reads_75 : decode cX11_reads 75 = .ok (.ifCond .eq 7, 3) := by decide +kernel
theorem dX11_reads_78 : decode cX11_reads 78 = .ok (.iconst 1, 1) := by decide +kernel
theorem dX11_reads_79 : decode cX11_reads 79 = .ok (.goto 4, 3) := by decide +kernel
theorem dX11_reads_82 : decode cX11_reads 82 = .ok (.iconst 0, 1) := by decide +kernel
theorem dX11_reads_83 : decode cX11_reads 83 = .ok (.istore_n 2, 1) := by decide +kernel
theorem dX11_reads_84 : decode cX11_reads 84 = .ok (.iload_n 2, 1) := by decide +kernel
theorem dX11_reads_85 : decode cX11_reads 85 = .ok (.ifCond .eq 47, 3) := by decide +kernel
theorem dX11_reads_88 : decode cX11_reads 88 = .ok (.aload_n 0, 1) := by decide +kernel
theorem dX11_reads_89 : decode cX11_reads 89 = .ok (.getfield 187, 3) := by decide +kernel
theorem dX11_reads_92 : decode cX11_reads 92 = .ok (.iconst 1, 1) := by decide +kernel
theorem dX11_reads_93 : decode cX11_reads 93 = .ok (.if_icmp .le 39, 3) := by decide +kernel
theorem dX11_reads_96 : decode cX11_reads 96 = .ok (.aload_n 0, 1) := by decide +kernel
theorem dX11_reads_97 : decode cX11_reads 97 = .ok (.getfield 177, 3) := by decide +kernel
theorem dX11_reads_100 : decode cX11_reads 100 = .ok (.aload_n 0, 1) := by decide +kernel
theorem dX11_reads_101 : decode cX11_reads 101 = .ok (.getfield 180, 3) := by decide +kernel
theorem dX11_reads_104 : decode cX11_reads 104 = .ok (.if_icmp .ge 28, 3) := by decide +kernel
theorem dX11_reads_107 : decode cX11_reads 107 = .ok (.aload_n 0, 1) := by decide +kernel
theorem dX11_reads_108 : decode cX11_reads 108 = .ok (.bipush 44, 2) := by decide +kernel
theorem dX11_reads_110 : decode cX11_reads 110 = .ok (.invokevirtual 197, 3) := by decide +kernel
theorem dX11_reads_113 : decode cX11_reads 113 = .ok (.ifCond .eq 14, 3) := by decide +kernel
theorem dX11_reads_116 : decode cX11_reads 116 = .ok (.aload_n 0, 1) := by decide +kernel
theorem dX11_reads_117 : decode cX11_reads 117 = .ok (.invokevirtual 200, 3) := by decide +kernel
theorem dX11_reads_120 : decode cX11_reads 120 = .ok (.ifCond .eq 7, 3) := by decide +kernel
theorem dX11_reads_123 : decode cX11_reads 123 = .ok (.iconst 1, 1) := by decide +kernel
theorem dX11_reads_124 : decode cX11_reads 124 = .ok (.goto 4, 3) := by decide +kernel
theorem dX11_reads_127 : decode cX11_reads 127 = .ok (.iconst 0, 1) := by decide +kernel
theorem dX11_reads_128 : decode cX11_reads 128 = .ok (.istore_n 2, 1) := by decide +kernel
theorem dX11_reads_129 : decode cX11_reads 129 = .ok (.goto (-45), 3) := by decide +kernel
theorem dX11_reads_132 : decode cX11_reads 132 = .ok (.iload_n 2, 1) := by decide +kernel
theorem dX11_reads_133 : decode cX11_reads 133 = .ok (.ifCond .eq 18, 3) := by decide +kernel
theorem dX11_reads_136 : decode cX11_reads 136 = .ok (.aload_n 0, 1) := by decide +kernel
theorem dX11_reads_137 : decode cX11_reads 137 = .ok (.getfield 177, 3) := by decide +kernel
theorem dX11_reads_140 : decode cX11_reads 140 = .ok (.aload_n 0, 1) := by decide +kernel
theorem dX11_reads_141 : decode cX11_reads 141 = .ok (.getfield 180, 3) := by decide +kernel
theorem dX11_reads_144 : decode cX11_reads 144 = .ok (.if_icmp .ne 7, 3) := by decide +kernel
theorem dX11_reads_147 : decode cX11_reads 147 = .ok (.iconst 1, 1) := by decide +kernel
theorem dX11_reads_148 : decode cX11_reads 148 = .ok (.goto 4, 3) := by decide +kernel
theorem dX11_reads_151 : decode cX11_reads 151 = .ok (.iconst 0, 1) := by decide +kernel
theorem dX11_reads_152 : decode cX11_reads 152 = .ok (.ireturn, 1) := by decide +kernel
theorem dX11_fault_0 : decode cX11_fault 0 = .ok (.iload_n 1, 1) := by decide +kernel
theorem dX11_fault_1 : decode cX11_fault 1 = .ok (.i2l, 1) := by decide +kernel
theorem dX11_fault_2 : decode cX11_fault 2 = .ok (.lconst 0, 1) := by decide +kernel
theorem dX11_fault_3 : decode cX11_fault 3 = .ok (.lconst 1, 1) := by decide +kernel
theorem dX11_fault_4 : decode cX11_fault 4 = .ok (.invokestatic 44, 3) := by decide +kernel
theorem dX11_fault_7 : decode cX11_fault 7 = .ok (.ifCond .ne 6, 3) := by decide +kernel
theorem dX11_fault_10 : decode cX11_fault 10 = .ok (.ldc 50, 2) := by decide +kernel
theorem dX11_fault_12 : decode cX11_fault 12 = .ok (.ireturn, 1) := by decide +kernel
theorem dX11_fault_13 : decode cX11_fault 13 = .ok (.aload_n 0, 1) := by decide +kernel
theorem dX11_fault_14 : decode cX11_fault 14 = .ok (.invokevirtual 203, 3) := by decide +kernel
theorem dX11_fault_17 : decode cX11_fault 17 = .ok (.ifCond .eq 8, 3) := by decide +kernel
theorem dX11_fault_20 : decode cX11_fault 20 = .ok (.ldc 176, 2) := by decide +kernel
theorem dX11_fault_22 : decode cX11_fault 22 = .ok (.goto 18, 3) := by decide +kernel
theorem dX11_fault_25 : decode cX11_fault 25 = .ok (.iload_n 1, 1) := by decide +kernel
theorem dX11_fault_26 : decode cX11_fault 26 = .ok (.ifCond .ne 10, 3) := by decide +kernel
theorem dX11_fault_29 : decode cX11_fault 29 = .ok (.aload_n 0, 1) := by decide +kernel
theorem dX11_fault_30 : decode cX11_fault 30 = .ok (.getfield 177, 3) := by decide +kernel
theorem dX11_fault_33 : decode cX11_fault 33 = .ok (.goto 7, 3) := by decide +kernel
theorem dX11_fault_36 : decode cX11_fault 36 = .ok (.aload_n 0, 1) := by decide +kernel
theorem dX11_fault_37 : decode cX11_fault 37 = .ok (.getfield 194, 3) := by decide +kernel
theorem dX11_fault_40 : decode cX11_fault 40 = .ok (.ireturn, 1) := by decide +kernel
theorem dX11_tells_0 : decode cX11_tells 0 = .ok (.aload_n 0, 1) := by decide +kernel
theorem dX11_tells_1 : decode cX11_tells 1 = .ok (.invokevirtual 113, 3) := by decide +kernel
theorem dX11_tells_4 : decode cX11_tells 4 = .ok (.iconst 1, 1) := by decide +kernel
theorem dX11_tells_5 : decode cX11_tells 5 = .ok (.istore_n 1, 1) := by decide +kernel
theorem dX11_tells_6 : decode cX11_tells 6 = .ok (.iconst 0, 1) := by decide +kernel
theorem dX11_tells_7 : decode cX11_tells 7 = .ok (.istore_n 2, 1) := by decide +kernel
theorem dX11_tells_8 : decode cX11_tells 8 = .ok (.iload_n 2, 1) := by decide +kernel
theorem dX11_tells_9 : decode cX11_tells 9 = .ok (.aload_n 0, 1) := by decide +kernel
theorem dX11_tells_10 : decode cX11_tells 10 = .ok (.getfield 187, 3) := by decide +kernel
theorem dX11_tells_13 : decode cX11_tells 13 = .ok (.if_icmp .ge 25, 3) := by decide +kernel
theorem dX11_tells_16 : decode cX11_tells 16 = .ok (.iload_n 1, 1) := by decide +kernel
theorem dX11_tells_17 : decode cX11_tells 17 = .ok (.ifCond .eq 21, 3) := by decide +kernel
theorem dX11_tells_20 : decode cX11_tells 20 = .ok (.aload_n 0, 1) := by decide +kernel
theorem dX11_tells_21 : decode cX11_tells 21 = .ok (.aload_n 0, 1) := by decide +kernel
theorem dX11_tells_22 : decode cX11_tells 22 = .ok (.getfield 29, 3) := by decide +kernel
theorem dX11_tells_25 : decode cX11_tells 25 = .ok (.iload_n 2, 1) := by decide +kernel
theorem dX11_tells_26 : decode cX11_tells 26 = .ok (.iaload, 1) := by decide +kernel
theorem dX11_tells_27 : decode cX11_tells 27 = .ok (.i2l, 1) := by decide +kernel
theorem dX11_tells_28 : decode cX11_tells 28 = .ok (.invokevirtual 116, 3) := by decide +kernel
theorem dX11_tells_31 : decode cX11_tells 31 = .ok (.istore_n 1, 1) := by decide +kernel
theorem dX11_tells_32 : decode cX11_tells 32 = .ok (.iinc 2 1, 3) := by decide +kernel
theorem dX11_tells_35 : decode cX11_tells 35 = .ok (.goto (-27), 3) := by decide +kernel
theorem dX11_tells_38 : decode cX11_tells 38 = .ok (.iload_n 1, 1) := by decide +kernel
theorem dX11_tells_39 : decode cX11_tells 39 = .ok (.ireturn, 1) := by decide +kernel
theorem dX11_fits_0 : decode cX11_fits 0 = .ok (.aload_n 0, 1) := by decide +kernel
theorem dX11_fits_1 : decode cX11_fits 1 = .ok (.getfield 93, 3) := by decide +kernel
theorem dX11_fits_4 : decode cX11_fits 4 = .ok (.ldc2_w 206, 3) := by decide +kernel
theorem dX11_fits_7 : decode cX11_fits 7 = .ok (.ldc2_w 208, 3) := by decide +kernel
theorem dX11_fits_10 : decode cX11_fits 10 = .ok (.invokestatic 44, 3) := by decide +kernel
theorem dX11_fits_13 : decode cX11_fits 13 = .ok (.ifCond .eq 21, 3) := by decide +kernel
theorem dX11_fits_16 : decode cX11_fits 16 = .ok (.aload_n 0, 1) := by decide +kernel
theorem dX11_fits_17 : decode cX11_fits 17 = .ok (.getfield 97, 3) := by decide +kernel
theorem dX11_fits_20 : decode cX11_fits 20 = .ok (.lconst 1, 1) := by decide +kernel
theorem dX11_fits_21 : decode cX11_fits 21 = .ok (.ldc2_w 146, 3) := by decide +kernel
theorem dX11_fits_24 : decode cX11_fits 24 = .ok (.invokestatic 44, 3) := by decide +kernel
theorem dX11_fits_27 : decode cX11_fits 27 = .ok (.ifCond .eq 7, 3) := by decide +kernel
theorem dX11_fits_30 : decode cX11_fits 30 = .ok (.iconst 1, 1) := by decide +kernel
theorem dX11_fits_31 : decode cX11_fits 31 = .ok (.goto 4, 3) := by decide +kernel
theorem dX11_fits_34 : decode cX11_fits 34 = .ok (.iconst 0, 1) := by decide +kernel
theorem dX11_fits_35 : decode cX11_fits 35 = .ok (.ireturn, 1) := by decide +kernel
theorem dX11_alike_0 : decode cX11_alike 0 = .ok (.aload_n 0, 1) := by decide +kernel
theorem dX11_alike_1 : decode cX11_alike 1 = .ok (.invokevirtual 69, 3) := by decide +kernel
theorem dX11_alike_4 : decode cX11_alike 4 = .ok (.iconst 0, 1) := by decide +kernel
theorem dX11_alike_5 : decode cX11_alike 5 = .ok (.istore_n 1, 1) := by decide +kernel
theorem dX11_alike_6 : decode cX11_alike 6 = .ok (.iload_n 1, 1) := by decide +kernel
theorem dX11_alike_7 : decode cX11_alike 7 = .ok (.aload_n 0, 1) := by decide +kernel
theorem dX11_alike_8 : decode cX11_alike 8 = .ok (.getfield 187, 3) := by decide +kernel
theorem dX11_alike_11 : decode cX11_alike 11 = .ok (.if_icmp .ge 24, 3) := by decide +kernel
theorem dX11_alike_14 : decode cX11_alike 14 = .ok (.aload_n 0, 1) := by decide +kernel
theorem dX11_alike_15 : decode cX11_alike 15 = .ok (.getfield 29, 3) := by decide +kernel
theorem dX11_alike_18 : decode cX11_alike 18 = .ok (.iload_n 1, 1) := by decide +kernel
theorem dX11_alike_19 : decode cX11_alike 19 = .ok (.iaload, 1) := by decide +kernel
theorem dX11_alike_20 : decode cX11_alike 20 = .ok (.aload_n 0, 1) := by decide +kernel
theorem dX11_alike_21 : decode cX11_alike 21 = .ok (.getfield 19, 3) := by decide +kernel
theorem dX11_alike_24 : decode cX11_alike 24 = .ok (.iload_n 1, 1) := by decide +kernel
theorem dX11_alike_25 : decode cX11_alike 25 = .ok (.iaload, 1) := by decide +kernel
theorem dX11_alike_26 : decode cX11_alike 26 = .ok (.if_icmp .ne 9, 3) := by decide +kernel
theorem dX11_alike_29 : decode cX11_alike 29 = .ok (.iinc 1 1, 3) := by decide +kernel
theorem dX11_alike_32 : decode cX11_alike 32 = .ok (.goto (-26), 3) := by decide +kernel
theorem dX11_alike_35 : decode cX11_alike 35 = .ok (.iload_n 1, 1) := by decide +kernel
theorem dX11_alike_36 : decode cX11_alike 36 = .ok (.ireturn, 1) := by decide +kernel
theorem dX11_told_0 : decode cX11_told 0 = .ok (.iload_n 1, 1) := by decide +kernel
theorem dX11_told_1 : decode cX11_told 1 = .ok (.i2l, 1) := by decide +kernel
theorem dX11_told_2 : decode cX11_told 2 = .ok (.lconst 0, 1) := by decide +kernel
theorem dX11_told_3 : decode cX11_told 3 = .ok (.ldc2_w 75, 3) := by decide +kernel
theorem dX11_told_6 : decode cX11_told 6 = .ok (.invokestatic 44, 3) := by decide +kernel
theorem dX11_told_9 : decode cX11_told 9 = .ok (.ifCond .ne 7, 3) := by decide +kernel
theorem dX11_told_12 : decode cX11_told 12 = .ok (.ldc2_w 120, 3) := by decide +kernel
theorem dX11_told_15 : decode cX11_told 15 = .ok (.lreturn, 1) := by decide +kernel
theorem dX11_told_16 : decode cX11_told 16 = .ok (.aload_n 0, 1) := by decide +kernel
theorem dX11_told_17 : decode cX11_told 17 = .ok (.invokevirtual 203, 3) := by decide +kernel
theorem dX11_told_20 : decode cX11_told 20 = .ok (.ifCond .ne 7, 3) := by decide +kernel
theorem dX11_told_23 : decode cX11_told 23 = .ok (.ldc2_w 210, 3) := by decide +kernel
theorem dX11_told_26 : decode cX11_told 26 = .ok (.lreturn, 1) := by decide +kernel
theorem dX11_told_27 : decode cX11_told 27 = .ok (.iload_n 1, 1) := by decide +kernel
theorem dX11_told_28 : decode cX11_told 28 = .ok (.iconst 2, 1) := by decide +kernel
theorem dX11_told_29 : decode cX11_told 29 = .ok (.if_icmp .eq 8, 3) := by decide +kernel
theorem dX11_told_32 : decode cX11_told 32 = .ok (.iload_n 1, 1) := by decide +kernel
theorem dX11_told_33 : decode cX11_told 33 = .ok (.iconst 3, 1) := by decide +kernel
theorem dX11_told_34 : decode cX11_told 34 = .ok (.if_icmp .ne 22, 3) := by decide +kernel
theorem dX11_told_37 : decode cX11_told 37 = .ok (.iload_n 1, 1) := by decide +kernel
theorem dX11_told_38 : decode cX11_told 38 = .ok (.iconst 2, 1) := by decide +kernel
theorem dX11_told_39 : decode cX11_told 39 = .ok (.if_icmp .ne 11, 3) := by decide +kernel
theorem dX11_told_42 : decode cX11_told 42 = .ok (.aload_n 0, 1) := by decide +kernel
theorem dX11_told_43 : decode cX11_told 43 = .ok (.getfield 187, 3) := by decide +kernel
theorem dX11_told_46 : decode cX11_told 46 = .ok (.i2l, 1) := by decide +kernel
theorem dX11_told_47 : decode cX11_told 47 = .ok (.goto 8, 3) := by decide +kernel
theorem dX11_told_50 : decode cX11_told 50 = .ok (.aload_n 0, 1) := by decide +kernel
theorem dX11_told_51 : decode cX11_told 51 = .ok (.invokevirtual 212, 3) := by decide +kernel
theorem dX11_told_54 : decode cX11_told 54 = .ok (.i2l, 1) := by decide +kernel
theorem dX11_told_55 : decode cX11_told 55 = .ok (.lreturn, 1) := by decide +kernel
theorem dX11_told_56 : decode cX11_told 56 = .ok (.aload_n 0, 1) := by decide +kernel
theorem dX11_told_57 : decode cX11_told 57 = .ok (.invokevirtual 215, 3) := by decide +kernel
theorem dX11_told_60 : decode cX11_told 60 = .ok (.ifCond .eq 15, 3) := by decide +kernel
theorem dX11_told_63 : decode cX11_told 63 = .ok (.iload_n 1, 1) := by decide +kernel
theorem dX11_told_64 : decode cX11_told 64 = .ok (.iconst 4, 1) := by decide +kernel
theorem dX11_told_65 : decode cX11_told 65 = .ok (.if_icmp .ne 14, 3) := by decide +kernel
theorem dX11_told_68 : decode cX11_told 68 = .ok (.aload_n 0, 1) := by decide +kernel
theorem dX11_told_69 : decode cX11_told 69 = .ok (.invokevirtual 218, 3) := by decide +kernel
theorem dX11_told_72 : decode cX11_told 72 = .ok (.ifCond .ne 7, 3) := by decide +kernel
theorem dX11_told_75 : decode cX11_told 75 = .ok (.ldc2_w 125, 3) := by decide +kernel
theorem dX11_told_78 : decode cX11_told 78 = .ok (.lreturn, 1) := by decide +kernel
theorem dX11_told_79 : decode cX11_told 79 = .ok (.iload_n 1, 1) := by decide +kernel
theorem dX11_told_80 : decode cX11_told 80 = .ok (.ifCond .ne 14, 3) := by decide +kernel
theorem dX11_told_83 : decode cX11_told 83 = .ok (.aload_n 0, 1) := by decide +kernel
theorem dX11_told_84 : decode cX11_told 84 = .ok (.getfield 93, 3) := by decide +kernel
theorem dX11_told_87 : decode cX11_told 87 = .ok (.ldc2_w 111, 3) := by decide +kernel
theorem dX11_told_90 : decode cX11_told 90 = .ok (.ladd, 1) := by decide +kernel
theorem dX11_told_91 : decode cX11_told 91 = .ok (.goto 35, 3) := by decide +kernel
theorem dX11_told_94 : decode cX11_told 94 = .ok (.iload_n 1, 1) := by decide +kernel
theorem dX11_told_95 : decode cX11_told 95 = .ok (.iconst 1, 1) := by decide +kernel
theorem dX11_told_96 : decode cX11_told 96 = .ok (.if_icmp .ne 10, 3) := by decide +kernel
theorem dX11_told_99 : decode cX11_told 99 = .ok (.aload_n 0, 1) := by decide +kernel
theorem dX11_told_100 : decode cX11_told 100 = .ok (.getfield 97, 3) := by decide +kernel
theorem dX11_told_103 : decode cX11_told 103 = .ok (.goto 23, 3) := by decide +kernel
theorem dX11_told_106 : decode cX11_told 106 = .ok (.aload_n 0, 1) := by decide +kernel
theorem dX11_told_107 : decode cX11_told 107 = .ok (.aload_n 0, 1) := by decide +kernel
theorem dX11_told_108 : decode cX11_told 108 = .ok (.getfield 93, 3) := by decide +kernel
theorem dX11_told_111 : decode cX11_told 111 = .ok (.aload_n 0, 1) := by decide +kernel
theorem dX11_told_112 : decode cX11_told 112 = .ok (.getfield 97, 3) := by decide +kernel
theorem dX11_told_115 : decode cX11_told 115 = .ok (.invokevirtual 127, 3) := by decide +kernel
theorem dX11_told_118 : decode cX11_told 118 = .ok (.ifCond .eq 7, 3) := by decide +kernel
theorem dX11_told_121 : decode cX11_told 121 = .ok (.lconst 0, 1) := by decide +kernel
theorem dX11_told_122 : decode cX11_told 122 = .ok (.goto 4, 3) := by decide +kernel
theorem dX11_told_125 : decode cX11_told 125 = .ok (.lconst 1, 1) := by decide +kernel
theorem dX11_told_126 : decode cX11_told 126 = .ok (.lreturn, 1) := by decide +kernel
theorem dX11_upOf_0 : decode cX11_upOf 0 = .ok (.aload_n 0, 1) := by decide +kernel
theorem dX11_upOf_1 : decode cX11_upOf 1 = .ok (.getfield 7, 3) := by decide +kernel
theorem dX11_upOf_4 : decode cX11_upOf 4 = .ok (.iconst 4, 1) := by decide +kernel
theorem dX11_upOf_5 : decode cX11_upOf 5 = .ok (.iconst 2, 1) := by decide +kernel
theorem dX11_upOf_6 : decode cX11_upOf 6 = .ok (.iload_n 1, 1) := by decide +kernel
theorem dX11_upOf_7 : decode cX11_upOf 7 = .ok (.imul, 1) := by decide +kernel
theorem dX11_upOf_8 : decode cX11_upOf 8 = .ok (.iadd, 1) := by decide +kernel
theorem dX11_upOf_9 : decode cX11_upOf 9 = .ok (.iaload, 1) := by decide +kernel
theorem dX11_upOf_10 : decode cX11_upOf 10 = .ok (.ireturn, 1) := by decide +kernel
theorem dX11_lowOf_0 : decode cX11_lowOf 0 = .ok (.aload_n 0, 1) := by decide +kernel
theorem dX11_lowOf_1 : decode cX11_lowOf 1 = .ok (.getfield 7, 3) := by decide +kernel
theorem dX11_lowOf_4 : decode cX11_lowOf 4 = .ok (.iconst 4, 1) := by decide +kernel
theorem dX11_lowOf_5 : decode cX11_lowOf 5 = .ok (.iconst 2, 1) := by decide +kernel
theorem dX11_lowOf_6 : decode cX11_lowOf 6 = .ok (.iload_n 1, 1) := by decide +kernel
theorem dX11_lowOf_7 : decode cX11_lowOf 7 = .ok (.imul, 1) := by decide +kernel
theorem dX11_lowOf_8 : decode cX11_lowOf 8 = .ok (.iadd, 1) := by decide +kernel
theorem dX11_lowOf_9 : decode cX11_lowOf 9 = .ok (.iconst 1, 1) := by decide +kernel
theorem dX11_lowOf_10 : decode cX11_lowOf 10 = .ok (.iadd, 1) := by decide +kernel
theorem dX11_lowOf_11 : decode cX11_lowOf 11 = .ok (.iaload, 1) := by decide +kernel
theorem dX11_lowOf_12 : decode cX11_lowOf 12 = .ok (.ireturn, 1) := by decide +kernel
theorem dX11_placeOf_0 : decode cX11_placeOf 0 = .ok (.iconst 0, 1) := by decide +kernel
theorem dX11_placeOf_1 : decode cX11_placeOf 1 = .ok (.istore_n 2, 1) := by decide +kernel
theorem dX11_placeOf_2 : decode cX11_placeOf 2 = .ok (.iconst 0, 1) := by decide +kernel
theorem dX11_placeOf_3 : decode cX11_placeOf 3 = .ok (.istore_n 3, 1) := by decide +kernel
theorem dX11_placeOf_4 : decode cX11_placeOf 4 = .ok (.iload_n 3, 1) := by decide +kernel
theorem dX11_placeOf_5 : decode cX11_placeOf 5 = .ok (.aload_n 0, 1) := by decide +kernel
theorem dX11_placeOf_6 : decode cX11_placeOf 6 = .ok (.getfield 7, 3) := by decide +kernel
theorem dX11_placeOf_9 : decode cX11_placeOf 9 = .ok (.iconst 3, 1) := by decide +kernel
theorem dX11_placeOf_10 : decode cX11_placeOf 10 = .ok (.iaload, 1) := by decide +kernel
theorem dX11_placeOf_11 : decode cX11_placeOf 11 = .ok (.if_icmp .ge 53, 3) := by decide +kernel
theorem dX11_placeOf_14 : decode cX11_placeOf 14 = .ok (.iload_n 2, 1) := by decide +kernel
theorem dX11_placeOf_15 : decode cX11_placeOf 15 = .ok (.iload_n 3, 1) := by decide +kernel
theorem dX11_placeOf_16 : decode cX11_placeOf 16 = .ok (.iload_n 1, 1) := by decide +kernel
theorem dX11_placeOf_17 : decode cX11_placeOf 17 = .ok (.if_icmp .eq 38, 3) := by decide +kernel
theorem dX11_placeOf_20 : decode cX11_placeOf 20 = .ok (.aload_n 0, 1) := by decide +kernel
theorem dX11_placeOf_21 : decode cX11_placeOf 21 = .ok (.aload_n 0, 1) := by decide +kernel
theorem dX11_placeOf_22 : decode cX11_placeOf 22 = .ok (.iload_n 3, 1) := by decide +kernel
theorem dX11_placeOf_23 : decode cX11_placeOf 23 = .ok (.invokevirtual 221, 3) := by decide +kernel
theorem dX11_placeOf_26 : decode cX11_placeOf 26 = .ok (.i2l, 1) := by decide +kernel
theorem dX11_placeOf_27 : decode cX11_placeOf 27 = .ok (.aload_n 0, 1) := by decide +kernel
theorem dX11_placeOf_28 : decode cX11_placeOf 28 = .ok (.iload_n 3, 1) := by decide +kernel
theorem dX11_placeOf_29 : decode cX11_placeOf 29 = .ok (.invokevirtual 224, 3) := by decide +kernel
theorem dX11_placeOf_32 : decode cX11_placeOf 32 = .ok (.i2l, 1) := by decide +kernel
theorem dX11_placeOf_33 : decode cX11_placeOf 33 = .ok (.aload_n 0, 1) := by decide +kernel
theorem dX11_placeOf_34 : decode cX11_placeOf 34 = .ok (.iload_n 1, 1) := by decide +kernel
theorem dX11_placeOf_35 : decode cX11_placeOf 35 = .ok (.invokevirtual 221, 3) := by decide +kernel
theorem dX11_placeOf_38 : decode cX11_placeOf 38 = .ok (.i2l, 1) := by decide +kernel
theorem dX11_placeOf_39 : decode cX11_placeOf 39 = .ok (.aload_n 0, 1) := by decide +kernel
theorem dX11_placeOf_40 : decode cX11_placeOf 40 = .ok (.iload_n 1, 1) := by decide +kernel
theorem dX11_placeOf_41 : decode cX11_placeOf 41 = .ok (.invokevirtual 224, 3) := by decide +kernel
theorem dX11_placeOf_44 : decode cX11_placeOf 44 = .ok (.i2l, 1) := by decide +kernel
theorem dX11_placeOf_45 : decode cX11_placeOf 45 = .ok (.invokevirtual 135, 3) := by decide +kernel
theorem dX11_placeOf_48 : decode cX11_placeOf 48 = .ok (.ifCond .eq 7, 3) := by decide +kernel
theorem dX11_placeOf_51 : decode cX11_placeOf 51 = .ok (.iconst 1, 1) := by decide +kernel
theorem dX11_placeOf_52 : decode cX11_placeOf 52 = .ok (.goto 4, 3) := by decide +kernel
theorem dX11_placeOf_55 : decode cX11_placeOf 55 = .ok (.iconst 0, 1) := by decide +kernel
theorem dX11_placeOf_56 : decode cX11_placeOf 56 = .ok (.iadd, 1) := by decide +kernel
theorem dX11_placeOf_57 : decode cX11_placeOf 57 = .ok (.istore_n 2, 1) := by decide +kernel
theorem dX11_placeOf_58 : decode cX11_placeOf 58 = .ok (.iinc 3 1, 3) := by decide +kernel
theorem dX11_placeOf_61 : decode cX11_placeOf 61 = .ok (.goto (-57), 3) := by decide +kernel
theorem dX11_placeOf_64 : decode cX11_placeOf 64 = .ok (.iload_n 2, 1) := by decide +kernel
theorem dX11_placeOf_65 : decode cX11_placeOf 65 = .ok (.ireturn, 1) := by decide +kernel
theorem dX11_at_0 : decode cX11_at 0 = .ok (.ldc 176, 2) := by decide +kernel
theorem dX11_at_2 : decode cX11_at 2 = .ok (.istore_n 2, 1) := by decide +kernel
theorem dX11_at_3 : decode cX11_at 3 = .ok (.iconst 0, 1) := by decide +kernel
theorem dX11_at_4 : decode cX11_at 4 = .ok (.istore_n 3, 1) := by decide +kernel
theorem dX11_at_5 : decode cX11_at 5 = .ok (.iload_n 3, 1) := by decide +kernel
theorem dX11_at_6 : decode cX11_at 6 = .ok (.aload_n 0, 1) := by decide +kernel
theorem dX11_at_7 : decode cX11_at 7 = .ok (.getfield 7, 3) := by decide +kernel
theorem dX11_at_10 : decode cX11_at 10 = .ok (.iconst 3, 1) := by decide +kernel
theorem dX11_at_11 : decode cX11_at 11 = .ok (.iaload, 1) := by decide +kernel
theorem dX11_at_12 : decode cX11_at 12 = .ok (.if_icmp .ge 24, 3) := by decide +kernel
theorem dX11_at_15 : decode cX11_at 15 = .ok (.aload_n 0, 1) := by decide +kernel
theorem dX11_at_16 : decode cX11_at 16 = .ok (.iload_n 3, 1) := by decide +kernel
theorem dX11_at_17 : decode cX11_at 17 = .ok (.invokevirtual 227, 3) := by decide +kernel
theorem dX11_at_20 : decode cX11_at 20 = .ok (.iload_n 1, 1) := by decide +kernel
theorem dX11_at_21 : decode cX11_at 21 = .ok (.if_icmp .ne 7, 3) := by decide +kernel
theorem dX11_at_24 : decode cX11_at 24 = .ok (.iload_n 3, 1) := by decide +kernel
theorem dX11_at_25 : decode cX11_at 25 = .ok (.goto 4, 3) := by decide +kernel
theorem dX11_at_28 : decode cX11_at 28 = .ok (.iload_n 2, 1) := by decide +kernel
theorem dX11_at_29 : decode cX11_at 29 = .ok (.istore_n 2, 1) := by decide +kernel
theorem dX11_at_30 : decode cX11_at 30 = .ok (.iinc 3 1, 3) := by decide +kernel
theorem dX11_at_33 : decode cX11_at 33 = .ok (.goto (-28), 3) := by decide +kernel
theorem dX11_at_36 : decode cX11_at 36 = .ok (.iload_n 2, 1) := by decide +kernel
theorem dX11_at_37 : decode cX11_at 37 = .ok (.ireturn, 1) := by decide +kernel
theorem dX11_isNoted_0 : decode cX11_isNoted 0 = .ok (.iconst 0, 1) := by decide +kernel
theorem dX11_isNoted_1 : decode cX11_isNoted 1 = .ok (.istore 5, 2) := by decide +kernel
theorem dX11_isNoted_3 : decode cX11_isNoted 3 = .ok (.iconst 0, 1) := by decide +kernel
theorem dX11_isNoted_4 : decode cX11_isNoted 4 = .ok (.istore 6, 2) := by decide +kernel
theorem dX11_isNoted_6 : decode cX11_isNoted 6 = .ok (.iload 6, 2) := by decide +kernel
theorem dX11_isNoted_8 : decode cX11_isNoted 8 = .ok (.aload_n 0, 1) := by decide +kernel
theorem dX11_isNoted_9 : decode cX11_isNoted 9 = .ok (.getfield 7, 3) := by decide +kernel
theorem dX11_isNoted_12 : decode cX11_isNoted 12 = .ok (.iconst 3, 1) := by decide +kernel
theorem dX11_isNoted_13 : decode cX11_isNoted 13 = .ok (.iaload, 1) := by decide +kernel
theorem dX11_isNoted_14 : decode cX11_isNoted 14 = .ok (.if_icmp .ge 45, 3) := by decide +kernel
theorem dX11_isNoted_17 : decode cX11_isNoted 17 = .ok (.iload 5, 2) := by decide +kernel
theorem dX11_isNoted_19 : decode cX11_isNoted 19 = .ok (.ifCond .ne 27, 3) := by decide +kernel
theorem dX11_isNoted_22 : decode cX11_isNoted 22 = .ok (.aload_n 0, 1) := by decide +kernel
theorem dX11_isNoted_23 : decode cX11_isNoted 23 = .ok (.iload 6, 2) := by decide +kernel
theorem dX11_isNoted_25 : decode cX11_isNoted 25 = .ok (.invokevirtual 221, 3) := by decide +kernel
theorem dX11_isNoted_28 : decode cX11_isNoted 28 = .ok (.i2l, 1) := by decide +kernel
theorem dX11_isNoted_29 : decode cX11_isNoted 29 = .ok (.lload_n 1, 1) := by decide +kernel
theorem dX11_isNoted_30 : decode cX11_isNoted 30 = .ok (.lcmp, 1) := by decide +kernel
theorem dX11_isNoted_31 : decode cX11_isNoted 31 = .ok (.ifCond .ne 19, 3) := by decide +kernel
theorem dX11_isNoted_34 : decode cX11_isNoted 34 = .ok (.aload_n 0, 1) := by decide +kernel
theorem dX11_isNoted_35 : decode cX11_isNoted 35 = .ok (.iload 6, 2) := by decide +kernel
theorem dX11_isNoted_37 : decode cX11_isNoted 37 = .ok (.invokevirtual 224, 3) := by decide +kernel
theorem dX11_isNoted_40 : decode cX11_isNoted 40 = .ok (.i2l, 1) := by decide +kernel
theorem dX11_isNoted_41 : decode cX11_isNoted 41 = .ok (.lload_n 3, 1) := by decide +kernel
theorem dX11_isNoted_42 : decode cX11_isNoted 42 = .ok (.lcmp, 1) := by decide +kernel
theorem dX11_isNoted_43 : decode cX11_isNoted 43 = .ok (.ifCond .ne 7, 3) := by decide +kernel
theorem dX11_isNoted_46 : decode cX11_isNoted 46 = .ok (.iconst 1, 1) := by decide +kernel
theorem dX11_isNoted_47 : decode cX11_isNoted 47 = .ok (.goto 4, 3) := by decide +kernel
theorem dX11_isNoted_50 : decode cX11_isNoted 50 = .ok (.iconst 0, 1) := by decide +kernel
theorem dX11_isNoted_51 : decode cX11_isNoted 51 = .ok (.istore 5, 2) := by decide +kernel
theorem dX11_isNoted_53 : decode cX11_isNoted 53 = .ok (.iinc 6 1, 3) := by decide +kernel
theorem dX11_isNoted_56 : decode cX11_isNoted 56 = .ok (.goto (-50), 3) := by decide +kernel
theorem dX11_isNoted_59 : decode cX11_isNoted 59 = .ok (.iload 5, 2) := by decide +kernel
theorem dX11_isNoted_61 : decode cX11_isNoted 61 = .ok (.ireturn, 1) := by decide +kernel
theorem dX11_note_0 : decode cX11_note 0 = .ok (.aload_n 0, 1) := by decide +kernel
theorem dX11_note_1 : decode cX11_note 1 = .ok (.invokevirtual 203, 3) := by decide +kernel
theorem dX11_note_4 : decode cX11_note 4 = .ok (.ifCond .eq 32, 3) := by decide +kernel
theorem dX11_note_7 : decode cX11_note 7 = .ok (.aload_n 0, 1) := by decide +kernel
theorem dX11_note_8 : decode cX11_note 8 = .ok (.invokevirtual 215, 3) := by decide +kernel
theorem dX11_note_11 : decode cX11_note 11 = .ok (.ifCond .eq 25, 3) := by decide +kernel
theorem dX11_note_14 : decode cX11_note 14 = .ok (.aload_n 0, 1) := by decide +kernel
theorem dX11_note_15 : decode cX11_note 15 = .ok (.invokevirtual 218, 3) := by decide +kernel
theorem dX11_note_18 : decode cX11_note 18 = .ok (.ifCond .eq 18, 3) := by decide +kernel
theorem dX11_note_21 : decode cX11_note 21 = .ok (.aload_n 0, 1) := by decide +kernel
theorem dX11_note_22 : decode cX11_note 22 = .ok (.aload_n 0, 1) := by decide +kernel
theorem dX11_note_23 : decode cX11_note 23 = .ok (.getfield 93, 3) := by decide +kernel
theorem dX11_note_26 : decode cX11_note 26 = .ok (.aload_n 0, 1) := by decide +kernel
theorem dX11_note_27 : decode cX11_note 27 = .ok (.getfield 97, 3) := by decide +kernel
theorem dX11_note_30 : decode cX11_note 30 = .ok (.invokevirtual 230, 3) := by decide +kernel
theorem dX11_note_33 : decode cX11_note 33 = .ok (.ifCond .eq 6, 3) := by decide +kernel
theorem dX11_note_36 : decode cX11_note 36 = .ok (.ldc 55, 2) := by decide +kernel
theorem dX11_note_38 : decode cX11_note 38 = .ok (.ireturn, 1) := by decide +kernel
theorem dX11_note_39 : decode cX11_note 39 = .ok (.aload_n 0, 1) := by decide +kernel
theorem dX11_note_40 : decode cX11_note 40 = .ok (.getfield 7, 3) := by decide +kernel
theorem dX11_note_43 : decode cX11_note 43 = .ok (.iconst 3, 1) := by decide +kernel
theorem dX11_note_44 : decode cX11_note 44 = .ok (.iaload, 1) := by decide +kernel
theorem dX11_note_45 : decode cX11_note 45 = .ok (.bipush 8, 2) := by decide +kernel
theorem dX11_note_47 : decode cX11_note 47 = .ok (.if_icmp .ne 6, 3) := by decide +kernel
theorem dX11_note_50 : decode cX11_note 50 = .ok (.ldc 81, 2) := by decide +kernel
theorem dX11_note_52 : decode cX11_note 52 = .ok (.ireturn, 1) := by decide +kernel
theorem dX11_note_53 : decode cX11_note 53 = .ok (.aload_n 0, 1) := by decide +kernel
theorem dX11_note_54 : decode cX11_note 54 = .ok (.invokevirtual 56, 3) := by decide +kernel
theorem dX11_note_57 : decode cX11_note 57 = .ok (.aload_n 0, 1) := by decide +kernel
theorem dX11_note_58 : decode cX11_note 58 = .ok (.getfield 7, 3) := by decide +kernel
theorem dX11_note_61 : decode cX11_note 61 = .ok (.iconst 4, 1) := by decide +kernel
theorem dX11_note_62 : decode cX11_note 62 = .ok (.iconst 2, 1) := by decide +kernel
theorem dX11_note_63 : decode cX11_note 63 = .ok (.aload_n 0, 1) := by decide +kernel
theorem dX11_note_64 : decode cX11_note 64 = .ok (.getfield 7, 3) := by decide +kernel
theorem dX11_note_67 : decode cX11_note 67 = .ok (.iconst 3, 1) := by decide +kernel
theorem dX11_note_68 : decode cX11_note 68 = .ok (.iaload, 1) := by decide +kernel
theorem dX11_note_69 : decode cX11_note 69 = .ok (.imul, 1) := by decide +kernel
theorem dX11_note_70 : decode cX11_note 70 = .ok (.iadd, 1) := by decide +kernel
theorem dX11_note_71 : decode cX11_note 71 = .ok (.aload_n 0, 1) := by decide +kernel
theorem dX11_note_72 : decode cX11_note 72 = .ok (.getfield 93, 3) := by decide +kernel
theorem dX11_note_75 : decode cX11_note 75 = .ok (.l2i, 1) := by decide +kernel
theorem dX11_note_76 : decode cX11_note 76 = .ok (.iastore, 1) := by decide +kernel
theorem dX11_note_77 : decode cX11_note 77 = .ok (.aload_n 0, 1) := by decide +kernel
theorem dX11_note_78 : decode cX11_note 78 = .ok (.getfield 7, 3) := by decide +kernel
theorem dX11_note_81 : decode cX11_note 81 = .ok (.iconst 4, 1) := by decide +kernel
theorem dX11_note_82 : decode cX11_note 82 = .ok (.iconst 2, 1) := by decide +kernel
theorem dX11_note_83 : decode cX11_note 83 = .ok (.aload_n 0, 1) := by decide +kernel
theorem dX11_note_84 : decode cX11_note 84 = .ok (.getfield 7, 3) := by decide +kernel
theorem dX11_note_87 : decode cX11_note 87 = .ok (.iconst 3, 1) := by decide +kernel
theorem dX11_note_88 : decode cX11_note 88 = .ok (.iaload, 1) := by decide +kernel
theorem dX11_note_89 : decode cX11_note 89 = .ok (.imul, 1) := by decide +kernel
theorem dX11_note_90 : decode cX11_note 90 = .ok (.iadd, 1) := by decide +kernel
theorem dX11_note_91 : decode cX11_note 91 = .ok (.iconst 1, 1) := by decide +kernel
theorem dX11_note_92 : decode cX11_note 92 = .ok (.iadd, 1) := by decide +kernel
theorem dX11_note_93 : decode cX11_note 93 = .ok (.aload_n 0, 1) := by decide +kernel
theorem dX11_note_94 : decode cX11_note 94 = .ok (.getfield 97, 3) := by decide +kernel
theorem dX11_note_97 : decode cX11_note 97 = .ok (.l2i, 1) := by decide +kernel
theorem dX11_note_98 : decode cX11_note 98 = .ok (.iastore, 1) := by decide +kernel
theorem dX11_note_99 : decode cX11_note 99 = .ok (.aload_n 0, 1) := by decide +kernel
theorem dX11_note_100 : decode cX11_note 100 = .ok (.getfield 7, 3) := by decide +kernel
theorem dX11_note_103 : decode cX11_note 103 = .ok (.iconst 3, 1) := by decide +kernel
theorem dX11_note_104 : decode cX11_note 104 = .ok (.dup2, 1) := by decide +kernel
theorem dX11_note_105 : decode cX11_note 105 = .ok (.iaload, 1) := by decide +kernel
theorem dX11_note_106 : decode cX11_note 106 = .ok (.iconst 1, 1) := by decide +kernel
theorem dX11_note_107 : decode cX11_note 107 = .ok (.iadd, 1) := by decide +kernel
theorem dX11_note_108 : decode cX11_note 108 = .ok (.iastore, 1) := by decide +kernel
theorem dX11_note_109 : decode cX11_note 109 = .ok (.aload_n 0, 1) := by decide +kernel
theorem dX11_note_110 : decode cX11_note 110 = .ok (.aload_n 0, 1) := by decide +kernel
theorem dX11_note_111 : decode cX11_note 111 = .ok (.getfield 7, 3) := by decide +kernel
theorem dX11_note_114 : decode cX11_note 114 = .ok (.iconst 3, 1) := by decide +kernel
theorem dX11_note_115 : decode cX11_note 115 = .ok (.iaload, 1) := by decide +kernel
theorem dX11_note_116 : decode cX11_note 116 = .ok (.iconst 1, 1) := by decide +kernel
theorem dX11_note_117 : decode cX11_note 117 = .ok (.isub, 1) := by decide +kernel
theorem dX11_note_118 : decode cX11_note 118 = .ok (.invokevirtual 227, 3) := by decide +kernel
theorem dX11_note_121 : decode cX11_note 121 = .ok (.ireturn, 1) := by decide +kernel
theorem dX11_strike_0 : decode cX11_strike 0 = .ok (.iload_n 1, 1) := by decide +kernel
theorem dX11_strike_1 : decode cX11_strike 1 = .ok (.ifCond .ge 6, 3) := by decide +kernel
theorem dX11_strike_4 : decode cX11_strike 4 = .ok (.ldc 50, 2) := by decide +kernel
theorem dX11_strike_6 : decode cX11_strike 6 = .ok (.ireturn, 1) := by decide +kernel
theorem dX11_strike_7 : decode cX11_strike 7 = .ok (.aload_n 0, 1) := by decide +kernel
theorem dX11_strike_8 : decode cX11_strike 8 = .ok (.iload_n 1, 1) := by decide +kernel
theorem dX11_strike_9 : decode cX11_strike 9 = .ok (.invokevirtual 233, 3) := by decide +kernel
theorem dX11_strike_12 : decode cX11_strike 12 = .ok (.istore_n 2, 1) := by decide +kernel
theorem dX11_strike_13 : decode cX11_strike 13 = .ok (.iload_n 2, 1) := by decide +kernel
theorem dX11_strike_14 : decode cX11_strike 14 = .ok (.ifCond .ge 6, 3) := by decide +kernel
theorem dX11_strike_17 : decode cX11_strike 17 = .ok (.ldc 55, 2) := by decide +kernel
theorem dX11_strike_19 : decode cX11_strike 19 = .ok (.ireturn, 1) := by decide +kernel
theorem dX11_strike_20 : decode cX11_strike 20 = .ok (.aload_n 0, 1) := by decide +kernel
theorem dX11_strike_21 : decode cX11_strike 21 = .ok (.invokevirtual 56, 3) := by decide +kernel
theorem dX11_strike_24 : decode cX11_strike 24 = .ok (.aload_n 0, 1) := by decide +kernel
theorem dX11_strike_25 : decode cX11_strike 25 = .ok (.getfield 7, 3) := by decide +kernel
theorem dX11_strike_28 : decode cX11_strike 28 = .ok (.iconst 3, 1) := by decide +kernel
theorem dX11_strike_29 : decode cX11_strike 29 = .ok (.dup2, 1) := by decide +kernel
theorem dX11_strike_30 : decode cX11_strike 30 = .ok (.iaload, 1) := by decide +kernel
theorem dX11_strike_31 : decode cX11_strike 31 = .ok (.iconst 1, 1) := by decide +kernel
theorem dX11_strike_32 : decode cX11_strike 32 = .ok (.isub, 1) := by decide +kernel
theorem dX11_strike_33 : decode cX11_strike 33 = .ok (.iastore, 1) := by decide +kernel
theorem dX11_strike_34 : decode cX11_strike 34 = .ok (.iconst 4, 1) := by decide +kernel
theorem dX11_strike_35 : decode cX11_strike 35 = .ok (.iconst 2, 1) := by decide +kernel
theorem dX11_strike_36 : decode cX11_strike 36 = .ok (.iload_n 2, 1) := by decide +kernel
theorem dX11_strike_37 : decode cX11_strike 37 = .ok (.imul, 1) := by decide +kernel
theorem dX11_strike_38 : decode cX11_strike 38 = .ok (.iadd, 1) := by decide +kernel
theorem dX11_strike_39 : decode cX11_strike 39 = .ok (.istore_n 3, 1) := by decide +kernel
theorem dX11_strike_40 : decode cX11_strike 40 = .ok (.iload_n 3, 1) := by decide +kernel
theorem dX11_strike_41 : decode cX11_strike 41 = .ok (.iconst 4, 1) := by decide +kernel
theorem dX11_strike_42 : decode cX11_strike 42 = .ok (.iconst 2, 1) := by decide +kernel
theorem dX11_strike_43 : decode cX11_strike 43 = .ok (.aload_n 0, 1) := by decide +kernel
theorem dX11_strike_44 : decode cX11_strike 44 = .ok (.getfield 7, 3) := by decide +kernel
theorem dX11_strike_47 : decode cX11_strike 47 = .ok (.iconst 3, 1) := by decide +kernel
theorem dX11_strike_48 : decode cX11_strike 48 = .ok (.iaload, 1) := by decide +kernel
theorem dX11_strike_49 : decode cX11_strike 49 = .ok (.imul, 1) := by decide +kernel
theorem dX11_strike_50 : decode cX11_strike 50 = .ok (.iadd, 1) := by decide +kernel
theorem dX11_strike_51 : decode cX11_strike 51 = .ok (.if_icmp .ge 23, 3) := by decide +kernel
theorem dX11_strike_54 : decode cX11_strike 54 = .ok (.aload_n 0, 1) := by decide +kernel
theorem dX11_strike_55 : decode cX11_strike 55 = .ok (.getfield 7, 3) := by decide +kernel
theorem dX11_strike_58 : decode cX11_strike 58 = .ok (.iload_n 3, 1) := by decide +kernel
theorem dX11_strike_59 : decode cX11_strike 59 = .ok (.aload_n 0, 1) := by decide +kernel
theorem dX11_strike_60 : decode cX11_strike 60 = .ok (.getfield 7, 3) := by decide +kernel
theorem dX11_strike_63 : decode cX11_strike 63 = .ok (.iload_n 3, 1) := by decide +kernel
theorem dX11_strike_64 : decode cX11_strike 64 = .ok (.iconst 2, 1) := by decide +kernel
theorem dX11_strike_65 : decode cX11_strike 65 = .ok (.iadd, 1) := by decide +kernel
theorem dX11_strike_66 : decode cX11_strike 66 = .ok (.iaload, 1) := by decide +kernel
theorem dX11_strike_67 : decode cX11_strike 67 = .ok (.iastore, 1) := by decide +kernel
theorem dX11_strike_68 : decode cX11_strike 68 = .ok (.iinc 3 1, 3) := by decide +kernel
theorem dX11_strike_71 : decode cX11_strike 71 = .ok (.goto (-31), 3) := by decide +kernel
theorem dX11_strike_74 : decode cX11_strike 74 = .ok (.aload_n 0, 1) := by decide +kernel
theorem dX11_strike_75 : decode cX11_strike 75 = .ok (.getfield 7, 3) := by decide +kernel
theorem dX11_strike_78 : decode cX11_strike 78 = .ok (.iconst 3, 1) := by decide +kernel
theorem dX11_strike_79 : decode cX11_strike 79 = .ok (.iaload, 1) := by decide +kernel
theorem dX11_strike_80 : decode cX11_strike 80 = .ok (.ireturn, 1) := by decide +kernel
theorem dX11_strikeAll_0 : decode cX11_strikeAll 0 = .ok (.aload_n 0, 1) := by decide +kernel
theorem dX11_strikeAll_1 : decode cX11_strikeAll 1 = .ok (.invokevirtual 56, 3) := by decide +kernel
theorem dX11_strikeAll_4 : decode cX11_strikeAll 4 = .ok (.aload_n 0, 1) := by decide +kernel
theorem dX11_strikeAll_5 : decode cX11_strikeAll 5 = .ok (.getfield 7, 3) := by decide +kernel
theorem dX11_strikeAll_8 : decode cX11_strikeAll 8 = .ok (.iconst 3, 1) := by decide +kernel
theorem dX11_strikeAll_9 : decode cX11_strikeAll 9 = .ok (.iaload, 1) := by decide +kernel
theorem dX11_strikeAll_10 : decode cX11_strikeAll 10 = .ok (.istore_n 1, 1) := by decide +kernel
theorem dX11_strikeAll_11 : decode cX11_strikeAll 11 = .ok (.aload_n 0, 1) := by decide +kernel
theorem dX11_strikeAll_12 : decode cX11_strikeAll 12 = .ok (.getfield 7, 3) := by decide +kernel
theorem dX11_strikeAll_15 : decode cX11_strikeAll 15 = .ok (.iconst 3, 1) := by decide +kernel
theorem dX11_strikeAll_16 : decode cX11_strikeAll 16 = .ok (.iconst 0, 1) := by decide +kernel
theorem dX11_strikeAll_17 : decode cX11_strikeAll 17 = .ok (.iastore, 1) := by decide +kernel
theorem dX11_strikeAll_18 : decode cX11_strikeAll 18 = .ok (.iload_n 1, 1) := by decide +kernel
theorem dX11_strikeAll_19 : decode cX11_strikeAll 19 = .ok (.ireturn, 1) := by decide +kernel
theorem dX11_isConvergent_0 : decode cX11_isConvergent 0 = .ok (.aload_n 0, 1) := by decide +kernel
theorem dX11_isConvergent_1 : decode cX11_isConvergent 1 = .ok (.invokevirtual 69, 3) := by decide +kernel
theorem dX11_isConvergent_4 : decode cX11_isConvergent 4 = .ok (.aload_n 0, 1) := by decide +kernel
theorem dX11_isConvergent_5 : decode cX11_isConvergent 5 = .ok (.invokevirtual 113, 3) := by decide +kernel
theorem dX11_isConvergent_8 : decode cX11_isConvergent 8 = .ok (.iconst 0, 1) := by decide +kernel
theorem dX11_isConvergent_9 : decode cX11_isConvergent 9 = .ok (.istore_n 3, 1) := by decide +kernel
theorem dX11_isConvergent_10 : decode cX11_isConvergent 10 = .ok (.iconst 0, 1) := by decide +kernel
theorem dX11_isConvergent_11 : decode cX11_isConvergent 11 = .ok (.istore 4, 2) := by decide +kernel
theorem dX11_isConvergent_13 : decode cX11_isConvergent 13 = .ok (.iload 4, 2) := by decide +kernel
theorem dX11_isConvergent_15 : decode cX11_isConvergent 15 = .ok (.bipush 30, 2) := by decide +kernel
theorem dX11_isConvergent_17 : decode cX11_isConvergent 17 = .ok (.if_icmp .ge 76, 3) := by decide +kernel
theorem dX11_isConvergent_20 : decode cX11_isConvergent 20 = .ok (.aload_n 0, 1) := by decide +kernel
theorem dX11_isConvergent_21 : decode cX11_isConvergent 21 = .ok (.getfield 97, 3) := by decide +kernel
theorem dX11_isConvergent_24 : decode cX11_isConvergent 24 = .ok (.iload_n 2, 1) := by decide +kernel
theorem dX11_isConvergent_25 : decode cX11_isConvergent 25 = .ok (.i2l, 1) := by decide +kernel
theorem dX11_isConvergent_26 : decode cX11_isConvergent 26 = .ok (.lcmp, 1) := by decide +kernel
theorem dX11_isConvergent_27 : decode cX11_isConvergent 27 = .ok (.ifCond .gt 22, 3) := by decide +kernel
theorem dX11_isConvergent_30 : decode cX11_isConvergent 30 = .ok (.aload_n 0, 1) := by decide +kernel
theorem dX11_isConvergent_31 : decode cX11_isConvergent 31 = .ok (.aload_n 0, 1) := by decide +kernel
theorem dX11_isConvergent_32 : decode cX11_isConvergent 32 = .ok (.getfield 19, 3) := by decide +kernel
theorem dX11_isConvergent_35 : decode cX11_isConvergent 35 = .ok (.iload 4, 2) := by decide +kernel
theorem dX11_isConvergent_37 : decode cX11_isConvergent 37 = .ok (.iaload, 1) := by decide +kernel
theorem dX11_isConvergent_38 : decode cX11_isConvergent 38 = .ok (.i2l, 1) := by decide +kernel
theorem dX11_isConvergent_39 : decode cX11_isConvergent 39 = .ok (.invokevirtual 116, 3) := by decide +kernel
theorem dX11_isConvergent_42 : decode cX11_isConvergent 42 = .ok (.ifCond .eq 7, 3) := by decide +kernel
theorem dX11_isConvergent_45 : decode cX11_isConvergent 45 = .ok (.iconst 1, 1) := by decide +kernel
theorem dX11_isConvergent_46 : decode cX11_isConvergent 46 = .ok (.goto 4, 3) := by decide +kernel
theorem dX11_isConvergent_49 : decode cX11_isConvergent 49 = .ok (.iconst 0, 1) := by decide +kernel
theorem dX11_isConvergent_50 : decode cX11_isConvergent 50 = .ok (.istore 5, 2) := by decide +kernel
theorem dX11_isConvergent_52 : decode cX11_isConvergent 52 = .ok (.iload_n 3, 1) := by decide +kernel
theorem dX11_isConvergent_53 : decode cX11_isConvergent 53 = .ok (.ifCond .ne 28, 3) := by decide +kernel
theorem dX11_isConvergent_56 : decode cX11_isConvergent 56 = .ok (.iload 5, 2) := by decide +kernel
theorem dX11_isConvergent_58 : decode cX11_isConvergent 58 = .ok (.ifCond .eq 27, 3) := by decide +kernel
theorem dX11_isConvergent_61 : decode cX11_isConvergent 61 = .ok (.aload_n 0, 1) := by decide +kernel
theorem dX11_isConvergent_62 : decode cX11_isConvergent 62 = .ok (.getfield 93, 3) := by decide +kernel
theorem dX11_isConvergent_65 : decode cX11_isConvergent 65 = .ok (.iload_n 1, 1) := by decide +kernel
theorem dX11_isConvergent_66 : decode cX11_isConvergent 66 = .ok (.i2l, 1) := by decide +kernel
theorem dX11_isConvergent_67 : decode cX11_isConvergent 67 = .ok (.lcmp, 1) := by decide +kernel
theorem dX11_isConvergent_68 : decode cX11_isConvergent 68 = .ok (.ifCond .ne 17, 3) := by decide +kernel
theorem dX11_isConvergent_71 : decode cX11_isConvergent 71 = .ok (.aload_n 0, 1) := by decide +kernel
theorem dX11_isConvergent_72 : decode cX11_isConvergent 72 = .ok (.getfield 97, 3) := by decide +kernel
theorem dX11_isConvergent_75 : decode cX11_isConvergent 75 = .ok (.iload_n 2, 1) := by decide +kernel
theorem dX11_isConvergent_76 : decode cX11_isConvergent 76 = .ok (.i2l, 1) := by decide +kernel
theorem dX11_isConvergent_77 : decode cX11_isConvergent 77 = .ok (.lcmp, 1) := by decide +kernel
theorem dX11_isConvergent_78 : decode cX11_isConvergent 78 = .ok (.ifCond .ne 7, 3) := by decide +kernel
theorem dX11_isConvergent_81 : decode cX11_isConvergent 81 = .ok (.iconst 1, 1) := by decide +kernel
theorem dX11_isConvergent_82 : decode cX11_isConvergent 82 = .ok (.goto 4, 3) := by decide +kernel
theorem dX11_isConvergent_85 : decode cX11_isConvergent 85 = .ok (.iconst 0, 1) := by decide +kernel
theorem dX11_isConvergent_86 : decode cX11_isConvergent 86 = .ok (.istore_n 3, 1) := by decide +kernel
theorem dX11_isConvergent_87 : decode cX11_isConvergent 87 = .ok (.iinc 4 1, 3) := by decide +kernel
theorem dX11_isConvergent_90 : decode cX11_isConvergent 90 = .ok (.goto (-77), 3) := by decide +kernel
theorem dX11_isConvergent_93 : decode cX11_isConvergent 93 = .ok (.iload_n 3, 1) := by decide +kernel
theorem dX11_isConvergent_94 : decode cX11_isConvergent 94 = .ok (.ireturn, 1) := by decide +kernel
theorem dX11_noteOf_0 : decode cX11_noteOf 0 = .ok (.iload_n 1, 1) := by decide +kernel
theorem dX11_noteOf_1 : decode cX11_noteOf 1 = .ok (.ifCond .lt 15, 3) := by decide +kernel
theorem dX11_noteOf_4 : decode cX11_noteOf 4 = .ok (.iload_n 2, 1) := by decide +kernel
theorem dX11_noteOf_5 : decode cX11_noteOf 5 = .ok (.i2l, 1) := by decide +kernel
theorem dX11_noteOf_6 : decode cX11_noteOf 6 = .ok (.lconst 0, 1) := by decide +kernel
theorem dX11_noteOf_7 : decode cX11_noteOf 7 = .ok (.ldc2_w 236, 3) := by decide +kernel
theorem dX11_noteOf_10 : decode cX11_noteOf 10 = .ok (.invokestatic 44, 3) := by decide +kernel
theorem dX11_noteOf_13 : decode cX11_noteOf 13 = .ok (.ifCond .ne 6, 3) := by decide +kernel
theorem dX11_noteOf_16 : decode cX11_noteOf 16 = .ok (.ldc 50, 2) := by decide +kernel
theorem dX11_noteOf_18 : decode cX11_noteOf 18 = .ok (.ireturn, 1) := by decide +kernel
theorem dX11_noteOf_19 : decode cX11_noteOf 19 = .ok (.aload_n 0, 1) := by decide +kernel
theorem dX11_noteOf_20 : decode cX11_noteOf 20 = .ok (.iload_n 1, 1) := by decide +kernel
theorem dX11_noteOf_21 : decode cX11_noteOf 21 = .ok (.invokevirtual 233, 3) := by decide +kernel
theorem dX11_noteOf_24 : decode cX11_noteOf 24 = .ok (.istore_n 3, 1) := by decide +kernel
theorem dX11_noteOf_25 : decode cX11_noteOf 25 = .ok (.iload_n 3, 1) := by decide +kernel
theorem dX11_noteOf_26 : decode cX11_noteOf 26 = .ok (.ifCond .ge 6, 3) := by decide +kernel
theorem dX11_noteOf_29 : decode cX11_noteOf 29 = .ok (.ldc 176, 2) := by decide +kernel
theorem dX11_noteOf_31 : decode cX11_noteOf 31 = .ok (.ireturn, 1) := by decide +kernel
theorem dX11_noteOf_32 : decode cX11_noteOf 32 = .ok (.iload_n 2, 1) := by decide +kernel
theorem dX11_noteOf_33 : decode cX11_noteOf 33 = .ok (.tableswitch 67 0 2 #[27, 36, 42], 27) := by decide +kernel
theorem dX11_noteOf_60 : decode cX11_noteOf 60 = .ok (.aload_n 0, 1) := by decide +kernel
theorem dX11_noteOf_61 : decode cX11_noteOf 61 = .ok (.iload_n 3, 1) := by decide +kernel
theorem dX11_noteOf_62 : decode cX11_noteOf 62 = .ok (.invokevirtual 221, 3) := by decide +kernel
theorem dX11_noteOf_65 : decode cX11_noteOf 65 = .ok (.ldc 145, 2) := by decide +kernel
theorem dX11_noteOf_67 : decode cX11_noteOf 67 = .ok (.iadd, 1) := by decide +kernel
theorem dX11_noteOf_68 : decode cX11_noteOf 68 = .ok (.ireturn, 1) := by decide +kernel
theorem dX11_noteOf_69 : decode cX11_noteOf 69 = .ok (.aload_n 0, 1) := by decide +kernel
theorem dX11_noteOf_70 : decode cX11_noteOf 70 = .ok (.iload_n 3, 1) := by decide +kernel
theorem dX11_noteOf_71 : decode cX11_noteOf 71 = .ok (.invokevirtual 224, 3) := by decide +kernel
theorem dX11_noteOf_74 : decode cX11_noteOf 74 = .ok (.ireturn, 1) := by decide +kernel
theorem dX11_noteOf_75 : decode cX11_noteOf 75 = .ok (.aload_n 0, 1) := by decide +kernel
theorem dX11_noteOf_76 : decode cX11_noteOf 76 = .ok (.aload_n 0, 1) := by decide +kernel
theorem dX11_noteOf_77 : decode cX11_noteOf 77 = .ok (.iload_n 3, 1) := by decide +kernel
theorem dX11_noteOf_78 : decode cX11_noteOf 78 = .ok (.invokevirtual 221, 3) := by decide +kernel
theorem dX11_noteOf_81 : decode cX11_noteOf 81 = .ok (.i2l, 1) := by decide +kernel
theorem dX11_noteOf_82 : decode cX11_noteOf 82 = .ok (.aload_n 0, 1) := by decide +kernel
theorem dX11_noteOf_83 : decode cX11_noteOf 83 = .ok (.iload_n 3, 1) := by decide +kernel
theorem dX11_noteOf_84 : decode cX11_noteOf 84 = .ok (.invokevirtual 224, 3) := by decide +kernel
theorem dX11_noteOf_87 : decode cX11_noteOf 87 = .ok (.i2l, 1) := by decide +kernel
theorem dX11_noteOf_88 : decode cX11_noteOf 88 = .ok (.invokevirtual 127, 3) := by decide +kernel
theorem dX11_noteOf_91 : decode cX11_noteOf 91 = .ok (.ifCond .eq 7, 3) := by decide +kernel
theorem dX11_noteOf_94 : decode cX11_noteOf 94 = .ok (.iconst 0, 1) := by decide +kernel
theorem dX11_noteOf_95 : decode cX11_noteOf 95 = .ok (.goto 4, 3) := by decide +kernel
theorem dX11_noteOf_98 : decode cX11_noteOf 98 = .ok (.iconst 1, 1) := by decide +kernel
theorem dX11_noteOf_99 : decode cX11_noteOf 99 = .ok (.ireturn, 1) := by decide +kernel
theorem dX11_noteOf_100 : decode cX11_noteOf 100 = .ok (.aload_n 0, 1) := by decide +kernel
theorem dX11_noteOf_101 : decode cX11_noteOf 101 = .ok (.aload_n 0, 1) := by decide +kernel
theorem dX11_noteOf_102 : decode cX11_noteOf 102 = .ok (.iload_n 3, 1) := by decide +kernel
theorem dX11_noteOf_103 : decode cX11_noteOf 103 = .ok (.invokevirtual 221, 3) := by decide +kernel
theorem dX11_noteOf_106 : decode cX11_noteOf 106 = .ok (.aload_n 0, 1) := by decide +kernel
theorem dX11_noteOf_107 : decode cX11_noteOf 107 = .ok (.iload_n 3, 1) := by decide +kernel
theorem dX11_noteOf_108 : decode cX11_noteOf 108 = .ok (.invokevirtual 224, 3) := by decide +kernel
theorem dX11_noteOf_111 : decode cX11_noteOf 111 = .ok (.invokevirtual 238, 3) := by decide +kernel
theorem dX11_noteOf_114 : decode cX11_noteOf 114 = .ok (.ifCond .eq 7, 3) := by decide +kernel
theorem dX11_noteOf_117 : decode cX11_noteOf 117 = .ok (.iconst 1, 1) := by decide +kernel
theorem dX11_noteOf_118 : decode cX11_noteOf 118 = .ok (.goto 4, 3) := by decide +kernel
theorem dX11_noteOf_121 : decode cX11_noteOf 121 = .ok (.iconst 0, 1) := by decide +kernel
theorem dX11_noteOf_122 : decode cX11_noteOf 122 = .ok (.ireturn, 1) := by decide +kernel
theorem dX11_aboveOnes_0 : decode cX11_aboveOnes 0 = .ok (.iconst 0, 1) := by decide +kernel
theorem dX11_aboveOnes_1 : decode cX11_aboveOnes 1 = .ok (.istore_n 1, 1) := by decide +kernel
theorem dX11_aboveOnes_2 : decode cX11_aboveOnes 2 = .ok (.iconst 0, 1) := by decide +kernel
theorem dX11_aboveOnes_3 : decode cX11_aboveOnes 3 = .ok (.istore_n 2, 1) := by decide +kernel
theorem dX11_aboveOnes_4 : decode cX11_aboveOnes 4 = .ok (.iload_n 2, 1) := by decide +kernel
theorem dX11_aboveOnes_5 : decode cX11_aboveOnes 5 = .ok (.aload_n 0, 1) := by decide +kernel
theorem dX11_aboveOnes_6 : decode cX11_aboveOnes 6 = .ok (.getfield 7, 3) := by decide +kernel
theorem dX11_aboveOnes_9 : decode cX11_aboveOnes 9 = .ok (.iconst 3, 1) := by decide +kernel
theorem dX11_aboveOnes_10 : decode cX11_aboveOnes 10 = .ok (.iaload, 1) := by decide +kernel
theorem dX11_aboveOnes_11 : decode cX11_aboveOnes 11 = .ok (.if_icmp .ge 36, 3) := by decide +kernel
theorem dX11_aboveOnes_14 : decode cX11_aboveOnes 14 = .ok (.iload_n 1, 1) := by decide +kernel
theorem dX11_aboveOnes_15 : decode cX11_aboveOnes 15 = .ok (.aload_n 0, 1) := by decide +kernel
theorem dX11_aboveOnes_16 : decode cX11_aboveOnes 16 = .ok (.aload_n 0, 1) := by decide +kernel
theorem dX11_aboveOnes_17 : decode cX11_aboveOnes 17 = .ok (.iload_n 2, 1) := by decide +kernel
theorem dX11_aboveOnes_18 : decode cX11_aboveOnes 18 = .ok (.invokevirtual 221, 3) := by decide +kernel
theorem dX11_aboveOnes_21 : decode cX11_aboveOnes 21 = .ok (.i2l, 1) := by decide +kernel
theorem dX11_aboveOnes_22 : decode cX11_aboveOnes 22 = .ok (.aload_n 0, 1) := by decide +kernel
theorem dX11_aboveOnes_23 : decode cX11_aboveOnes 23 = .ok (.iload_n 2, 1) := by decide +kernel
theorem dX11_aboveOnes_24 : decode cX11_aboveOnes 24 = .ok (.invokevirtual 224, 3) := by decide +kernel
theorem dX11_aboveOnes_27 : decode cX11_aboveOnes 27 = .ok (.i2l, 1) := by decide +kernel
theorem dX11_aboveOnes_28 : decode cX11_aboveOnes 28 = .ok (.invokevirtual 127, 3) := by decide +kernel
theorem dX11_aboveOnes_31 : decode cX11_aboveOnes 31 = .ok (.ifCond .eq 7, 3) := by decide +kernel
theorem dX11_aboveOnes_34 : decode cX11_aboveOnes 34 = .ok (.iconst 0, 1) := by decide +kernel
theorem dX11_aboveOnes_35 : decode cX11_aboveOnes 35 = .ok (.goto 4, 3) := by decide +kernel
theorem dX11_aboveOnes_38 : decode cX11_aboveOnes 38 = .ok (.iconst 1, 1) := by decide +kernel
theorem dX11_aboveOnes_39 : decode cX11_aboveOnes 39 = .ok (.iadd, 1) := by decide +kernel
theorem dX11_aboveOnes_40 : decode cX11_aboveOnes 40 = .ok (.istore_n 1, 1) := by decide +kernel
theorem dX11_aboveOnes_41 : decode cX11_aboveOnes 41 = .ok (.iinc 2 1, 3) := by decide +kernel
theorem dX11_aboveOnes_44 : decode cX11_aboveOnes 44 = .ok (.goto (-40), 3) := by decide +kernel
theorem dX11_aboveOnes_47 : decode cX11_aboveOnes 47 = .ok (.iload_n 1, 1) := by decide +kernel
theorem dX11_aboveOnes_48 : decode cX11_aboveOnes 48 = .ok (.ireturn, 1) := by decide +kernel
theorem dX11_count_0 : decode cX11_count 0 = .ok (.iload_n 1, 1) := by decide +kernel
theorem dX11_count_1 : decode cX11_count 1 = .ok (.tableswitch 53 0 3 #[31, 38, 43, 48], 31) := by decide +kernel
theorem dX11_count_32 : decode cX11_count 32 = .ok (.aload_n 0, 1) := by decide +kernel
theorem dX11_count_33 : decode cX11_count 33 = .ok (.getfield 7, 3) := by decide +kernel
theorem dX11_count_36 : decode cX11_count 36 = .ok (.iconst 3, 1) := by decide +kernel
theorem dX11_count_37 : decode cX11_count 37 = .ok (.iaload, 1) := by decide +kernel
theorem dX11_count_38 : decode cX11_count 38 = .ok (.ireturn, 1) := by decide +kernel
theorem dX11_count_39 : decode cX11_count 39 = .ok (.aload_n 0, 1) := by decide +kernel
theorem dX11_count_40 : decode cX11_count 40 = .ok (.invokevirtual 241, 3) := by decide +kernel
theorem dX11_count_43 : decode cX11_count 43 = .ok (.ireturn, 1) := by decide +kernel
theorem dX11_count_44 : decode cX11_count 44 = .ok (.aload_n 0, 1) := by decide +kernel
theorem dX11_count_45 : decode cX11_count 45 = .ok (.getfield 32, 3) := by decide +kernel
theorem dX11_count_48 : decode cX11_count 48 = .ok (.ireturn, 1) := by decide +kernel
theorem dX11_count_49 : decode cX11_count 49 = .ok (.aload_n 0, 1) := by decide +kernel
theorem dX11_count_50 : decode cX11_count 50 = .ok (.getfield 180, 3) := by decide +kernel
theorem dX11_count_53 : decode cX11_count 53 = .ok (.ireturn, 1) := by decide +kernel
theorem dX11_count_54 : decode cX11_count 54 = .ok (.ldc 50, 2) := by decide +kernel
theorem dX11_count_56 : decode cX11_count 56 = .ok (.ireturn, 1) := by decide +kernel
theorem dX11_undo_0 : decode cX11_undo 0 = .ok (.aload_n 0, 1) := by decide +kernel
theorem dX11_undo_1 : decode cX11_undo 1 = .ok (.getfield 32, 3) := by decide +kernel
theorem dX11_undo_4 : decode cX11_undo 4 = .ok (.ifCond .ne 6, 3) := by decide +kernel
theorem dX11_undo_7 : decode cX11_undo 7 = .ok (.ldc 55, 2) := by decide +kernel
theorem dX11_undo_9 : decode cX11_undo 9 = .ok (.ireturn, 1) := by decide +kernel
theorem dX11_undo_10 : decode cX11_undo 10 = .ok (.aload_n 0, 1) := by decide +kernel
theorem dX11_undo_11 : decode cX11_undo 11 = .ok (.dup, 1) := by decide +kernel
theorem dX11_undo_12 : decode cX11_undo 12 = .ok (.getfield 32, 3) := by decide +kernel
theorem dX11_undo_15 : decode cX11_undo 15 = .ok (.iconst 1, 1) := by decide +kernel
theorem dX11_undo_16 : decode cX11_undo 16 = .ok (.isub, 1) := by decide +kernel
theorem dX11_undo_17 : decode cX11_undo 17 = .ok (.putfield 32, 3) := by decide +kernel
theorem dX11_undo_20 : decode cX11_undo 20 = .ok (.iconst 0, 1) := by decide +kernel
theorem dX11_undo_21 : decode cX11_undo 21 = .ok (.istore_n 1, 1) := by decide +kernel
theorem dX11_undo_22 : decode cX11_undo 22 = .ok (.iload_n 1, 1) := by decide +kernel
theorem dX11_undo_23 : decode cX11_undo 23 = .ok (.bipush 20, 2) := by decide +kernel
theorem dX11_undo_25 : decode cX11_undo 25 = .ok (.if_icmp .ge 29, 3) := by decide +kernel
theorem dX11_undo_28 : decode cX11_undo 28 = .ok (.aload_n 0, 1) := by decide +kernel
theorem dX11_undo_29 : decode cX11_undo 29 = .ok (.getfield 7, 3) := by decide +kernel
theorem dX11_undo_32 : decode cX11_undo 32 = .ok (.iload_n 1, 1) := by decide +kernel
theorem dX11_undo_33 : decode cX11_undo 33 = .ok (.aload_n 0, 1) := by decide +kernel
theorem dX11_undo_34 : decode cX11_undo 34 = .ok (.getfield 13, 3) := by decide +kernel
theorem dX11_undo_37 : decode cX11_undo 37 = .ok (.bipush 20, 2) := by decide +kernel
theorem dX11_undo_39 : decode cX11_undo 39 = .ok (.aload_n 0, 1) := by decide +kernel
theorem dX11_undo_40 : decode cX11_undo 40 = .ok (.getfield 32, 3) := by decide +kernel
theorem dX11_undo_43 : decode cX11_undo 43 = .ok (.imul, 1) := by decide +kernel
theorem dX11_undo_44 : decode cX11_undo 44 = .ok (.iload_n 1, 1) := by decide +kernel
theorem dX11_undo_45 : decode cX11_undo 45 = .ok (.iadd, 1) := by decide +kernel
theorem dX11_undo_46 : decode cX11_undo 46 = .ok (.iaload, 1) := by decide +kernel
theorem dX11_undo_47 : decode cX11_undo 47 = .ok (.iastore, 1) := by decide +kernel
theorem dX11_undo_48 : decode cX11_undo 48 = .ok (.iinc 1 1, 3) := by decide +kernel
theorem dX11_undo_51 : decode cX11_undo 51 = .ok (.goto (-29), 3) := by decide +kernel
theorem dX11_undo_54 : decode cX11_undo 54 = .ok (.aload_n 0, 1) := by decide +kernel
theorem dX11_undo_55 : decode cX11_undo 55 = .ok (.getfield 32, 3) := by decide +kernel
theorem dX11_undo_58 : decode cX11_undo 58 = .ok (.ireturn, 1) := by decide +kernel
theorem dX11_type_0 : decode cX11_type 0 = .ok (.iload_n 1, 1) := by decide +kernel
theorem dX11_type_1 : decode cX11_type 1 = .ok (.i2l, 1) := by decide +kernel
theorem dX11_type_2 : decode cX11_type 2 = .ok (.ldc2_w 244, 3) := by decide +kernel
theorem dX11_type_5 : decode cX11_type 5 = .ok (.ldc2_w 246, 3) := by decide +kernel
theorem dX11_type_8 : decode cX11_type 8 = .ok (.invokestatic 44, 3) := by decide +kernel
theorem dX11_type_11 : decode cX11_type 11 = .ok (.ifCond .ne 6, 3) := by decide +kernel
theorem dX11_type_14 : decode cX11_type 14 = .ok (.ldc 50, 2) := by decide +kernel
theorem dX11_type_16 : decode cX11_type 16 = .ok (.ireturn, 1) := by decide +kernel
theorem dX11_type_17 : decode cX11_type 17 = .ok (.aload_n 0, 1) := by decide +kernel
theorem dX11_type_18 : decode cX11_type 18 = .ok (.getfield 180, 3) := by decide +kernel
theorem dX11_type_21 : decode cX11_type 21 = .ok (.bipush 40, 2) := by decide +kernel
theorem dX11_type_23 : decode cX11_type 23 = .ok (.if_icmp .ne 6, 3) := by decide +kernel
theorem dX11_type_26 : decode cX11_type 26 = .ok (.ldc 81, 2) := by decide +kernel
theorem dX11_type_28 : decode cX11_type 28 = .ok (.ireturn, 1) := by decide +kernel
theorem dX11_type_29 : decode cX11_type 29 = .ok (.aload_n 0, 1) := by decide +kernel
theorem dX11_type_30 : decode cX11_type 30 = .ok (.getfield 16, 3) := by decide +kernel
theorem dX11_type_33 : decode cX11_type 33 = .ok (.aload_n 0, 1) := by decide +kernel
theorem dX11_type_34 : decode cX11_type 34 = .ok (.getfield 180, 3) := by decide +kernel
theorem dX11_type_37 : decode cX11_type 37 = .ok (.iload_n 1, 1) := by decide +kernel
theorem dX11_type_38 : decode cX11_type 38 = .ok (.iastore, 1) := by decide +kernel
theorem dX11_type_39 : decode cX11_type 39 = .ok (.aload_n 0, 1) := by decide +kernel
theorem dX11_type_40 : decode cX11_type 40 = .ok (.dup, 1) := by decide +kernel
theorem dX11_type_41 : decode cX11_type 41 = .ok (.getfield 180, 3) := by decide +kernel
theorem dX11_type_44 : decode cX11_type 44 = .ok (.iconst 1, 1) := by decide +kernel
theorem dX11_type_45 : decode cX11_type 45 = .ok (.iadd, 1) := by decide +kernel
theorem dX11_type_46 : decode cX11_type 46 = .ok (.putfield 180, 3) := by decide +kernel
theorem dX11_type_49 : decode cX11_type 49 = .ok (.aload_n 0, 1) := by decide +kernel
theorem dX11_type_50 : decode cX11_type 50 = .ok (.getfield 180, 3) := by decide +kernel
theorem dX11_type_53 : decode cX11_type 53 = .ok (.ireturn, 1) := by decide +kernel
theorem dX11_clearText_0 : decode cX11_clearText 0 = .ok (.aload_n 0, 1) := by decide +kernel
theorem dX11_clearText_1 : decode cX11_clearText 1 = .ok (.getfield 180, 3) := by decide +kernel
theorem dX11_clearText_4 : decode cX11_clearText 4 = .ok (.istore_n 1, 1) := by decide +kernel
theorem dX11_clearText_5 : decode cX11_clearText 5 = .ok (.aload_n 0, 1) := by decide +kernel
theorem dX11_clearText_6 : decode cX11_clearText 6 = .ok (.iconst 0, 1) := by decide +kernel
theorem dX11_clearText_7 : decode cX11_clearText 7 = .ok (.putfield 180, 3) := by decide +kernel
theorem dX11_clearText_10 : decode cX11_clearText 10 = .ok (.iload_n 1, 1) := by decide +kernel
theorem dX11_clearText_11 : decode cX11_clearText 11 = .ok (.ireturn, 1) := by decide +kernel
end
section
theorem dL_law_0 : decode cL_law 0 = .ok (.new 7, 3) := by decide +kernel
theorem dL_law_3 : decode cL_law 3 = .ok (.dup, 1) := by decide +kernel
theorem dL_law_4 : decode cL_law 4 = .ok (.invokespecial 9, 3) := by decide +kernel
theorem dL_law_7 : decode cL_law 7 = .ok (.astore_n 1, 1) := by decide +kernel
theorem dL_law_8 : decode cL_law 8 = .ok (.new 10, 3) := by decide +kernel
theorem dL_law_11 : decode cL_law 11 = .ok (.dup, 1) := by decide +kernel
theorem dL_law_12 : decode cL_law 12 = .ok (.invokespecial 12, 3) := by decide +kernel
theorem dL_law_15 : decode cL_law 15 = .ok (.astore_n 2, 1) := by decide +kernel
theorem dL_law_16 : decode cL_law 16 = .ok (.iconst 0, 1) := by decide +kernel
theorem dL_law_17 : decode cL_law 17 = .ok (.istore_n 3, 1) := by decide +kernel
theorem dL_law_18 : decode cL_law 18 = .ok (.iload_n 3, 1) := by decide +kernel
theorem dL_law_19 : decode cL_law 19 = .ok (.aload_n 0, 1) := by decide +kernel
theorem dL_law_20 : decode cL_law 20 = .ok (.arraylength, 1) := by decide +kernel
theorem dL_law_21 : decode cL_law 21 = .ok (.iconst 4, 1) := by decide +kernel
theorem dL_law_22 : decode cL_law 22 = .ok (.isub, 1) := by decide +kernel
theorem dL_law_23 : decode cL_law 23 = .ok (.if_icmp .gt 699, 3) := by decide +kernel
theorem dL_law_26 : decode cL_law 26 = .ok (.aload_n 0, 1) := by decide +kernel
theorem dL_law_27 : decode cL_law 27 = .ok (.iload_n 3, 1) := by decide +kernel
theorem dL_law_28 : decode cL_law 28 = .ok (.iaload, 1) := by decide +kernel
theorem dL_law_29 : decode cL_law 29 = .ok (.bipush 31, 2) := by decide +kernel
theorem dL_law_31 : decode cL_law 31 = .ok (.iand, 1) := by decide +kernel
theorem dL_law_32 : decode cL_law 32 = .ok (.tableswitch 684 0 21 #[104, 147, 170, 193, 216, 250, 294, 327, 370, 393, 436, 459, 483, 496, 519, 532, 565, 588, 601, 624, 637, 660], 104) := by decide +kernel
theorem dL_law_136 : decode cL_law 136 = .ok (.aload_n 1, 1) := by decide +kernel
theorem dL_law_137 : decode cL_law 137 = .ok (.aload_n 0, 1) := by decide +kernel
theorem dL_law_138 : decode cL_law 138 = .ok (.iload_n 3, 1) := by decide +kernel
theorem dL_law_139 : decode cL_law 139 = .ok (.iconst 1, 1) := by decide +kernel
theorem dL_law_140 : decode cL_law 140 = .ok (.iadd, 1) := by decide +kernel
theorem dL_law_141 : decode cL_law 141 = .ok (.iaload, 1) := by decide +kernel
theorem dL_law_142 : decode cL_law 142 = .ok (.aload_n 0, 1) := by decide +kernel
theorem dL_law_143 : decode cL_law 143 = .ok (.iload_n 3, 1) := by decide +kernel
theorem dL_law_144 : decode cL_law 144 = .ok (.iconst 2, 1) := by decide +kernel
theorem dL_law_145 : decode cL_law 145 = .ok (.iadd, 1) := by decide +kernel
theorem dL_law_146 : decode cL_law 146 = .ok (.iaload, 1) := by decide +kernel
theorem dL_law_147 : decode cL_law 147 = .ok (.aload_n 0, 1) := by decide +kernel
theorem dL_law_148 : decode cL_law 148 = .ok (.iload_n 3, 1) := by decide +kernel
theorem dL_law_149 : decode cL_law 149 = .ok (.iconst 3, 1) := by decide +kernel
theorem dL_law_150 : decode cL_law 150 = .ok (.iadd, 1) := by decide +kernel
theorem dL_law_151 : decode cL_law 151 = .ok (.iaload, 1) := by decide +kernel
theorem dL_law_152 : decode cL_law 152 = .ok (.invokevirtual 13, 3) := by decide +kernel
theorem dL_law_155 : decode cL_law 155 = .ok (.aload_n 2, 1) := by decide +kernel
theorem dL_law_156 : decode cL_law 156 = .ok (.aload_n 0, 1) := by decide +kernel
theorem dL_law_157 : decode cL_law 157 = .ok (.iload_n 3, 1) := by decide +kernel
theorem dL_law_158 : decode cL_law 158 = .ok (.iconst 1, 1) := by decide +kernel
theorem dL_law_159 : decode cL_law 159 = .ok (.iadd, 1) := by decide +kernel
theorem dL_law_160 : decode cL_law 160 = .ok (.iaload, 1) := by decide +kernel
theorem dL_law_161 : decode cL_law 161 = .ok (.aload_n 0, 1) := by decide +kernel
theorem dL_law_162 : decode cL_law 162 = .ok (.iload_n 3, 1) := by decide +kernel
theorem dL_law_163 : decode cL_law 163 = .ok (.iconst 2, 1) := by decide +kernel
theorem dL_law_164 : decode cL_law 164 = .ok (.iadd, 1) := by decide +kernel
theorem dL_law_165 : decode cL_law 165 = .ok (.iaload, 1) := by decide +kernel
theorem dL_law_166 : decode cL_law 166 = .ok (.aload_n 0, 1) := by decide +kernel
theorem dL_law_167 : decode cL_law 167 = .ok (.iload_n 3, 1) := by decide +kernel
theorem dL_law_168 : decode cL_law 168 = .ok (.iconst 3, 1) := by decide +kernel
theorem dL_law_169 : decode cL_law 169 = .ok (.iadd, 1) := by decide +kernel
theorem dL_law_170 : decode cL_law 170 = .ok (.iaload, 1) := by decide +kernel
theorem dL_law_171 : decode cL_law 171 = .ok (.invokevirtual 17, 3) := by decide +kernel
theorem dL_law_174 : decode cL_law 174 = .ok (.if_icmp .eq 542, 3) := by decide +kernel
theorem dL_law_177 : decode cL_law 177 = .ok (.iconst 0, 1) := by decide +kernel
theorem dL_law_178 : decode cL_law 178 = .ok (.ireturn, 1) := by decide +kernel
theorem dL_law_179 : decode cL_law 179 = .ok (.aload_n 1, 1) := by decide +kernel
theorem dL_law_180 : decode cL_law 180 = .ok (.aload_n 0, 1) := by decide +kernel
theorem dL_law_181 : decode cL_law 181 = .ok (.iload_n 3, 1) := by decide +kernel
theorem dL_law_182 : decode cL_law 182 = .ok (.iconst 1, 1) := by decide +kernel
theorem dL_law_183 : decode cL_law 183 = .ok (.iadd, 1) := by decide +kernel
theorem dL_law_184 : decode cL_law 184 = .ok (.iaload, 1) := by decide +kernel
theorem dL_law_185 : decode cL_law 185 = .ok (.invokevirtual 18, 3) := by decide +kernel
theorem dL_law_188 : decode cL_law 188 = .ok (.aload_n 2, 1) := by decide +kernel
theorem dL_law_189 : decode cL_law 189 = .ok (.aload_n 0, 1) := by decide +kernel
theorem dL_law_190 : decode cL_law 190 = .ok (.iload_n 3, 1) := by decide +kernel
theorem dL_law_191 : decode cL_law 191 = .ok (.iconst 1, 1) := by decide +kernel
theorem dL_law_192 : decode cL_law 192 = .ok (.iadd, 1) := by decide +kernel
theorem dL_law_193 : decode cL_law 193 = .ok (.iaload, 1) := by decide +kernel
theorem dL_law_194 : decode cL_law 194 = .ok (.invokevirtual 22, 3) := by decide +kernel
theorem dL_law_197 : decode cL_law 197 = .ok (.if_icmp .eq 519, 3) := by decide +kernel
theorem dL_law_200 : decode cL_law 200 = .ok (.iconst 0, 1) := by decide +kernel
theorem dL_law_201 : decode cL_law 201 = .ok (.ireturn, 1) := by decide +kernel
theorem dL_law_202 : decode cL_law 202 = .ok (.aload_n 1, 1) := by decide +kernel
theorem dL_law_203 : decode cL_law 203 = .ok (.aload_n 0, 1) := by decide +kernel
theorem dL_law_204 : decode cL_law 204 = .ok (.iload_n 3, 1) := by decide +kernel
theorem dL_law_205 : decode cL_law 205 = .ok (.iconst 1, 1) := by decide +kernel
theorem dL_law_206 : decode cL_law 206 = .ok (.iadd, 1) := by decide +kernel
theorem dL_law_207 : decode cL_law 207 = .ok (.iaload, 1) := by decide +kernel
theorem dL_law_208 : decode cL_law 208 = .ok (.invokevirtual 23, 3) := by decide +kernel
theorem dL_law_211 : decode cL_law 211 = .ok (.aload_n 2, 1) := by decide +kernel
theorem dL_law_212 : decode cL_law 212 = .ok (.aload_n 0, 1) := by decide +kernel
theorem dL_law_213 : decode cL_law 213 = .ok (.iload_n 3, 1) := by decide +kernel
theorem dL_law_214 : decode cL_law 214 = .ok (.iconst 1, 1) := by decide +kernel
theorem dL_law_215 : decode cL_law 215 = .ok (.iadd, 1) := by decide +kernel
theorem dL_law_216 : decode cL_law 216 = .ok (.iaload, 1) := by decide +kernel
theorem dL_law_217 : decode cL_law 217 = .ok (.invokevirtual 26, 3) := by decide +kernel
theorem dL_law_220 : decode cL_law 220 = .ok (.if_icmp .eq 496, 3) := by decide +kernel
theorem dL_law_223 : decode cL_law 223 = .ok (.iconst 0, 1) := by decide +kernel
theorem dL_law_224 : decode cL_law 224 = .ok (.ireturn, 1) := by decide +kernel
theorem dL_law_225 : decode cL_law 225 = .ok (.aload_n 1, 1) := by decide +kernel
theorem dL_law_226 : decode cL_law 226 = .ok (.aload_n 0, 1) := by decide +kernel
theorem dL_law_227 : decode cL_law 227 = .ok (.iload_n 3, 1) := by decide +kernel
theorem dL_law_228 : decode cL_law 228 = .ok (.iconst 1, 1) := by decide +kernel
theorem dL_law_229 : decode cL_law 229 = .ok (.iadd, 1) := by decide +kernel
theorem dL_law_230 : decode cL_law 230 = .ok (.iaload, 1) := by decide +kernel
theorem dL_law_231 : decode cL_law 231 = .ok (.invokevirtual 27, 3) := by decide +kernel
theorem dL_law_234 : decode cL_law 234 = .ok (.aload_n 2, 1) := by decide +kernel
theorem dL_law_235 : decode cL_law 235 = .ok (.aload_n 0, 1) := by decide +kernel
theorem dL_law_236 : decode cL_law 236 = .ok (.iload_n 3, 1) := by decide +kernel
theorem dL_law_237 : decode cL_law 237 = .ok (.iconst 1, 1) := by decide +kernel
theorem dL_law_238 : decode cL_law 238 = .ok (.iadd, 1) := by decide +kernel
theorem dL_law_239 : decode cL_law 239 = .ok (.iaload, 1) := by decide +kernel
theorem dL_law_240 : decode cL_law 240 = .ok (.invokevirtual 30, 3) := by decide +kernel
theorem dL_law_243 : decode cL_law 243 = .ok (.if_icmp .eq 473, 3) := by decide +kernel
theorem dL_law_246 : decode cL_law 246 = .ok (.iconst 0, 1) := by decide +kernel
theorem dL_law_247 : decode cL_law 247 = .ok (.ireturn, 1) := by decide +kernel
theorem dL_law_248 : decode cL_law 248 = .ok (.aload_n 1, 1) := by decide +kernel
theorem dL_law_249 : decode cL_law 249 = .ok (.aload_n 0, 1) := by decide +kernel
theorem dL_law_250 : decode cL_law 250 = .ok (.iload_n 3, 1) := by decide +kernel
theorem dL_law_251 : decode cL_law 251 = .ok (.iconst 1, 1) := by decide +kernel
theorem dL_law_252 : decode cL_law 252 = .ok (.iadd, 1) := by decide +kernel
theorem dL_law_253 : decode cL_law 253 = .ok (.iaload, 1) := by decide +kernel
theorem dL_law_254 : decode cL_law 254 = .ok (.aload_n 0, 1) := by decide +kernel
theorem dL_law_255 : decode cL_law 255 = .ok (.iload_n 3, 1) := by decide +kernel
theorem dL_law_256 : decode cL_law 256 = .ok (.iconst 2, 1) := by decide +kernel
theorem dL_law_257 : decode cL_law 257 = .ok (.iadd, 1) := by decide +kernel
theorem dL_law_258 : decode cL_law 258 = .ok (.iaload, 1) := by decide +kernel
theorem dL_law_259 : decode cL_law 259 = .ok (.invokevirtual 31, 3) := by decide +kernel
theorem dL_law_262 : decode cL_law 262 = .ok (.aload_n 2, 1) := by decide +kernel
theorem dL_law_263 : decode cL_law 263 = .ok (.aload_n 0, 1) := by decide +kernel
theorem dL_law_264 : decode cL_law 264 = .ok (.iload_n 3, 1) := by decide +kernel
theorem dL_law_265 : decode cL_law 265 = .ok (.iconst 1, 1) := by decide +kernel
theorem dL_law_266 : decode cL_law 266 = .ok (.iadd, 1) := by decide +kernel
theorem dL_law_267 : decode cL_law 267 = .ok (.iaload, 1) := by decide +kernel
theorem dL_law_268 : decode cL_law 268 = .ok (.aload_n 0, 1) := by decide +kernel
theorem dL_law_269 : decode cL_law 269 = .ok (.iload_n 3, 1) := by decide +kernel
theorem dL_law_270 : decode cL_law 270 = .ok (.iconst 2, 1) := by decide +kernel
theorem dL_law_271 : decode cL_law 271 = .ok (.iadd, 1) := by decide +kernel
theorem dL_law_272 : decode cL_law 272 = .ok (.iaload, 1) := by decide +kernel
theorem dL_law_273 : decode cL_law 273 = .ok (.invokevirtual 35, 3) := by decide +kernel
theorem dL_law_276 : decode cL_law 276 = .ok (.lcmp, 1) := by decide +kernel
theorem dL_law_277 : decode cL_law 277 = .ok (.ifCond .eq 439, 3) := by decide +kernel
theorem dL_law_280 : decode cL_law 280 = .ok (.iconst 0, 1) := by decide +kernel
theorem dL_law_281 : decode cL_law 281 = .ok (.ireturn, 1) := by decide +kernel
theorem dL_law_282 : decode cL_law 282 = .ok (.aload_n 1, 1) := by decide +kernel
theorem dL_law_283 : decode cL_law 283 = .ok (.aload_n 0, 1) := by decide +kernel
theorem dL_law_284 : decode cL_law 284 = .ok (.iload_n 3, 1) := by decide +kernel
theorem dL_law_285 : decode cL_law 285 = .ok (.iconst 1, 1) := by decide +kernel
theorem dL_law_286 : decode cL_law 286 = .ok (.iadd, 1) := by decide +kernel
theorem dL_law_287 : decode cL_law 287 = .ok (.iaload, 1) := by decide +kernel
theorem dL_law_288 : decode cL_law 288 = .ok (.aload_n 0, 1) := by decide +kernel
theorem dL_law_289 : decode cL_law 289 = .ok (.iload_n 3, 1) := by decide +kernel
theorem dL_law_290 : decode cL_law 290 = .ok (.iconst 2, 1) := by decide +kernel
theorem dL_law_291 : decode cL_law 291 = .ok (.iadd, 1) := by decide +kernel
theorem dL_law_292 : decode cL_law 292 = .ok (.iaload, 1) := by decide +kernel
theorem dL_law_293 : decode cL_law 293 = .ok (.aload_n 0, 1) := by decide +kernel
theorem dL_law_294 : decode cL_law 294 = .ok (.iload_n 3, 1) := by decide +kernel
theorem dL_law_295 : decode cL_law 295 = .ok (.iconst 3, 1) := by decide +kernel
theorem dL_law_296 : decode cL_law 296 = .ok (.iadd, 1) := by decide +kernel
theorem dL_law_297 : decode cL_law 297 = .ok (.iaload, 1) := by decide +kernel
theorem dL_law_298 : decode cL_law 298 = .ok (.invokevirtual 36, 3) := by decide +kernel
theorem dL_law_301 : decode cL_law 301 = .ok (.aload_n 2, 1) := by decide +kernel
theorem dL_law_302 : decode cL_law 302 = .ok (.aload_n 0, 1) := by decide +kernel
theorem dL_law_303 : decode cL_law 303 = .ok (.iload_n 3, 1) := by decide +kernel
theorem dL_law_304 : decode cL_law 304 = .ok (.iconst 1, 1) := by decide +kernel
theorem dL_law_305 : decode cL_law 305 = .ok (.iadd, 1) := by decide +kernel
theorem dL_law_306 : decode cL_law 306 = .ok (.iaload, 1) := by decide +kernel
theorem dL_law_307 : decode cL_law 307 = .ok (.aload_n 0, 1) := by decide +kernel
theorem dL_law_308 : decode cL_law 308 = .ok (.iload_n 3, 1) := by decide +kernel
theorem dL_law_309 : decode cL_law 309 = .ok (.iconst 2, 1) := by decide +kernel
theorem dL_law_310 : decode cL_law 310 = .ok (.iadd, 1) := by decide +kernel
theorem dL_law_311 : decode cL_law 311 = .ok (.iaload, 1) := by decide +kernel
theorem dL_law_312 : decode cL_law 312 = .ok (.aload_n 0, 1) := by decide +kernel
theorem dL_law_313 : decode cL_law 313 = .ok (.iload_n 3, 1) := by decide +kernel
theorem dL_law_314 : decode cL_law 314 = .ok (.iconst 3, 1) := by decide +kernel
theorem dL_law_315 : decode cL_law 315 = .ok (.iadd, 1) := by decide +kernel
theorem dL_law_316 : decode cL_law 316 = .ok (.iaload, 1) := by decide +kernel
theorem dL_law_317 : decode cL_law 317 = .ok (.invokevirtual 40, 3) := by decide +kernel
theorem dL_law_320 : decode cL_law 320 = .ok (.lcmp, 1) := by decide +kernel
theorem dL_law_321 : decode cL_law 321 = .ok (.ifCond .eq 395, 3) := by decide +kernel
theorem dL_law_324 : decode cL_law 324 = .ok (.iconst 0, 1) := by decide +kernel
theorem dL_law_325 : decode cL_law 325 = .ok (.ireturn, 1) := by decide +kernel
theorem dL_law_326 : decode cL_law 326 = .ok (.aload_n 1, 1) := by decide +kernel
theorem dL_law_327 : decode cL_law 327 = .ok (.aload_n 0, 1) := by decide +kernel
theorem dL_law_328 : decode cL_law 328 = .ok (.iload_n 3, 1) := by decide +kernel
theorem dL_law_329 : decode cL_law 329 = .ok (.iconst 1, 1) := by decide +kernel
theorem dL_law_330 : decode cL_law 330 = .ok (.iadd, 1) := by decide +kernel
theorem dL_law_331 : decode cL_law 331 = .ok (.iaload, 1) := by decide +kernel
theorem dL_law_332 : decode cL_law 332 = .ok (.aload_n 0, 1) := by decide +kernel
theorem dL_law_333 : decode cL_law 333 = .ok (.iload_n 3, 1) := by decide +kernel
theorem dL_law_334 : decode cL_law 334 = .ok (.iconst 2, 1) := by decide +kernel
theorem dL_law_335 : decode cL_law 335 = .ok (.iadd, 1) := by decide +kernel
theorem dL_law_336 : decode cL_law 336 = .ok (.iaload, 1) := by decide +kernel
theorem dL_law_337 : decode cL_law 337 = .ok (.invokevirtual 41, 3) := by decide +kernel
theorem dL_law_340 : decode cL_law 340 = .ok (.aload_n 2, 1) := by decide +kernel
theorem dL_law_341 : decode cL_law 341 = .ok (.aload_n 0, 1) := by decide +kernel
theorem dL_law_342 : decode cL_law 342 = .ok (.iload_n 3, 1) := by decide +kernel
theorem dL_law_343 : decode cL_law 343 = .ok (.iconst 1, 1) := by decide +kernel
theorem dL_law_344 : decode cL_law 344 = .ok (.iadd, 1) := by decide +kernel
theorem dL_law_345 : decode cL_law 345 = .ok (.iaload, 1) := by decide +kernel
theorem dL_law_346 : decode cL_law 346 = .ok (.aload_n 0, 1) := by decide +kernel
theorem dL_law_347 : decode cL_law 347 = .ok (.iload_n 3, 1) := by decide +kernel
theorem dL_law_348 : decode cL_law 348 = .ok (.iconst 2, 1) := by decide +kernel
theorem dL_law_349 : decode cL_law 349 = .ok (.iadd, 1) := by decide +kernel
theorem dL_law_350 : decode cL_law 350 = .ok (.iaload, 1) := by decide +kernel
theorem dL_law_351 : decode cL_law 351 = .ok (.invokevirtual 45, 3) := by decide +kernel
theorem dL_law_354 : decode cL_law 354 = .ok (.if_icmp .eq 362, 3) := by decide +kernel
theorem dL_law_357 : decode cL_law 357 = .ok (.iconst 0, 1) := by decide +kernel
theorem dL_law_358 : decode cL_law 358 = .ok (.ireturn, 1) := by decide +kernel
theorem dL_law_359 : decode cL_law 359 = .ok (.aload_n 1, 1) := by decide +kernel
theorem dL_law_360 : decode cL_law 360 = .ok (.aload_n 0, 1) := by decide +kernel
theorem dL_law_361 : decode cL_law 361 = .ok (.iload_n 3, 1) := by decide +kernel
theorem dL_law_362 : decode cL_law 362 = .ok (.iconst 1, 1) := by decide +kernel
theorem dL_law_363 : decode cL_law 363 = .ok (.iadd, 1) := by decide +kernel
theorem dL_law_364 : decode cL_law 364 = .ok (.iaload, 1) := by decide +kernel
theorem dL_law_365 : decode cL_law 365 = .ok (.aload_n 0, 1) := by decide +kernel
theorem dL_law_366 : decode cL_law 366 = .ok (.iload_n 3, 1) := by decide +kernel
theorem dL_law_367 : decode cL_law 367 = .ok (.iconst 2, 1) := by decide +kernel
theorem dL_law_368 : decode cL_law 368 = .ok (.iadd, 1) := by decide +kernel
theorem dL_law_369 : decode cL_law 369 = .ok (.iaload, 1) := by decide +kernel
theorem dL_law_370 : decode cL_law 370 = .ok (.aload_n 0, 1) := by decide +kernel
theorem dL_law_371 : decode cL_law 371 = .ok (.iload_n 3, 1) := by decide +kernel
theorem dL_law_372 : decode cL_law 372 = .ok (.iconst 3, 1) := by decide +kernel
theorem dL_law_373 : decode cL_law 373 = .ok (.iadd, 1) := by decide +kernel
theorem dL_law_374 : decode cL_law 374 = .ok (.iaload, 1) := by decide +kernel
theorem dL_law_375 : decode cL_law 375 = .ok (.invokevirtual 46, 3) := by decide +kernel
theorem dL_law_378 : decode cL_law 378 = .ok (.aload_n 2, 1) := by decide +kernel
theorem dL_law_379 : decode cL_law 379 = .ok (.aload_n 0, 1) := by decide +kernel
theorem dL_law_380 : decode cL_law 380 = .ok (.iload_n 3, 1) := by decide +kernel
theorem dL_law_381 : decode cL_law 381 = .ok (.iconst 1, 1) := by decide +kernel
theorem dL_law_382 : decode cL_law 382 = .ok (.iadd, 1) := by decide +kernel
theorem dL_law_383 : decode cL_law 383 = .ok (.iaload, 1) := by decide +kernel
theorem dL_law_384 : decode cL_law 384 = .ok (.aload_n 0, 1) := by decide +kernel
theorem dL_law_385 : decode cL_law 385 = .ok (.iload_n 3, 1) := by decide +kernel
theorem dL_law_386 : decode cL_law 386 = .ok (.iconst 2, 1) := by decide +kernel
theorem dL_law_387 : decode cL_law 387 = .ok (.iadd, 1) := by decide +kernel
theorem dL_law_388 : decode cL_law 388 = .ok (.iaload, 1) := by decide +kernel
theorem dL_law_389 : decode cL_law 389 = .ok (.aload_n 0, 1) := by decide +kernel
theorem dL_law_390 : decode cL_law 390 = .ok (.iload_n 3, 1) := by decide +kernel
theorem dL_law_391 : decode cL_law 391 = .ok (.iconst 3, 1) := by decide +kernel
theorem dL_law_392 : decode cL_law 392 = .ok (.iadd, 1) := by decide +kernel
theorem dL_law_393 : decode cL_law 393 = .ok (.iaload, 1) := by decide +kernel
theorem dL_law_394 : decode cL_law 394 = .ok (.invokevirtual 49, 3) := by decide +kernel
theorem dL_law_397 : decode cL_law 397 = .ok (.if_icmp .eq 319, 3) := by decide +kernel
theorem dL_law_400 : decode cL_law 400 = .ok (.iconst 0, 1) := by decide +kernel
theorem dL_law_401 : decode cL_law 401 = .ok (.ireturn, 1) := by decide +kernel
theorem dL_law_402 : decode cL_law 402 = .ok (.aload_n 1, 1) := by decide +kernel
theorem dL_law_403 : decode cL_law 403 = .ok (.aload_n 0, 1) := by decide +kernel
theorem dL_law_404 : decode cL_law 404 = .ok (.iload_n 3, 1) := by decide +kernel
theorem dL_law_405 : decode cL_law 405 = .ok (.iconst 1, 1) := by decide +kernel
theorem dL_law_406 : decode cL_law 406 = .ok (.iadd, 1) := by decide +kernel
theorem dL_law_407 : decode cL_law 407 = .ok (.iaload, 1) := by decide +kernel
theorem dL_law_408 : decode cL_law 408 = .ok (.invokevirtual 50, 3) := by decide +kernel
theorem dL_law_411 : decode cL_law 411 = .ok (.aload_n 2, 1) := by decide +kernel
theorem dL_law_412 : decode cL_law 412 = .ok (.aload_n 0, 1) := by decide +kernel
theorem dL_law_413 : decode cL_law 413 = .ok (.iload_n 3, 1) := by decide +kernel
theorem dL_law_414 : decode cL_law 414 = .ok (.iconst 1, 1) := by decide +kernel
theorem dL_law_415 : decode cL_law 415 = .ok (.iadd, 1) := by decide +kernel
theorem dL_law_416 : decode cL_law 416 = .ok (.iaload, 1) := by decide +kernel
theorem dL_law_417 : decode cL_law 417 = .ok (.invokevirtual 53, 3) := by decide +kernel
theorem dL_law_420 : decode cL_law 420 = .ok (.if_icmp .eq 296, 3) := by decide +kernel
theorem dL_law_423 : decode cL_law 423 = .ok (.iconst 0, 1) := by decide +kernel
theorem dL_law_424 : decode cL_law 424 = .ok (.ireturn, 1) := by decide +kernel
theorem dL_law_425 : decode cL_law 425 = .ok (.aload_n 1, 1) := by decide +kernel
theorem dL_law_426 : decode cL_law 426 = .ok (.aload_n 0, 1) := by decide +kernel
theorem dL_law_427 : decode cL_law 427 = .ok (.iload_n 3, 1) := by decide +kernel
theorem dL_law_428 : decode cL_law 428 = .ok (.iconst 1, 1) := by decide +kernel
theorem dL_law_429 : decode cL_law 429 = .ok (.iadd, 1) := by decide +kernel
theorem dL_law_430 : decode cL_law 430 = .ok (.iaload, 1) := by decide +kernel
theorem dL_law_431 : decode cL_law 431 = .ok (.aload_n 0, 1) := by decide +kernel
theorem dL_law_432 : decode cL_law 432 = .ok (.iload_n 3, 1) := by decide +kernel
theorem dL_law_433 : decode cL_law 433 = .ok (.iconst 2, 1) := by decide +kernel
theorem dL_law_434 : decode cL_law 434 = .ok (.iadd, 1) := by decide +kernel
theorem dL_law_435 : decode cL_law 435 = .ok (.iaload, 1) := by decide +kernel
theorem dL_law_436 : decode cL_law 436 = .ok (.aload_n 0, 1) := by decide +kernel
theorem dL_law_437 : decode cL_law 437 = .ok (.iload_n 3, 1) := by decide +kernel
theorem dL_law_438 : decode cL_law 438 = .ok (.iconst 3, 1) := by decide +kernel
theorem dL_law_439 : decode cL_law 439 = .ok (.iadd, 1) := by decide +kernel
theorem dL_law_440 : decode cL_law 440 = .ok (.iaload, 1) := by decide +kernel
theorem dL_law_441 : decode cL_law 441 = .ok (.invokevirtual 54, 3) := by decide +kernel
theorem dL_law_444 : decode cL_law 444 = .ok (.aload_n 2, 1) := by decide +kernel
theorem dL_law_445 : decode cL_law 445 = .ok (.aload_n 0, 1) := by decide +kernel
theorem dL_law_446 : decode cL_law 446 = .ok (.iload_n 3, 1) := by decide +kernel
theorem dL_law_447 : decode cL_law 447 = .ok (.iconst 1, 1) := by decide +kernel
theorem dL_law_448 : decode cL_law 448 = .ok (.iadd, 1) := by decide +kernel
theorem dL_law_449 : decode cL_law 449 = .ok (.iaload, 1) := by decide +kernel
theorem dL_law_450 : decode cL_law 450 = .ok (.aload_n 0, 1) := by decide +kernel
theorem dL_law_451 : decode cL_law 451 = .ok (.iload_n 3, 1) := by decide +kernel
theorem dL_law_452 : decode cL_law 452 = .ok (.iconst 2, 1) := by decide +kernel
theorem dL_law_453 : decode cL_law 453 = .ok (.iadd, 1) := by decide +kernel
theorem dL_law_454 : decode cL_law 454 = .ok (.iaload, 1) := by decide +kernel
theorem dL_law_455 : decode cL_law 455 = .ok (.aload_n 0, 1) := by decide +kernel
theorem dL_law_456 : decode cL_law 456 = .ok (.iload_n 3, 1) := by decide +kernel
theorem dL_law_457 : decode cL_law 457 = .ok (.iconst 3, 1) := by decide +kernel
theorem dL_law_458 : decode cL_law 458 = .ok (.iadd, 1) := by decide +kernel
theorem dL_law_459 : decode cL_law 459 = .ok (.iaload, 1) := by decide +kernel
theorem dL_law_460 : decode cL_law 460 = .ok (.invokevirtual 57, 3) := by decide +kernel
theorem dL_law_463 : decode cL_law 463 = .ok (.if_icmp .eq 253, 3) := by decide +kernel
theorem dL_law_466 : decode cL_law 466 = .ok (.iconst 0, 1) := by decide +kernel
theorem dL_law_467 : decode cL_law 467 = .ok (.ireturn, 1) := by decide +kernel
theorem dL_law_468 : decode cL_law 468 = .ok (.aload_n 1, 1) := by decide +kernel
theorem dL_law_469 : decode cL_law 469 = .ok (.aload_n 0, 1) := by decide +kernel
theorem dL_law_470 : decode cL_law 470 = .ok (.iload_n 3, 1) := by decide +kernel
theorem dL_law_471 : decode cL_law 471 = .ok (.iconst 1, 1) := by decide +kernel
theorem dL_law_472 : decode cL_law 472 = .ok (.iadd, 1) := by decide +kernel
theorem dL_law_473 : decode cL_law 473 = .ok (.iaload, 1) := by decide +kernel
theorem dL_law_474 : decode cL_law 474 = .ok (.invokevirtual 58, 3) := by decide +kernel
theorem dL_law_477 : decode cL_law 477 = .ok (.aload_n 2, 1) := by decide +kernel
theorem dL_law_478 : decode cL_law 478 = .ok (.aload_n 0, 1) := by decide +kernel
theorem dL_law_479 : decode cL_law 479 = .ok (.iload_n 3, 1) := by decide +kernel
theorem dL_law_480 : decode cL_law 480 = .ok (.iconst 1, 1) := by decide +kernel
theorem dL_law_481 : decode cL_law 481 = .ok (.iadd, 1) := by decide +kernel
theorem dL_law_482 : decode cL_law 482 = .ok (.iaload, 1) := by decide +kernel
theorem dL_law_483 : decode cL_law 483 = .ok (.invokevirtual 61, 3) := by decide +kernel
theorem dL_law_486 : decode cL_law 486 = .ok (.if_icmp .eq 230, 3) := by decide +kernel
theorem dL_law_489 : decode cL_law 489 = .ok (.iconst 0, 1) := by decide +kernel
theorem dL_law_490 : decode cL_law 490 = .ok (.ireturn, 1) := by decide +kernel
theorem dL_law_491 : decode cL_law 491 = .ok (.aload_n 1, 1) := by decide +kernel
theorem dL_law_492 : decode cL_law 492 = .ok (.aload_n 0, 1) := by decide +kernel
theorem dL_law_493 : decode cL_law 493 = .ok (.iload_n 3, 1) := by decide +kernel
theorem dL_law_494 : decode cL_law 494 = .ok (.iconst 1, 1) := by decide +kernel
theorem dL_law_495 : decode cL_law 495 = .ok (.iadd, 1) := by decide +kernel
theorem dL_law_496 : decode cL_law 496 = .ok (.iaload, 1) := by decide +kernel
theorem dL_law_497 : decode cL_law 497 = .ok (.invokevirtual 62, 3) := by decide +kernel
theorem dL_law_500 : decode cL_law 500 = .ok (.aload_n 2, 1) := by decide +kernel
theorem dL_law_501 : decode cL_law 501 = .ok (.aload_n 0, 1) := by decide +kernel
theorem dL_law_502 : decode cL_law 502 = .ok (.iload_n 3, 1) := by decide +kernel
theorem dL_law_503 : decode cL_law 503 = .ok (.iconst 1, 1) := by decide +kernel
theorem dL_law_504 : decode cL_law 504 = .ok (.iadd, 1) := by decide +kernel
theorem dL_law_505 : decode cL_law 505 = .ok (.iaload, 1) := by decide +kernel
theorem dL_law_506 : decode cL_law 506 = .ok (.invokevirtual 66, 3) := by decide +kernel
theorem dL_law_509 : decode cL_law 509 = .ok (.lcmp, 1) := by decide +kernel
theorem dL_law_510 : decode cL_law 510 = .ok (.ifCond .eq 206, 3) := by decide +kernel
theorem dL_law_513 : decode cL_law 513 = .ok (.iconst 0, 1) := by decide +kernel
theorem dL_law_514 : decode cL_law 514 = .ok (.ireturn, 1) := by decide +kernel
theorem dL_law_515 : decode cL_law 515 = .ok (.aload_n 1, 1) := by decide +kernel
theorem dL_law_516 : decode cL_law 516 = .ok (.invokevirtual 67, 3) := by decide +kernel
theorem dL_law_519 : decode cL_law 519 = .ok (.aload_n 2, 1) := by decide +kernel
theorem dL_law_520 : decode cL_law 520 = .ok (.invokevirtual 71, 3) := by decide +kernel
theorem dL_law_523 : decode cL_law 523 = .ok (.if_icmp .eq 193, 3) := by decide +kernel
theorem dL_law_526 : decode cL_law 526 = .ok (.iconst 0, 1) := by decide +kernel
theorem dL_law_527 : decode cL_law 527 = .ok (.ireturn, 1) := by decide +kernel
theorem dL_law_528 : decode cL_law 528 = .ok (.aload_n 1, 1) := by decide +kernel
theorem dL_law_529 : decode cL_law 529 = .ok (.aload_n 0, 1) := by decide +kernel
theorem dL_law_530 : decode cL_law 530 = .ok (.iload_n 3, 1) := by decide +kernel
theorem dL_law_531 : decode cL_law 531 = .ok (.iconst 1, 1) := by decide +kernel
theorem dL_law_532 : decode cL_law 532 = .ok (.iadd, 1) := by decide +kernel
theorem dL_law_533 : decode cL_law 533 = .ok (.iaload, 1) := by decide +kernel
theorem dL_law_534 : decode cL_law 534 = .ok (.invokevirtual 72, 3) := by decide +kernel
theorem dL_law_537 : decode cL_law 537 = .ok (.aload_n 2, 1) := by decide +kernel
theorem dL_law_538 : decode cL_law 538 = .ok (.aload_n 0, 1) := by decide +kernel
theorem dL_law_539 : decode cL_law 539 = .ok (.iload_n 3, 1) := by decide +kernel
theorem dL_law_540 : decode cL_law 540 = .ok (.iconst 1, 1) := by decide +kernel
theorem dL_law_541 : decode cL_law 541 = .ok (.iadd, 1) := by decide +kernel
theorem dL_law_542 : decode cL_law 542 = .ok (.iaload, 1) := by decide +kernel
theorem dL_law_543 : decode cL_law 543 = .ok (.invokevirtual 75, 3) := by decide +kernel
theorem dL_law_546 : decode cL_law 546 = .ok (.if_icmp .eq 170, 3) := by decide +kernel
theorem dL_law_549 : decode cL_law 549 = .ok (.iconst 0, 1) := by decide +kernel
theorem dL_law_550 : decode cL_law 550 = .ok (.ireturn, 1) := by decide +kernel
theorem dL_law_551 : decode cL_law 551 = .ok (.aload_n 1, 1) := by decide +kernel
theorem dL_law_552 : decode cL_law 552 = .ok (.invokevirtual 76, 3) := by decide +kernel
theorem dL_law_555 : decode cL_law 555 = .ok (.aload_n 2, 1) := by decide +kernel
theorem dL_law_556 : decode cL_law 556 = .ok (.invokevirtual 79, 3) := by decide +kernel
theorem dL_law_559 : decode cL_law 559 = .ok (.if_icmp .eq 157, 3) := by decide +kernel
theorem dL_law_562 : decode cL_law 562 = .ok (.iconst 0, 1) := by decide +kernel
theorem dL_law_563 : decode cL_law 563 = .ok (.ireturn, 1) := by decide +kernel
theorem dL_law_564 : decode cL_law 564 = .ok (.aload_n 1, 1) := by decide +kernel
theorem dL_law_565 : decode cL_law 565 = .ok (.aload_n 0, 1) := by decide +kernel
theorem dL_law_566 : decode cL_law 566 = .ok (.iload_n 3, 1) := by decide +kernel
theorem dL_law_567 : decode cL_law 567 = .ok (.iconst 1, 1) := by decide +kernel
theorem dL_law_568 : decode cL_law 568 = .ok (.iadd, 1) := by decide +kernel
theorem dL_law_569 : decode cL_law 569 = .ok (.iaload, 1) := by decide +kernel
theorem dL_law_570 : decode cL_law 570 = .ok (.aload_n 0, 1) := by decide +kernel
theorem dL_law_571 : decode cL_law 571 = .ok (.iload_n 3, 1) := by decide +kernel
theorem dL_law_572 : decode cL_law 572 = .ok (.iconst 2, 1) := by decide +kernel
theorem dL_law_573 : decode cL_law 573 = .ok (.iadd, 1) := by decide +kernel
theorem dL_law_574 : decode cL_law 574 = .ok (.iaload, 1) := by decide +kernel
theorem dL_law_575 : decode cL_law 575 = .ok (.invokevirtual 80, 3) := by decide +kernel
theorem dL_law_578 : decode cL_law 578 = .ok (.aload_n 2, 1) := by decide +kernel
theorem dL_law_579 : decode cL_law 579 = .ok (.aload_n 0, 1) := by decide +kernel
theorem dL_law_580 : decode cL_law 580 = .ok (.iload_n 3, 1) := by decide +kernel
theorem dL_law_581 : decode cL_law 581 = .ok (.iconst 1, 1) := by decide +kernel
theorem dL_law_582 : decode cL_law 582 = .ok (.iadd, 1) := by decide +kernel
theorem dL_law_583 : decode cL_law 583 = .ok (.iaload, 1) := by decide +kernel
theorem dL_law_584 : decode cL_law 584 = .ok (.aload_n 0, 1) := by decide +kernel
theorem dL_law_585 : decode cL_law 585 = .ok (.iload_n 3, 1) := by decide +kernel
theorem dL_law_586 : decode cL_law 586 = .ok (.iconst 2, 1) := by decide +kernel
theorem dL_law_587 : decode cL_law 587 = .ok (.iadd, 1) := by decide +kernel
theorem dL_law_588 : decode cL_law 588 = .ok (.iaload, 1) := by decide +kernel
theorem dL_law_589 : decode cL_law 589 = .ok (.invokevirtual 83, 3) := by decide +kernel
theorem dL_law_592 : decode cL_law 592 = .ok (.if_icmp .eq 124, 3) := by decide +kernel
theorem dL_law_595 : decode cL_law 595 = .ok (.iconst 0, 1) := by decide +kernel
theorem dL_law_596 : decode cL_law 596 = .ok (.ireturn, 1) := by decide +kernel
theorem dL_law_597 : decode cL_law 597 = .ok (.aload_n 1, 1) := by decide +kernel
theorem dL_law_598 : decode cL_law 598 = .ok (.aload_n 0, 1) := by decide +kernel
theorem dL_law_599 : decode cL_law 599 = .ok (.iload_n 3, 1) := by decide +kernel
theorem dL_law_600 : decode cL_law 600 = .ok (.iconst 1, 1) := by decide +kernel
theorem dL_law_601 : decode cL_law 601 = .ok (.iadd, 1) := by decide +kernel
theorem dL_law_602 : decode cL_law 602 = .ok (.iaload, 1) := by decide +kernel
theorem dL_law_603 : decode cL_law 603 = .ok (.invokevirtual 84, 3) := by decide +kernel
theorem dL_law_606 : decode cL_law 606 = .ok (.aload_n 2, 1) := by decide +kernel
theorem dL_law_607 : decode cL_law 607 = .ok (.aload_n 0, 1) := by decide +kernel
theorem dL_law_608 : decode cL_law 608 = .ok (.iload_n 3, 1) := by decide +kernel
theorem dL_law_609 : decode cL_law 609 = .ok (.iconst 1, 1) := by decide +kernel
theorem dL_law_610 : decode cL_law 610 = .ok (.iadd, 1) := by decide +kernel
theorem dL_law_611 : decode cL_law 611 = .ok (.iaload, 1) := by decide +kernel
theorem dL_law_612 : decode cL_law 612 = .ok (.invokevirtual 87, 3) := by decide +kernel
theorem dL_law_615 : decode cL_law 615 = .ok (.if_icmp .eq 101, 3) := by decide +kernel
theorem dL_law_618 : decode cL_law 618 = .ok (.iconst 0, 1) := by decide +kernel
theorem dL_law_619 : decode cL_law 619 = .ok (.ireturn, 1) := by decide +kernel
theorem dL_law_620 : decode cL_law 620 = .ok (.aload_n 1, 1) := by decide +kernel
theorem dL_law_621 : decode cL_law 621 = .ok (.invokevirtual 88, 3) := by decide +kernel
theorem dL_law_624 : decode cL_law 624 = .ok (.aload_n 2, 1) := by decide +kernel
theorem dL_law_625 : decode cL_law 625 = .ok (.invokevirtual 91, 3) := by decide +kernel
theorem dL_law_628 : decode cL_law 628 = .ok (.if_icmp .eq 88, 3) := by decide +kernel
theorem dL_law_631 : decode cL_law 631 = .ok (.iconst 0, 1) := by decide +kernel
theorem dL_law_632 : decode cL_law 632 = .ok (.ireturn, 1) := by decide +kernel
theorem dL_law_633 : decode cL_law 633 = .ok (.aload_n 1, 1) := by decide +kernel
theorem dL_law_634 : decode cL_law 634 = .ok (.aload_n 0, 1) := by decide +kernel
theorem dL_law_635 : decode cL_law 635 = .ok (.iload_n 3, 1) := by decide +kernel
theorem dL_law_636 : decode cL_law 636 = .ok (.iconst 1, 1) := by decide +kernel
theorem dL_law_637 : decode cL_law 637 = .ok (.iadd, 1) := by decide +kernel
theorem dL_law_638 : decode cL_law 638 = .ok (.iaload, 1) := by decide +kernel
theorem dL_law_639 : decode cL_law 639 = .ok (.invokevirtual 92, 3) := by decide +kernel
theorem dL_law_642 : decode cL_law 642 = .ok (.aload_n 2, 1) := by decide +kernel
theorem dL_law_643 : decode cL_law 643 = .ok (.aload_n 0, 1) := by decide +kernel
theorem dL_law_644 : decode cL_law 644 = .ok (.iload_n 3, 1) := by decide +kernel
theorem dL_law_645 : decode cL_law 645 = .ok (.iconst 1, 1) := by decide +kernel
theorem dL_law_646 : decode cL_law 646 = .ok (.iadd, 1) := by decide +kernel
theorem dL_law_647 : decode cL_law 647 = .ok (.iaload, 1) := by decide +kernel
theorem dL_law_648 : decode cL_law 648 = .ok (.invokevirtual 95, 3) := by decide +kernel
theorem dL_law_651 : decode cL_law 651 = .ok (.if_icmp .eq 65, 3) := by decide +kernel
theorem dL_law_654 : decode cL_law 654 = .ok (.iconst 0, 1) := by decide +kernel
theorem dL_law_655 : decode cL_law 655 = .ok (.ireturn, 1) := by decide +kernel
theorem dL_law_656 : decode cL_law 656 = .ok (.aload_n 1, 1) := by decide +kernel
theorem dL_law_657 : decode cL_law 657 = .ok (.invokevirtual 96, 3) := by decide +kernel
theorem dL_law_660 : decode cL_law 660 = .ok (.aload_n 2, 1) := by decide +kernel
theorem dL_law_661 : decode cL_law 661 = .ok (.invokevirtual 99, 3) := by decide +kernel
theorem dL_law_664 : decode cL_law 664 = .ok (.if_icmp .eq 52, 3) := by decide +kernel
theorem dL_law_667 : decode cL_law 667 = .ok (.iconst 0, 1) := by decide +kernel
theorem dL_law_668 : decode cL_law 668 = .ok (.ireturn, 1) := by decide +kernel
theorem dL_law_669 : decode cL_law 669 = .ok (.aload_n 1, 1) := by decide +kernel
theorem dL_law_670 : decode cL_law 670 = .ok (.aload_n 0, 1) := by decide +kernel
theorem dL_law_671 : decode cL_law 671 = .ok (.iload_n 3, 1) := by decide +kernel
theorem dL_law_672 : decode cL_law 672 = .ok (.iconst 1, 1) := by decide +kernel
theorem dL_law_673 : decode cL_law 673 = .ok (.iadd, 1) := by decide +kernel
theorem dL_law_674 : decode cL_law 674 = .ok (.iaload, 1) := by decide +kernel
theorem dL_law_675 : decode cL_law 675 = .ok (.invokevirtual 100, 3) := by decide +kernel
theorem dL_law_678 : decode cL_law 678 = .ok (.aload_n 2, 1) := by decide +kernel
theorem dL_law_679 : decode cL_law 679 = .ok (.aload_n 0, 1) := by decide +kernel
theorem dL_law_680 : decode cL_law 680 = .ok (.iload_n 3, 1) := by decide +kernel
theorem dL_law_681 : decode cL_law 681 = .ok (.iconst 1, 1) := by decide +kernel
theorem dL_law_682 : decode cL_law 682 = .ok (.iadd, 1) := by decide +kernel
theorem dL_law_683 : decode cL_law 683 = .ok (.iaload, 1) := by decide +kernel
theorem dL_law_684 : decode cL_law 684 = .ok (.invokevirtual 103, 3) := by decide +kernel
theorem dL_law_687 : decode cL_law 687 = .ok (.if_icmp .eq 29, 3) := by decide +kernel
theorem dL_law_690 : decode cL_law 690 = .ok (.iconst 0, 1) := by decide +kernel
theorem dL_law_691 : decode cL_law 691 = .ok (.ireturn, 1) := by decide +kernel
theorem dL_law_692 : decode cL_law 692 = .ok (.aload_n 1, 1) := by decide +kernel
theorem dL_law_693 : decode cL_law 693 = .ok (.aload_n 0, 1) := by decide +kernel
theorem dL_law_694 : decode cL_law 694 = .ok (.iload_n 3, 1) := by decide +kernel
theorem dL_law_695 : decode cL_law 695 = .ok (.iconst 1, 1) := by decide +kernel
theorem dL_law_696 : decode cL_law 696 = .ok (.iadd, 1) := by decide +kernel
theorem dL_law_697 : decode cL_law 697 = .ok (.iaload, 1) := by decide +kernel
theorem dL_law_698 : decode cL_law 698 = .ok (.invokevirtual 104, 3) := by decide +kernel
theorem dL_law_701 : decode cL_law 701 = .ok (.aload_n 2, 1) := by decide +kernel
theorem dL_law_702 : decode cL_law 702 = .ok (.aload_n 0, 1) := by decide +kernel
theorem dL_law_703 : decode cL_law 703 = .ok (.iload_n 3, 1) := by decide +kernel
theorem dL_law_704 : decode cL_law 704 = .ok (.iconst 1, 1) := by decide +kernel
theorem dL_law_705 : decode cL_law 705 = .ok (.iadd, 1) := by decide +kernel
theorem dL_law_706 : decode cL_law 706 = .ok (.iaload, 1) := by decide +kernel
theorem dL_law_707 : decode cL_law 707 = .ok (.invokevirtual 107, 3) := by decide +kernel
theorem dL_law_710 : decode cL_law 710 = .ok (.lcmp, 1) := by decide +kernel
theorem dL_law_711 : decode cL_law 711 = .ok (.ifCond .eq 5, 3) := by decide +kernel
theorem dL_law_714 : decode cL_law 714 = .ok (.iconst 0, 1) := by decide +kernel
theorem dL_law_715 : decode cL_law 715 = .ok (.ireturn, 1) := by decide +kernel
theorem dL_law_716 : decode cL_law 716 = .ok (.iinc 3 4, 3) := by decide +kernel
theorem dL_law_719 : decode cL_law 719 = .ok (.goto (-701), 3) := by decide +kernel
theorem dL_law_722 : decode cL_law 722 = .ok (.iconst 1, 1) := by decide +kernel
theorem dL_law_723 : decode cL_law 723 = .ok (.ireturn, 1) := by decide +kernel
end
section
/-! ===== Z-LAYER 1: one judgement Zg over (world, locals, stack) in whole numbers; contracts ZC, ZI, ZL, ZV ===== -/
def zi (z : Int) : Int32 := Int32.ofInt z
def zl (z : Int) : Int64 := Int64.ofInt z
theorem zi_add (a b : Int) : zi a + zi b = zi (a + b) := (Int32.ofInt_add a b).symm
theorem zi_sub (a b : Int) : zi a - zi b = zi (a - b) := (Int32.ofInt_sub a b).symm
theorem zi_mul (a b : Int) : zi a * zi b = zi (a * b) := (Int32.ofInt_mul a b).symm
theorem zi_neg (a : Int) : -zi a = zi (-a) := (Int32.ofInt_neg a).symm
theorem zl_add (a b : Int) : zl a + zl b = zl (a + b) := (Int64.ofInt_add a b).symm
theorem zl_sub (a b : Int) : zl a - zl b = zl (a - b) := (Int64.ofInt_sub a b).symm
theorem zl_mul (a b : Int) : zl a * zl b = zl (a * b) := (Int64.ofInt_mul a b).symm
theorem zl_neg (a : Int) : -zl a = zl (-a) := (Int64.ofInt_neg a).symm
theorem zi_toInt {a : Int} (h : -2147483648 ≤ a ∧ a ≤ 2147483647) : (zi a).toInt = a := Int32.toInt_ofInt_of_le (by omega) (by omega)
theorem zl_toInt {a : Int} (h : -9223372036854775808 ≤ a ∧ a ≤ 9223372036854775807) : (zl a).toInt = a := Int64.toInt_ofInt_of_le (by omega) (by omega)
theorem zi_of (x : Int32) : zi x.toInt = x := Int32.ofInt_toInt x
theorem zi_l {a : Int} (h : -2147483648 ≤ a ∧ a ≤ 2147483647) : (zi a).toInt64 = zl a := by
  rw [← Int64.ofInt_int32ToInt, zi_toInt h]; rfl
theorem zl_i (a : Int) : (zl a).toInt32 = zi a := Int64.toInt32_ofInt
theorem zi_0 : zi 0 = 0 := rfl
theorem zl_0 : zl 0 = 0 := rfl
theorem zi_lt {a b : Int} (ha : -2147483648 ≤ a ∧ a ≤ 2147483647) (hb : -2147483648 ≤ b ∧ b ≤ 2147483647) : zi a < zi b ↔ a < b := by
  rw [Int32.lt_iff_toInt_lt, zi_toInt ha, zi_toInt hb]
theorem zi_le {a b : Int} (ha : -2147483648 ≤ a ∧ a ≤ 2147483647) (hb : -2147483648 ≤ b ∧ b ≤ 2147483647) : zi a ≤ zi b ↔ a ≤ b := by
  rw [Int32.le_iff_toInt_le, zi_toInt ha, zi_toInt hb]
theorem zi_eq {a b : Int} (ha : -2147483648 ≤ a ∧ a ≤ 2147483647) (hb : -2147483648 ≤ b ∧ b ≤ 2147483647) : zi a = zi b ↔ a = b := by
  rw [← Int32.toInt_inj, zi_toInt ha, zi_toInt hb]
theorem zl_lt {a b : Int} (ha : -9223372036854775808 ≤ a ∧ a ≤ 9223372036854775807) (hb : -9223372036854775808 ≤ b ∧ b ≤ 9223372036854775807) : zl a < zl b ↔ a < b := by
  rw [Int64.lt_iff_toInt_lt, zl_toInt ha, zl_toInt hb]
theorem zl_le {a b : Int} (ha : -9223372036854775808 ≤ a ∧ a ≤ 9223372036854775807) (hb : -9223372036854775808 ≤ b ∧ b ≤ 9223372036854775807) : zl a ≤ zl b ↔ a ≤ b := by
  rw [Int64.le_iff_toInt_le, zl_toInt ha, zl_toInt hb]
theorem zl_eq {a b : Int} (ha : -9223372036854775808 ≤ a ∧ a ≤ 9223372036854775807) (hb : -9223372036854775808 ≤ b ∧ b ≤ 9223372036854775807) : zl a = zl b ↔ a = b := by
  rw [← Int64.toInt_inj, zl_toInt ha, zl_toInt hb]
theorem zi_clamp {a : Int} (h0 : 0 ≤ a) (h : a ≤ 2147483647) : ((zi a).toNatClampNeg : Int) = a := by
  have h1 := Int32.toNatClampNeg_ofInt_of_le (n := a) (by omega) (by omega)
  show (((Int32.ofInt a).toNatClampNeg : Nat) : Int) = a
  rw [h1]; omega
theorem zi_in {a : Int} {n : Nat} (h0 : 0 ≤ a) (h : a < n) (hn : n ≤ 2147483647) : vp_in (zi a) n := by
  rw [vp_in_iff, zi_toInt (by omega)]; omega
-- worlds
def zu {α : Type} (f : Int → α) (k : Int) (v : α) : Int → α := fun j => if j = k then v else f j
theorem zu_s {α : Type} (f : Int → α) (k : Int) (v : α) : zu f k v k = v := if_pos rfl
theorem zu_n {α : Type} (f : Int → α) {k j : Int} (v : α) (h : j ≠ k) : zu f k v j = f j := if_neg h
def ai (κ : Nat → ClassId) (n : Nat) (f : Int → Int) : va_E := .inl (κ 0, n, .inl (fun j => zi (f (j : Int))))
def al (κ : Nat → ClassId) (n : Nat) (f : Int → Int) : va_E := .inl (κ 1, n, .inr (.inl (fun j => zl (f (j : Int)))))
def ac (κ : Nat → ClassId) (n : Nat) (f : Int → Int) : va_E := .inl (κ 2, n, .inl (fun j => zi (f (j : Int))))
def ar (κ : Nat → ClassId) (n : Nat) (f : Int → Option Nat) : va_E := .inl (κ 3, n, .inr (.inr (.inr (.inr (fun j => f (j : Int))))))
theorem zu_clampi {f : Int → Int} {i v : Int} (h0 : 0 ≤ i) (h : i ≤ 2147483647) : upd (fun j : Nat => zi (f (j : Int))) (zi i).toNatClampNeg (zi v) = fun j : Nat => zi (zu f i v (j : Int)) := by
  have hc := zi_clamp h0 h
  funext j
  unfold upd zu
  by_cases hj : j = (zi i).toNatClampNeg
  · rw [if_pos hj, if_pos (by omega)]
  · rw [if_neg hj, if_neg (by omega)]
theorem zu_clampl {f : Int → Int} {i v : Int} (h0 : 0 ≤ i) (h : i ≤ 2147483647) : vp_updL (fun j : Nat => zl (f (j : Int))) (zi i).toNatClampNeg (zl v) = fun j : Nat => zl (zu f i v (j : Int)) := by
  have hc := zi_clamp h0 h
  funext j
  unfold vp_updL zu
  by_cases hj : j = (zi i).toNatClampNeg
  · rw [if_pos hj, if_pos (by omega)]
  · rw [if_neg hj, if_neg (by omega)]
theorem zu_clampr {f : Int → Option Nat} {i : Int} {v : Nat} (h0 : 0 ≤ i) (h : i ≤ 2147483647) : va_up (fun j : Nat => f (j : Int)) (zi i).toNatClampNeg (some v) = fun j : Nat => zu f i (some v) (j : Int) := by
  have hc := zi_clamp h0 h
  funext j
  unfold va_up zu
  by_cases hj : j = (zi i).toNatClampNeg
  · rw [if_pos hj, if_pos (by omega)]
  · rw [if_neg hj, if_neg (by omega)]
def zT (κ : Nat → ClassId) : List (ClassId × FieldType) := [(κ 0, .int), (κ 1, .long), (κ 2, .char), (κ 3, .object RX6)]
-- words: all good words of the tables
def zB : List Cond := lw_tbl.filter goodWord
theorem zB_of {w : Cond} (i : Nat) (h : lw_tbl[i]? = some w) (hg : goodWord w = true) : w ∈ zB := List.mem_filter.mpr ⟨List.mem_of_getElem? h, hg⟩
def z_isNest : Cond → Bool
  | .methodLinkNest .. => true
  | _ => false
def zNest : List Cond := lw_tbl.filter z_isNest
theorem zNest_of {w : Cond} (i : Nat) (h : lw_tbl[i]? = some w) (hg : z_isNest w = true) : w ∈ zNest := List.mem_filter.mpr ⟨List.mem_of_getElem? h, hg⟩
def zw (y : MethodName) (cc : ByteArray) (nL : Nat) (ret : Option FieldType) : List Cond := .code y cc nL ret :: zB
theorem zw_good {x y : MethodName} {cx cc : ByteArray} {nx nL : Nat} {rx ret : Option FieldType} (h : Cond.code y cc nL ret ∈ zB) : GoodIn (zw x cx nx rx) (zw y cc nL ret) := by
  intro w hw
  rcases List.mem_cons.mp hw with rfl | hw
  · exact ⟨List.mem_cons_of_mem _ h, Or.inl rfl⟩
  · exact ⟨List.mem_cons_of_mem _ hw, good_of_word (List.mem_filter.mp hw).2⟩
theorem zB_good {y : MethodName} {cc : ByteArray} {nL : Nat} {ret : Option FieldType} (h : Cond.code y cc nL ret ∈ zB) : GoodIn zB (zw y cc nL ret) := by
  intro w hw
  rcases List.mem_cons.mp hw with rfl | hw
  · exact ⟨h, Or.inl rfl⟩
  · exact ⟨hw, good_of_word (List.mem_filter.mp hw).2⟩
def zN (U : State) : Prop := (∀ w ∈ zNest, va_Nw w U) ∧ va_AO RX6 U
theorem zN.warm {s U : State} (hW : s.WarmedH U.vm) (h : zN s) : zN U := by
  refine ⟨fun w hw => ?_, h.2.moved hW.alike⟩
  have h1 := h.1 w hw
  have h2 := (List.mem_filter.mp hw).2
  cases w <;> first | exact h1.warmM hW | (simp [z_isNest] at h2; done)
def zK (D : va_G) (κ : Nat → ClassId) (U : State) : Prop := va_K D vwCl (zT κ) U ∧ zN U
theorem zK.warm {D : va_G} {κ : Nat → ClassId} {s U : State} (hW : s.WarmedH U.vm) (h : zK D κ s) : zK D κ U := ⟨va_K.moved hW.alike h.1, h.2.warm hW⟩
theorem zK.calling {D : va_G} {κ : Nat → ClassId} {U : State} {g : JFrame} {mk : MethodId} {a : Array Value} (h : zK D κ U) : zK D κ (U.calling g mk a) := by
  refine ⟨va_K.moved (u := U) (U := U.calling g mk a) (Vm.Alike.refl U.vm) h.1, fun w hw => ?_, va_AO.moved (u := U) (U := U.calling g mk a) (Vm.Alike.refl U.vm) h.2.2⟩
  have h1 := h.2.1 w hw
  have h2 := (List.mem_filter.mp hw).2
  cases w <;> first | exact va_Nw.same (u := U) (U := U.calling g mk a) rfl rfl h1 | (simp [z_isNest] at h2; done)
-- the judgement
abbrev zX : Type := Program × Launch × Env × Room × State × MethodId × Array Value × List Frame × Method × Code × (State → Prop) × va_G × (Nat → ClassId) × (Nat → Prop) × Nat
def ZE (X : zX) (own : String) (cc : ByteArray) (nL : Nat) (rm : Room) (l0 : Launch) (D0 : va_G) (κ0 : Nat → ClassId) : Prop :=
  match X with
  | (p, l, _, R, s, m, args, _, meth, c, _, D, κ, A, nl) => CallFix p m c cc nL s args zB own ∧ meth.locks = false ∧ zK D κ s ∧ nl = nL ∧ (∀ q : Nat, s.heap.size ≤ q → A q) ∧ R = rm ∧ l = l0 ∧ D = D0 ∧ κ = κ0
def Zini (X : zX) : Prop := match X with
  | (_, _, _, _, _, _, _, _, meth, _, _, _, _, _, _) => meth.name = "<init>"
def Zg (X : zX) (ws : va_W) (k n : Nat) (pc : Nat) (lv : List (Nat × Value)) (st : List Value) : Prop :=
  match X with
  | (p, l, e, R, s, m, args, below, meth, c, Q, D, _, A, nl) => ∀ (H : Heap) (locs : List Loc) (ls : Array Slot), va_P D vwCl ws H → va_D A ws → va_S A s.heap H locs → lv_has ls nl lv → W p l e R s m args below meth c H locs k n Q (F0 m pc ls st)
theorem Zg.sub {X : zX} {ws : va_W} {k n pc : Nat} {lv lv' : List (Nat × Value)} {st : List Value} (js : List Nat) (h : lv_pick lv js = lv') (kk : Zg X ws k n pc lv' st) : Zg X ws k n pc lv st := by
  obtain ⟨p, l, e, R, s, m, args, below, meth, c, Q, D, κ, A, nl⟩ := X
  intro H locs ls hP hD hS hl
  exact kk H locs ls hP hD hS (lv_sub hl js h)
theorem Zg.perm {X : zX} {ws ws' : va_W} {k n pc : Nat} {lv : List (Nat × Value)} {st : List Value} (is : List Nat) (hn : va_nd is = true) (h : is.map (fun i => ws[i]?) = ws'.map some) (kk : Zg X ws' k n pc lv st) : Zg X ws k n pc lv st := by
  obtain ⟨p, l, e, R, s, m, args, below, meth, c, Q, D, κ, A, nl⟩ := X
  intro H locs ls hP hD hS hl
  refine kk H locs ls (hP.sub is ?_) (hD.sub is hn h) hS hl
  have : ∀ (is : List Nat) (ws' : va_W), is.map (fun i => ws[i]?) = ws'.map some → is.filterMap (fun i => ws[i]?) = ws' := by
    intro is
    induction is with
    | nil => intro ws' h; cases ws' with
      | nil => rfl
      | cons a l => simp at h
    | cons i is ih =>
      intro ws' h
      cases ws' with
      | nil => simp at h
      | cons a l =>
        simp only [List.map_cons, List.cons.injEq] at h
        rw [List.filterMap_cons_some h.1, ih l h.2]
  exact this is ws' h
theorem Zg.widen {X : zX} {ws : va_W} {k n k' n' pc : Nat} {lv : List (Nat × Value)} {st : List Value} (h1 : k ≤ k') (h2 : n ≤ n') (kk : Zg X ws k' n' pc lv st) : Zg X ws k n pc lv st := by
  obtain ⟨p, l, e, R, s, m, args, below, meth, c, Q, D, κ, A, nl⟩ := X
  intro H locs ls hP hD hS hl
  exact W.widen h1 h2 (kk H locs ls hP hD hS hl)
-- contracts
def zQ (D : va_G) (A1 : Nat → Prop) (Q : Option Value → va_W → Prop) : Array Value → State → Outcome → State → Prop := fun _ st oc t => (∃ (v : Option Value) (w1 : va_W), oc = .returned v ∧ Q v w1 ∧ va_P D vwCl w1 t.heap ∧ va_D A1 w1) ∧ va_F A1 st t
def zP (D : va_G) (κ : Nat → ClassId) (av : List Value) (w0 : va_W) (sz : Nat) : Array Value → State → Prop := va_Pc av (fun U => U.heap.size = sz ∧ va_P D vwCl w0 U.heap ∧ zK D κ U ∧ va_D (fun _ => True) w0)
def ZC (l : Launch) (y : MethodName) (cc : ByteArray) (nL : Nat) (ret : Option FieldType) (rm : Room) (D : va_G) (κ : Nat → ClassId) (av : List Value) (w0 : va_W) (Q : Option Value → va_W → Prop) : Prop :=
  ∀ sz : Nat, Met l y (zw y cc nL ret) rm (zP D κ av w0 sz) (zQ D (va_A w0 sz) Q) rm.cells rm.slots (va_A w0 sz)
abbrev ZI (l : Launch) (y : MethodName) (cc : ByteArray) (nL : Nat) (ret : FieldType) (rm : Room) (D : va_G) (κ : Nat → ClassId) (av : List Value) (w0 : va_W) (Q : Int → va_W → Prop) : Prop :=
  ZC l y cc nL (some ret) rm D κ av w0 (fun v w => ∃ z : Int, v = some (.int (zi z)) ∧ Q z w)
abbrev ZL (l : Launch) (y : MethodName) (cc : ByteArray) (nL : Nat) (rm : Room) (D : va_G) (κ : Nat → ClassId) (av : List Value) (w0 : va_W) (Q : Int → va_W → Prop) : Prop :=
  ZC l y cc nL (some .long) rm D κ av w0 (fun v w => ∃ z : Int, v = some (.long (zl z)) ∧ Q z w)
abbrev ZV (l : Launch) (y : MethodName) (cc : ByteArray) (nL : Nat) (rm : Room) (D : va_G) (κ : Nat → ClassId) (av : List Value) (w0 : va_W) (Q : va_W → Prop) : Prop :=
  ZC l y cc nL none rm D κ av w0 (fun v w => v = none ∧ Q w)
theorem zP.blind {D : va_G} {κ : Nat → ClassId} {av : List Value} {w0 : va_W} {sz : Nat} : FrameBlind (zP D κ av w0 sz) := fun a U g mk q => by
  obtain ⟨q0, q1, qP, qK, qD⟩ := q
  exact ⟨q0, q1, qP, qK.calling, qD⟩
theorem ZC.conseq {l : Launch} {y : MethodName} {cc : ByteArray} {nL : Nat} {ret : Option FieldType} {rm : Room} {D : va_G} {κ : Nat → ClassId} {av : List Value} {w0 : va_W} {Q Q' : Option Value → va_W → Prop} (h : ZC l y cc nL ret rm D κ av w0 Q) (hq : ∀ v w, Q v w → Q' v w) : ZC l y cc nL ret rm D κ av w0 Q' := by
  intro sz p e ha h1 h2 s m args below hf hap hp hk
  obtain ⟨n, o, a1, a2, a3, ⟨⟨⟨v, w1, b1, b2, b3, b4⟩, b5⟩, b6⟩⟩ := h sz p e ha h1 h2 s m args below hf hap hp hk
  exact ⟨n, o, a1, a2, a3, ⟨⟨v, w1, b1, hq v w1 b2, b3, b4⟩, b5⟩, b6⟩
/-- the frame rule: a contract over a part of a world is one over the whole -/
theorem ZC.frame {l : Launch} {y : MethodName} {cc : ByteArray} {nL : Nat} {ret : Option FieldType} {rm : Room} {D : va_G} {κ : Nat → ClassId} {av : List Value} {wc ws wr : va_W} {Q : Option Value → va_W → Prop} (h : ZC l y cc nL ret rm D κ av wc Q) (isC isR : List Nat) (hC : isC.map (fun i => ws[i]?) = wc.map some) (hR : isR.map (fun i => ws[i]?) = wr.map some) (hnC : va_nd isC = true) (hn : va_nd isR = true) (hdis : ∀ i ∈ isR, i ∉ isC) : ZC l y cc nL ret rm D κ av ws (fun v w => ∃ w1, Q v w1 ∧ w = wr ++ w1) := by
  intro sz p e ha h1 h2 s m args below hf hap hp hk
  obtain ⟨q0, q1, qP, qK, qD⟩ := hp
  have hfm : isC.filterMap (fun i => ws[i]?) = wc := by
    have : ∀ (is : List Nat) (ws' : va_W), is.map (fun i => ws[i]?) = ws'.map some → is.filterMap (fun i => ws[i]?) = ws' := by
      intro is
      induction is with
      | nil => intro ws' h; cases ws' with
        | nil => rfl
        | cons a l => simp at h
      | cons i is ih =>
        intro ws' h
        cases ws' with
        | nil => simp at h
        | cons a l =>
          simp only [List.map_cons, List.cons.injEq] at h
          rw [List.filterMap_cons_some h.1, ih l h.2]
    exact this isC wc hC
  have hD0 := va_D.self (sz := sz) qD
  have hFc : ∀ q, va_A wc sz q → va_A ws sz q := by
    intro q hq
    rcases hq with ⟨k, e, hq⟩ | hq
    · have h3 : (isC.map (fun i => ws[i]?))[k]? = some (some (q, e)) := by rw [hC, List.getElem?_map, hq]; rfl
      rw [List.getElem?_map] at h3
      cases hi : isC[k]? with
      | none => rw [hi] at h3; cases h3
      | some i => rw [hi] at h3; exact Or.inl ⟨i, e, Option.some.inj h3⟩
    · exact Or.inr hq
  obtain ⟨n, o, a1, a2, a3, ⟨⟨⟨v, w1, b1, b2, b3, b4⟩, b5⟩, ⟨L, c1, c2⟩⟩⟩ := h sz p e ha h1 h2 s m args below hf hap ⟨q0, q1, qP.sub isC hfm, qK, qD.sub isC hnC hC⟩ hk
  subst q1
  obtain ⟨hP, hD⟩ := va_join (A0 := va_A ws s.heap.size) (wr := wr) qP hD0 isC isR hC hR hn hdis b5.2 hFc b3 b4
  exact ⟨n, o, a1, a2, a3, ⟨⟨v, wr ++ w1, b1, ⟨w1, b2, rfl⟩, hP, hD⟩, b5.1, fun q hq hA => b5.2 q hq (fun z => hA (hFc q z))⟩, ⟨L, c1, fun q hq => hFc _ (c2 q hq)⟩⟩
end
section
-- helper facts for the rows
theorem z32_0 : -2147483648 ≤ (0 : Int) ∧ (0 : Int) ≤ 2147483647 := ⟨by omega, by omega⟩
theorem zi_nat (N : Nat) : zi (N : Int) = Int32.ofNat N := Int32.ofInt_eq_ofNat
theorem zi_nI (N : Nat) : zi (N : Int) = nI N := Int32.ofInt_eq_ofNat
theorem zl_lN (N : Nat) : zl (N : Int) = lN N := Int64.ofInt_eq_ofNat
theorem zi_nn {a : Int} (h0 : 0 ≤ a) (h : a ≤ 2147483647) : ¬ zi a < 0 := by
  rw [← zi_0, zi_lt ⟨by omega, h⟩ z32_0]; omega
theorem zi_clampN {N : Nat} (h : N ≤ 2147483647) : (zi (N : Int)).toNatClampNeg = N := by
  have := zi_clamp (a := (N : Int)) (by omega) (by omega)
  omega
theorem zi_char {a : Int} (h : 0 ≤ a ∧ a < 65536) : ((zi a).toUInt32 % 65536).toInt32 = zi a := by
  obtain ⟨h0, h1⟩ := h
  obtain ⟨m, rfl⟩ := Int.eq_ofNat_of_zero_le h0
  rw [pk_char, zi_nI, pk_tn (by omega), Nat.mod_eq_of_lt (by omega)]
theorem zi_char16 {a : Int} (h : 0 ≤ a ∧ a < 65536) : (zi a).toUInt32.toUInt16.toUInt32.toInt32 = zi a := by
  obtain ⟨h0, h1⟩ := h
  obtain ⟨m, rfl⟩ := Int.eq_ofNat_of_zero_le h0
  rw [zi_nI]
  exact Value.int.inj (pk_charN (q := m) (by omega)).1
theorem nar_char {a : Int} (h : 0 ≤ a ∧ a < 65536) : narrow .char (.int (zi a)) = .int (zi a) := congrArg Value.int (zi_char16 h)
theorem nar_bool {a : Int} (h : a = 0 ∨ a = 1) : narrow .boolean (.int (zi a)) = .int (zi a) := by
  rcases h with rfl | rfl <;> rfl
theorem nar_int (a : Int) : narrow .int (.int (zi a)) = .int (zi a) := rfl
theorem fit_bool {a : Int} (h : a = 0 ∨ a = 1) : fits .boolean (.int (zi a)) = true := by
  rcases h with rfl | rfl <;> rfl
theorem zl_ne0 {b : Int} (h : -9223372036854775808 ≤ b ∧ b ≤ 9223372036854775807) (h0 : b ≠ 0) : ¬ zl b = 0 := by
  rw [← zl_0, zl_eq h ⟨by omega, by omega⟩]; exact h0
theorem zl_div {a b : Int} (ha : -9223372036854775808 ≤ a ∧ a ≤ 9223372036854775807) (hb : -9223372036854775808 ≤ b ∧ b ≤ 9223372036854775807) : zl a / zl b = zl (a.tdiv b) :=
  (Int64.ofInt_tdiv (by rw [Int64.toInt_minValue]; omega) (by rw [Int64.toInt_maxValue]; omega) (by rw [Int64.toInt_minValue]; omega) (by rw [Int64.toInt_maxValue]; omega)).symm
theorem zi_div {a b : Int} (ha : -2147483648 ≤ a ∧ a ≤ 2147483647) (hb : -2147483648 ≤ b ∧ b ≤ 2147483647) : zi a / zi b = zi (a.tdiv b) :=
  (Int32.ofInt_tdiv (by rw [Int32.toInt_minValue]; omega) (by rw [Int32.toInt_maxValue]; omega) (by rw [Int32.toInt_minValue]; omega) (by rw [Int32.toInt_maxValue]; omega)).symm
theorem zl_rem {a b : Int} (ha : -9223372036854775808 ≤ a ∧ a ≤ 9223372036854775807) (hb : -9223372036854775808 ≤ b ∧ b ≤ 9223372036854775807) : zl a - zl a / zl b * zl b = zl (a.tmod b) := by
  rw [zl_div ha hb, zl_mul, zl_sub, Int.tmod_def, Int.mul_comm]
theorem zi_rem2 {a : Int} (ha : -2147483648 ≤ a ∧ a ≤ 2147483647) (h0 : 0 ≤ a) : zi a - zi a / zi 2 * zi 2 = zi (a % 2) := by
  rw [zi_div ha ⟨by omega, by omega⟩, zi_mul, zi_sub, Int.tdiv_eq_ediv_of_nonneg h0]
  congr 1; omega
theorem zl_shr1 {a : Int} (h : 0 ≤ a ∧ a < 4611686018427387904) : zl a >>> ((zi 1).toInt64 &&& 63) = zl (a / 2) := by
  apply Int64.toInt_inj.mp
  have e : (zl a >>> ((zi 1).toInt64 &&& 63)).toInt = (zl a).toInt >>> 1 := BitVec.toInt_sshiftRight ..
  rw [e, Int.shiftRight_eq_div_pow, zl_toInt (by omega), zl_toInt (by omega)]
  rfl
def zabs (a : Int) : Int := if 0 < a then a else -a
theorem zabs_pos {a : Int} (h : 0 ≤ a) : zabs a = a := by unfold zabs; split <;> omega
theorem zabs_neg {a : Int} (h : a ≤ 0) : zabs a = -a := by unfold zabs; split <;> omega
theorem zabs_or (a : Int) : (0 ≤ a ∧ zabs a = a) ∨ (a < 0 ∧ zabs a = -a) := by unfold zabs; split <;> omega
theorem zl_abs {a : Int} (h : -9223372036854775808 ≤ a ∧ a ≤ 9223372036854775807) : (if 0 < zl a then zl a else -zl a) = zl (zabs a) := by
  unfold zabs
  by_cases h1 : 0 < a
  · rw [if_pos h1, if_pos (by rw [← zl_0, zl_lt ⟨by omega, by omega⟩ h]; exact h1)]
  · rw [if_neg h1, if_neg (by rw [← zl_0, zl_lt ⟨by omega, by omega⟩ h]; exact h1), zl_neg]
theorem zi_max {a b : Int} (ha : -2147483648 ≤ a ∧ a ≤ 2147483647) (hb : -2147483648 ≤ b ∧ b ≤ 2147483647) : (if zi a < zi b then zi b else zi a) = zi (if a < b then b else a) := by
  by_cases h1 : a < b
  · rw [if_pos h1, if_pos ((zi_lt ha hb).mpr h1)]
  · rw [if_neg h1, if_neg (fun z => h1 ((zi_lt ha hb).mp z))]
/-! ===== Z-LAYER 2: the instruction rows over Zg ===== -/
section ZROWS
variable {X : zX} {own : String} {cc : ByteArray} {nL : Nat} {rm : Room} {l0 : Launch} {D0 : va_G} {κ0 : Nat → ClassId} {ws : va_W} {k n pc : Nat} {lv : List (Nat × Value)} {st : List Value}
theorem z_iconst (E : ZE X own cc nL rm l0 D0 κ0) {v : Int} (hdg : decode cc pc = .ok (.iconst v, 1)) (kk : Zg X ws k n (pc + 1) lv (.int (zi v) :: st)) : Zg X ws k n pc lv st := by
  obtain ⟨p, l, e, R, s, m, args, below, meth, c, Q, D, κ, A, nl⟩ := X
  obtain ⟨⟨hx, hb, hml, hown, hts⟩, hlk, hK, rfl, hA, rfl, rfl, rfl, rfl⟩ := E
  intro H locs ls hP hD hS hl
  exact lv_iconst hx hb hdg rfl (kk H locs ls hP hD hS hl)
theorem z_bipush (E : ZE X own cc nL rm l0 D0 κ0) {v : Int} (hdg : decode cc pc = .ok (.bipush v, 2)) (hv : (Int8.ofInt v).toInt32 = zi v) (kk : Zg X ws k n (pc + 2) lv (.int (zi v) :: st)) : Zg X ws k n pc lv st := by
  obtain ⟨p, l, e, R, s, m, args, below, meth, c, Q, D, κ, A, nl⟩ := X
  obtain ⟨⟨hx, hb, hml, hown, hts⟩, hlk, hK, rfl, hA, rfl, rfl, rfl, rfl⟩ := E
  intro H locs ls hP hD hS hl
  exact lv_bipush hx hb hdg hv (kk H locs ls hP hD hS hl)
theorem z_sipush (E : ZE X own cc nL rm l0 D0 κ0) {v : Int} (hdg : decode cc pc = .ok (.sipush v, 3)) (hv : (Int16.ofInt v).toInt32 = zi v) (kk : Zg X ws k n (pc + 3) lv (.int (zi v) :: st)) : Zg X ws k n pc lv st := by
  obtain ⟨p, l, e, R, s, m, args, below, meth, c, Q, D, κ, A, nl⟩ := X
  obtain ⟨⟨hx, hb, hml, hown, hts⟩, hlk, hK, rfl, hA, rfl, rfl, rfl, rfl⟩ := E
  intro H locs ls hP hD hS hl
  exact lv_sipush hx hb hdg hv (kk H locs ls hP hD hS hl)
theorem z_lconst0 (E : ZE X own cc nL rm l0 D0 κ0) (hdg : decode cc pc = .ok (.lconst 0, 1)) (kk : Zg X ws k n (pc + 1) lv (.long (zl 0) :: st)) : Zg X ws k n pc lv st := by
  obtain ⟨p, l, e, R, s, m, args, below, meth, c, Q, D, κ, A, nl⟩ := X
  obtain ⟨⟨hx, hb, hml, hown, hts⟩, hlk, hK, rfl, hA, rfl, rfl, rfl, rfl⟩ := E
  intro H locs ls hP hD hS hl
  exact lv_lconst (v := zl 0) hx hb hdg rfl (kk H locs ls hP hD hS hl)
theorem z_lconst1 (E : ZE X own cc nL rm l0 D0 κ0) (hdg : decode cc pc = .ok (.lconst 1, 1)) (kk : Zg X ws k n (pc + 1) lv (.long (zl 1) :: st)) : Zg X ws k n pc lv st := by
  obtain ⟨p, l, e, R, s, m, args, below, meth, c, Q, D, κ, A, nl⟩ := X
  obtain ⟨⟨hx, hb, hml, hown, hts⟩, hlk, hK, rfl, hA, rfl, rfl, rfl, rfl⟩ := E
  intro H locs ls hP hD hS hl
  exact lv_lconst (v := zl 1) hx hb hdg rfl (kk H locs ls hP hD hS hl)
theorem z_ldc (E : ZE X own cc nL rm l0 D0 κ0) {ix : Nat} {v : Int} (hc : Cond.constant own ix (zi v) ∈ zB) (hdg : decode cc pc = .ok (.ldc ix, 2)) (kk : Zg X ws k n (pc + 2) lv (.int (zi v) :: st)) : Zg X ws k n pc lv st := by
  obtain ⟨p, l, e, R, s, m, args, below, meth, c, Q, D, κ, A, nl⟩ := X
  obtain ⟨⟨hx, hb, hml, hown, hts⟩, hlk, hK, rfl, hA, rfl, rfl, rfl, rfl⟩ := E
  intro H locs ls hP hD hS hl
  exact lv_ldc hx hb hown (hts _ hc) hdg (kk H locs ls hP hD hS hl)
theorem z_ldc2 (E : ZE X own cc nL rm l0 D0 κ0) {ix : Nat} {v : Int} (hc : Cond.constantLong own ix (zl v) ∈ zB) (hdg : decode cc pc = .ok (.ldc2_w ix, 3)) (kk : Zg X ws k n (pc + 3) lv (.long (zl v) :: st)) : Zg X ws k n pc lv st := by
  obtain ⟨p, l, e, R, s, m, args, below, meth, c, Q, D, κ, A, nl⟩ := X
  obtain ⟨⟨hx, hb, hml, hown, hts⟩, hlk, hK, rfl, hA, rfl, rfl, rfl, rfl⟩ := E
  intro H locs ls hP hD hS hl
  exact lv_ldc2 hx hb hown (hts _ hc) hdg (kk H locs ls hP hD hS hl)
theorem z_iload_n (E : ZE X own cc nL rm l0 D0 κ0) {q : Fin 4} {i : Nat} {x : Int32} (j : Nat) (hj : lv[j]? = some (i, .int x)) (hi : (q : Nat) = i) (hdg : decode cc pc = .ok (.iload_n q, 1)) (kk : Zg X ws k n (pc + 1) lv (.int x :: st)) : Zg X ws k n pc lv st := by
  obtain ⟨p, l, e, R, s, m, args, below, meth, c, Q, D, κ, A, nl⟩ := X
  obtain ⟨⟨hx, hb, hml, hown, hts⟩, hlk, hK, rfl, hA, rfl, rfl, rfl, rfl⟩ := E
  intro H locs ls hP hD hS hl
  exact lv_iload_n hx hb hdg hi (lv_at hl j hj) (kk H locs ls hP hD hS hl)
theorem z_iload (E : ZE X own cc nL rm l0 D0 κ0) {i : Nat} {x : Int32} (j : Nat) (hj : lv[j]? = some (i, .int x)) (hdg : decode cc pc = .ok (.iload i, 2)) (kk : Zg X ws k n (pc + 2) lv (.int x :: st)) : Zg X ws k n pc lv st := by
  obtain ⟨p, l, e, R, s, m, args, below, meth, c, Q, D, κ, A, nl⟩ := X
  obtain ⟨⟨hx, hb, hml, hown, hts⟩, hlk, hK, rfl, hA, rfl, rfl, rfl, rfl⟩ := E
  intro H locs ls hP hD hS hl
  exact lv_iload hx hb hdg (lv_at hl j hj) (kk H locs ls hP hD hS hl)
theorem z_lload_n (E : ZE X own cc nL rm l0 D0 κ0) {q : Fin 4} {i : Nat} {x : Int64} (j : Nat) (hj : lv[j]? = some (i, .long x)) (hi : (q : Nat) = i) (hdg : decode cc pc = .ok (.lload_n q, 1)) (kk : Zg X ws k n (pc + 1) lv (.long x :: st)) : Zg X ws k n pc lv st := by
  obtain ⟨p, l, e, R, s, m, args, below, meth, c, Q, D, κ, A, nl⟩ := X
  obtain ⟨⟨hx, hb, hml, hown, hts⟩, hlk, hK, rfl, hA, rfl, rfl, rfl, rfl⟩ := E
  intro H locs ls hP hD hS hl
  exact lv_lload_n hx hb hdg hi (lv_at hl j hj) (kk H locs ls hP hD hS hl)
theorem z_lload (E : ZE X own cc nL rm l0 D0 κ0) {i : Nat} {x : Int64} (j : Nat) (hj : lv[j]? = some (i, .long x)) (hdg : decode cc pc = .ok (.lload i, 2)) (kk : Zg X ws k n (pc + 2) lv (.long x :: st)) : Zg X ws k n pc lv st := by
  obtain ⟨p, l, e, R, s, m, args, below, meth, c, Q, D, κ, A, nl⟩ := X
  obtain ⟨⟨hx, hb, hml, hown, hts⟩, hlk, hK, rfl, hA, rfl, rfl, rfl, rfl⟩ := E
  intro H locs ls hP hD hS hl
  exact lv_lload hx hb hdg (lv_at hl j hj) (kk H locs ls hP hD hS hl)
theorem z_aload_n (E : ZE X own cc nL rm l0 D0 κ0) {q : Fin 4} {i : Nat} {x : Nat} (j : Nat) (hj : lv[j]? = some (i, .ref x)) (hi : (q : Nat) = i) (hdg : decode cc pc = .ok (.aload_n q, 1)) (kk : Zg X ws k n (pc + 1) lv (.ref x :: st)) : Zg X ws k n pc lv st := by
  obtain ⟨p, l, e, R, s, m, args, below, meth, c, Q, D, κ, A, nl⟩ := X
  obtain ⟨⟨hx, hb, hml, hown, hts⟩, hlk, hK, rfl, hA, rfl, rfl, rfl, rfl⟩ := E
  intro H locs ls hP hD hS hl
  exact lv_aload_n hx hb hdg hi (lv_at hl j hj) (kk H locs ls hP hD hS hl)
theorem z_aload (E : ZE X own cc nL rm l0 D0 κ0) {i : Nat} {x : Nat} (j : Nat) (hj : lv[j]? = some (i, .ref x)) (hdg : decode cc pc = .ok (.aload i, 2)) (kk : Zg X ws k n (pc + 2) lv (.ref x :: st)) : Zg X ws k n pc lv st := by
  obtain ⟨p, l, e, R, s, m, args, below, meth, c, Q, D, κ, A, nl⟩ := X
  obtain ⟨⟨hx, hb, hml, hown, hts⟩, hlk, hK, rfl, hA, rfl, rfl, rfl, rfl⟩ := E
  intro H locs ls hP hD hS hl
  exact lv_aload hx hb hdg (lv_at hl j hj) (kk H locs ls hP hD hS hl)
theorem z_istore_n (E : ZE X own cc nL rm l0 D0 κ0) {q : Fin 4} {i : Nat} {x : Int32} {lv' : List (Nat × Value)} (hdg : decode cc pc = .ok (.istore_n q, 1)) (hi : (q : Nat) = i) (hn : i < nL) (h : (i, Value.int x) :: lv.filter (fun q => !(q.1 == i) && !(q.1 + 1 == i && q.2.category == 2)) = lv') (kk : Zg X ws k n (pc + 1) lv' st) : Zg X ws k n pc lv (.int x :: st) := by
  obtain ⟨p, l, e, R, s, m, args, below, meth, c, Q, D, κ, A, nl⟩ := X
  obtain ⟨⟨hx, hb, hml, hown, hts⟩, hlk, hK, rfl, hA, rfl, rfl, rfl, rfl⟩ := E
  intro H locs ls hP hD hS hl
  exact lv_istore_n hx hb hdg hi hl hn h (fun ls hl => kk H locs ls hP hD hS hl)
theorem z_istore (E : ZE X own cc nL rm l0 D0 κ0) {i : Nat} {x : Int32} {lv' : List (Nat × Value)} (hdg : decode cc pc = .ok (.istore i, 2)) (hn : i < nL) (h : (i, Value.int x) :: lv.filter (fun q => !(q.1 == i) && !(q.1 + 1 == i && q.2.category == 2)) = lv') (kk : Zg X ws k n (pc + 2) lv' st) : Zg X ws k n pc lv (.int x :: st) := by
  obtain ⟨p, l, e, R, s, m, args, below, meth, c, Q, D, κ, A, nl⟩ := X
  obtain ⟨⟨hx, hb, hml, hown, hts⟩, hlk, hK, rfl, hA, rfl, rfl, rfl, rfl⟩ := E
  intro H locs ls hP hD hS hl
  exact lv_istore hx hb hdg hl hn h (fun ls hl => kk H locs ls hP hD hS hl)
theorem z_lstore_n (E : ZE X own cc nL rm l0 D0 κ0) {q : Fin 4} {i : Nat} {x : Int64} {lv' : List (Nat × Value)} (hdg : decode cc pc = .ok (.lstore_n q, 1)) (hi : (q : Nat) = i) (hn : i + 1 < nL) (h : (i, Value.long x) :: lv.filter (fun q => !(q.1 == i) && (!(q.1 == i + 1) && !(q.1 + 1 == i && q.2.category == 2))) = lv') (kk : Zg X ws k n (pc + 1) lv' st) : Zg X ws k n pc lv (.long x :: st) := by
  obtain ⟨p, l, e, R, s, m, args, below, meth, c, Q, D, κ, A, nl⟩ := X
  obtain ⟨⟨hx, hb, hml, hown, hts⟩, hlk, hK, rfl, hA, rfl, rfl, rfl, rfl⟩ := E
  intro H locs ls hP hD hS hl
  exact lv_lstore_n hx hb hdg hi hl hn h (fun ls hl => kk H locs ls hP hD hS hl)
theorem z_lstore (E : ZE X own cc nL rm l0 D0 κ0) {i : Nat} {x : Int64} {lv' : List (Nat × Value)} (hdg : decode cc pc = .ok (.lstore i, 2)) (hn : i + 1 < nL) (h : (i, Value.long x) :: lv.filter (fun q => !(q.1 == i) && (!(q.1 == i + 1) && !(q.1 + 1 == i && q.2.category == 2))) = lv') (kk : Zg X ws k n (pc + 2) lv' st) : Zg X ws k n pc lv (.long x :: st) := by
  obtain ⟨p, l, e, R, s, m, args, below, meth, c, Q, D, κ, A, nl⟩ := X
  obtain ⟨⟨hx, hb, hml, hown, hts⟩, hlk, hK, rfl, hA, rfl, rfl, rfl, rfl⟩ := E
  intro H locs ls hP hD hS hl
  exact lv_lstore hx hb hdg hl hn h (fun ls hl => kk H locs ls hP hD hS hl)
theorem z_astore_n (E : ZE X own cc nL rm l0 D0 κ0) {q : Fin 4} {i : Nat} {x : Nat} {lv' : List (Nat × Value)} (hdg : decode cc pc = .ok (.astore_n q, 1)) (hi : (q : Nat) = i) (hn : i < nL) (h : (i, Value.ref x) :: lv.filter (fun q => !(q.1 == i) && !(q.1 + 1 == i && q.2.category == 2)) = lv') (kk : Zg X ws k n (pc + 1) lv' st) : Zg X ws k n pc lv (.ref x :: st) := by
  obtain ⟨p, l, e, R, s, m, args, below, meth, c, Q, D, κ, A, nl⟩ := X
  obtain ⟨⟨hx, hb, hml, hown, hts⟩, hlk, hK, rfl, hA, rfl, rfl, rfl, rfl⟩ := E
  intro H locs ls hP hD hS hl
  exact lv_astore_n hx hb hdg hi hl hn h (fun ls hl => kk H locs ls hP hD hS hl)
theorem z_astore (E : ZE X own cc nL rm l0 D0 κ0) {i : Nat} {x : Nat} {lv' : List (Nat × Value)} (hdg : decode cc pc = .ok (.astore i, 2)) (hn : i < nL) (h : (i, Value.ref x) :: lv.filter (fun q => !(q.1 == i) && !(q.1 + 1 == i && q.2.category == 2)) = lv') (kk : Zg X ws k n (pc + 2) lv' st) : Zg X ws k n pc lv (.ref x :: st) := by
  obtain ⟨p, l, e, R, s, m, args, below, meth, c, Q, D, κ, A, nl⟩ := X
  obtain ⟨⟨hx, hb, hml, hown, hts⟩, hlk, hK, rfl, hA, rfl, rfl, rfl, rfl⟩ := E
  intro H locs ls hP hD hS hl
  exact lv_astore hx hb hdg hl hn h (fun ls hl => kk H locs ls hP hD hS hl)
theorem z_iinc (E : ZE X own cc nL rm l0 D0 κ0) {i : Nat} {d x : Int} {lv' : List (Nat × Value)} (j : Nat) (hj : lv[j]? = some (i, .int (zi x))) (hdg : decode cc pc = .ok (.iinc i d, 3)) (hn : i < nL) (h : (i, Value.int (zi (x + d))) :: lv.filter (fun q => !(q.1 == i) && !(q.1 + 1 == i && q.2.category == 2)) = lv') (kk : Zg X ws k n (pc + 3) lv' st) : Zg X ws k n pc lv st := by
  obtain ⟨p, l, e, R, s, m, args, below, meth, c, Q, D, κ, A, nl⟩ := X
  obtain ⟨⟨hx, hb, hml, hown, hts⟩, hlk, hK, rfl, hA, rfl, rfl, rfl, rfl⟩ := E
  intro H locs ls hP hD hS hl
  exact lv_iinc (v := zi (x + d)) hx hb hdg hl hj (zi_add x d) hn h (fun ls hl => kk H locs ls hP hD hS hl)
theorem z_iadd (E : ZE X own cc nL rm l0 D0 κ0) {a b : Int} (hdg : decode cc pc = .ok (.iadd, 1)) (kk : Zg X ws k n (pc + 1) lv (.int (zi (a + b)) :: st)) : Zg X ws k n pc lv (.int (zi b) :: .int (zi a) :: st) := by
  obtain ⟨p, l, e, R, s, m, args, below, meth, c, Q, D, κ, A, nl⟩ := X
  obtain ⟨⟨hx, hb, hml, hown, hts⟩, hlk, hK, rfl, hA, rfl, rfl, rfl, rfl⟩ := E
  intro H locs ls hP hD hS hl
  exact lv_iadd hx hb hdg (by rw [zi_add]; exact kk H locs ls hP hD hS hl)
theorem z_isub (E : ZE X own cc nL rm l0 D0 κ0) {a b : Int} (hdg : decode cc pc = .ok (.isub, 1)) (kk : Zg X ws k n (pc + 1) lv (.int (zi (a - b)) :: st)) : Zg X ws k n pc lv (.int (zi b) :: .int (zi a) :: st) := by
  obtain ⟨p, l, e, R, s, m, args, below, meth, c, Q, D, κ, A, nl⟩ := X
  obtain ⟨⟨hx, hb, hml, hown, hts⟩, hlk, hK, rfl, hA, rfl, rfl, rfl, rfl⟩ := E
  intro H locs ls hP hD hS hl
  exact lv_isub hx hb hdg (by rw [zi_sub]; exact kk H locs ls hP hD hS hl)
theorem z_imul (E : ZE X own cc nL rm l0 D0 κ0) {a b : Int} (hdg : decode cc pc = .ok (.imul, 1)) (kk : Zg X ws k n (pc + 1) lv (.int (zi (a * b)) :: st)) : Zg X ws k n pc lv (.int (zi b) :: .int (zi a) :: st) := by
  obtain ⟨p, l, e, R, s, m, args, below, meth, c, Q, D, κ, A, nl⟩ := X
  obtain ⟨⟨hx, hb, hml, hown, hts⟩, hlk, hK, rfl, hA, rfl, rfl, rfl, rfl⟩ := E
  intro H locs ls hP hD hS hl
  exact lv_imul hx hb hdg (by rw [zi_mul]; exact kk H locs ls hP hD hS hl)
theorem z_ladd (E : ZE X own cc nL rm l0 D0 κ0) {a b : Int} (hdg : decode cc pc = .ok (.ladd, 1)) (kk : Zg X ws k n (pc + 1) lv (.long (zl (a + b)) :: st)) : Zg X ws k n pc lv (.long (zl b) :: .long (zl a) :: st) := by
  obtain ⟨p, l, e, R, s, m, args, below, meth, c, Q, D, κ, A, nl⟩ := X
  obtain ⟨⟨hx, hb, hml, hown, hts⟩, hlk, hK, rfl, hA, rfl, rfl, rfl, rfl⟩ := E
  intro H locs ls hP hD hS hl
  exact lv_ladd hx hb hdg (by rw [zl_add]; exact kk H locs ls hP hD hS hl)
theorem z_lsub (E : ZE X own cc nL rm l0 D0 κ0) {a b : Int} (hdg : decode cc pc = .ok (.lsub, 1)) (kk : Zg X ws k n (pc + 1) lv (.long (zl (a - b)) :: st)) : Zg X ws k n pc lv (.long (zl b) :: .long (zl a) :: st) := by
  obtain ⟨p, l, e, R, s, m, args, below, meth, c, Q, D, κ, A, nl⟩ := X
  obtain ⟨⟨hx, hb, hml, hown, hts⟩, hlk, hK, rfl, hA, rfl, rfl, rfl, rfl⟩ := E
  intro H locs ls hP hD hS hl
  exact lv_lsub hx hb hdg (by rw [zl_sub]; exact kk H locs ls hP hD hS hl)
theorem z_lmul (E : ZE X own cc nL rm l0 D0 κ0) {a b : Int} (hdg : decode cc pc = .ok (.lmul, 1)) (kk : Zg X ws k n (pc + 1) lv (.long (zl (a * b)) :: st)) : Zg X ws k n pc lv (.long (zl b) :: .long (zl a) :: st) := by
  obtain ⟨p, l, e, R, s, m, args, below, meth, c, Q, D, κ, A, nl⟩ := X
  obtain ⟨⟨hx, hb, hml, hown, hts⟩, hlk, hK, rfl, hA, rfl, rfl, rfl, rfl⟩ := E
  intro H locs ls hP hD hS hl
  exact lv_lmul hx hb hdg (by rw [zl_mul]; exact kk H locs ls hP hD hS hl)
theorem z_ineg (E : ZE X own cc nL rm l0 D0 κ0) {a : Int} (hdg : decode cc pc = .ok (.ineg, 1)) (kk : Zg X ws k n (pc + 1) lv (.int (zi (-a)) :: st)) : Zg X ws k n pc lv (.int (zi a) :: st) := by
  obtain ⟨p, l, e, R, s, m, args, below, meth, c, Q, D, κ, A, nl⟩ := X
  obtain ⟨⟨hx, hb, hml, hown, hts⟩, hlk, hK, rfl, hA, rfl, rfl, rfl, rfl⟩ := E
  intro H locs ls hP hD hS hl
  exact lv_ineg hx hb hdg (by rw [zi_neg]; exact kk H locs ls hP hD hS hl)
theorem z_lneg (E : ZE X own cc nL rm l0 D0 κ0) {a : Int} (hdg : decode cc pc = .ok (.lneg, 1)) (kk : Zg X ws k n (pc + 1) lv (.long (zl (-a)) :: st)) : Zg X ws k n pc lv (.long (zl a) :: st) := by
  obtain ⟨p, l, e, R, s, m, args, below, meth, c, Q, D, κ, A, nl⟩ := X
  obtain ⟨⟨hx, hb, hml, hown, hts⟩, hlk, hK, rfl, hA, rfl, rfl, rfl, rfl⟩ := E
  intro H locs ls hP hD hS hl
  exact lv_lneg hx hb hdg (by rw [zl_neg]; exact kk H locs ls hP hD hS hl)
theorem z_i2l (E : ZE X own cc nL rm l0 D0 κ0) {a : Int} (ha : -2147483648 ≤ a ∧ a ≤ 2147483647) (hdg : decode cc pc = .ok (.i2l, 1)) (kk : Zg X ws k n (pc + 1) lv (.long (zl a) :: st)) : Zg X ws k n pc lv (.int (zi a) :: st) := by
  obtain ⟨p, l, e, R, s, m, args, below, meth, c, Q, D, κ, A, nl⟩ := X
  obtain ⟨⟨hx, hb, hml, hown, hts⟩, hlk, hK, rfl, hA, rfl, rfl, rfl, rfl⟩ := E
  intro H locs ls hP hD hS hl
  exact lv_i2l hx hb hdg (zi_l ha) (kk H locs ls hP hD hS hl)
theorem z_l2i (E : ZE X own cc nL rm l0 D0 κ0) {a : Int} (hdg : decode cc pc = .ok (.l2i, 1)) (kk : Zg X ws k n (pc + 1) lv (.int (zi a) :: st)) : Zg X ws k n pc lv (.long (zl a) :: st) := by
  obtain ⟨p, l, e, R, s, m, args, below, meth, c, Q, D, κ, A, nl⟩ := X
  obtain ⟨⟨hx, hb, hml, hown, hts⟩, hlk, hK, rfl, hA, rfl, rfl, rfl, rfl⟩ := E
  intro H locs ls hP hD hS hl
  exact lv_l2i hx hb hdg (zl_i a) (kk H locs ls hP hD hS hl)
theorem z_i2c (E : ZE X own cc nL rm l0 D0 κ0) {a : Int} (ha : 0 ≤ a ∧ a < 65536) (hdg : decode cc pc = .ok (.i2c, 1)) (kk : Zg X ws k n (pc + 1) lv (.int (zi a) :: st)) : Zg X ws k n pc lv (.int (zi a) :: st) := by
  obtain ⟨p, l, e, R, s, m, args, below, meth, c, Q, D, κ, A, nl⟩ := X
  obtain ⟨⟨hx, hb, hml, hown, hts⟩, hlk, hK, rfl, hA, rfl, rfl, rfl, rfl⟩ := E
  intro H locs ls hP hD hS hl
  exact lv_i2c hx hb hdg (zi_char ha) (kk H locs ls hP hD hS hl)
theorem z_ldiv (E : ZE X own cc nL rm l0 D0 κ0) {a b : Int} (ha : -9223372036854775808 ≤ a ∧ a ≤ 9223372036854775807) (hbb : -9223372036854775808 ≤ b ∧ b ≤ 9223372036854775807) (h0 : b ≠ 0) (hdg : decode cc pc = .ok (.ldiv, 1)) (kk : Zg X ws k n (pc + 1) lv (.long (zl (a.tdiv b)) :: st)) : Zg X ws k n pc lv (.long (zl b) :: .long (zl a) :: st) := by
  obtain ⟨p, l, e, R, s, m, args, below, meth, c, Q, D, κ, A, nl⟩ := X
  obtain ⟨⟨hx, hb, hml, hown, hts⟩, hlk, hK, rfl, hA, rfl, rfl, rfl, rfl⟩ := E
  intro H locs ls hP hD hS hl
  exact lv_ldiv hx hb hdg (zl_ne0 hbb h0) (by rw [zl_div ha hbb]; exact kk H locs ls hP hD hS hl)
theorem z_lrem (E : ZE X own cc nL rm l0 D0 κ0) {a b : Int} (ha : -9223372036854775808 ≤ a ∧ a ≤ 9223372036854775807) (hbb : -9223372036854775808 ≤ b ∧ b ≤ 9223372036854775807) (h0 : b ≠ 0) (hdg : decode cc pc = .ok (.lrem, 1)) (kk : Zg X ws k n (pc + 1) lv (.long (zl (a.tmod b)) :: st)) : Zg X ws k n pc lv (.long (zl b) :: .long (zl a) :: st) := by
  obtain ⟨p, l, e, R, s, m, args, below, meth, c, Q, D, κ, A, nl⟩ := X
  obtain ⟨⟨hx, hb, hml, hown, hts⟩, hlk, hK, rfl, hA, rfl, rfl, rfl, rfl⟩ := E
  intro H locs ls hP hD hS hl
  exact lv_lrem hx hb hdg (zl_ne0 hbb h0) (by rw [zl_rem ha hbb]; exact kk H locs ls hP hD hS hl)
theorem z_irem2 (E : ZE X own cc nL rm l0 D0 κ0) {a : Int} (ha : -2147483648 ≤ a ∧ a ≤ 2147483647) (h0 : 0 ≤ a) (hdg : decode cc pc = .ok (.irem, 1)) (kk : Zg X ws k n (pc + 1) lv (.int (zi (a % 2)) :: st)) : Zg X ws k n pc lv (.int (zi 2) :: .int (zi a) :: st) := by
  obtain ⟨p, l, e, R, s, m, args, below, meth, c, Q, D, κ, A, nl⟩ := X
  obtain ⟨⟨hx, hb, hml, hown, hts⟩, hlk, hK, rfl, hA, rfl, rfl, rfl, rfl⟩ := E
  intro H locs ls hP hD hS hl
  exact lv_irem hx hb hdg (by decide) (by rw [zi_rem2 ha h0]; exact kk H locs ls hP hD hS hl)
theorem z_lshr1 (E : ZE X own cc nL rm l0 D0 κ0) {a : Int} (ha : 0 ≤ a ∧ a < 4611686018427387904) (hdg : decode cc pc = .ok (.lshr, 1)) (kk : Zg X ws k n (pc + 1) lv (.long (zl (a / 2)) :: st)) : Zg X ws k n pc lv (.int (zi 1) :: .long (zl a) :: st) := by
  obtain ⟨p, l, e, R, s, m, args, below, meth, c, Q, D, κ, A, nl⟩ := X
  obtain ⟨⟨hx, hb, hml, hown, hts⟩, hlk, hK, rfl, hA, rfl, rfl, rfl, rfl⟩ := E
  intro H locs ls hP hD hS hl
  exact lv_lshr hx hb hdg (zl_shr1 ha) (kk H locs ls hP hD hS hl)
theorem z_lxor (E : ZE X own cc nL rm l0 D0 κ0) {x y : Int64} (hdg : decode cc pc = .ok (.lxor, 1)) (kk : Zg X ws k n (pc + 1) lv (.long (x ^^^ y) :: st)) : Zg X ws k n pc lv (.long y :: .long x :: st) := by
  obtain ⟨p, l, e, R, s, m, args, below, meth, c, Q, D, κ, A, nl⟩ := X
  obtain ⟨⟨hx, hb, hml, hown, hts⟩, hlk, hK, rfl, hA, rfl, rfl, rfl, rfl⟩ := E
  intro H locs ls hP hD hS hl
  exact lv_lxor hx hb hdg (kk H locs ls hP hD hS hl)
theorem z_iand (E : ZE X own cc nL rm l0 D0 κ0) {x y : Int32} (hdg : decode cc pc = .ok (.iand, 1)) (kk : Zg X ws k n (pc + 1) lv (.int (x &&& y) :: st)) : Zg X ws k n pc lv (.int y :: .int x :: st) := by
  obtain ⟨p, l, e, R, s, m, args, below, meth, c, Q, D, κ, A, nl⟩ := X
  obtain ⟨⟨hx, hb, hml, hown, hts⟩, hlk, hK, rfl, hA, rfl, rfl, rfl, rfl⟩ := E
  intro H locs ls hP hD hS hl
  exact lv_iand hx hb hdg (kk H locs ls hP hD hS hl)
theorem z_dup (E : ZE X own cc nL rm l0 D0 κ0) {v : Value} (hv : v.category = 1) (hdg : decode cc pc = .ok (.dup, 1)) (kk : Zg X ws k n (pc + 1) lv (v :: v :: st)) : Zg X ws k n pc lv (v :: st) := by
  obtain ⟨p, l, e, R, s, m, args, below, meth, c, Q, D, κ, A, nl⟩ := X
  obtain ⟨⟨hx, hb, hml, hown, hts⟩, hlk, hK, rfl, hA, rfl, rfl, rfl, rfl⟩ := E
  intro H locs ls hP hD hS hl
  exact lv_dup hx hb hdg hv (kk H locs ls hP hD hS hl)
theorem z_pop (E : ZE X own cc nL rm l0 D0 κ0) {v : Value} (hv : v.category = 1) (hdg : decode cc pc = .ok (.pop, 1)) (kk : Zg X ws k n (pc + 1) lv st) : Zg X ws k n pc lv (v :: st) := by
  obtain ⟨p, l, e, R, s, m, args, below, meth, c, Q, D, κ, A, nl⟩ := X
  obtain ⟨⟨hx, hb, hml, hown, hts⟩, hlk, hK, rfl, hA, rfl, rfl, rfl, rfl⟩ := E
  intro H locs ls hP hD hS hl
  exact lv_pop hx hb hdg hv (kk H locs ls hP hD hS hl)
theorem z_dup2 (E : ZE X own cc nL rm l0 D0 κ0) {v u : Value} (hv : v.category = 1) (hu : u.category = 1) (hdg : decode cc pc = .ok (.dup2, 1)) (kk : Zg X ws k n (pc + 1) lv (v :: u :: v :: u :: st)) : Zg X ws k n pc lv (v :: u :: st) := by
  obtain ⟨p, l, e, R, s, m, args, below, meth, c, Q, D, κ, A, nl⟩ := X
  obtain ⟨⟨hx, hb, hml, hown, hts⟩, hlk, hK, rfl, hA, rfl, rfl, rfl, rfl⟩ := E
  intro H locs ls hP hD hS hl
  exact lv_dup2_11 hx hb hdg hv hu (kk H locs ls hP hD hS hl)
theorem z_goto (E : ZE X own cc nL rm l0 D0 κ0) {off : Int} {tgt : Nat} (hdg : decode cc pc = .ok (.goto off, 3)) (ht : (pc : Int) + off = (tgt : Int)) (kk : Zg X ws k n tgt lv st) : Zg X ws k n pc lv st := by
  obtain ⟨p, l, e, R, s, m, args, below, meth, c, Q, D, κ, A, nl⟩ := X
  obtain ⟨⟨hx, hb, hml, hown, hts⟩, hlk, hK, rfl, hA, rfl, rfl, rfl, rfl⟩ := E
  intro H locs ls hP hD hS hl
  exact lv_goto hx hb hdg ht (kk H locs ls hP hD hS hl)
theorem z_if_eq (E : ZE X own cc nL rm l0 D0 κ0) {a : Int} {off : Int} {tgt : Nat} (ha : -2147483648 ≤ a ∧ a ≤ 2147483647) (hdg : decode cc pc = .ok (.ifCond .eq off, 3)) (ht : (pc : Int) + off = (tgt : Int)) (kt : a = 0 → Zg X ws k n tgt lv st) (kf : ¬ a = 0 → Zg X ws k n (pc + 3) lv st) : Zg X ws k n pc lv (.int (zi a) :: st) := by
  obtain ⟨p, l, e, R, s, m, args, below, meth, c, Q, D, κ, A, nl⟩ := X
  obtain ⟨⟨hx, hb, hml, hown, hts⟩, hlk, hK, rfl, hA, rfl, rfl, rfl, rfl⟩ := E
  intro H locs ls hP hD hS hl
  exact lv_if_eq hx hb hdg ht (fun h => kt ((zi_eq ha z32_0).mp h) H locs ls hP hD hS hl) (fun h => kf (fun z => h ((zi_eq ha z32_0).mpr z)) H locs ls hP hD hS hl)
theorem z_ic_eq (E : ZE X own cc nL rm l0 D0 κ0) {a b : Int} {off : Int} {tgt : Nat} (ha : -2147483648 ≤ a ∧ a ≤ 2147483647) (hbb : -2147483648 ≤ b ∧ b ≤ 2147483647) (hdg : decode cc pc = .ok (.if_icmp .eq off, 3)) (ht : (pc : Int) + off = (tgt : Int)) (kt : a = b → Zg X ws k n tgt lv st) (kf : ¬ a = b → Zg X ws k n (pc + 3) lv st) : Zg X ws k n pc lv (.int (zi b) :: .int (zi a) :: st) := by
  obtain ⟨p, l, e, R, s, m, args, below, meth, c, Q, D, κ, A, nl⟩ := X
  obtain ⟨⟨hx, hb, hml, hown, hts⟩, hlk, hK, rfl, hA, rfl, rfl, rfl, rfl⟩ := E
  intro H locs ls hP hD hS hl
  exact lv_icmp_eq hx hb hdg ht (fun h => kt ((zi_eq ha hbb).mp h) H locs ls hP hD hS hl) (fun h => kf (fun z => h ((zi_eq ha hbb).mpr z)) H locs ls hP hD hS hl)
theorem z_if_ne (E : ZE X own cc nL rm l0 D0 κ0) {a : Int} {off : Int} {tgt : Nat} (ha : -2147483648 ≤ a ∧ a ≤ 2147483647) (hdg : decode cc pc = .ok (.ifCond .ne off, 3)) (ht : (pc : Int) + off = (tgt : Int)) (kt : ¬ a = 0 → Zg X ws k n tgt lv st) (kf : a = 0 → Zg X ws k n (pc + 3) lv st) : Zg X ws k n pc lv (.int (zi a) :: st) := by
  obtain ⟨p, l, e, R, s, m, args, below, meth, c, Q, D, κ, A, nl⟩ := X
  obtain ⟨⟨hx, hb, hml, hown, hts⟩, hlk, hK, rfl, hA, rfl, rfl, rfl, rfl⟩ := E
  intro H locs ls hP hD hS hl
  exact lv_if_ne hx hb hdg ht (fun h => kt (fun z => h ((zi_eq ha z32_0).mpr z)) H locs ls hP hD hS hl) (fun h => kf ((zi_eq ha z32_0).mp h) H locs ls hP hD hS hl)
theorem z_ic_ne (E : ZE X own cc nL rm l0 D0 κ0) {a b : Int} {off : Int} {tgt : Nat} (ha : -2147483648 ≤ a ∧ a ≤ 2147483647) (hbb : -2147483648 ≤ b ∧ b ≤ 2147483647) (hdg : decode cc pc = .ok (.if_icmp .ne off, 3)) (ht : (pc : Int) + off = (tgt : Int)) (kt : ¬ a = b → Zg X ws k n tgt lv st) (kf : a = b → Zg X ws k n (pc + 3) lv st) : Zg X ws k n pc lv (.int (zi b) :: .int (zi a) :: st) := by
  obtain ⟨p, l, e, R, s, m, args, below, meth, c, Q, D, κ, A, nl⟩ := X
  obtain ⟨⟨hx, hb, hml, hown, hts⟩, hlk, hK, rfl, hA, rfl, rfl, rfl, rfl⟩ := E
  intro H locs ls hP hD hS hl
  exact lv_icmp_ne hx hb hdg ht (fun h => kt (fun z => h ((zi_eq ha hbb).mpr z)) H locs ls hP hD hS hl) (fun h => kf ((zi_eq ha hbb).mp h) H locs ls hP hD hS hl)
theorem z_if_lt (E : ZE X own cc nL rm l0 D0 κ0) {a : Int} {off : Int} {tgt : Nat} (ha : -2147483648 ≤ a ∧ a ≤ 2147483647) (hdg : decode cc pc = .ok (.ifCond .lt off, 3)) (ht : (pc : Int) + off = (tgt : Int)) (kt : a < 0 → Zg X ws k n tgt lv st) (kf : 0 ≤ a → Zg X ws k n (pc + 3) lv st) : Zg X ws k n pc lv (.int (zi a) :: st) := by
  obtain ⟨p, l, e, R, s, m, args, below, meth, c, Q, D, κ, A, nl⟩ := X
  obtain ⟨⟨hx, hb, hml, hown, hts⟩, hlk, hK, rfl, hA, rfl, rfl, rfl, rfl⟩ := E
  intro H locs ls hP hD hS hl
  exact lv_if_lt hx hb hdg ht (fun h => kt ((zi_lt ha z32_0).mp h) H locs ls hP hD hS hl) (fun h => kf (Int.not_lt.mp (fun z => h ((zi_lt ha z32_0).mpr z))) H locs ls hP hD hS hl)
theorem z_ic_lt (E : ZE X own cc nL rm l0 D0 κ0) {a b : Int} {off : Int} {tgt : Nat} (ha : -2147483648 ≤ a ∧ a ≤ 2147483647) (hbb : -2147483648 ≤ b ∧ b ≤ 2147483647) (hdg : decode cc pc = .ok (.if_icmp .lt off, 3)) (ht : (pc : Int) + off = (tgt : Int)) (kt : a < b → Zg X ws k n tgt lv st) (kf : b ≤ a → Zg X ws k n (pc + 3) lv st) : Zg X ws k n pc lv (.int (zi b) :: .int (zi a) :: st) := by
  obtain ⟨p, l, e, R, s, m, args, below, meth, c, Q, D, κ, A, nl⟩ := X
  obtain ⟨⟨hx, hb, hml, hown, hts⟩, hlk, hK, rfl, hA, rfl, rfl, rfl, rfl⟩ := E
  intro H locs ls hP hD hS hl
  exact lv_icmp_lt hx hb hdg ht (fun h => kt ((zi_lt ha hbb).mp h) H locs ls hP hD hS hl) (fun h => kf (Int.not_lt.mp (fun z => h ((zi_lt ha hbb).mpr z))) H locs ls hP hD hS hl)
theorem z_if_ge (E : ZE X own cc nL rm l0 D0 κ0) {a : Int} {off : Int} {tgt : Nat} (ha : -2147483648 ≤ a ∧ a ≤ 2147483647) (hdg : decode cc pc = .ok (.ifCond .ge off, 3)) (ht : (pc : Int) + off = (tgt : Int)) (kt : 0 ≤ a → Zg X ws k n tgt lv st) (kf : a < 0 → Zg X ws k n (pc + 3) lv st) : Zg X ws k n pc lv (.int (zi a) :: st) := by
  obtain ⟨p, l, e, R, s, m, args, below, meth, c, Q, D, κ, A, nl⟩ := X
  obtain ⟨⟨hx, hb, hml, hown, hts⟩, hlk, hK, rfl, hA, rfl, rfl, rfl, rfl⟩ := E
  intro H locs ls hP hD hS hl
  exact lv_if_ge hx hb hdg ht (fun h => kt ((zi_le z32_0 ha).mp h) H locs ls hP hD hS hl) (fun h => kf (Int.not_le.mp (fun z => h ((zi_le z32_0 ha).mpr z))) H locs ls hP hD hS hl)
theorem z_ic_ge (E : ZE X own cc nL rm l0 D0 κ0) {a b : Int} {off : Int} {tgt : Nat} (ha : -2147483648 ≤ a ∧ a ≤ 2147483647) (hbb : -2147483648 ≤ b ∧ b ≤ 2147483647) (hdg : decode cc pc = .ok (.if_icmp .ge off, 3)) (ht : (pc : Int) + off = (tgt : Int)) (kt : b ≤ a → Zg X ws k n tgt lv st) (kf : a < b → Zg X ws k n (pc + 3) lv st) : Zg X ws k n pc lv (.int (zi b) :: .int (zi a) :: st) := by
  obtain ⟨p, l, e, R, s, m, args, below, meth, c, Q, D, κ, A, nl⟩ := X
  obtain ⟨⟨hx, hb, hml, hown, hts⟩, hlk, hK, rfl, hA, rfl, rfl, rfl, rfl⟩ := E
  intro H locs ls hP hD hS hl
  exact lv_icmp_ge hx hb hdg ht (fun h => kt ((zi_le hbb ha).mp h) H locs ls hP hD hS hl) (fun h => kf (Int.not_le.mp (fun z => h ((zi_le hbb ha).mpr z))) H locs ls hP hD hS hl)
theorem z_if_gt (E : ZE X own cc nL rm l0 D0 κ0) {a : Int} {off : Int} {tgt : Nat} (ha : -2147483648 ≤ a ∧ a ≤ 2147483647) (hdg : decode cc pc = .ok (.ifCond .gt off, 3)) (ht : (pc : Int) + off = (tgt : Int)) (kt : 0 < a → Zg X ws k n tgt lv st) (kf : a ≤ 0 → Zg X ws k n (pc + 3) lv st) : Zg X ws k n pc lv (.int (zi a) :: st) := by
  obtain ⟨p, l, e, R, s, m, args, below, meth, c, Q, D, κ, A, nl⟩ := X
  obtain ⟨⟨hx, hb, hml, hown, hts⟩, hlk, hK, rfl, hA, rfl, rfl, rfl, rfl⟩ := E
  intro H locs ls hP hD hS hl
  exact lv_if_gt hx hb hdg ht (fun h => kt ((zi_lt z32_0 ha).mp h) H locs ls hP hD hS hl) (fun h => kf (Int.not_lt.mp (fun z => h ((zi_lt z32_0 ha).mpr z))) H locs ls hP hD hS hl)
theorem z_ic_gt (E : ZE X own cc nL rm l0 D0 κ0) {a b : Int} {off : Int} {tgt : Nat} (ha : -2147483648 ≤ a ∧ a ≤ 2147483647) (hbb : -2147483648 ≤ b ∧ b ≤ 2147483647) (hdg : decode cc pc = .ok (.if_icmp .gt off, 3)) (ht : (pc : Int) + off = (tgt : Int)) (kt : b < a → Zg X ws k n tgt lv st) (kf : a ≤ b → Zg X ws k n (pc + 3) lv st) : Zg X ws k n pc lv (.int (zi b) :: .int (zi a) :: st) := by
  obtain ⟨p, l, e, R, s, m, args, below, meth, c, Q, D, κ, A, nl⟩ := X
  obtain ⟨⟨hx, hb, hml, hown, hts⟩, hlk, hK, rfl, hA, rfl, rfl, rfl, rfl⟩ := E
  intro H locs ls hP hD hS hl
  exact lv_icmp_gt hx hb hdg ht (fun h => kt ((zi_lt hbb ha).mp h) H locs ls hP hD hS hl) (fun h => kf (Int.not_lt.mp (fun z => h ((zi_lt hbb ha).mpr z))) H locs ls hP hD hS hl)
theorem z_if_le (E : ZE X own cc nL rm l0 D0 κ0) {a : Int} {off : Int} {tgt : Nat} (ha : -2147483648 ≤ a ∧ a ≤ 2147483647) (hdg : decode cc pc = .ok (.ifCond .le off, 3)) (ht : (pc : Int) + off = (tgt : Int)) (kt : a ≤ 0 → Zg X ws k n tgt lv st) (kf : 0 < a → Zg X ws k n (pc + 3) lv st) : Zg X ws k n pc lv (.int (zi a) :: st) := by
  obtain ⟨p, l, e, R, s, m, args, below, meth, c, Q, D, κ, A, nl⟩ := X
  obtain ⟨⟨hx, hb, hml, hown, hts⟩, hlk, hK, rfl, hA, rfl, rfl, rfl, rfl⟩ := E
  intro H locs ls hP hD hS hl
  exact lv_if_le hx hb hdg ht (fun h => kt ((zi_le ha z32_0).mp h) H locs ls hP hD hS hl) (fun h => kf (Int.not_le.mp (fun z => h ((zi_le ha z32_0).mpr z))) H locs ls hP hD hS hl)
theorem z_ic_le (E : ZE X own cc nL rm l0 D0 κ0) {a b : Int} {off : Int} {tgt : Nat} (ha : -2147483648 ≤ a ∧ a ≤ 2147483647) (hbb : -2147483648 ≤ b ∧ b ≤ 2147483647) (hdg : decode cc pc = .ok (.if_icmp .le off, 3)) (ht : (pc : Int) + off = (tgt : Int)) (kt : a ≤ b → Zg X ws k n tgt lv st) (kf : b < a → Zg X ws k n (pc + 3) lv st) : Zg X ws k n pc lv (.int (zi b) :: .int (zi a) :: st) := by
  obtain ⟨p, l, e, R, s, m, args, below, meth, c, Q, D, κ, A, nl⟩ := X
  obtain ⟨⟨hx, hb, hml, hown, hts⟩, hlk, hK, rfl, hA, rfl, rfl, rfl, rfl⟩ := E
  intro H locs ls hP hD hS hl
  exact lv_icmp_le hx hb hdg ht (fun h => kt ((zi_le ha hbb).mp h) H locs ls hP hD hS hl) (fun h => kf (Int.not_le.mp (fun z => h ((zi_le ha hbb).mpr z))) H locs ls hP hD hS hl)
theorem z_lc_eq (E : ZE X own cc nL rm l0 D0 κ0) {a b : Int} {off : Int} {tgt : Nat} (ha : -9223372036854775808 ≤ a ∧ a ≤ 9223372036854775807) (hbb : -9223372036854775808 ≤ b ∧ b ≤ 9223372036854775807) (hdg : decode cc pc = .ok (.lcmp, 1)) (hdg2 : decode cc (pc + 1) = .ok (.ifCond .eq off, 3)) (ht : ((pc + 1 : Nat) : Int) + off = (tgt : Int)) (kt : a = b → Zg X ws k n tgt lv st) (kf : ¬ a = b → Zg X ws k n (pc + 4) lv st) : Zg X ws k n pc lv (.long (zl b) :: .long (zl a) :: st) := by
  obtain ⟨p, l, e, R, s, m, args, below, meth, c, Q, D, κ, A, nl⟩ := X
  obtain ⟨⟨hx, hb, hml, hown, hts⟩, hlk, hK, rfl, hA, rfl, rfl, rfl, rfl⟩ := E
  intro H locs ls hP hD hS hl
  exact W.lcmp hx hb hdg (lv_if_eq hx hb hdg2 ht (fun h => kt (((lg_cmp_eq _ _).trans (zl_eq ha hbb)).mp h) H locs ls hP hD hS hl) (fun h => kf (fun z => h (((lg_cmp_eq _ _).trans (zl_eq ha hbb)).mpr z)) H locs ls hP hD hS hl))
theorem z_lc_ne (E : ZE X own cc nL rm l0 D0 κ0) {a b : Int} {off : Int} {tgt : Nat} (ha : -9223372036854775808 ≤ a ∧ a ≤ 9223372036854775807) (hbb : -9223372036854775808 ≤ b ∧ b ≤ 9223372036854775807) (hdg : decode cc pc = .ok (.lcmp, 1)) (hdg2 : decode cc (pc + 1) = .ok (.ifCond .ne off, 3)) (ht : ((pc + 1 : Nat) : Int) + off = (tgt : Int)) (kt : ¬ a = b → Zg X ws k n tgt lv st) (kf : a = b → Zg X ws k n (pc + 4) lv st) : Zg X ws k n pc lv (.long (zl b) :: .long (zl a) :: st) := by
  obtain ⟨p, l, e, R, s, m, args, below, meth, c, Q, D, κ, A, nl⟩ := X
  obtain ⟨⟨hx, hb, hml, hown, hts⟩, hlk, hK, rfl, hA, rfl, rfl, rfl, rfl⟩ := E
  intro H locs ls hP hD hS hl
  exact W.lcmp hx hb hdg (lv_if_ne hx hb hdg2 ht (fun h => kt (fun z => h (((lg_cmp_eq _ _).trans (zl_eq ha hbb)).mpr z)) H locs ls hP hD hS hl) (fun h => kf (((lg_cmp_eq _ _).trans (zl_eq ha hbb)).mp h) H locs ls hP hD hS hl))
theorem z_lc_lt (E : ZE X own cc nL rm l0 D0 κ0) {a b : Int} {off : Int} {tgt : Nat} (ha : -9223372036854775808 ≤ a ∧ a ≤ 9223372036854775807) (hbb : -9223372036854775808 ≤ b ∧ b ≤ 9223372036854775807) (hdg : decode cc pc = .ok (.lcmp, 1)) (hdg2 : decode cc (pc + 1) = .ok (.ifCond .lt off, 3)) (ht : ((pc + 1 : Nat) : Int) + off = (tgt : Int)) (kt : a < b → Zg X ws k n tgt lv st) (kf : b ≤ a → Zg X ws k n (pc + 4) lv st) : Zg X ws k n pc lv (.long (zl b) :: .long (zl a) :: st) := by
  obtain ⟨p, l, e, R, s, m, args, below, meth, c, Q, D, κ, A, nl⟩ := X
  obtain ⟨⟨hx, hb, hml, hown, hts⟩, hlk, hK, rfl, hA, rfl, rfl, rfl, rfl⟩ := E
  intro H locs ls hP hD hS hl
  exact W.lcmp hx hb hdg (lv_if_lt hx hb hdg2 ht (fun h => kt (((lg_cmp_lt _ _).trans (zl_lt ha hbb)).mp h) H locs ls hP hD hS hl) (fun h => kf (Int.not_lt.mp (fun z => h (((lg_cmp_lt _ _).trans (zl_lt ha hbb)).mpr z))) H locs ls hP hD hS hl))
theorem z_lc_ge (E : ZE X own cc nL rm l0 D0 κ0) {a b : Int} {off : Int} {tgt : Nat} (ha : -9223372036854775808 ≤ a ∧ a ≤ 9223372036854775807) (hbb : -9223372036854775808 ≤ b ∧ b ≤ 9223372036854775807) (hdg : decode cc pc = .ok (.lcmp, 1)) (hdg2 : decode cc (pc + 1) = .ok (.ifCond .ge off, 3)) (ht : ((pc + 1 : Nat) : Int) + off = (tgt : Int)) (kt : b ≤ a → Zg X ws k n tgt lv st) (kf : a < b → Zg X ws k n (pc + 4) lv st) : Zg X ws k n pc lv (.long (zl b) :: .long (zl a) :: st) := by
  obtain ⟨p, l, e, R, s, m, args, below, meth, c, Q, D, κ, A, nl⟩ := X
  obtain ⟨⟨hx, hb, hml, hown, hts⟩, hlk, hK, rfl, hA, rfl, rfl, rfl, rfl⟩ := E
  intro H locs ls hP hD hS hl
  exact W.lcmp hx hb hdg (lv_if_ge hx hb hdg2 ht (fun h => kt (((lg_cmp_ge _ _).trans (zl_le hbb ha)).mp h) H locs ls hP hD hS hl) (fun h => kf (Int.not_le.mp (fun z => h (((lg_cmp_ge _ _).trans (zl_le hbb ha)).mpr z))) H locs ls hP hD hS hl))
theorem z_lc_gt (E : ZE X own cc nL rm l0 D0 κ0) {a b : Int} {off : Int} {tgt : Nat} (ha : -9223372036854775808 ≤ a ∧ a ≤ 9223372036854775807) (hbb : -9223372036854775808 ≤ b ∧ b ≤ 9223372036854775807) (hdg : decode cc pc = .ok (.lcmp, 1)) (hdg2 : decode cc (pc + 1) = .ok (.ifCond .gt off, 3)) (ht : ((pc + 1 : Nat) : Int) + off = (tgt : Int)) (kt : b < a → Zg X ws k n tgt lv st) (kf : a ≤ b → Zg X ws k n (pc + 4) lv st) : Zg X ws k n pc lv (.long (zl b) :: .long (zl a) :: st) := by
  obtain ⟨p, l, e, R, s, m, args, below, meth, c, Q, D, κ, A, nl⟩ := X
  obtain ⟨⟨hx, hb, hml, hown, hts⟩, hlk, hK, rfl, hA, rfl, rfl, rfl, rfl⟩ := E
  intro H locs ls hP hD hS hl
  exact W.lcmp hx hb hdg (lv_if_gt hx hb hdg2 ht (fun h => kt (((lg_cmp_gt _ _).trans (zl_lt hbb ha)).mp h) H locs ls hP hD hS hl) (fun h => kf (Int.not_lt.mp (fun z => h (((lg_cmp_gt _ _).trans (zl_lt hbb ha)).mpr z))) H locs ls hP hD hS hl))
theorem z_lc_le (E : ZE X own cc nL rm l0 D0 κ0) {a b : Int} {off : Int} {tgt : Nat} (ha : -9223372036854775808 ≤ a ∧ a ≤ 9223372036854775807) (hbb : -9223372036854775808 ≤ b ∧ b ≤ 9223372036854775807) (hdg : decode cc pc = .ok (.lcmp, 1)) (hdg2 : decode cc (pc + 1) = .ok (.ifCond .le off, 3)) (ht : ((pc + 1 : Nat) : Int) + off = (tgt : Int)) (kt : a ≤ b → Zg X ws k n tgt lv st) (kf : b < a → Zg X ws k n (pc + 4) lv st) : Zg X ws k n pc lv (.long (zl b) :: .long (zl a) :: st) := by
  obtain ⟨p, l, e, R, s, m, args, below, meth, c, Q, D, κ, A, nl⟩ := X
  obtain ⟨⟨hx, hb, hml, hown, hts⟩, hlk, hK, rfl, hA, rfl, rfl, rfl, rfl⟩ := E
  intro H locs ls hP hD hS hl
  exact W.lcmp hx hb hdg (lv_if_le hx hb hdg2 ht (fun h => kt (((lg_cmp_le _ _).trans (zl_le ha hbb)).mp h) H locs ls hP hD hS hl) (fun h => kf (Int.not_le.mp (fun z => h (((lg_cmp_le _ _).trans (zl_le ha hbb)).mpr z))) H locs ls hP hD hS hl))
theorem z_ifnull (E : ZE X own cc nL rm l0 D0 κ0) {x : Nat} {off : Int} (hdg : decode cc pc = .ok (.ifnull off, 3)) (kk : Zg X ws k n (pc + 3) lv st) : Zg X ws k n pc lv (.ref x :: st) := by
  obtain ⟨p, l, e, R, s, m, args, below, meth, c, Q, D, κ, A, nl⟩ := X
  obtain ⟨⟨hx, hb, hml, hown, hts⟩, hlk, hK, rfl, hA, rfl, rfl, rfl, rfl⟩ := E
  intro H locs ls hP hD hS hl
  exact lv_ifnull hx hb hdg (kk H locs ls hP hD hS hl)
theorem z_tswIn (E : ZE X own cc nL rm l0 D0 κ0) {dflt lo hi : Int} {offs : Array Int} {len : Nat} {a off : Int} {tgt : Nat} (ha : -2147483648 ≤ a ∧ a ≤ 2147483647) (hdg : decode cc pc = .ok (.tableswitch dflt lo hi offs, len)) (h1 : ¬ a < lo) (h2 : ¬ hi < a) (ho : offs[(a - lo).toNat]? = some off) (ht : (pc : Int) + off = (tgt : Int)) (kk : Zg X ws k n tgt lv st) : Zg X ws k n pc lv (.int (zi a) :: st) := by
  obtain ⟨p, l, e, R, s, m, args, below, meth, c, Q, D, κ, A, nl⟩ := X
  obtain ⟨⟨hx, hb, hml, hown, hts⟩, hlk, hK, rfl, hA, rfl, rfl, rfl, rfl⟩ := E
  intro H locs ls hP hD hS hl
  exact lv_tableIn hx hb hdg (by rw [zi_toInt ha]; exact h1) (by rw [zi_toInt ha]; exact h2) (by rw [zi_toInt ha]; exact ho) ht (kk H locs ls hP hD hS hl)
theorem z_tswOut (E : ZE X own cc nL rm l0 D0 κ0) {dflt lo hi : Int} {offs : Array Int} {len : Nat} {a : Int} {tgt : Nat} (ha : -2147483648 ≤ a ∧ a ≤ 2147483647) (hdg : decode cc pc = .ok (.tableswitch dflt lo hi offs, len)) (h : a < lo ∨ hi < a) (ht : (pc : Int) + dflt = (tgt : Int)) (kk : Zg X ws k n tgt lv st) : Zg X ws k n pc lv (.int (zi a) :: st) := by
  obtain ⟨p, l, e, R, s, m, args, below, meth, c, Q, D, κ, A, nl⟩ := X
  obtain ⟨⟨hx, hb, hml, hown, hts⟩, hlk, hK, rfl, hA, rfl, rfl, rfl, rfl⟩ := E
  intro H locs ls hP hD hS hl
  exact lv_tableOut hx hb hdg (by rw [zi_toInt ha]; exact h) ht (kk H locs ls hP hD hS hl)
def zFL (own : String) (index ci k : Nat) : Prop := ∃ (C : String) (T : u_T) (N : Nat), vwCl[ci]? = some (C, T, N) ∧ k < N ∧ (∀ w ∈ u_ws C T N, w ∈ zB) ∧ Cond.fieldLink own index (T k).1 (T k).2.1 (T k).2.2.1 ∈ zB
def zTY (ci k : Nat) (ty : FieldType) (fin : Bool) : Prop := ∃ (C : String) (T : u_T) (N : Nat) (ty0 : Nat → FieldType), vwCl[ci]? = some (C, T, N) ∧ (∀ k, k < N → parseFieldDescriptor (T k).2.2.1 = some (ty0 k)) ∧ (∀ a, a < N → ∀ b, b < N → a ≠ b → (T a).2.1 ≠ (T b).2.1) ∧ (T k).2.2.2 = fin ∧ (T k).1 = C ∧ parseFieldDescriptor (T k).2.2.1 = some ty
theorem z_get (E : ZE X own cc nL rm l0 D0 κ0) {a ci i index : Nat} {fs : List Value} {v : Value} (hf : zFL own index ci i) (q0 : Nat) (he : ws[q0]? = some (a, .inr (ci, fs))) (hv : fs[i]? = some v) (hdg : decode cc pc = .ok (.getfield index, 3)) (kk : Zg X ws k n (pc + 3) lv (v :: st)) : Zg X ws k n pc lv (.ref a :: st) := by
  obtain ⟨p, l, e, R, s, m, args, below, meth, c, Q, D, κ, A, nl⟩ := X
  obtain ⟨⟨hx, hb, hml, hown, hts⟩, hlk, hK, rfl, hA, rfl, rfl, rfl, rfl⟩ := E
  intro H locs ls hP hD hS hl
  obtain ⟨C, T, N, h1, h2, h3, h4⟩ := hf
  exact va_get hx hb hts h3 hown hK.1 hP q0 he h1 i h2 (hts _ h4) (fun _ h9 => h9) hv hdg (kk H locs ls hP hD hS hl)
theorem z_put (E : ZE X own cc nL rm l0 D0 κ0) {a ci i index : Nat} {fs : List Value} {v : Value} {ty : FieldType} {ws' : va_W} (hf : zFL own index ci i) (hty : zTY ci i ty false) (q0 : Nat) (he : ws[q0]? = some (a, .inr (ci, fs))) (hn : narrow ty v = v) (hfit : fits ty v = true) (hl0 : i < fs.length) (hws : ws.set q0 (a, .inr (ci, fs.set i v)) = ws') (hdg : decode cc pc = .ok (.putfield index, 3)) (kk : Zg X ws' k n (pc + 3) lv st) : Zg X ws k n pc lv (v :: .ref a :: st) := by
  obtain ⟨p, l, e, R, s, m, args, below, meth, c, Q, D, κ, A, nl⟩ := X
  obtain ⟨⟨hx, hb, hml, hown, hts⟩, hlk, hK, rfl, hA, rfl, rfl, rfl, rfl⟩ := E
  intro H locs ls hP hD hS hl
  obtain ⟨C, T, N, h1, h2, h3, h4⟩ := hf
  obtain ⟨C', T', N', ty0, g1, g2, g3, g4, g5, g6⟩ := hty
  cases h1.symm.trans g1
  subst hws
  exact va_put hx hb hts h3 ty0 g2 g3 hown hK.1 hP hD hS q0 he h1 i h2 (hts _ h4) (fun _ h9 => h9) g4 g6 hn hfit hl0 hdg (fun H locs hP hD hS => kk H locs ls hP hD hS hl)
theorem z_putF (E : ZE X own cc nL rm l0 D0 κ0) {a ci i index : Nat} {fs : List Value} {v : Value} {ty : FieldType} {ws' : va_W} (hini : Zini X) (hf : zFL own index ci i) (hty : zTY ci i ty true) (howner : ∀ q, vwCl[ci]? = some q → q.1 = own) (q0 : Nat) (he : ws[q0]? = some (a, .inr (ci, fs))) (hn : narrow ty v = v) (hfit : fits ty v = true) (hl0 : i < fs.length) (hws : ws.set q0 (a, .inr (ci, fs.set i v)) = ws') (hdg : decode cc pc = .ok (.putfield index, 3)) (kk : Zg X ws' k n (pc + 3) lv st) : Zg X ws k n pc lv (v :: .ref a :: st) := by
  obtain ⟨p, l, e, R, s, m, args, below, meth, c, Q, D, κ, A, nl⟩ := X
  obtain ⟨⟨hx, hb, hml, hown, hts⟩, hlk, hK, rfl, hA, rfl, rfl, rfl, rfl⟩ := E
  intro H locs ls hP hD hS hl
  obtain ⟨C, T, N, h1, h2, h3, h4⟩ := hf
  obtain ⟨C', T', N', ty0, g1, g2, g3, g4, g5, g6⟩ := hty
  cases h1.symm.trans g1
  subst hws
  have ho := howner _ h1
  exact va_putF hx hb hts h3 ty0 g2 g3 hown hK.1 hP hD hS q0 he h1 i h2 (hts _ h4) (fun _ h9 => h9) g4 hini (g5.trans ho) g6 hn hfit hl0 hdg (fun H locs hP hD hS => kk H locs ls hP hD hS hl)
theorem z_iald (E : ZE X own cc nL rm l0 D0 κ0) {a N : Nat} {f : Int → Int} {i : Int} (q0 : Nat) (he : ws[q0]? = some (a, ai κ0 N f)) (hN : N ≤ 2147483647) (h0 : 0 ≤ i) (h1 : i < (N : Int)) (hdg : decode cc pc = .ok (.iaload, 1)) (kk : Zg X ws k n (pc + 1) lv (.int (zi (f i)) :: st)) : Zg X ws k n pc lv (.int (zi i) :: .ref a :: st) := by
  obtain ⟨p, l, e, R, s, m, args, below, meth, c, Q, D, κ, A, nl⟩ := X
  obtain ⟨⟨hx, hb, hml, hown, hts⟩, hlk, hK, rfl, hA, rfl, rfl, rfl, rfl⟩ := E
  intro H locs ls hP hD hS hl
  have hc := zi_clamp h0 (by omega)
  refine va_iald hx hb hK.1 hP q0 0 he rfl (zi_in h0 h1 hN) hdg ?_
  show W p l e R s m args below meth c H locs k n Q (F0 m (pc + 1) ls (.int (zi (f (((zi i).toNatClampNeg : Nat) : Int))) :: st))
  rw [hc]
  exact kk H locs ls hP hD hS hl
theorem z_cald (E : ZE X own cc nL rm l0 D0 κ0) {a N : Nat} {f : Int → Int} {i : Int} (q0 : Nat) (he : ws[q0]? = some (a, ac κ0 N f)) (hN : N ≤ 2147483647) (h0 : 0 ≤ i) (h1 : i < (N : Int)) (hdg : decode cc pc = .ok (.caload, 1)) (kk : Zg X ws k n (pc + 1) lv (.int (zi (f i)) :: st)) : Zg X ws k n pc lv (.int (zi i) :: .ref a :: st) := by
  obtain ⟨p, l, e, R, s, m, args, below, meth, c, Q, D, κ, A, nl⟩ := X
  obtain ⟨⟨hx, hb, hml, hown, hts⟩, hlk, hK, rfl, hA, rfl, rfl, rfl, rfl⟩ := E
  intro H locs ls hP hD hS hl
  have hc := zi_clamp h0 (by omega)
  refine va_cald hx hb hK.1 hP q0 2 he rfl (zi_in h0 h1 hN) hdg ?_
  show W p l e R s m args below meth c H locs k n Q (F0 m (pc + 1) ls (.int (zi (f (((zi i).toNatClampNeg : Nat) : Int))) :: st))
  rw [hc]
  exact kk H locs ls hP hD hS hl
theorem z_lald (E : ZE X own cc nL rm l0 D0 κ0) {a N : Nat} {f : Int → Int} {i : Int} (q0 : Nat) (he : ws[q0]? = some (a, al κ0 N f)) (hN : N ≤ 2147483647) (h0 : 0 ≤ i) (h1 : i < (N : Int)) (hdg : decode cc pc = .ok (.laload, 1)) (kk : Zg X ws k n (pc + 1) lv (.long (zl (f i)) :: st)) : Zg X ws k n pc lv (.int (zi i) :: .ref a :: st) := by
  obtain ⟨p, l, e, R, s, m, args, below, meth, c, Q, D, κ, A, nl⟩ := X
  obtain ⟨⟨hx, hb, hml, hown, hts⟩, hlk, hK, rfl, hA, rfl, rfl, rfl, rfl⟩ := E
  intro H locs ls hP hD hS hl
  have hc := zi_clamp h0 (by omega)
  refine va_lald hx hb hK.1 hP q0 1 he rfl (zi_in h0 h1 hN) hdg ?_
  show W p l e R s m args below meth c H locs k n Q (F0 m (pc + 1) ls (.long (zl (f (((zi i).toNatClampNeg : Nat) : Int))) :: st))
  rw [hc]
  exact kk H locs ls hP hD hS hl
theorem z_iast (E : ZE X own cc nL rm l0 D0 κ0) {a N : Nat} {f : Int → Int} {i v : Int} {ws' : va_W} (q0 : Nat) (he : ws[q0]? = some (a, ai κ0 N f)) (hN : N ≤ 2147483647) (h0 : 0 ≤ i) (h1 : i < (N : Int)) (hws : ws.set q0 (a, ai κ0 N (zu f i v)) = ws') (hdg : decode cc pc = .ok (.iastore, 1)) (kk : Zg X ws' k n (pc + 1) lv st) : Zg X ws k n pc lv (.int (zi v) :: .int (zi i) :: .ref a :: st) := by
  obtain ⟨p, l, e, R, s, m, args, below, meth, c, Q, D, κ, A, nl⟩ := X
  obtain ⟨⟨hx, hb, hml, hown, hts⟩, hlk, hK, rfl, hA, rfl, rfl, rfl, rfl⟩ := E
  intro H locs ls hP hD hS hl
  refine va_iast hx hb hK.1 hP hD hS q0 0 he rfl (zi_in h0 h1 hN) hdg (fun H locs hP hD hS => ?_)
  rw [zu_clampi h0 (by omega)] at hP hD
  subst hws
  exact kk H locs ls hP hD hS hl
theorem z_last (E : ZE X own cc nL rm l0 D0 κ0) {a N : Nat} {f : Int → Int} {i v : Int} {ws' : va_W} (q0 : Nat) (he : ws[q0]? = some (a, al κ0 N f)) (hN : N ≤ 2147483647) (h0 : 0 ≤ i) (h1 : i < (N : Int)) (hws : ws.set q0 (a, al κ0 N (zu f i v)) = ws') (hdg : decode cc pc = .ok (.lastore, 1)) (kk : Zg X ws' k n (pc + 1) lv st) : Zg X ws k n pc lv (.long (zl v) :: .int (zi i) :: .ref a :: st) := by
  obtain ⟨p, l, e, R, s, m, args, below, meth, c, Q, D, κ, A, nl⟩ := X
  obtain ⟨⟨hx, hb, hml, hown, hts⟩, hlk, hK, rfl, hA, rfl, rfl, rfl, rfl⟩ := E
  intro H locs ls hP hD hS hl
  refine va_last hx hb hK.1 hP hD hS q0 1 he rfl (zi_in h0 h1 hN) hdg (fun H locs hP hD hS => ?_)
  rw [zu_clampl h0 (by omega)] at hP hD
  subst hws
  exact kk H locs ls hP hD hS hl
theorem z_cast (E : ZE X own cc nL rm l0 D0 κ0) {a N : Nat} {f : Int → Int} {i v : Int} {ws' : va_W} (q0 : Nat) (he : ws[q0]? = some (a, ac κ0 N f)) (hN : N ≤ 2147483647) (h0 : 0 ≤ i) (h1 : i < (N : Int)) (hv : 0 ≤ v ∧ v < 65536) (hws : ws.set q0 (a, ac κ0 N (zu f i v)) = ws') (hdg : decode cc pc = .ok (.castore, 1)) (kk : Zg X ws' k n (pc + 1) lv st) : Zg X ws k n pc lv (.int (zi v) :: .int (zi i) :: .ref a :: st) := by
  obtain ⟨p, l, e, R, s, m, args, below, meth, c, Q, D, κ, A, nl⟩ := X
  obtain ⟨⟨hx, hb, hml, hown, hts⟩, hlk, hK, rfl, hA, rfl, rfl, rfl, rfl⟩ := E
  intro H locs ls hP hD hS hl
  refine va_cast hx hb hK.1 hP hD hS q0 2 he rfl (zi_in h0 h1 hN) hdg (fun H locs hP hD hS => ?_)
  rw [vp_nar_char, zi_char16 hv, zu_clampi h0 (by omega)] at hP hD
  subst hws
  exact kk H locs ls hP hD hS hl
theorem z_aald (E : ZE X own cc nL rm l0 D0 κ0) {a N : Nat} {f : Int → Option Nat} {i : Int} {v : Nat} (q0 : Nat) (he : ws[q0]? = some (a, ar κ0 N f)) (hN : N ≤ 2147483647) (h0 : 0 ≤ i) (h1 : i < (N : Int)) (hv : f i = some v) (hdg : decode cc pc = .ok (.aaload, 1)) (kk : Zg X ws k n (pc + 1) lv (.ref v :: st)) : Zg X ws k n pc lv (.int (zi i) :: .ref a :: st) := by
  obtain ⟨p, l, e, R, s, m, args, below, meth, c, Q, D, κ, A, nl⟩ := X
  obtain ⟨⟨hx, hb, hml, hown, hts⟩, hlk, hK, rfl, hA, rfl, rfl, rfl, rfl⟩ := E
  intro H locs ls hP hD hS hl
  have hc := zi_clamp h0 (by omega)
  refine va_aldq hx hb hK.1 hP q0 3 he rfl (zi_in h0 h1 hN) hdg ?_
  show W p l e R s m args below meth c H locs k n Q (F0 m (pc + 1) ls (va_rf (f (((zi i).toNatClampNeg : Nat) : Int)) :: st))
  rw [hc, hv]
  exact kk H locs ls hP hD hS hl
theorem z_aast (E : ZE X own cc nL rm l0 D0 κ0) {a N v : Nat} {f : Int → Option Nat} {i : Int} {vs : List Value} {ws' : va_W} (q0 qk : Nat) (he : ws[q0]? = some (a, ar κ0 N f)) (hk : ws[qk]? = some (v, .inr (6, vs))) (hN : N ≤ 2147483647) (h0 : 0 ≤ i) (h1 : i < (N : Int)) (hws : ws.set q0 (a, ar κ0 N (zu f i (some v))) = ws') (hdg : decode cc pc = .ok (.aastore, 1)) (kk : Zg X ws' k n (pc + 1) lv st) : Zg X ws k n pc lv (.ref v :: .int (zi i) :: .ref a :: st) := by
  obtain ⟨p, l, e, R, s, m, args, below, meth, c, Q, D, κ, A, nl⟩ := X
  obtain ⟨⟨hx, hb, hml, hown, hts⟩, hlk, hK, rfl, hA, rfl, rfl, rfl, rfl⟩ := E
  intro H locs ls hP hD hS hl
  refine va_astq hx hb hK.1 hP hD hS q0 3 qk 6 he rfl hk rfl (zi_in h0 h1 hN) hdg (fun H locs hP hD hS => ?_)
  rw [zu_clampr h0 (by omega)] at hP hD
  subst hws
  exact kk H locs ls hP hD hS hl
theorem z_alen_ai (E : ZE X own cc nL rm l0 D0 κ0) {a N : Nat} {f : Int → Int} (q0 : Nat) (he : ws[q0]? = some (a, ai κ0 N f)) (hdg : decode cc pc = .ok (.arraylength, 1)) (kk : Zg X ws k n (pc + 1) lv (.int (zi (N : Int)) :: st)) : Zg X ws k n pc lv (.ref a :: st) := by
  obtain ⟨p, l, e, R, s, m, args, below, meth, c, Q, D, κ, A, nl⟩ := X
  obtain ⟨⟨hx, hb, hml, hown, hts⟩, hlk, hK, rfl, hA, rfl, rfl, rfl, rfl⟩ := E
  intro H locs ls hP hD hS hl
  exact va_alen (ty := .int) hx hb hK.1 hP q0 0 he rfl (v := zi (N : Int)) (zi_nat N).symm hdg (kk H locs ls hP hD hS hl)
theorem z_alen_al (E : ZE X own cc nL rm l0 D0 κ0) {a N : Nat} {f : Int → Int} (q0 : Nat) (he : ws[q0]? = some (a, al κ0 N f)) (hdg : decode cc pc = .ok (.arraylength, 1)) (kk : Zg X ws k n (pc + 1) lv (.int (zi (N : Int)) :: st)) : Zg X ws k n pc lv (.ref a :: st) := by
  obtain ⟨p, l, e, R, s, m, args, below, meth, c, Q, D, κ, A, nl⟩ := X
  obtain ⟨⟨hx, hb, hml, hown, hts⟩, hlk, hK, rfl, hA, rfl, rfl, rfl, rfl⟩ := E
  intro H locs ls hP hD hS hl
  exact va_alen (ty := .long) hx hb hK.1 hP q0 1 he rfl (v := zi (N : Int)) (zi_nat N).symm hdg (kk H locs ls hP hD hS hl)
theorem z_alen_ac (E : ZE X own cc nL rm l0 D0 κ0) {a N : Nat} {f : Int → Int} (q0 : Nat) (he : ws[q0]? = some (a, ac κ0 N f)) (hdg : decode cc pc = .ok (.arraylength, 1)) (kk : Zg X ws k n (pc + 1) lv (.int (zi (N : Int)) :: st)) : Zg X ws k n pc lv (.ref a :: st) := by
  obtain ⟨p, l, e, R, s, m, args, below, meth, c, Q, D, κ, A, nl⟩ := X
  obtain ⟨⟨hx, hb, hml, hown, hts⟩, hlk, hK, rfl, hA, rfl, rfl, rfl, rfl⟩ := E
  intro H locs ls hP hD hS hl
  exact va_alen (ty := .char) hx hb hK.1 hP q0 2 he rfl (v := zi (N : Int)) (zi_nat N).symm hdg (kk H locs ls hP hD hS hl)
theorem z_alen_ar (E : ZE X own cc nL rm l0 D0 κ0) {a N : Nat} {f : Int → Option Nat} (q0 : Nat) (he : ws[q0]? = some (a, ar κ0 N f)) (hdg : decode cc pc = .ok (.arraylength, 1)) (kk : Zg X ws k n (pc + 1) lv (.int (zi (N : Int)) :: st)) : Zg X ws k n pc lv (.ref a :: st) := by
  obtain ⟨p, l, e, R, s, m, args, below, meth, c, Q, D, κ, A, nl⟩ := X
  obtain ⟨⟨hx, hb, hml, hown, hts⟩, hlk, hK, rfl, hA, rfl, rfl, rfl, rfl⟩ := E
  intro H locs ls hP hD hS hl
  exact va_alen (ty := .object RX6) hx hb hK.1 hP q0 3 he rfl (v := zi (N : Int)) (zi_nat N).symm hdg (kk H locs ls hP hD hS hl)
theorem z_newa_ai (E : ZE X own cc nL rm l0 D0 κ0) {N : Nat} (hN : N ≤ 65536) (har : Cond.arrayClass .int ∈ zB) (hc : k + 1 ≤ rm.cells) (hsl : n + N ≤ rm.slots) (hdg : decode cc pc = .ok (.newarray .int, 2)) (kk : ∀ q : Nat, Zg X (ws ++ [(q, ai κ0 N (fun _ => 0))]) (k + 1) (n + N) (pc + 2) lv (.ref q :: st)) : Zg X ws k n pc lv (.int (zi (N : Int)) :: st) := by
  obtain ⟨p, l, e, R, s, m, args, below, meth, c, Q, D, κ, A, nl⟩ := X
  obtain ⟨⟨hx, hb, hml, hown, hts⟩, hlk, hK, rfl, hA, rfl, rfl, rfl, rfl⟩ := E
  intro H locs ls hP hD hS hl
  refine va_newa (atype := .int) (ty := .int) (N' := N) (a0 := (N, .inl (fun _ => 0))) hx hb (hts _ har) rfl hK.1 hP hD hS hA (fun _ => rfl) (zi_nn (by omega) (by omega)) (zi_clampN (by omega)) (by simp only [componentBytes]; omega) hc hsl hdg (fun q cA H1 hK1 hP hD hS => ?_)
  have e1 := (hK1.2 4 (cA, .int) rfl).2
  have e2 := (hK.1.2 0 (κ 0, .int) rfl).2
  have e3 : cA = κ 0 := Option.some.inj (e1.symm.trans e2)
  subst e3
  exact kk q H1 locs ls hP hD hS hl
theorem z_newa_al (E : ZE X own cc nL rm l0 D0 κ0) {N : Nat} (hN : N ≤ 65536) (har : Cond.arrayClass .long ∈ zB) (hc : k + 1 ≤ rm.cells) (hsl : n + N ≤ rm.slots) (hdg : decode cc pc = .ok (.newarray .long, 2)) (kk : ∀ q : Nat, Zg X (ws ++ [(q, al κ0 N (fun _ => 0))]) (k + 1) (n + N) (pc + 2) lv (.ref q :: st)) : Zg X ws k n pc lv (.int (zi (N : Int)) :: st) := by
  obtain ⟨p, l, e, R, s, m, args, below, meth, c, Q, D, κ, A, nl⟩ := X
  obtain ⟨⟨hx, hb, hml, hown, hts⟩, hlk, hK, rfl, hA, rfl, rfl, rfl, rfl⟩ := E
  intro H locs ls hP hD hS hl
  refine va_newa (atype := .long) (ty := .long) (N' := N) (a0 := (N, .inr (.inl (fun _ => 0)))) hx hb (hts _ har) rfl hK.1 hP hD hS hA (fun _ => rfl) (zi_nn (by omega) (by omega)) (zi_clampN (by omega)) (by simp only [componentBytes]; omega) hc hsl hdg (fun q cA H1 hK1 hP hD hS => ?_)
  have e1 := (hK1.2 4 (cA, .long) rfl).2
  have e2 := (hK.1.2 1 (κ 1, .long) rfl).2
  have e3 : cA = κ 1 := Option.some.inj (e1.symm.trans e2)
  subst e3
  exact kk q H1 locs ls hP hD hS hl
theorem z_newa_ac (E : ZE X own cc nL rm l0 D0 κ0) {N : Nat} (hN : N ≤ 65536) (har : Cond.arrayClass .char ∈ zB) (hc : k + 1 ≤ rm.cells) (hsl : n + N ≤ rm.slots) (hdg : decode cc pc = .ok (.newarray .char, 2)) (kk : ∀ q : Nat, Zg X (ws ++ [(q, ac κ0 N (fun _ => 0))]) (k + 1) (n + N) (pc + 2) lv (.ref q :: st)) : Zg X ws k n pc lv (.int (zi (N : Int)) :: st) := by
  obtain ⟨p, l, e, R, s, m, args, below, meth, c, Q, D, κ, A, nl⟩ := X
  obtain ⟨⟨hx, hb, hml, hown, hts⟩, hlk, hK, rfl, hA, rfl, rfl, rfl, rfl⟩ := E
  intro H locs ls hP hD hS hl
  refine va_newa (atype := .char) (ty := .char) (N' := N) (a0 := (N, .inl (fun _ => 0))) hx hb (hts _ har) rfl hK.1 hP hD hS hA (fun _ => rfl) (zi_nn (by omega) (by omega)) (zi_clampN (by omega)) (by simp only [componentBytes]; omega) hc hsl hdg (fun q cA H1 hK1 hP hD hS => ?_)
  have e1 := (hK1.2 4 (cA, .char) rfl).2
  have e2 := (hK.1.2 2 (κ 2, .char) rfl).2
  have e3 : cA = κ 2 := Option.some.inj (e1.symm.trans e2)
  subst e3
  exact kk q H1 locs ls hP hD hS hl
theorem z_newq (E : ZE X own cc nL rm l0 D0 κ0) {N index : Nat} (hN : N ≤ 65536) (hcl : Cond.classLink own index RX6 ∈ zB) (hc : k + 1 ≤ rm.cells) (hsl : n + N ≤ rm.slots) (hdg : decode cc pc = .ok (.anewarray index, 3)) (kk : ∀ q : Nat, Zg X (ws ++ [(q, ar κ0 N (fun _ => none))]) (k + 1) (n + N) (pc + 3) lv (.ref q :: st)) : Zg X ws k n pc lv (.int (zi (N : Int)) :: st) := by
  obtain ⟨p, l, e, R, s, m, args, below, meth, c, Q, D, κ, A, nl⟩ := X
  obtain ⟨⟨hx, hb, hml, hown, hts⟩, hlk, hK, rfl, hA, rfl, rfl, rfl, rfl⟩ := E
  intro H locs ls hP hD hS hl
  refine va_newq (N' := N) hx hb hown (hts _ hcl) hK.2.2 hK.1 hP hD hS hA (zi_nn (by omega) (by omega)) (zi_clampN (by omega)) (by omega) hc hsl hdg (fun q cA H1 hK1 hP hD hS => ?_)
  obtain ⟨kA, comp, -, -, -, e1⟩ := (hK1.2 4 (cA, .object RX6) rfl).2
  obtain ⟨kB, comp', -, -, -, e2⟩ := (hK.1.2 3 (κ 3, .object RX6) rfl).2
  have e3 : cA = κ 3 := Option.some.inj (e1.symm.trans e2)
  subst e3
  exact kk q H1 locs ls hP hD hS hl
def zNW (own : String) (index ci : Nat) (fs : List Value) (N : Nat) : Prop := ∃ (C : String) (T : u_T) (ty : Nat → FieldType), vwCl[ci]? = some (C, T, N) ∧ (∀ w ∈ u_ws C T N, w ∈ zB) ∧ (∀ k, k < N → parseFieldDescriptor (T k).2.2.1 = some (ty k)) ∧ Cond.classLink own index C ∈ zB ∧ Cond.instantiable C N ∈ zB ∧ Cond.initialized C ∈ zB ∧ (∀ j, j < N → defaultValue (ty j) = vp_V fs j)
theorem z_new (E : ZE X own cc nL rm l0 D0 κ0) {ci index N : Nat} {fs : List Value} (hw : zNW own index ci fs N) (hc : k + 1 ≤ rm.cells) (hsl : n + N ≤ rm.slots) (hdg : decode cc pc = .ok (.new index, 3)) (kk : ∀ q : Nat, Zg X (ws ++ [(q, .inr (ci, fs))]) (k + 1) (n + N) (pc + 3) lv (.ref q :: st)) : Zg X ws k n pc lv st := by
  obtain ⟨p, l, e, R, s, m, args, below, meth, c, Q, D, κ, A, nl⟩ := X
  obtain ⟨⟨hx, hb, hml, hown, hts⟩, hlk, hK, rfl, hA, rfl, rfl, rfl, rfl⟩ := E
  intro H locs ls hP hD hS hl
  obtain ⟨C, T, ty, h1, h2, h3, h4, h5, h6, h7⟩ := hw
  exact va_new hx hb hts h2 ty h3 hown (hts _ h4) (hts _ h5) (hts _ h6) hK.1 hP hD hS hA h1 h7 hc hsl hdg (fun q H1 hP hD hS => kk q H1 locs ls hP hD hS hl)
theorem z_objInit (E : ZE X own cc nL rm l0 D0 κ0) {a index : Nat} (hm : Cond.methodLink own index objectInit ∈ zB) (hi : Cond.instanceMethod objectInit ∈ zB) (hco : Cond.code objectInit ⟨#[0xb1]⟩ 1 none ∈ zB) (hf : 1 ≤ rm.frames) (hlo : (st.map fun v => v.category).sum + 12 ≤ rm.locals) (hdg : decode cc pc = .ok (.invokespecial index, 3)) (kk : Zg X ws k n (pc + 3) lv st) : Zg X ws k n pc lv (.ref a :: st) := by
  obtain ⟨p, l, e, R, s, m, args, below, meth, c, Q, D, κ, A, nl⟩ := X
  obtain ⟨⟨hx, hb, hml, hown, hts⟩, hlk, hK, rfl, hA, rfl, rfl, rfl, rfl⟩ := E
  intro H locs ls hP hD hS hl
  exact W.objInit hx hb hown (hts _ hm) (hts _ hi) (hts _ hco) rfl (by rw [hml]; exact hl.1) rfl hdg hf (by show 2 * 0 + _ + 12 ≤ _; omega) (kk H locs ls hP hD hS hl)
theorem z_labs (E : ZE X own cc nL rm l0 D0 κ0) {a : Int} {index : Nat} (ha : -9223372036854775808 ≤ a ∧ a ≤ 9223372036854775807) (h1 : Cond.methodLink own index Lib.MathLoose.abs_long.x ∈ zB) (h2 : Cond.static Lib.MathLoose.abs_long.x ∈ zB) (h3 : Cond.initialized "java/lang/Math" ∈ zB) (h4 : Cond.code Lib.MathLoose.abs_long.x Lib.MathLoose.abs_long.code 2 (some .long) ∈ zB) (hf : 1 ≤ rm.frames) (hlo : (st.map fun v => v.category).sum + 13 ≤ rm.locals) (hc : k ≤ rm.cells) (hsl : n ≤ rm.slots) (hdg : decode cc pc = .ok (.invokestatic index, 3)) (kk : Zg X ws k n (pc + 3) lv (.long (zl (zabs a)) :: st)) : Zg X ws k n pc lv (.long (zl a) :: st) := by
  obtain ⟨p, l, e, R, s, m, args, below, meth, c, Q, D, κ, A, nl⟩ := X
  obtain ⟨⟨hx, hb, hml, hown, hts⟩, hlk, hK, rfl, hA, rfl, rfl, rfl, rfl⟩ := E
  intro H locs ls hP hD hS hl
  exact va_mabs_long hx hb (by rw [hml]; exact hl.1.symm) hown (hts _ h1) (hts _ h2) (hts _ h3) (hts _ h4) hf hlo hc hsl hdg (by rw [zl_abs ha]; exact kk H locs ls hP hD hS hl)
theorem z_imax (E : ZE X own cc nL rm l0 D0 κ0) {a b : Int} {index : Nat} (ha : -2147483648 ≤ a ∧ a ≤ 2147483647) (hbb : -2147483648 ≤ b ∧ b ≤ 2147483647) (h1 : Cond.methodLink own index Lib.Math.max.name ∈ zB) (h2 : Cond.static Lib.Math.max.name ∈ zB) (h3 : Cond.initialized "java/lang/Math" ∈ zB) (h4 : Cond.code Lib.Math.max.name Lib.Math.max.code 2 (some .int) ∈ zB) (hf : 1 ≤ rm.frames) (hlo : (st.map fun v => v.category).sum + 13 ≤ rm.locals) (hc : k ≤ rm.cells) (hsl : n ≤ rm.slots) (hdg : decode cc pc = .ok (.invokestatic index, 3)) (kk : Zg X ws k n (pc + 3) lv (.int (zi (if a < b then b else a)) :: st)) : Zg X ws k n pc lv (.int (zi b) :: .int (zi a) :: st) := by
  obtain ⟨p, l, e, R, s, m, args, below, meth, c, Q, D, κ, A, nl⟩ := X
  obtain ⟨⟨hx, hb, hml, hown, hts⟩, hlk, hK, rfl, hA, rfl, rfl, rfl, rfl⟩ := E
  intro H locs ls hP hD hS hl
  exact va_mmax hx hb (by rw [hml]; exact hl.1.symm) hown (hts _ h1) (hts _ h2) (hts _ h3) (hts _ h4) hf hlo hc hsl hdg (by rw [zi_max ha hbb]; exact kk H locs ls hP hD hS hl)
end ZROWS
end
section
/-! ===== Z-LAYER 3: entering a contract, calling by a contract ===== -/
theorem zOfW {l : Launch} {y : MethodName} {ws ws' : List Cond} {rm : Room} {Pc : Array Value → State → Prop} {Qc : Array Value → State → Outcome → State → Prop} {mc ms : Nat} {free : Addr → Prop} {cc : ByteArray} {maxL : Nat} {ret : Option FieldType}
    (hy : plainFor y = true) (hw : ws = Cond.code y cc maxL ret :: ws')
    (body : ∀ p e s m args below meth c s₁, BodyLoose p l y (headSpec ws rm) cc maxL ret e s m args below meth c s₁ → c.maxLocals = maxL → Pc args s →
      W p l e (headSpec ws rm).room s m args below meth c s.heap [] 0 0 (MQ below Qc args s mc ms free) (entryFrame m args maxL)) : Met l y ws rm Pc Qc mc ms free := by
  refine MetFree.of_bodySF (code := cc) (maxLocals := maxL) (ret := ret) hy ?_ ?_
  · intro args s m h hn
    obtain ⟨meth, c, h1, h2, h3, h4, h5, h6, -, -⟩ := Cond.code_spec hn (atoms_spec (ws := ws) h _ (by rw [hw]; exact List.mem_cons_self))
    exact ⟨meth, c, h1, h2, h3, h4, h5, h6⟩
  · intro p e s m args below meth c s₁ B hml hP _
    have hh0 : s₁.heap = s.heap := by rw [B.state]; rfl
    obtain ⟨t, a1, o, b1, b2, b3⟩ := body p e s m args below meth c s₁ B hml hP s₁ hh0 (Stand.of_body B)
    exact ⟨t, o, a1, b1, b2, ⟨b3.1, b3.2⟩⟩
section ZENTER
variable {l : Launch} {y : MethodName} {cc : ByteArray} {nL : Nat} {rmm : Room} {D : va_G} {κ : Nat → ClassId} {av : List Value} {w0 : va_W} {own : String}
theorem ZI.enter {ret : FieldType} {Q : Int → va_W → Prop} (ho : y.cls = own) (hy : plainFor y = true) (hlen : (lg_sl av).length ≤ nL)
    (body : ∀ X : zX, ZE X own cc nL rmm l D κ → (∀ (ws : va_W) (pc : Nat) (lv : List (Nat × Value)) (z : Int), narrow ret (.int (zi z)) = .int (zi z) → Q z ws → decode cc pc = .ok (.ireturn, 1) → Zg X ws rmm.cells rmm.slots pc lv [.int (zi z)]) → Zg X w0 0 0 0 (lv_args 0 av) []) : ZI l y cc nL ret rmm D κ av w0 Q := by
  intro sz
  refine zOfW (cc := cc) (maxL := nL) (ret := some ret) hy rfl ?_
  intro p e s m args below meth c s₁ B hml hv
  obtain ⟨rfl, hsz, hP, hK, hD0⟩ := hv
  have hx := B.exec
  have hb := B.bytes
  have hr := B.returns
  have hts := atoms_spec (ws := zw y cc nL (some ret)) B.pre
  have hown : s.vm.findClass y.cls = some m.cls := findClass_of_methodNamed B.named
  have hlocks := B.notSynchronized
  subst hsz
  subst ho
  have hD := hD0.self (sz := s.heap.size)
  have hA : ∀ q : Nat, s.heap.size ≤ q → va_A w0 s.heap.size q := fun q h => Or.inr h
  have hl := lv_entry av (n := nL) hlen
  rw [lg_entry_eq]
  refine body (p, l, e, rmm, s, m, av.toArray, below, meth, c, _, D, κ, va_A w0 s.heap.size, nL) ⟨⟨hx, hb, hml, hown, fun w hw => hts w (List.mem_cons_of_mem _ hw)⟩, hlocks, hK, rfl, hA, rfl, rfl, rfl, rfl⟩ ?_ s.heap [] _ hP hD va_S.rf hl
  intro ws pc lv z hn hq hdg H locs ls hP hD hS hl
  exact W.zret hx hb hr hn (fun t ht hW => ⟨⟨_, ws, rfl, ⟨z, rfl, hq⟩, by rw [ht]; exact hP, hD⟩, hS.F ht⟩) hS.2.2 hdg hlocks
theorem ZL.enter {Q : Int → va_W → Prop} (ho : y.cls = own) (hy : plainFor y = true) (hlen : (lg_sl av).length ≤ nL)
    (body : ∀ X : zX, ZE X own cc nL rmm l D κ → (∀ (ws : va_W) (pc : Nat) (lv : List (Nat × Value)) (z : Int), Q z ws → decode cc pc = .ok (.lreturn, 1) → Zg X ws rmm.cells rmm.slots pc lv [.long (zl z)]) → Zg X w0 0 0 0 (lv_args 0 av) []) : ZL l y cc nL rmm D κ av w0 Q := by
  intro sz
  refine zOfW (cc := cc) (maxL := nL) (ret := some .long) hy rfl ?_
  intro p e s m args below meth c s₁ B hml hv
  obtain ⟨rfl, hsz, hP, hK, hD0⟩ := hv
  have hx := B.exec
  have hb := B.bytes
  have hr := B.returns
  have hts := atoms_spec (ws := zw y cc nL (some .long)) B.pre
  have hown : s.vm.findClass y.cls = some m.cls := findClass_of_methodNamed B.named
  have hlocks := B.notSynchronized
  subst hsz
  subst ho
  have hD := hD0.self (sz := s.heap.size)
  have hA : ∀ q : Nat, s.heap.size ≤ q → va_A w0 s.heap.size q := fun q h => Or.inr h
  have hl := lv_entry av (n := nL) hlen
  rw [lg_entry_eq]
  refine body (p, l, e, rmm, s, m, av.toArray, below, meth, c, _, D, κ, va_A w0 s.heap.size, nL) ⟨⟨hx, hb, hml, hown, fun w hw => hts w (List.mem_cons_of_mem _ hw)⟩, hlocks, hK, rfl, hA, rfl, rfl, rfl, rfl⟩ ?_ s.heap [] _ hP hD va_S.rf hl
  intro ws pc lv z hq hdg H locs ls hP hD hS hl
  exact W.lret hx hb hr (fun t ht hW => ⟨⟨_, ws, rfl, ⟨z, rfl, hq⟩, by rw [ht]; exact hP, hD⟩, hS.F ht⟩) hS.2.2 hdg hlocks
theorem ZV.enter0 {Q : va_W → Prop} (ho : y.cls = own) (hy : plainFor y = true) (hlen : (lg_sl av).length ≤ nL)
    (body : ∀ X : zX, ZE X own cc nL rmm l D κ → (y.name = "<init>" → Zini X) → (∀ (ws : va_W) (pc : Nat) (lv : List (Nat × Value)), Q ws → decode cc pc = .ok (.return_, 1) → Zg X ws rmm.cells rmm.slots pc lv []) → Zg X w0 0 0 0 (lv_args 0 av) []) : ZV l y cc nL rmm D κ av w0 Q := by
  intro sz
  refine zOfW (cc := cc) (maxL := nL) (ret := none) hy rfl ?_
  intro p e s m args below meth c s₁ B hml hv
  obtain ⟨rfl, hsz, hP, hK, hD0⟩ := hv
  have hx := B.exec
  have hb := B.bytes
  have hr := B.returns
  have hts := atoms_spec (ws := zw y cc nL none) B.pre
  have hown : s.vm.findClass y.cls = some m.cls := findClass_of_methodNamed B.named
  have hlocks := B.notSynchronized
  have hname := (name_of_methodNamed B.named B.method).1
  subst hsz
  subst ho
  have hD := hD0.self (sz := s.heap.size)
  have hA : ∀ q : Nat, s.heap.size ≤ q → va_A w0 s.heap.size q := fun q h => Or.inr h
  have hl := lv_entry av (n := nL) hlen
  rw [lg_entry_eq]
  refine body (p, l, e, rmm, s, m, av.toArray, below, meth, c, _, D, κ, va_A w0 s.heap.size, nL) ⟨⟨hx, hb, hml, hown, fun w hw => hts w (List.mem_cons_of_mem _ hw)⟩, hlocks, hK, rfl, hA, rfl, rfl, rfl, rfl⟩ (fun h => hname.trans h) ?_ s.heap [] _ hP hD va_S.rf hl
  intro ws pc lv hq hdg H locs ls hP hD hS hl
  exact W.vret hx hb hr (fun t ht hW => ⟨⟨_, ws, rfl, ⟨rfl, hq⟩, by rw [ht]; exact hP, hD⟩, hS.F ht⟩) hS.2.2 hdg hlocks
theorem ZV.enter {Q : va_W → Prop} (ho : y.cls = own) (hy : plainFor y = true) (hlen : (lg_sl av).length ≤ nL)
    (body : ∀ X : zX, ZE X own cc nL rmm l D κ → (∀ (ws : va_W) (pc : Nat) (lv : List (Nat × Value)), Q ws → decode cc pc = .ok (.return_, 1) → Zg X ws rmm.cells rmm.slots pc lv []) → Zg X w0 0 0 0 (lv_args 0 av) []) : ZV l y cc nL rmm D κ av w0 Q :=
  ZV.enter0 ho hy hlen (fun X E _ => body X E)
end ZENTER
section ZCALL
theorem z_filterMap {ws : va_W} : ∀ (is : List Nat) (ws' : va_W), is.map (fun i => ws[i]?) = ws'.map some → is.filterMap (fun i => ws[i]?) = ws' := by
  intro is
  induction is with
  | nil => intro ws' h; cases ws' with
    | nil => rfl
    | cons a l => simp at h
  | cons i is ih =>
    intro ws' h
    cases ws' with
    | nil => simp at h
    | cons a l =>
      simp only [List.map_cons, List.cons.injEq] at h
      rw [List.filterMap_cons_some h.1, ih l h.2]
theorem z_after {p : Program} {l : Launch} {e : Env} {R : Room} {s : State} {m : MethodId} {args : Array Value} {below : List Frame} {meth : Method} {c : Code} {H : Heap} {locs : List Loc} {k n mc ms pc : Nat} {ls : Array Slot} {st0 rest : List Value} {D : va_G} {A0 A1 : Nat → Prop} {a0 : Array Value} {Qv : Option Value → va_W → Prop} {Qf : State → Prop}
    (hr : va_Run p l e R s m args below meth c H locs k n mc ms (F0 m pc ls st0) rest (zQ D A1 Qv a0) A1) (hS : va_S A0 s.heap H locs) (hA : ∀ q, A1 q → A0 q)
    (kk : ∀ (v : Option Value) (w1 : va_W) (H1 : Heap) (locs1 : List Loc), Qv v w1 → va_P D vwCl w1 H1 → va_D A1 w1 → (∀ q : Nat, q < H.size → ¬ A1 q → H1[q]? = H[q]?) → va_S A0 s.heap H1 locs1 → W p l e R s m args below meth c H1 locs1 (k + mc) (n + ms) Qf (F0 m (pc + 3) ls (v.toList ++ rest))) : W p l e R s m args below meth c H locs k n Qf (F0 m pc ls st0) := by
  intro T hT X
  obtain ⟨v, st₀, t, T', L, h0, X', hL, e1, e2, ⟨⟨v', w1, hv, hp, hP1, hD1⟩, hz, hk⟩, st⟩ := hr T hT X
  cases hv
  rw [h0] at hz hk
  obtain ⟨t2, a1, b1⟩ := kk v w1 T'.heap (locs ++ L) hp (by rw [e1]; exact hP1) hD1 (fun q h1 h2 => by rw [e1]; exact hk q h1 h2)
    ⟨Nat.le_trans hS.1 (by rw [e1]; exact hz), fun q h1 h2 => by rw [e1, hk q (Nat.lt_of_lt_of_le h1 hS.1) (fun z => h2 (hA q z))]; exact hS.2.1 q h1 h2, fun q hq => by
      rcases List.mem_append.mp hq with h | h
      · exact hS.2.2 q h
      · exact hA _ (hL q h)⟩ T' rfl X'
  exact ⟨t2, st t2 a1, b1⟩
def zPl (y : MethodName) (nA : Nat) : Prop := y.cls ≠ "java/lang/invoke/MethodHandle" ∧ y.cls ≠ "java/lang/invoke/VarHandle" ∧ (parseMethodDescriptor y.desc).map (fun d => d.parameters.length) = some nA
def zLV (own : String) (index : Nat) (y : MethodName) (bytes : ByteArray) (maxL : Nat) (ret : Option FieldType) (nA : Nat) : Prop :=
  Cond.methodLink own index y ∈ zB ∧ Cond.instanceMethod y ∈ zB ∧ Cond.selects y.cls y y ∈ zB ∧ Cond.initialized y.cls ∈ zB ∧ Cond.code y bytes maxL ret ∈ zB ∧ zPl y nA
def zLS (own : String) (index : Nat) (y : MethodName) (bytes : ByteArray) (maxL : Nat) (ret : Option FieldType) (nA : Nat) : Prop :=
  Cond.methodLink own index y ∈ zB ∧ Cond.static y ∈ zB ∧ Cond.initialized y.cls ∈ zB ∧ Cond.code y bytes maxL ret ∈ zB ∧ zPl y nA
def zLI (own : String) (index : Nat) (y : MethodName) (bytes : ByteArray) (maxL nA : Nat) : Prop :=
  Cond.methodLink own index y ∈ zB ∧ Cond.instanceMethod y ∈ zB ∧ Cond.initialized y.cls ∈ zB ∧ Cond.code y bytes maxL none ∈ zB ∧ zPl y nA ∧ y.name = "<init>"
def zLN (own : String) (index : Nat) (y : MethodName) (bytes : ByteArray) (maxL nA : Nat) : Prop :=
  (∃ host, Cond.methodLinkNest own index y host ∈ zNest) ∧ Cond.instanceMethod y ∈ zB ∧ Cond.initialized y.cls ∈ zB ∧ Cond.code y bytes maxL none ∈ zB ∧ zPl y nA ∧ y.name = "<init>"
variable {X : zX} {own : String} {cc : ByteArray} {nL : Nat} {rm : Room} {l0 : Launch} {D0 : va_G} {κ0 : Nat → ClassId} {ws wc wr : va_W} {k n pc : Nat} {lv : List (Nat × Value)} {st rest : List Value} {y : MethodName} {bytes : ByteArray} {maxL nA index : Nat} {ret : Option FieldType} {rmc : Room} {b : Nat} {As : List Value} {Q : Option Value → va_W → Prop}
theorem z_callV (E : ZE X own cc nL rm l0 D0 κ0) (hM : ZC l0 y bytes maxL ret rmc D0 κ0 (.ref b :: As) wc Q) (hL : zLV own index y bytes maxL ret nA) (hRm : rmc.frames + 1 ≤ rm.frames ∧ 8 + (maxL + 11) + rmc.locals ≤ rm.locals) (isC isR : List Nat) (hC : isC.map (fun i => ws[i]?) = wc.map some) (hR : isR.map (fun i => ws[i]?) = wr.map some) (hnC : va_nd isC = true) (hn : va_nd isR = true) (hdis : ∀ i ∈ isR, i ∉ isC)
    {ci : Nat} {fs : List Value} (hrc : wc[0]? = some (b, .inr (ci, fs))) {T : u_T} {N : Nat} (hci : vwCl[ci]? = some (y.cls, T, N)) (hst : st = As.reverse ++ .ref b :: rest) (hnA : As.length = nA) (hcat : (rest.map fun v => v.category).sum ≤ 8) (hdg : decode cc pc = .ok (.invokevirtual index, 3)) (hroom : k + rmc.cells ≤ rm.cells ∧ n + rmc.slots ≤ rm.slots)
    (kk : ∀ (v : Option Value) (w1 : va_W), Q v w1 → Zg X (wr ++ w1) (k + rmc.cells) (n + rmc.slots) (pc + 3) lv (v.toList ++ rest)) : Zg X ws k n pc lv st := by
  obtain ⟨p, l, e, R, s, m, args, below, meth, c, Qf, D, κ, A, nl⟩ := X
  obtain ⟨⟨hx, hb, hml, hown, hts⟩, hlk, hK, rfl, hA, rfl, rfl, rfl, rfl⟩ := E
  intro H locs ls hP hD hS hl
  obtain ⟨m1, m2, m3, m4, m5, m6⟩ := hL
  have hPc : va_P D vwCl wc H := hP.sub isC (z_filterMap isC wc hC)
  have hDc := hD.sub isC hnC hC
  have hFc := va_free hD hS hA isC hC
  have cw : CallW R s args own y.cls index y bytes maxL ret (zw y bytes maxL ret) rmc rmc.cells rmc.slots nA := ⟨callB_of nA hts (zB_good m5) rfl rfl rfl (hts _ m4) (hts _ m1) m6 hRm, hts _ m2, hts _ m3⟩
  have hr := va_runV (e := e) (below := below) (meth := meth) (H := H) (locs := locs) (cells := k) (slots := n) (As := As) (rest := rest) (g := F0 m pc ls st) ⟨hx, hb, hml, hown, hts⟩ (hM H.size) cw ⟨zP.blind, va_recv hK.1 hPc hci hrc, fun U hU hW => ⟨rfl, by rw [hU], by rw [hU]; exact hPc, hK.warm hW, hDc.weaken (fun _ _ _ _ => trivial)⟩⟩ rfl hnA hl.1 hst (by show 2 * 0 + _ ≤ 8; omega) hdg hroom
  refine z_after hr hS hFc (fun v w1 H1 locs1 hq hP1 hD1 hk1 hS1 => ?_)
  obtain ⟨hP2, hD2⟩ := va_join (wr := wr) hP hD isC isR hC hR hn hdis hk1 hFc hP1 hD1
  exact kk v w1 hq H1 locs1 ls hP2 hD2 hS1 hl
theorem z_callS (E : ZE X own cc nL rm l0 D0 κ0) (hM : ZC l0 y bytes maxL ret rmc D0 κ0 As wc Q) (hL : zLS own index y bytes maxL ret nA) (hRm : rmc.frames + 1 ≤ rm.frames ∧ 8 + (maxL + 11) + rmc.locals ≤ rm.locals) (isC isR : List Nat) (hC : isC.map (fun i => ws[i]?) = wc.map some) (hR : isR.map (fun i => ws[i]?) = wr.map some) (hnC : va_nd isC = true) (hn : va_nd isR = true) (hdis : ∀ i ∈ isR, i ∉ isC)
    (hst : st = As.reverse ++ rest) (hnA : As.length = nA) (hcat : (rest.map fun v => v.category).sum ≤ 8) (hdg : decode cc pc = .ok (.invokestatic index, 3)) (hroom : k + rmc.cells ≤ rm.cells ∧ n + rmc.slots ≤ rm.slots)
    (kk : ∀ (v : Option Value) (w1 : va_W), Q v w1 → Zg X (wr ++ w1) (k + rmc.cells) (n + rmc.slots) (pc + 3) lv (v.toList ++ rest)) : Zg X ws k n pc lv st := by
  obtain ⟨p, l, e, R, s, m, args, below, meth, c, Qf, D, κ, A, nl⟩ := X
  obtain ⟨⟨hx, hb, hml, hown, hts⟩, hlk, hK, rfl, hA, rfl, rfl, rfl, rfl⟩ := E
  intro H locs ls hP hD hS hl
  obtain ⟨m1, m2, m4, m5, m6⟩ := hL
  have hPc : va_P D vwCl wc H := hP.sub isC (z_filterMap isC wc hC)
  have hDc := hD.sub isC hnC hC
  have hFc := va_free hD hS hA isC hC
  have hr := va_runS (e := e) (below := below) (meth := meth) (H := H) (locs := locs) (cells := k) (slots := n) (As := As) (rest := rest) (g := F0 m pc ls st) ⟨hx, hb, hml, hown, hts⟩ (hM H.size) ⟨callB_of nA hts (zB_good m5) rfl rfl rfl (hts _ m4) (hts _ m1) m6 hRm, hts _ m2⟩ ⟨zP.blind, fun U hU hW => ⟨rfl, by rw [hU], by rw [hU]; exact hPc, hK.warm hW, hDc.weaken (fun _ _ _ _ => trivial)⟩⟩ rfl hnA hl.1 hst (by show 2 * 0 + _ ≤ 8; omega) hdg hroom
  refine z_after hr hS hFc (fun v w1 H1 locs1 hq hP1 hD1 hk1 hS1 => ?_)
  obtain ⟨hP2, hD2⟩ := va_join (wr := wr) hP hD isC isR hC hR hn hdis hk1 hFc hP1 hD1
  exact kk v w1 hq H1 locs1 ls hP2 hD2 hS1 hl
theorem z_callI (E : ZE X own cc nL rm l0 D0 κ0) (hM : ZC l0 y bytes maxL none rmc D0 κ0 (.ref b :: As) wc Q) (hL : zLI own index y bytes maxL nA) (hRm : rmc.frames + 1 ≤ rm.frames ∧ 8 + (maxL + 11) + rmc.locals ≤ rm.locals) (isC isR : List Nat) (hC : isC.map (fun i => ws[i]?) = wc.map some) (hR : isR.map (fun i => ws[i]?) = wr.map some) (hnC : va_nd isC = true) (hn : va_nd isR = true) (hdis : ∀ i ∈ isR, i ∉ isC)
    (hst : st = As.reverse ++ .ref b :: rest) (hnA : As.length = nA) (hcat : (rest.map fun v => v.category).sum ≤ 8) (hdg : decode cc pc = .ok (.invokespecial index, 3)) (hroom : k + rmc.cells ≤ rm.cells ∧ n + rmc.slots ≤ rm.slots)
    (kk : ∀ (v : Option Value) (w1 : va_W), Q v w1 → Zg X (wr ++ w1) (k + rmc.cells) (n + rmc.slots) (pc + 3) lv (v.toList ++ rest)) : Zg X ws k n pc lv st := by
  obtain ⟨p, l, e, R, s, m, args, below, meth, c, Qf, D, κ, A, nl⟩ := X
  obtain ⟨⟨hx, hb, hml, hown, hts⟩, hlk, hK, rfl, hA, rfl, rfl, rfl, rfl⟩ := E
  intro H locs ls hP hD hS hl
  obtain ⟨m1, m2, m4, m5, m6, m7⟩ := hL
  have hPc : va_P D vwCl wc H := hP.sub isC (z_filterMap isC wc hC)
  have hDc := hD.sub isC hnC hC
  have hFc := va_free hD hS hA isC hC
  have hr := va_runI (e := e) (below := below) (meth := meth) (H := H) (locs := locs) (cells := k) (slots := n) (As := As) (rest := rest) (g := F0 m pc ls st) ⟨hx, hb, hml, hown, hts⟩ (hM H.size) (cwI nA hts (zB_good m5) rfl rfl rfl (hts _ m4) (hts _ m1) (hts _ m2) m7 m6 hRm) ⟨zP.blind, fun U hU hW => ⟨rfl, by rw [hU], by rw [hU]; exact hPc, hK.warm hW, hDc.weaken (fun _ _ _ _ => trivial)⟩⟩ rfl hnA hl.1 hst (by show 2 * 0 + _ ≤ 8; omega) hdg hroom
  refine z_after hr hS hFc (fun v w1 H1 locs1 hq hP1 hD1 hk1 hS1 => ?_)
  obtain ⟨hP2, hD2⟩ := va_join (wr := wr) hP hD isC isR hC hR hn hdis hk1 hFc hP1 hD1
  exact kk v w1 hq H1 locs1 ls hP2 hD2 hS1 hl
theorem z_callN (E : ZE X own cc nL rm l0 D0 κ0) (hM : ZC l0 y bytes maxL none rmc D0 κ0 (.ref b :: As) wc Q) (hL : zLN own index y bytes maxL nA) (hRm : rmc.frames + 1 ≤ rm.frames ∧ 8 + (maxL + 11) + rmc.locals ≤ rm.locals) (isC isR : List Nat) (hC : isC.map (fun i => ws[i]?) = wc.map some) (hR : isR.map (fun i => ws[i]?) = wr.map some) (hnC : va_nd isC = true) (hn : va_nd isR = true) (hdis : ∀ i ∈ isR, i ∉ isC)
    (hst : st = As.reverse ++ .ref b :: rest) (hnA : As.length = nA) (hcat : (rest.map fun v => v.category).sum ≤ 8) (hdg : decode cc pc = .ok (.invokespecial index, 3)) (hroom : k + rmc.cells ≤ rm.cells ∧ n + rmc.slots ≤ rm.slots)
    (kk : ∀ (v : Option Value) (w1 : va_W), Q v w1 → Zg X (wr ++ w1) (k + rmc.cells) (n + rmc.slots) (pc + 3) lv (v.toList ++ rest)) : Zg X ws k n pc lv st := by
  obtain ⟨p, l, e, R, s, m, args, below, meth, c, Qf, D, κ, A, nl⟩ := X
  obtain ⟨⟨hx, hb, hml, hown, hts⟩, hlk, hK, rfl, hA, rfl, rfl, rfl, rfl⟩ := E
  intro H locs ls hP hD hS hl
  obtain ⟨⟨host, m1⟩, m2, m4, m5, m6, m7⟩ := hL
  have hPc : va_P D vwCl wc H := hP.sub isC (z_filterMap isC wc hC)
  have hDc := hD.sub isC hnC hC
  have hFc := va_free hD hS hA isC hC
  have hr := va_runIN (e := e) (below := below) (meth := meth) (H := H) (locs := locs) (cells := k) (slots := n) (As := As) (rest := rest) (g := F0 m pc ls st) ⟨hx, hb, hml, hown, hts⟩ (hM H.size) ⟨va_cnB (host := host) nA hts (zB_good m5) rfl rfl rfl (hK.2.1 _ m1) (hts _ m4) m6 hRm, m7, hts _ m2⟩ ⟨zP.blind, fun U hU hW => ⟨rfl, by rw [hU], by rw [hU]; exact hPc, hK.warm hW, hDc.weaken (fun _ _ _ _ => trivial)⟩⟩ rfl hnA hl.1 hst (by show 2 * 0 + _ ≤ 8; omega) hdg hroom
  refine z_after hr hS hFc (fun v w1 H1 locs1 hq hP1 hD1 hk1 hS1 => ?_)
  obtain ⟨hP2, hD2⟩ := va_join (wr := wr) hP hD isC isR hC hR hn hdis hk1 hFc hP1 hD1
  exact kk v w1 hq H1 locs1 ls hP2 hD2 hS1 hl
end ZCALL
section ZCALL2
variable {X : zX} {own : String} {cc : ByteArray} {nL : Nat} {rm : Room} {l0 : Launch} {D0 : va_G} {κ0 : Nat → ClassId} {ws wc wr : va_W} {k n pc : Nat} {lv : List (Nat × Value)} {st rest : List Value} {y : MethodName} {bytes : ByteArray} {maxL nA index : Nat} {ret : FieldType} {rmc : Room} {b : Nat} {As : List Value}
theorem z_callVi {Q : Int → va_W → Prop} (E : ZE X own cc nL rm l0 D0 κ0) (hM : ZI l0 y bytes maxL ret rmc D0 κ0 (.ref b :: As) wc Q) (hL : zLV own index y bytes maxL (some ret) nA) (hRm : rmc.frames + 1 ≤ rm.frames ∧ 8 + (maxL + 11) + rmc.locals ≤ rm.locals) (h0 : rmc.cells = 0 ∧ rmc.slots = 0) (isC isR : List Nat) (hC : isC.map (fun i => ws[i]?) = wc.map some) (hR : isR.map (fun i => ws[i]?) = wr.map some) (hnC : va_nd isC = true) (hn : va_nd isR = true) (hdis : ∀ i ∈ isR, i ∉ isC)
    {ci : Nat} {fs : List Value} (hrc : wc[0]? = some (b, .inr (ci, fs))) {T : u_T} {N : Nat} (hci : vwCl[ci]? = some (y.cls, T, N)) (hst : st = As.reverse ++ .ref b :: rest) (hnA : As.length = nA) (hcat : (rest.map fun v => v.category).sum ≤ 8) (hdg : decode cc pc = .ok (.invokevirtual index, 3)) (hk : k ≤ rm.cells ∧ n ≤ rm.slots)
    (kk : ∀ (z : Int) (w1 : va_W), Q z w1 → Zg X (wr ++ w1) k n (pc + 3) lv (.int (zi z) :: rest)) : Zg X ws k n pc lv st :=
  z_callV E hM hL hRm isC isR hC hR hnC hn hdis hrc hci hst hnA hcat hdg (by rw [h0.1, h0.2]; exact hk) (fun v w1 ⟨z, hv, hq⟩ => by subst hv; rw [h0.1, h0.2]; exact kk z w1 hq)
theorem z_callVl {Q : Int → va_W → Prop} (E : ZE X own cc nL rm l0 D0 κ0) (hM : ZL l0 y bytes maxL rmc D0 κ0 (.ref b :: As) wc Q) (hL : zLV own index y bytes maxL (some .long) nA) (hRm : rmc.frames + 1 ≤ rm.frames ∧ 8 + (maxL + 11) + rmc.locals ≤ rm.locals) (h0 : rmc.cells = 0 ∧ rmc.slots = 0) (isC isR : List Nat) (hC : isC.map (fun i => ws[i]?) = wc.map some) (hR : isR.map (fun i => ws[i]?) = wr.map some) (hnC : va_nd isC = true) (hn : va_nd isR = true) (hdis : ∀ i ∈ isR, i ∉ isC)
    {ci : Nat} {fs : List Value} (hrc : wc[0]? = some (b, .inr (ci, fs))) {T : u_T} {N : Nat} (hci : vwCl[ci]? = some (y.cls, T, N)) (hst : st = As.reverse ++ .ref b :: rest) (hnA : As.length = nA) (hcat : (rest.map fun v => v.category).sum ≤ 8) (hdg : decode cc pc = .ok (.invokevirtual index, 3)) (hk : k ≤ rm.cells ∧ n ≤ rm.slots)
    (kk : ∀ (z : Int) (w1 : va_W), Q z w1 → Zg X (wr ++ w1) k n (pc + 3) lv (.long (zl z) :: rest)) : Zg X ws k n pc lv st :=
  z_callV E hM hL hRm isC isR hC hR hnC hn hdis hrc hci hst hnA hcat hdg (by rw [h0.1, h0.2]; exact hk) (fun v w1 ⟨z, hv, hq⟩ => by subst hv; rw [h0.1, h0.2]; exact kk z w1 hq)
theorem z_callVv {Q : va_W → Prop} (E : ZE X own cc nL rm l0 D0 κ0) (hM : ZV l0 y bytes maxL rmc D0 κ0 (.ref b :: As) wc Q) (hL : zLV own index y bytes maxL none nA) (hRm : rmc.frames + 1 ≤ rm.frames ∧ 8 + (maxL + 11) + rmc.locals ≤ rm.locals) (h0 : rmc.cells = 0 ∧ rmc.slots = 0) (isC isR : List Nat) (hC : isC.map (fun i => ws[i]?) = wc.map some) (hR : isR.map (fun i => ws[i]?) = wr.map some) (hnC : va_nd isC = true) (hn : va_nd isR = true) (hdis : ∀ i ∈ isR, i ∉ isC)
    {ci : Nat} {fs : List Value} (hrc : wc[0]? = some (b, .inr (ci, fs))) {T : u_T} {N : Nat} (hci : vwCl[ci]? = some (y.cls, T, N)) (hst : st = As.reverse ++ .ref b :: rest) (hnA : As.length = nA) (hcat : (rest.map fun v => v.category).sum ≤ 8) (hdg : decode cc pc = .ok (.invokevirtual index, 3)) (hk : k ≤ rm.cells ∧ n ≤ rm.slots)
    (kk : ∀ (w1 : va_W), Q w1 → Zg X (wr ++ w1) k n (pc + 3) lv rest) : Zg X ws k n pc lv st :=
  z_callV E hM hL hRm isC isR hC hR hnC hn hdis hrc hci hst hnA hcat hdg (by rw [h0.1, h0.2]; exact hk) (fun v w1 ⟨hv, hq⟩ => by subst hv; rw [h0.1, h0.2]; exact kk w1 hq)
theorem z_callSi {Q : Int → va_W → Prop} (E : ZE X own cc nL rm l0 D0 κ0) (hM : ZI l0 y bytes maxL ret rmc D0 κ0 As wc Q) (hL : zLS own index y bytes maxL (some ret) nA) (hRm : rmc.frames + 1 ≤ rm.frames ∧ 8 + (maxL + 11) + rmc.locals ≤ rm.locals) (h0 : rmc.cells = 0 ∧ rmc.slots = 0) (isC isR : List Nat) (hC : isC.map (fun i => ws[i]?) = wc.map some) (hR : isR.map (fun i => ws[i]?) = wr.map some) (hnC : va_nd isC = true) (hn : va_nd isR = true) (hdis : ∀ i ∈ isR, i ∉ isC)
    (hst : st = As.reverse ++ rest) (hnA : As.length = nA) (hcat : (rest.map fun v => v.category).sum ≤ 8) (hdg : decode cc pc = .ok (.invokestatic index, 3)) (hk : k ≤ rm.cells ∧ n ≤ rm.slots)
    (kk : ∀ (z : Int) (w1 : va_W), Q z w1 → Zg X (wr ++ w1) k n (pc + 3) lv (.int (zi z) :: rest)) : Zg X ws k n pc lv st :=
  z_callS E hM hL hRm isC isR hC hR hnC hn hdis hst hnA hcat hdg (by rw [h0.1, h0.2]; exact hk) (fun v w1 ⟨z, hv, hq⟩ => by subst hv; rw [h0.1, h0.2]; exact kk z w1 hq)
theorem z_callSl {Q : Int → va_W → Prop} (E : ZE X own cc nL rm l0 D0 κ0) (hM : ZL l0 y bytes maxL rmc D0 κ0 As wc Q) (hL : zLS own index y bytes maxL (some .long) nA) (hRm : rmc.frames + 1 ≤ rm.frames ∧ 8 + (maxL + 11) + rmc.locals ≤ rm.locals) (h0 : rmc.cells = 0 ∧ rmc.slots = 0) (isC isR : List Nat) (hC : isC.map (fun i => ws[i]?) = wc.map some) (hR : isR.map (fun i => ws[i]?) = wr.map some) (hnC : va_nd isC = true) (hn : va_nd isR = true) (hdis : ∀ i ∈ isR, i ∉ isC)
    (hst : st = As.reverse ++ rest) (hnA : As.length = nA) (hcat : (rest.map fun v => v.category).sum ≤ 8) (hdg : decode cc pc = .ok (.invokestatic index, 3)) (hk : k ≤ rm.cells ∧ n ≤ rm.slots)
    (kk : ∀ (z : Int) (w1 : va_W), Q z w1 → Zg X (wr ++ w1) k n (pc + 3) lv (.long (zl z) :: rest)) : Zg X ws k n pc lv st :=
  z_callS E hM hL hRm isC isR hC hR hnC hn hdis hst hnA hcat hdg (by rw [h0.1, h0.2]; exact hk) (fun v w1 ⟨z, hv, hq⟩ => by subst hv; rw [h0.1, h0.2]; exact kk z w1 hq)
theorem z_callNv {Q : va_W → Prop} (E : ZE X own cc nL rm l0 D0 κ0) (hM : ZV l0 y bytes maxL rmc D0 κ0 (.ref b :: As) wc Q) (hL : zLN own index y bytes maxL nA) (hRm : rmc.frames + 1 ≤ rm.frames ∧ 8 + (maxL + 11) + rmc.locals ≤ rm.locals) (isC isR : List Nat) (hC : isC.map (fun i => ws[i]?) = wc.map some) (hR : isR.map (fun i => ws[i]?) = wr.map some) (hnC : va_nd isC = true) (hn : va_nd isR = true) (hdis : ∀ i ∈ isR, i ∉ isC)
    (hst : st = As.reverse ++ .ref b :: rest) (hnA : As.length = nA) (hcat : (rest.map fun v => v.category).sum ≤ 8) (hdg : decode cc pc = .ok (.invokespecial index, 3)) (hroom : k + rmc.cells ≤ rm.cells ∧ n + rmc.slots ≤ rm.slots) {k' n' : Nat} (hk' : k + rmc.cells = k') (hn' : n + rmc.slots = n')
    (kk : ∀ (w1 : va_W), Q w1 → Zg X (wr ++ w1) k' n' (pc + 3) lv rest) : Zg X ws k n pc lv st :=
  z_callN E hM hL hRm isC isR hC hR hnC hn hdis hst hnA hcat hdg hroom (fun v w1 ⟨hv, hq⟩ => by subst hv; rw [hk', hn']; exact kk w1 hq)
theorem z_callIv {Q : va_W → Prop} (E : ZE X own cc nL rm l0 D0 κ0) (hM : ZV l0 y bytes maxL rmc D0 κ0 (.ref b :: As) wc Q) (hL : zLI own index y bytes maxL nA) (hRm : rmc.frames + 1 ≤ rm.frames ∧ 8 + (maxL + 11) + rmc.locals ≤ rm.locals) (isC isR : List Nat) (hC : isC.map (fun i => ws[i]?) = wc.map some) (hR : isR.map (fun i => ws[i]?) = wr.map some) (hnC : va_nd isC = true) (hn : va_nd isR = true) (hdis : ∀ i ∈ isR, i ∉ isC)
    (hst : st = As.reverse ++ .ref b :: rest) (hnA : As.length = nA) (hcat : (rest.map fun v => v.category).sum ≤ 8) (hdg : decode cc pc = .ok (.invokespecial index, 3)) (hroom : k + rmc.cells ≤ rm.cells ∧ n + rmc.slots ≤ rm.slots) {k' n' : Nat} (hk' : k + rmc.cells = k') (hn' : n + rmc.slots = n')
    (kk : ∀ (w1 : va_W), Q w1 → Zg X (wr ++ w1) k' n' (pc + 3) lv rest) : Zg X ws k n pc lv st :=
  z_callI E hM hL hRm isC isR hC hR hnC hn hdis hst hnA hcat hdg hroom (fun v w1 ⟨hv, hq⟩ => by subst hv; rw [hk', hn']; exact kk w1 hq)
end ZCALL2
end
section
/-! ===== FACTS OF THE TABLES (by mkfacts.py): places in lw_tbl ===== -/
theorem hu_X0 : ∀ w ∈ u_ws RX0 TX0 3, w ∈ zB := fun w h => List.mem_filter.mpr ⟨(by
  have h1 : (u_ws RX0 TX0 3).all (fun w => decide (w ∈ lw_tbl)) = true := by decide +kernel
  exact of_decide_eq_true (List.all_eq_true.mp h1 w h)), (by
  have h1 : (u_ws RX0 TX0 3).all goodWord = true := by decide +kernel
  exact List.all_eq_true.mp h1 w h)⟩
theorem t_X0_0 : zTY 0 0 (.array .int) true := ⟨RX0, TX0, 3, tyX0, rfl, tyX0_ok, nmX0, rfl, rfl, by decide +kernel⟩
theorem t_X0_1 : zTY 0 1 (.array .int) true := ⟨RX0, TX0, 3, tyX0, rfl, tyX0_ok, nmX0, rfl, rfl, by decide +kernel⟩
theorem t_X0_2 : zTY 0 2 .int false := ⟨RX0, TX0, 3, tyX0, rfl, tyX0_ok, nmX0, rfl, rfl, by decide +kernel⟩
theorem hu_X1 : ∀ w ∈ u_ws RX1 TX1 5, w ∈ zB := fun w h => List.mem_filter.mpr ⟨(by
  have h1 : (u_ws RX1 TX1 5).all (fun w => decide (w ∈ lw_tbl)) = true := by decide +kernel
  exact of_decide_eq_true (List.all_eq_true.mp h1 w h)), (by
  have h1 : (u_ws RX1 TX1 5).all goodWord = true := by decide +kernel
  exact List.all_eq_true.mp h1 w h)⟩
theorem t_X1_0 : zTY 1 0 .long false := ⟨RX1, TX1, 5, tyX1, rfl, tyX1_ok, nmX1, rfl, rfl, by decide +kernel⟩
theorem t_X1_1 : zTY 1 1 .long false := ⟨RX1, TX1, 5, tyX1, rfl, tyX1_ok, nmX1, rfl, rfl, by decide +kernel⟩
theorem t_X1_2 : zTY 1 2 .boolean false := ⟨RX1, TX1, 5, tyX1, rfl, tyX1_ok, nmX1, rfl, rfl, by decide +kernel⟩
theorem t_X1_3 : zTY 1 3 .long false := ⟨RX1, TX1, 5, tyX1, rfl, tyX1_ok, nmX1, rfl, rfl, by decide +kernel⟩
theorem t_X1_4 : zTY 1 4 .long false := ⟨RX1, TX1, 5, tyX1, rfl, tyX1_ok, nmX1, rfl, rfl, by decide +kernel⟩
theorem hu_X2 : ∀ w ∈ u_ws RX2 TX2 10, w ∈ zB := fun w h => List.mem_filter.mpr ⟨(by
  have h1 : (u_ws RX2 TX2 10).all (fun w => decide (w ∈ lw_tbl)) = true := by decide +kernel
  exact of_decide_eq_true (List.all_eq_true.mp h1 w h)), (by
  have h1 : (u_ws RX2 TX2 10).all goodWord = true := by decide +kernel
  exact List.all_eq_true.mp h1 w h)⟩
theorem t_X2_0 : zTY 2 0 (.array .int) true := ⟨RX2, TX2, 10, tyX2, rfl, tyX2_ok, nmX2, rfl, rfl, by decide +kernel⟩
theorem t_X2_1 : zTY 2 1 (.array .long) true := ⟨RX2, TX2, 10, tyX2, rfl, tyX2_ok, nmX2, rfl, rfl, by decide +kernel⟩
theorem t_X2_2 : zTY 2 2 (.array .long) true := ⟨RX2, TX2, 10, tyX2, rfl, tyX2_ok, nmX2, rfl, rfl, by decide +kernel⟩
theorem t_X2_3 : zTY 2 3 (.object "SurdFractions$Steps") true := ⟨RX2, TX2, 10, tyX2, rfl, tyX2_ok, nmX2, rfl, rfl, by decide +kernel⟩
theorem t_X2_4 : zTY 2 4 (.object "SurdFractions$Chain") true := ⟨RX2, TX2, 10, tyX2, rfl, tyX2_ok, nmX2, rfl, rfl, by decide +kernel⟩
theorem t_X2_5 : zTY 2 5 .long false := ⟨RX2, TX2, 10, tyX2, rfl, tyX2_ok, nmX2, rfl, rfl, by decide +kernel⟩
theorem t_X2_6 : zTY 2 6 .long false := ⟨RX2, TX2, 10, tyX2, rfl, tyX2_ok, nmX2, rfl, rfl, by decide +kernel⟩
theorem t_X2_7 : zTY 2 7 .int false := ⟨RX2, TX2, 10, tyX2, rfl, tyX2_ok, nmX2, rfl, rfl, by decide +kernel⟩
theorem t_X2_8 : zTY 2 8 .int false := ⟨RX2, TX2, 10, tyX2, rfl, tyX2_ok, nmX2, rfl, rfl, by decide +kernel⟩
theorem t_X2_9 : zTY 2 9 .int false := ⟨RX2, TX2, 10, tyX2, rfl, tyX2_ok, nmX2, rfl, rfl, by decide +kernel⟩
theorem hu_X3 : ∀ w ∈ u_ws RX3 TX3 2, w ∈ zB := fun w h => List.mem_filter.mpr ⟨(by
  have h1 : (u_ws RX3 TX3 2).all (fun w => decide (w ∈ lw_tbl)) = true := by decide +kernel
  exact of_decide_eq_true (List.all_eq_true.mp h1 w h)), (by
  have h1 : (u_ws RX3 TX3 2).all goodWord = true := by decide +kernel
  exact List.all_eq_true.mp h1 w h)⟩
theorem t_X3_0 : zTY 3 0 (.array (.object "SurdFractions$State")) true := ⟨RX3, TX3, 2, tyX3, rfl, tyX3_ok, nmX3, rfl, rfl, by decide +kernel⟩
theorem t_X3_1 : zTY 3 1 .int false := ⟨RX3, TX3, 2, tyX3, rfl, tyX3_ok, nmX3, rfl, rfl, by decide +kernel⟩
theorem hu_X4 : ∀ w ∈ u_ws RX4 TX4 5, w ∈ zB := fun w h => List.mem_filter.mpr ⟨(by
  have h1 : (u_ws RX4 TX4 5).all (fun w => decide (w ∈ lw_tbl)) = true := by decide +kernel
  exact of_decide_eq_true (List.all_eq_true.mp h1 w h)), (by
  have h1 : (u_ws RX4 TX4 5).all goodWord = true := by decide +kernel
  exact List.all_eq_true.mp h1 w h)⟩
theorem t_X4_0 : zTY 4 0 .long false := ⟨RX4, TX4, 5, tyX4, rfl, tyX4_ok, nmX4, rfl, rfl, by decide +kernel⟩
theorem t_X4_1 : zTY 4 1 .long false := ⟨RX4, TX4, 5, tyX4, rfl, tyX4_ok, nmX4, rfl, rfl, by decide +kernel⟩
theorem t_X4_2 : zTY 4 2 .long false := ⟨RX4, TX4, 5, tyX4, rfl, tyX4_ok, nmX4, rfl, rfl, by decide +kernel⟩
theorem t_X4_3 : zTY 4 3 .long false := ⟨RX4, TX4, 5, tyX4, rfl, tyX4_ok, nmX4, rfl, rfl, by decide +kernel⟩
theorem t_X4_4 : zTY 4 4 .int false := ⟨RX4, TX4, 5, tyX4, rfl, tyX4_ok, nmX4, rfl, rfl, by decide +kernel⟩
theorem hu_X5 : ∀ w ∈ u_ws RX5 TX5 5, w ∈ zB := fun w h => List.mem_filter.mpr ⟨(by
  have h1 : (u_ws RX5 TX5 5).all (fun w => decide (w ∈ lw_tbl)) = true := by decide +kernel
  exact of_decide_eq_true (List.all_eq_true.mp h1 w h)), (by
  have h1 : (u_ws RX5 TX5 5).all goodWord = true := by decide +kernel
  exact List.all_eq_true.mp h1 w h)⟩
theorem t_X5_0 : zTY 5 0 (.object "SurdFractions$Steps") true := ⟨RX5, TX5, 5, tyX5, rfl, tyX5_ok, nmX5, rfl, rfl, by decide +kernel⟩
theorem t_X5_1 : zTY 5 1 (.object "SurdFractions$Chain") true := ⟨RX5, TX5, 5, tyX5, rfl, tyX5_ok, nmX5, rfl, rfl, by decide +kernel⟩
theorem t_X5_2 : zTY 5 2 .int false := ⟨RX5, TX5, 5, tyX5, rfl, tyX5_ok, nmX5, rfl, rfl, by decide +kernel⟩
theorem t_X5_3 : zTY 5 3 .long false := ⟨RX5, TX5, 5, tyX5, rfl, tyX5_ok, nmX5, rfl, rfl, by decide +kernel⟩
theorem t_X5_4 : zTY 5 4 .long false := ⟨RX5, TX5, 5, tyX5, rfl, tyX5_ok, nmX5, rfl, rfl, by decide +kernel⟩
theorem hu_X6 : ∀ w ∈ u_ws RX6 TX6 2, w ∈ zB := fun w h => List.mem_filter.mpr ⟨(by
  have h1 : (u_ws RX6 TX6 2).all (fun w => decide (w ∈ lw_tbl)) = true := by decide +kernel
  exact of_decide_eq_true (List.all_eq_true.mp h1 w h)), (by
  have h1 : (u_ws RX6 TX6 2).all goodWord = true := by decide +kernel
  exact List.all_eq_true.mp h1 w h)⟩
theorem t_X6_0 : zTY 6 0 (.object "SurdFractions$Surd") true := ⟨RX6, TX6, 2, tyX6, rfl, tyX6_ok, nmX6, rfl, rfl, by decide +kernel⟩
theorem t_X6_1 : zTY 6 1 (.object "SurdFractions$Book") true := ⟨RX6, TX6, 2, tyX6, rfl, tyX6_ok, nmX6, rfl, rfl, by decide +kernel⟩
theorem hu_X7 : ∀ w ∈ u_ws RX7 TX7 4, w ∈ zB := fun w h => List.mem_filter.mpr ⟨(by
  have h1 : (u_ws RX7 TX7 4).all (fun w => decide (w ∈ lw_tbl)) = true := by decide +kernel
  exact of_decide_eq_true (List.all_eq_true.mp h1 w h)), (by
  have h1 : (u_ws RX7 TX7 4).all goodWord = true := by decide +kernel
  exact List.all_eq_true.mp h1 w h)⟩
theorem t_X7_0 : zTY 7 0 .long false := ⟨RX7, TX7, 4, tyX7, rfl, tyX7_ok, nmX7, rfl, rfl, by decide +kernel⟩
theorem t_X7_1 : zTY 7 1 .long false := ⟨RX7, TX7, 4, tyX7, rfl, tyX7_ok, nmX7, rfl, rfl, by decide +kernel⟩
theorem t_X7_2 : zTY 7 2 .long false := ⟨RX7, TX7, 4, tyX7, rfl, tyX7_ok, nmX7, rfl, rfl, by decide +kernel⟩
theorem t_X7_3 : zTY 7 3 .long false := ⟨RX7, TX7, 4, tyX7, rfl, tyX7_ok, nmX7, rfl, rfl, by decide +kernel⟩
theorem hu_X8 : ∀ w ∈ u_ws RX8 TX8 3, w ∈ zB := fun w h => List.mem_filter.mpr ⟨(by
  have h1 : (u_ws RX8 TX8 3).all (fun w => decide (w ∈ lw_tbl)) = true := by decide +kernel
  exact of_decide_eq_true (List.all_eq_true.mp h1 w h)), (by
  have h1 : (u_ws RX8 TX8 3).all goodWord = true := by decide +kernel
  exact List.all_eq_true.mp h1 w h)⟩
theorem t_X8_0 : zTY 8 0 .int false := ⟨RX8, TX8, 3, tyX8, rfl, tyX8_ok, nmX8, rfl, rfl, by decide +kernel⟩
theorem t_X8_1 : zTY 8 1 .int false := ⟨RX8, TX8, 3, tyX8, rfl, tyX8_ok, nmX8, rfl, rfl, by decide +kernel⟩
theorem t_X8_2 : zTY 8 2 .int false := ⟨RX8, TX8, 3, tyX8, rfl, tyX8_ok, nmX8, rfl, rfl, by decide +kernel⟩
theorem hu_X9 : ∀ w ∈ u_ws RX9 TX9 6, w ∈ zB := fun w h => List.mem_filter.mpr ⟨(by
  have h1 : (u_ws RX9 TX9 6).all (fun w => decide (w ∈ lw_tbl)) = true := by decide +kernel
  exact of_decide_eq_true (List.all_eq_true.mp h1 w h)), (by
  have h1 : (u_ws RX9 TX9 6).all goodWord = true := by decide +kernel
  exact List.all_eq_true.mp h1 w h)⟩
theorem t_X9_0 : zTY 9 0 (.array .char) true := ⟨RX9, TX9, 6, tyX9, rfl, tyX9_ok, nmX9, rfl, rfl, by decide +kernel⟩
theorem t_X9_1 : zTY 9 1 (.array .int) true := ⟨RX9, TX9, 6, tyX9, rfl, tyX9_ok, nmX9, rfl, rfl, by decide +kernel⟩
theorem t_X9_2 : zTY 9 2 .int false := ⟨RX9, TX9, 6, tyX9, rfl, tyX9_ok, nmX9, rfl, rfl, by decide +kernel⟩
theorem t_X9_3 : zTY 9 3 .int false := ⟨RX9, TX9, 6, tyX9, rfl, tyX9_ok, nmX9, rfl, rfl, by decide +kernel⟩
theorem t_X9_4 : zTY 9 4 .int false := ⟨RX9, TX9, 6, tyX9, rfl, tyX9_ok, nmX9, rfl, rfl, by decide +kernel⟩
theorem t_X9_5 : zTY 9 5 .int false := ⟨RX9, TX9, 6, tyX9, rfl, tyX9_ok, nmX9, rfl, rfl, by decide +kernel⟩
theorem hu_X10 : ∀ w ∈ u_ws RX10 TX10 7, w ∈ zB := fun w h => List.mem_filter.mpr ⟨(by
  have h1 : (u_ws RX10 TX10 7).all (fun w => decide (w ∈ lw_tbl)) = true := by decide +kernel
  exact of_decide_eq_true (List.all_eq_true.mp h1 w h)), (by
  have h1 : (u_ws RX10 TX10 7).all goodWord = true := by decide +kernel
  exact List.all_eq_true.mp h1 w h)⟩
theorem t_X10_0 : zTY 10 0 (.object "SurdFractions$State") true := ⟨RX10, TX10, 7, tyX10, rfl, tyX10_ok, nmX10, rfl, rfl, by decide +kernel⟩
theorem t_X10_1 : zTY 10 1 (.object "SurdFractions$History") true := ⟨RX10, TX10, 7, tyX10, rfl, tyX10_ok, nmX10, rfl, rfl, by decide +kernel⟩
theorem t_X10_2 : zTY 10 2 (.object "SurdFractions$Expansion") true := ⟨RX10, TX10, 7, tyX10, rfl, tyX10_ok, nmX10, rfl, rfl, by decide +kernel⟩
theorem t_X10_3 : zTY 10 3 (.object "SurdFractions$Neighbours") true := ⟨RX10, TX10, 7, tyX10, rfl, tyX10_ok, nmX10, rfl, rfl, by decide +kernel⟩
theorem t_X10_4 : zTY 10 4 (.object "SurdFractions$Squares") true := ⟨RX10, TX10, 7, tyX10, rfl, tyX10_ok, nmX10, rfl, rfl, by decide +kernel⟩
theorem t_X10_5 : zTY 10 5 (.object "SurdFractions$Text") true := ⟨RX10, TX10, 7, tyX10, rfl, tyX10_ok, nmX10, rfl, rfl, by decide +kernel⟩
theorem t_X10_6 : zTY 10 6 (.object "SurdFractions$Chain") true := ⟨RX10, TX10, 7, tyX10, rfl, tyX10_ok, nmX10, rfl, rfl, by decide +kernel⟩
theorem hu_X11 : ∀ w ∈ u_ws RX11 TX11 22, w ∈ zB := fun w h => List.mem_filter.mpr ⟨(by
  have h1 : (u_ws RX11 TX11 22).all (fun w => decide (w ∈ lw_tbl)) = true := by decide +kernel
  exact of_decide_eq_true (List.all_eq_true.mp h1 w h)), (by
  have h1 : (u_ws RX11 TX11 22).all goodWord = true := by decide +kernel
  exact List.all_eq_true.mp h1 w h)⟩
theorem t_X11_0 : zTY 11 0 (.array .int) true := ⟨RX11, TX11, 22, tyX11, rfl, tyX11_ok, nmX11, rfl, rfl, by decide +kernel⟩
theorem t_X11_1 : zTY 11 1 (.array .int) true := ⟨RX11, TX11, 22, tyX11, rfl, tyX11_ok, nmX11, rfl, rfl, by decide +kernel⟩
theorem t_X11_2 : zTY 11 2 .int false := ⟨RX11, TX11, 22, tyX11, rfl, tyX11_ok, nmX11, rfl, rfl, by decide +kernel⟩
theorem t_X11_3 : zTY 11 3 (.array .int) true := ⟨RX11, TX11, 22, tyX11, rfl, tyX11_ok, nmX11, rfl, rfl, by decide +kernel⟩
theorem t_X11_4 : zTY 11 4 .int false := ⟨RX11, TX11, 22, tyX11, rfl, tyX11_ok, nmX11, rfl, rfl, by decide +kernel⟩
theorem t_X11_5 : zTY 11 5 (.array .int) true := ⟨RX11, TX11, 22, tyX11, rfl, tyX11_ok, nmX11, rfl, rfl, by decide +kernel⟩
theorem t_X11_6 : zTY 11 6 (.array .long) true := ⟨RX11, TX11, 22, tyX11, rfl, tyX11_ok, nmX11, rfl, rfl, by decide +kernel⟩
theorem t_X11_7 : zTY 11 7 (.array .long) true := ⟨RX11, TX11, 22, tyX11, rfl, tyX11_ok, nmX11, rfl, rfl, by decide +kernel⟩
theorem t_X11_8 : zTY 11 8 .int false := ⟨RX11, TX11, 22, tyX11, rfl, tyX11_ok, nmX11, rfl, rfl, by decide +kernel⟩
theorem t_X11_9 : zTY 11 9 .long false := ⟨RX11, TX11, 22, tyX11, rfl, tyX11_ok, nmX11, rfl, rfl, by decide +kernel⟩
theorem t_X11_10 : zTY 11 10 .long false := ⟨RX11, TX11, 22, tyX11, rfl, tyX11_ok, nmX11, rfl, rfl, by decide +kernel⟩
theorem t_X11_11 : zTY 11 11 .long false := ⟨RX11, TX11, 22, tyX11, rfl, tyX11_ok, nmX11, rfl, rfl, by decide +kernel⟩
theorem t_X11_12 : zTY 11 12 .long false := ⟨RX11, TX11, 22, tyX11, rfl, tyX11_ok, nmX11, rfl, rfl, by decide +kernel⟩
theorem t_X11_13 : zTY 11 13 .long false := ⟨RX11, TX11, 22, tyX11, rfl, tyX11_ok, nmX11, rfl, rfl, by decide +kernel⟩
theorem t_X11_14 : zTY 11 14 .int false := ⟨RX11, TX11, 22, tyX11, rfl, tyX11_ok, nmX11, rfl, rfl, by decide +kernel⟩
theorem t_X11_15 : zTY 11 15 .int false := ⟨RX11, TX11, 22, tyX11, rfl, tyX11_ok, nmX11, rfl, rfl, by decide +kernel⟩
theorem t_X11_16 : zTY 11 16 .int false := ⟨RX11, TX11, 22, tyX11, rfl, tyX11_ok, nmX11, rfl, rfl, by decide +kernel⟩
theorem t_X11_17 : zTY 11 17 .int false := ⟨RX11, TX11, 22, tyX11, rfl, tyX11_ok, nmX11, rfl, rfl, by decide +kernel⟩
theorem t_X11_18 : zTY 11 18 .int false := ⟨RX11, TX11, 22, tyX11, rfl, tyX11_ok, nmX11, rfl, rfl, by decide +kernel⟩
theorem t_X11_19 : zTY 11 19 .int false := ⟨RX11, TX11, 22, tyX11, rfl, tyX11_ok, nmX11, rfl, rfl, by decide +kernel⟩
theorem t_X11_20 : zTY 11 20 .int false := ⟨RX11, TX11, 22, tyX11, rfl, tyX11_ok, nmX11, rfl, rfl, by decide +kernel⟩
theorem t_X11_21 : zTY 11 21 (.array .int) true := ⟨RX11, TX11, 22, tyX11, rfl, tyX11_ok, nmX11, rfl, rfl, by decide +kernel⟩
theorem i_Math : Cond.initialized "java/lang/Math" ∈ zB := (zB_of 58 (by decide +kernel) rfl)
theorem i_X0 : Cond.initialized RX0 ∈ zB := (zB_of 50 (by decide +kernel) rfl)
theorem i_X1 : Cond.initialized RX1 ∈ zB := (zB_of 54 (by decide +kernel) rfl)
theorem i_X2 : Cond.initialized RX2 ∈ zB := (zB_of 52 (by decide +kernel) rfl)
theorem i_X3 : Cond.initialized RX3 ∈ zB := (zB_of 51 (by decide +kernel) rfl)
theorem i_X4 : Cond.initialized RX4 ∈ zB := (zB_of 55 (by decide +kernel) rfl)
theorem i_X5 : Cond.initialized RX5 ∈ zB := (zB_of 56 (by decide +kernel) rfl)
theorem i_X6 : Cond.initialized RX6 ∈ zB := (zB_of 48 (by decide +kernel) rfl)
theorem i_X7 : Cond.initialized RX7 ∈ zB := (zB_of 53 (by decide +kernel) rfl)
theorem i_X8 : Cond.initialized RX8 ∈ zB := (zB_of 49 (by decide +kernel) rfl)
theorem i_X9 : Cond.initialized RX9 ∈ zB := (zB_of 57 (by decide +kernel) rfl)
theorem i_X10 : Cond.initialized RX10 ∈ zB := (zB_of 47 (by decide +kernel) rfl)
theorem i_X11 : Cond.initialized RX11 ∈ zB := (zB_of 59 (by decide +kernel) rfl)
theorem co_X0_init : Cond.code yX0_init cX0_init 1 none ∈ zB := (zB_of 103 (by decide +kernel) rfl)
theorem pl_X0_init : zPl yX0_init 0 := ⟨by decide +kernel, by decide +kernel, by decide +kernel⟩
theorem pn_X0_init : plainFor yX0_init = true := plainFor_of_name (by decide +kernel)
theorem co_X0_upperAt : Cond.code yX0_upperAt cX0_upperAt 2 (some .int) ∈ zB := (zB_of 440 (by decide +kernel) rfl)
theorem pl_X0_upperAt : zPl yX0_upperAt 1 := ⟨by decide +kernel, by decide +kernel, by decide +kernel⟩
theorem pn_X0_upperAt : plainFor yX0_upperAt = true := plainFor_of_name (by decide +kernel)
theorem co_X0_lowerAt : Cond.code yX0_lowerAt cX0_lowerAt 2 (some .int) ∈ zB := (zB_of 444 (by decide +kernel) rfl)
theorem pl_X0_lowerAt : zPl yX0_lowerAt 1 := ⟨by decide +kernel, by decide +kernel, by decide +kernel⟩
theorem pn_X0_lowerAt : plainFor yX0_lowerAt = true := plainFor_of_name (by decide +kernel)
theorem co_X0_put : Cond.code yX0_put cX0_put 4 none ∈ zB := (zB_of 448 (by decide +kernel) rfl)
theorem pl_X0_put : zPl yX0_put 3 := ⟨by decide +kernel, by decide +kernel, by decide +kernel⟩
theorem pn_X0_put : plainFor yX0_put = true := plainFor_of_name (by decide +kernel)
theorem co_X0_has : Cond.code yX0_has cX0_has 6 (some .boolean) ∈ zB := (zB_of 649 (by decide +kernel) rfl)
theorem pl_X0_has : zPl yX0_has 2 := ⟨by decide +kernel, by decide +kernel, by decide +kernel⟩
theorem pn_X0_has : plainFor yX0_has = true := plainFor_of_name (by decide +kernel)
theorem co_X0_add : Cond.code yX0_add cX0_add 5 (some .int) ∈ zB := (zB_of 457 (by decide +kernel) rfl)
theorem pl_X0_add : zPl yX0_add 3 := ⟨by decide +kernel, by decide +kernel, by decide +kernel⟩
theorem pn_X0_add : plainFor yX0_add = true := plainFor_of_name (by decide +kernel)
theorem co_X0_remove : Cond.code yX0_remove cX0_remove 3 none ∈ zB := (zB_of 658 (by decide +kernel) rfl)
theorem pl_X0_remove : zPl yX0_remove 1 := ⟨by decide +kernel, by decide +kernel, by decide +kernel⟩
theorem pn_X0_remove : plainFor yX0_remove = true := plainFor_of_name (by decide +kernel)
theorem co_X0_putInOrder : Cond.code yX0_putInOrder cX0_putInOrder 4 none ∈ zB := (zB_of 453 (by decide +kernel) rfl)
theorem pl_X0_putInOrder : zPl yX0_putInOrder 1 := ⟨by decide +kernel, by decide +kernel, by decide +kernel⟩
theorem pn_X0_putInOrder : plainFor yX0_putInOrder = true := plainFor_of_name (by decide +kernel)
theorem co_X0_countAbove : Cond.code yX0_countAbove cX0_countAbove 4 (some .int) ∈ zB := (zB_of 683 (by decide +kernel) rfl)
theorem pl_X0_countAbove : zPl yX0_countAbove 1 := ⟨by decide +kernel, by decide +kernel, by decide +kernel⟩
theorem pn_X0_countAbove : plainFor yX0_countAbove = true := plainFor_of_name (by decide +kernel)
theorem co_X0_copyFrom : Cond.code yX0_copyFrom cX0_copyFrom 3 none ∈ zB := (zB_of 436 (by decide +kernel) rfl)
theorem pl_X0_copyFrom : zPl yX0_copyFrom 1 := ⟨by decide +kernel, by decide +kernel, by decide +kernel⟩
theorem pn_X0_copyFrom : plainFor yX0_copyFrom = true := plainFor_of_name (by decide +kernel)
theorem co_X1_init : Cond.code yX1_init cX1_init 1 none ∈ zB := (zB_of 176 (by decide +kernel) rfl)
theorem pl_X1_init : zPl yX1_init 0 := ⟨by decide +kernel, by decide +kernel, by decide +kernel⟩
theorem pn_X1_init : plainFor yX1_init = true := plainFor_of_name (by decide +kernel)
theorem co_X1_begin : Cond.code yX1_begin cX1_begin 1 none ∈ zB := (zB_of 368 (by decide +kernel) rfl)
theorem pl_X1_begin : zPl yX1_begin 0 := ⟨by decide +kernel, by decide +kernel, by decide +kernel⟩
theorem pn_X1_begin : plainFor yX1_begin = true := plainFor_of_name (by decide +kernel)
theorem co_X1_add : Cond.code yX1_add cX1_add 7 none ∈ zB := (zB_of 376 (by decide +kernel) rfl)
theorem pl_X1_add : zPl yX1_add 1 := ⟨by decide +kernel, by decide +kernel, by decide +kernel⟩
theorem pn_X1_add : plainFor yX1_add = true := plainFor_of_name (by decide +kernel)
theorem co_X1_isTooGreat : Cond.code yX1_isTooGreat cX1_isTooGreat 8 (some .boolean) ∈ zB := (zB_of 379 (by decide +kernel) rfl)
theorem pl_X1_isTooGreat : zPl yX1_isTooGreat 3 := ⟨by decide +kernel, by decide +kernel, by decide +kernel⟩
theorem pn_X1_isTooGreat : plainFor yX1_isTooGreat = true := plainFor_of_name (by decide +kernel)
theorem co_X2_init : Cond.code yX2_init cX2_init 1 none ∈ zB := (zB_of 147 (by decide +kernel) rfl)
theorem pl_X2_init : zPl yX2_init 0 := ⟨by decide +kernel, by decide +kernel, by decide +kernel⟩
theorem pn_X2_init : plainFor yX2_init = true := plainFor_of_name (by decide +kernel)
theorem co_X2_unfold : Cond.code yX2_unfold cX2_unfold 3 none ∈ zB := (zB_of 328 (by decide +kernel) rfl)
theorem pl_X2_unfold : zPl yX2_unfold 1 := ⟨by decide +kernel, by decide +kernel, by decide +kernel⟩
theorem pn_X2_unfold : plainFor yX2_unfold = true := plainFor_of_name (by decide +kernel)
theorem co_X2_lookForPeriod : Cond.code yX2_lookForPeriod cX2_lookForPeriod 2 none ∈ zB := (zB_of 343 (by decide +kernel) rfl)
theorem pl_X2_lookForPeriod : zPl yX2_lookForPeriod 1 := ⟨by decide +kernel, by decide +kernel, by decide +kernel⟩
theorem pn_X2_lookForPeriod : plainFor yX2_lookForPeriod = true := plainFor_of_name (by decide +kernel)
theorem co_X2_chainConvergents : Cond.code yX2_chainConvergents cX2_chainConvergents 2 none ∈ zB := (zB_of 364 (by decide +kernel) rfl)
theorem pl_X2_chainConvergents : zPl yX2_chainConvergents 0 := ⟨by decide +kernel, by decide +kernel, by decide +kernel⟩
theorem pn_X2_chainConvergents : plainFor yX2_chainConvergents = true := plainFor_of_name (by decide +kernel)
theorem co_X2_termAt : Cond.code yX2_termAt cX2_termAt 2 (some .int) ∈ zB := (zB_of 372 (by decide +kernel) rfl)
theorem pl_X2_termAt : zPl yX2_termAt 1 := ⟨by decide +kernel, by decide +kernel, by decide +kernel⟩
theorem pn_X2_termAt : plainFor yX2_termAt = true := plainFor_of_name (by decide +kernel)
theorem co_X2_upperAt : Cond.code yX2_upperAt cX2_upperAt 2 (some .long) ∈ zB := (zB_of 516 (by decide +kernel) rfl)
theorem pl_X2_upperAt : zPl yX2_upperAt 1 := ⟨by decide +kernel, by decide +kernel, by decide +kernel⟩
theorem pn_X2_upperAt : plainFor yX2_upperAt = true := plainFor_of_name (by decide +kernel)
theorem co_X2_lowerAt : Cond.code yX2_lowerAt cX2_lowerAt 2 (some .long) ∈ zB := (zB_of 521 (by decide +kernel) rfl)
theorem pl_X2_lowerAt : zPl yX2_lowerAt 1 := ⟨by decide +kernel, by decide +kernel, by decide +kernel⟩
theorem pn_X2_lowerAt : plainFor yX2_lowerAt = true := plainFor_of_name (by decide +kernel)
theorem co_X2_comesAgain : Cond.code yX2_comesAgain cX2_comesAgain 1 (some .boolean) ∈ zB := (zB_of 483 (by decide +kernel) rfl)
theorem pl_X2_comesAgain : zPl yX2_comesAgain 0 := ⟨by decide +kernel, by decide +kernel, by decide +kernel⟩
theorem pn_X2_comesAgain : plainFor yX2_comesAgain = true := plainFor_of_name (by decide +kernel)
theorem co_X2_greatestOfPeriod : Cond.code yX2_greatestOfPeriod cX2_greatestOfPeriod 3 (some .int) ∈ zB := (zB_of 488 (by decide +kernel) rfl)
theorem pl_X2_greatestOfPeriod : zPl yX2_greatestOfPeriod 0 := ⟨by decide +kernel, by decide +kernel, by decide +kernel⟩
theorem pn_X2_greatestOfPeriod : plainFor yX2_greatestOfPeriod = true := plainFor_of_name (by decide +kernel)
theorem co_X2_unlikeOfPeriod : Cond.code yX2_unlikeOfPeriod cX2_unlikeOfPeriod 3 (some .int) ∈ zB := (zB_of 495 (by decide +kernel) rfl)
theorem pl_X2_unlikeOfPeriod : zPl yX2_unlikeOfPeriod 0 := ⟨by decide +kernel, by decide +kernel, by decide +kernel⟩
theorem pn_X2_unlikeOfPeriod : plainFor yX2_unlikeOfPeriod = true := plainFor_of_name (by decide +kernel)
theorem co_X2_isNewInPeriod : Cond.code yX2_isNewInPeriod cX2_isNewInPeriod 3 (some .boolean) ∈ zB := (zB_of 499 (by decide +kernel) rfl)
theorem pl_X2_isNewInPeriod : zPl yX2_isNewInPeriod 1 := ⟨by decide +kernel, by decide +kernel, by decide +kernel⟩
theorem pn_X2_isNewInPeriod : plainFor yX2_isNewInPeriod = true := plainFor_of_name (by decide +kernel)
theorem co_X2_isPeriodMirrored : Cond.code yX2_isPeriodMirrored cX2_isPeriodMirrored 3 (some .boolean) ∈ zB := (zB_of 503 (by decide +kernel) rfl)
theorem pl_X2_isPeriodMirrored : zPl yX2_isPeriodMirrored 0 := ⟨by decide +kernel, by decide +kernel, by decide +kernel⟩
theorem pn_X2_isPeriodMirrored : plainFor yX2_isPeriodMirrored = true := plainFor_of_name (by decide +kernel)
theorem co_X2_hasConvergent : Cond.code yX2_hasConvergent cX2_hasConvergent 6 (some .boolean) ∈ zB := (zB_of 673 (by decide +kernel) rfl)
theorem pl_X2_hasConvergent : zPl yX2_hasConvergent 2 := ⟨by decide +kernel, by decide +kernel, by decide +kernel⟩
theorem pn_X2_hasConvergent : plainFor yX2_hasConvergent = true := plainFor_of_name (by decide +kernel)
theorem co_X2_countShared : Cond.code yX2_countShared cX2_countShared 3 (some .int) ∈ zB := (zB_of 717 (by decide +kernel) rfl)
theorem pl_X2_countShared : zPl yX2_countShared 1 := ⟨by decide +kernel, by decide +kernel, by decide +kernel⟩
theorem pn_X2_countShared : plainFor yX2_countShared = true := plainFor_of_name (by decide +kernel)
theorem co_X3_init : Cond.code yX3_init cX3_init 2 none ∈ zB := (zB_of 130 (by decide +kernel) rfl)
theorem pl_X3_init : zPl yX3_init 0 := ⟨by decide +kernel, by decide +kernel, by decide +kernel⟩
theorem pn_X3_init : plainFor yX3_init = true := plainFor_of_name (by decide +kernel)
theorem co_X3_keep : Cond.code yX3_keep cX3_keep 2 none ∈ zB := (zB_of 420 (by decide +kernel) rfl)
theorem pl_X3_keep : zPl yX3_keep 1 := ⟨by decide +kernel, by decide +kernel, by decide +kernel⟩
theorem pn_X3_keep : plainFor yX3_keep = true := plainFor_of_name (by decide +kernel)
theorem co_X3_takeBack : Cond.code yX3_takeBack cX3_takeBack 2 none ∈ zB := (zB_of 692 (by decide +kernel) rfl)
theorem pl_X3_takeBack : zPl yX3_takeBack 1 := ⟨by decide +kernel, by decide +kernel, by decide +kernel⟩
theorem pn_X3_takeBack : plainFor yX3_takeBack = true := plainFor_of_name (by decide +kernel)
theorem co_X3_dropOldest : Cond.code yX3_dropOldest cX3_dropOldest 3 none ∈ zB := (zB_of 424 (by decide +kernel) rfl)
theorem pl_X3_dropOldest : zPl yX3_dropOldest 0 := ⟨by decide +kernel, by decide +kernel, by decide +kernel⟩
theorem pn_X3_dropOldest : plainFor yX3_dropOldest = true := plainFor_of_name (by decide +kernel)
theorem co_X4_init : Cond.code yX4_init cX4_init 1 none ∈ zB := (zB_of 241 (by decide +kernel) rfl)
theorem pl_X4_init : zPl yX4_init 0 := ⟨by decide +kernel, by decide +kernel, by decide +kernel⟩
theorem pn_X4_init : plainFor yX4_init = true := plainFor_of_name (by decide +kernel)
theorem co_X4_find : Cond.code yX4_find cX4_find 5 none ∈ zB := (zB_of 533 (by decide +kernel) rfl)
theorem pl_X4_find : zPl yX4_find 3 := ⟨by decide +kernel, by decide +kernel, by decide +kernel⟩
theorem pn_X4_find : plainFor yX4_find = true := plainFor_of_name (by decide +kernel)
theorem co_X4_takeMediant : Cond.code yX4_takeMediant cX4_takeMediant 6 none ∈ zB := (zB_of 537 (by decide +kernel) rfl)
theorem pl_X4_takeMediant : zPl yX4_takeMediant 1 := ⟨by decide +kernel, by decide +kernel, by decide +kernel⟩
theorem pn_X4_takeMediant : plainFor yX4_takeMediant = true := plainFor_of_name (by decide +kernel)
theorem co_X4_isAboveNearer : Cond.code yX4_isAboveNearer cX4_isAboveNearer 2 (some .boolean) ∈ zB := (zB_of 543 (by decide +kernel) rfl)
theorem pl_X4_isAboveNearer : zPl yX4_isAboveNearer 1 := ⟨by decide +kernel, by decide +kernel, by decide +kernel⟩
theorem pn_X4_isAboveNearer : plainFor yX4_isAboveNearer = true := plainFor_of_name (by decide +kernel)
theorem co_X5_init : Cond.code yX5_init cX5_init 1 none ∈ zB := (zB_of 268 (by decide +kernel) rfl)
theorem pl_X5_init : zPl yX5_init 0 := ⟨by decide +kernel, by decide +kernel, by decide +kernel⟩
theorem pn_X5_init : plainFor yX5_init = true := plainFor_of_name (by decide +kernel)
theorem co_X5_countAll : Cond.code yX5_countAll cX5_countAll 3 (some .int) ∈ zB := (zB_of 583 (by decide +kernel) rfl)
theorem pl_X5_countAll : zPl yX5_countAll 2 := ⟨by decide +kernel, by decide +kernel, by decide +kernel⟩
theorem pn_X5_countAll : plainFor yX5_countAll = true := plainFor_of_name (by decide +kernel)
theorem co_X5_find : Cond.code yX5_find cX5_find 8 (some .boolean) ∈ zB := (zB_of 567 (by decide +kernel) rfl)
theorem pl_X5_find : zPl yX5_find 3 := ⟨by decide +kernel, by decide +kernel, by decide +kernel⟩
theorem pn_X5_find : plainFor yX5_find = true := plainFor_of_name (by decide +kernel)
theorem co_X5_goToRootOf : Cond.code yX5_goToRootOf cX5_goToRootOf 3 none ∈ zB := (zB_of 573 (by decide +kernel) rfl)
theorem pl_X5_goToRootOf : zPl yX5_goToRootOf 1 := ⟨by decide +kernel, by decide +kernel, by decide +kernel⟩
theorem pn_X5_goToRootOf : plainFor yX5_goToRootOf = true := plainFor_of_name (by decide +kernel)
theorem co_X5_findLeast : Cond.code yX5_findLeast cX5_findLeast 3 (some .boolean) ∈ zB := (zB_of 592 (by decide +kernel) rfl)
theorem pl_X5_findLeast : zPl yX5_findLeast 1 := ⟨by decide +kernel, by decide +kernel, by decide +kernel⟩
theorem pn_X5_findLeast : plainFor yX5_findLeast = true := plainFor_of_name (by decide +kernel)
theorem co_X6_init : Cond.code yX6_init cX6_init 1 none ∈ zB := (zB_of 72 (by decide +kernel) rfl)
theorem pl_X6_init : zPl yX6_init 0 := ⟨by decide +kernel, by decide +kernel, by decide +kernel⟩
theorem pn_X6_init : plainFor yX6_init = true := plainFor_of_name (by decide +kernel)
theorem co_X6_copyFrom : Cond.code yX6_copyFrom cX6_copyFrom 2 none ∈ zB := (zB_of 428 (by decide +kernel) rfl)
theorem pl_X6_copyFrom : zPl yX6_copyFrom 1 := ⟨by decide +kernel, by decide +kernel, by decide +kernel⟩
theorem pn_X6_copyFrom : plainFor yX6_copyFrom = true := plainFor_of_name (by decide +kernel)
theorem co_X7_init : Cond.code yX7_init cX7_init 1 none ∈ zB := (zB_of 153 (by decide +kernel) rfl)
theorem pl_X7_init : zPl yX7_init 0 := ⟨by decide +kernel, by decide +kernel, by decide +kernel⟩
theorem pn_X7_init : plainFor yX7_init = true := plainFor_of_name (by decide +kernel)
theorem co_X7_begin : Cond.code yX7_begin cX7_begin 9 none ∈ zB := (zB_of 332 (by decide +kernel) rfl)
theorem pl_X7_begin : zPl yX7_begin 3 := ⟨by decide +kernel, by decide +kernel, by decide +kernel⟩
theorem pn_X7_begin : plainFor yX7_begin = true := plainFor_of_name (by decide +kernel)
theorem co_X7_whole : Cond.code yX7_whole cX7_whole 1 (some .long) ∈ zB := (zB_of 351 (by decide +kernel) rfl)
theorem pl_X7_whole : zPl yX7_whole 0 := ⟨by decide +kernel, by decide +kernel, by decide +kernel⟩
theorem pn_X7_whole : plainFor yX7_whole = true := plainFor_of_name (by decide +kernel)
theorem co_X7_advance : Cond.code yX7_advance cX7_advance 1 none ∈ zB := (zB_of 359 (by decide +kernel) rfl)
theorem pl_X7_advance : zPl yX7_advance 0 := ⟨by decide +kernel, by decide +kernel, by decide +kernel⟩
theorem pn_X7_advance : plainFor yX7_advance = true := plainFor_of_name (by decide +kernel)
theorem co_X7_isReduced : Cond.code yX7_isReduced cX7_isReduced 1 (some .boolean) ∈ zB := (zB_of 347 (by decide +kernel) rfl)
theorem pl_X7_isReduced : zPl yX7_isReduced 0 := ⟨by decide +kernel, by decide +kernel, by decide +kernel⟩
theorem pn_X7_isReduced : plainFor yX7_isReduced = true := plainFor_of_name (by decide +kernel)
theorem co_X7_rootOf : Cond.code yX7_rootOf cX7_rootOf 6 (some .long) ∈ zB := (zB_of 338 (by decide +kernel) rfl)
theorem pl_X7_rootOf : zPl yX7_rootOf 1 := ⟨by decide +kernel, by decide +kernel, by decide +kernel⟩
theorem pn_X7_rootOf : plainFor yX7_rootOf = true := plainFor_of_name (by decide +kernel)
theorem co_X8_init : Cond.code yX8_init cX8_init 1 none ∈ zB := (zB_of 78 (by decide +kernel) rfl)
theorem pl_X8_init : zPl yX8_init 0 := ⟨by decide +kernel, by decide +kernel, by decide +kernel⟩
theorem pn_X8_init : plainFor yX8_init = true := plainFor_of_name (by decide +kernel)
theorem co_X8_set : Cond.code yX8_set cX8_set 4 none ∈ zB := (zB_of 432 (by decide +kernel) rfl)
theorem pl_X8_set : zPl yX8_set 3 := ⟨by decide +kernel, by decide +kernel, by decide +kernel⟩
theorem pn_X8_set : plainFor yX8_set = true := plainFor_of_name (by decide +kernel)
theorem co_X8_isPassedBy : Cond.code yX8_isPassedBy cX8_isPassedBy 8 (some .boolean) ∈ zB := (zB_of 465 (by decide +kernel) rfl)
theorem pl_X8_isPassedBy : zPl yX8_isPassedBy 2 := ⟨by decide +kernel, by decide +kernel, by decide +kernel⟩
theorem pn_X8_isPassedBy : plainFor yX8_isPassedBy = true := plainFor_of_name (by decide +kernel)
theorem co_X8_isNearer : Cond.code yX8_isNearer cX8_isNearer 14 (some .boolean) ∈ zB := (zB_of 461 (by decide +kernel) rfl)
theorem pl_X8_isNearer : zPl yX8_isNearer 4 := ⟨by decide +kernel, by decide +kernel, by decide +kernel⟩
theorem pn_X8_isNearer : plainFor yX8_isNearer = true := plainFor_of_name (by decide +kernel)
theorem co_X9_init : Cond.code yX9_init cX9_init 1 none ∈ zB := (zB_of 296 (by decide +kernel) rfl)
theorem pl_X9_init : zPl yX9_init 0 := ⟨by decide +kernel, by decide +kernel, by decide +kernel⟩
theorem pn_X9_init : plainFor yX9_init = true := plainFor_of_name (by decide +kernel)
theorem co_X9_append : Cond.code yX9_append cX9_append 2 none ∈ zB := (zB_of 700 (by decide +kernel) rfl)
theorem pl_X9_append : zPl yX9_append 1 := ⟨by decide +kernel, by decide +kernel, by decide +kernel⟩
theorem pn_X9_append : plainFor yX9_append = true := plainFor_of_name (by decide +kernel)
theorem co_X9_characterAt : Cond.code yX9_characterAt cX9_characterAt 2 (some .char) ∈ zB := (zB_of 609 (by decide +kernel) rfl)
theorem pl_X9_characterAt : zPl yX9_characterAt 1 := ⟨by decide +kernel, by decide +kernel, by decide +kernel⟩
theorem pn_X9_characterAt : plainFor yX9_characterAt = true := plainFor_of_name (by decide +kernel)
theorem co_X9_digitAt : Cond.code yX9_digitAt cX9_digitAt 3 (some .int) ∈ zB := (zB_of 617 (by decide +kernel) rfl)
theorem pl_X9_digitAt : zPl yX9_digitAt 1 := ⟨by decide +kernel, by decide +kernel, by decide +kernel⟩
theorem pn_X9_digitAt : plainFor yX9_digitAt = true := plainFor_of_name (by decide +kernel)
theorem co_X9_hasFault : Cond.code yX9_hasFault cX9_hasFault 1 (some .boolean) ∈ zB := (zB_of 629 (by decide +kernel) rfl)
theorem pl_X9_hasFault : zPl yX9_hasFault 0 := ⟨by decide +kernel, by decide +kernel, by decide +kernel⟩
theorem pn_X9_hasFault : plainFor yX9_hasFault = true := plainFor_of_name (by decide +kernel)
theorem co_X9_termAt : Cond.code yX9_termAt cX9_termAt 2 (some .int) ∈ zB := (zB_of 638 (by decide +kernel) rfl)
theorem pl_X9_termAt : zPl yX9_termAt 1 := ⟨by decide +kernel, by decide +kernel, by decide +kernel⟩
theorem pn_X9_termAt : plainFor yX9_termAt = true := plainFor_of_name (by decide +kernel)
theorem co_X9_read : Cond.code yX9_read cX9_read 5 none ∈ zB := (zB_of 605 (by decide +kernel) rfl)
theorem pl_X9_read : zPl yX9_read 0 := ⟨by decide +kernel, by decide +kernel, by decide +kernel⟩
theorem pn_X9_read : plainFor yX9_read = true := plainFor_of_name (by decide +kernel)
theorem co_X9_readNumber : Cond.code yX9_readNumber cX9_readNumber 5 (some .int) ∈ zB := (zB_of 613 (by decide +kernel) rfl)
theorem pl_X9_readNumber : zPl yX9_readNumber 2 := ⟨by decide +kernel, by decide +kernel, by decide +kernel⟩
theorem pn_X9_readNumber : plainFor yX9_readNumber = true := plainFor_of_name (by decide +kernel)
theorem co_X9_setFault : Cond.code yX9_setFault cX9_setFault 3 none ∈ zB := (zB_of 621 (by decide +kernel) rfl)
theorem pl_X9_setFault : zPl yX9_setFault 2 := ⟨by decide +kernel, by decide +kernel, by decide +kernel⟩
theorem pn_X9_setFault : plainFor yX9_setFault = true := plainFor_of_name (by decide +kernel)
theorem co_X9_addTerm : Cond.code yX9_addTerm cX9_addTerm 2 none ∈ zB := (zB_of 625 (by decide +kernel) rfl)
theorem pl_X9_addTerm : zPl yX9_addTerm 1 := ⟨by decide +kernel, by decide +kernel, by decide +kernel⟩
theorem pn_X9_addTerm : plainFor yX9_addTerm = true := plainFor_of_name (by decide +kernel)
theorem co_X9_chainTerms : Cond.code yX9_chainTerms cX9_chainTerms 3 none ∈ zB := (zB_of 633 (by decide +kernel) rfl)
theorem pl_X9_chainTerms : zPl yX9_chainTerms 1 := ⟨by decide +kernel, by decide +kernel, by decide +kernel⟩
theorem pn_X9_chainTerms : plainFor yX9_chainTerms = true := plainFor_of_name (by decide +kernel)
theorem co_X10_init : Cond.code yX10_init cX10_init 1 none ∈ zB := (zB_of 64 (by decide +kernel) rfl)
theorem pl_X10_init : zPl yX10_init 0 := ⟨by decide +kernel, by decide +kernel, by decide +kernel⟩
theorem pn_X10_init : plainFor yX10_init = true := plainFor_of_name (by decide +kernel)
theorem co_X10_surd : Cond.code yX10_surd cX10_surd 4 (some .int) ∈ zB := (zB_of 407 (by decide +kernel) rfl)
theorem pl_X10_surd : zPl yX10_surd 3 := ⟨by decide +kernel, by decide +kernel, by decide +kernel⟩
theorem pn_X10_surd : plainFor yX10_surd = true := plainFor_of_name (by decide +kernel)
theorem co_X10_partOf : Cond.code yX10_partOf cX10_partOf 2 (some .int) ∈ zB := (zB_of 470 (by decide +kernel) rfl)
theorem pl_X10_partOf : zPl yX10_partOf 1 := ⟨by decide +kernel, by decide +kernel, by decide +kernel⟩
theorem pn_X10_partOf : plainFor yX10_partOf = true := plainFor_of_name (by decide +kernel)
theorem co_X10_term : Cond.code yX10_term cX10_term 2 (some .int) ∈ zB := (zB_of 474 (by decide +kernel) rfl)
theorem pl_X10_term : zPl yX10_term 1 := ⟨by decide +kernel, by decide +kernel, by decide +kernel⟩
theorem pn_X10_term : plainFor yX10_term = true := plainFor_of_name (by decide +kernel)
theorem co_X10_again : Cond.code yX10_again cX10_again 2 (some .int) ∈ zB := (zB_of 479 (by decide +kernel) rfl)
theorem pl_X10_again : zPl yX10_again 1 := ⟨by decide +kernel, by decide +kernel, by decide +kernel⟩
theorem pn_X10_again : plainFor yX10_again = true := plainFor_of_name (by decide +kernel)
theorem co_X10_convergent : Cond.code yX10_convergent cX10_convergent 3 (some .long) ∈ zB := (zB_of 510 (by decide +kernel) rfl)
theorem pl_X10_convergent : zPl yX10_convergent 2 := ⟨by decide +kernel, by decide +kernel, by decide +kernel⟩
theorem pn_X10_convergent : plainFor yX10_convergent = true := plainFor_of_name (by decide +kernel)
theorem co_X10_between : Cond.code yX10_between cX10_between 4 (some .long) ∈ zB := (zB_of 525 (by decide +kernel) rfl)
theorem pl_X10_between : zPl yX10_between 3 := ⟨by decide +kernel, by decide +kernel, by decide +kernel⟩
theorem pn_X10_between : plainFor yX10_between = true := plainFor_of_name (by decide +kernel)
theorem co_X10_nearest : Cond.code yX10_nearest cX10_nearest 3 (some .int) ∈ zB := (zB_of 529 (by decide +kernel) rfl)
theorem pl_X10_nearest : zPl yX10_nearest 2 := ⟨by decide +kernel, by decide +kernel, by decide +kernel⟩
theorem pn_X10_nearest : plainFor yX10_nearest = true := plainFor_of_name (by decide +kernel)
theorem co_X10_beside : Cond.code yX10_beside cX10_beside 4 (some .int) ∈ zB := (zB_of 552 (by decide +kernel) rfl)
theorem pl_X10_beside : zPl yX10_beside 3 := ⟨by decide +kernel, by decide +kernel, by decide +kernel⟩
theorem pn_X10_beside : plainFor yX10_beside = true := plainFor_of_name (by decide +kernel)
theorem co_X10_records : Cond.code yX10_records cX10_records 2 (some .int) ∈ zB := (zB_of 556 (by decide +kernel) rfl)
theorem pl_X10_records : zPl yX10_records 1 := ⟨by decide +kernel, by decide +kernel, by decide +kernel⟩
theorem pn_X10_records : plainFor yX10_records = true := plainFor_of_name (by decide +kernel)
theorem co_X10_solution : Cond.code yX10_solution cX10_solution 4 (some .int) ∈ zB := (zB_of 560 (by decide +kernel) rfl)
theorem pl_X10_solution : zPl yX10_solution 3 := ⟨by decide +kernel, by decide +kernel, by decide +kernel⟩
theorem pn_X10_solution : plainFor yX10_solution = true := plainFor_of_name (by decide +kernel)
theorem co_X10_solutions : Cond.code yX10_solutions cX10_solutions 2 (some .int) ∈ zB := (zB_of 579 (by decide +kernel) rfl)
theorem pl_X10_solutions : zPl yX10_solutions 1 := ⟨by decide +kernel, by decide +kernel, by decide +kernel⟩
theorem pn_X10_solutions : plainFor yX10_solutions = true := plainFor_of_name (by decide +kernel)
theorem co_X10_leastSolution : Cond.code yX10_leastSolution cX10_leastSolution 2 (some .long) ∈ zB := (zB_of 588 (by decide +kernel) rfl)
theorem pl_X10_leastSolution : zPl yX10_leastSolution 1 := ⟨by decide +kernel, by decide +kernel, by decide +kernel⟩
theorem pn_X10_leastSolution : plainFor yX10_leastSolution = true := plainFor_of_name (by decide +kernel)
theorem co_X10_note : Cond.code yX10_note cX10_note 1 (some .int) ∈ zB := (zB_of 601 (by decide +kernel) rfl)
theorem pl_X10_note : zPl yX10_note 0 := ⟨by decide +kernel, by decide +kernel, by decide +kernel⟩
theorem pn_X10_note : plainFor yX10_note = true := plainFor_of_name (by decide +kernel)
theorem co_X10_strike : Cond.code yX10_strike cX10_strike 2 (some .int) ∈ zB := (zB_of 654 (by decide +kernel) rfl)
theorem pl_X10_strike : zPl yX10_strike 1 := ⟨by decide +kernel, by decide +kernel, by decide +kernel⟩
theorem pn_X10_strike : plainFor yX10_strike = true := plainFor_of_name (by decide +kernel)
theorem co_X10_strikeAll : Cond.code yX10_strikeAll cX10_strikeAll 2 (some .int) ∈ zB := (zB_of 662 (by decide +kernel) rfl)
theorem pl_X10_strikeAll : zPl yX10_strikeAll 0 := ⟨by decide +kernel, by decide +kernel, by decide +kernel⟩
theorem pn_X10_strikeAll : plainFor yX10_strikeAll = true := plainFor_of_name (by decide +kernel)
theorem co_X10_noteOf : Cond.code yX10_noteOf cX10_noteOf 5 (some .int) ∈ zB := (zB_of 666 (by decide +kernel) rfl)
theorem pl_X10_noteOf : zPl yX10_noteOf 2 := ⟨by decide +kernel, by decide +kernel, by decide +kernel⟩
theorem pn_X10_noteOf : plainFor yX10_noteOf = true := plainFor_of_name (by decide +kernel)
theorem co_X10_count : Cond.code yX10_count cX10_count 2 (some .int) ∈ zB := (zB_of 679 (by decide +kernel) rfl)
theorem pl_X10_count : zPl yX10_count 1 := ⟨by decide +kernel, by decide +kernel, by decide +kernel⟩
theorem pn_X10_count : plainFor yX10_count = true := plainFor_of_name (by decide +kernel)
theorem co_X10_undo : Cond.code yX10_undo cX10_undo 1 (some .int) ∈ zB := (zB_of 688 (by decide +kernel) rfl)
theorem pl_X10_undo : zPl yX10_undo 0 := ⟨by decide +kernel, by decide +kernel, by decide +kernel⟩
theorem pn_X10_undo : plainFor yX10_undo = true := plainFor_of_name (by decide +kernel)
theorem co_X10_type : Cond.code yX10_type cX10_type 2 (some .int) ∈ zB := (zB_of 696 (by decide +kernel) rfl)
theorem pl_X10_type : zPl yX10_type 1 := ⟨by decide +kernel, by decide +kernel, by decide +kernel⟩
theorem pn_X10_type : plainFor yX10_type = true := plainFor_of_name (by decide +kernel)
theorem co_X10_clearText : Cond.code yX10_clearText cX10_clearText 2 (some .int) ∈ zB := (zB_of 704 (by decide +kernel) rfl)
theorem pl_X10_clearText : zPl yX10_clearText 0 := ⟨by decide +kernel, by decide +kernel, by decide +kernel⟩
theorem pn_X10_clearText : plainFor yX10_clearText = true := plainFor_of_name (by decide +kernel)
theorem co_X10_fault : Cond.code yX10_fault cX10_fault 2 (some .int) ∈ zB := (zB_of 708 (by decide +kernel) rfl)
theorem pl_X10_fault : zPl yX10_fault 1 := ⟨by decide +kernel, by decide +kernel, by decide +kernel⟩
theorem pn_X10_fault : plainFor yX10_fault = true := plainFor_of_name (by decide +kernel)
theorem co_X10_told : Cond.code yX10_told cX10_told 2 (some .long) ∈ zB := (zB_of 712 (by decide +kernel) rfl)
theorem pl_X10_told : zPl yX10_told 1 := ⟨by decide +kernel, by decide +kernel, by decide +kernel⟩
theorem pn_X10_told : plainFor yX10_told = true := plainFor_of_name (by decide +kernel)
theorem co_X10_toldAbove : Cond.code yX10_toldAbove cX10_toldAbove 1 (some .long) ∈ zB := (zB_of 722 (by decide +kernel) rfl)
theorem pl_X10_toldAbove : zPl yX10_toldAbove 0 := ⟨by decide +kernel, by decide +kernel, by decide +kernel⟩
theorem pn_X10_toldAbove : plainFor yX10_toldAbove = true := plainFor_of_name (by decide +kernel)
theorem co_X10_toldPart : Cond.code yX10_toldPart cX10_toldPart 2 (some .long) ∈ zB := (zB_of 726 (by decide +kernel) rfl)
theorem pl_X10_toldPart : zPl yX10_toldPart 1 := ⟨by decide +kernel, by decide +kernel, by decide +kernel⟩
theorem pn_X10_toldPart : plainFor yX10_toldPart = true := plainFor_of_name (by decide +kernel)
theorem co_X10_neighbourPart : Cond.code yX10_neighbourPart cX10_neighbourPart 3 (some .int) ∈ zB := (zB_of 547 (by decide +kernel) rfl)
theorem pl_X10_neighbourPart : zPl yX10_neighbourPart 2 := ⟨by decide +kernel, by decide +kernel, by decide +kernel⟩
theorem pn_X10_neighbourPart : plainFor yX10_neighbourPart = true := plainFor_of_name (by decide +kernel)
theorem co_X10_isWithin : Cond.code yX10_isWithin cX10_isWithin 3 (some .boolean) ∈ zB := (zB_of 410 (by decide +kernel) rfl)
theorem pl_X10_isWithin : zPl yX10_isWithin 3 := ⟨by decide +kernel, by decide +kernel, by decide +kernel⟩
theorem pn_X10_isWithin : plainFor yX10_isWithin = true := plainFor_of_name (by decide +kernel)
theorem co_X10_isRightSide : Cond.code yX10_isRightSide cX10_isRightSide 1 (some .boolean) ∈ zB := (zB_of 563 (by decide +kernel) rfl)
theorem pl_X10_isRightSide : zPl yX10_isRightSide 1 := ⟨by decide +kernel, by decide +kernel, by decide +kernel⟩
theorem pn_X10_isRightSide : plainFor yX10_isRightSide = true := plainFor_of_name (by decide +kernel)
theorem co_X10_isSquare : Cond.code yX10_isSquare cX10_isSquare 3 (some .boolean) ∈ zB := (zB_of 414 (by decide +kernel) rfl)
theorem pl_X10_isSquare : zPl yX10_isSquare 1 := ⟨by decide +kernel, by decide +kernel, by decide +kernel⟩
theorem pn_X10_isSquare : plainFor yX10_isSquare = true := plainFor_of_name (by decide +kernel)
theorem co_X10_fitsBook : Cond.code yX10_fitsBook cX10_fitsBook 1 (some .boolean) ∈ zB := (zB_of 642 (by decide +kernel) rfl)
theorem pl_X10_fitsBook : zPl yX10_fitsBook 1 := ⟨by decide +kernel, by decide +kernel, by decide +kernel⟩
theorem pn_X10_fitsBook : plainFor yX10_fitsBook = true := plainFor_of_name (by decide +kernel)
theorem co_X10_oneIf : Cond.code yX10_oneIf cX10_oneIf 1 (some .int) ∈ zB := (zB_of 506 (by decide +kernel) rfl)
theorem pl_X10_oneIf : zPl yX10_oneIf 1 := ⟨by decide +kernel, by decide +kernel, by decide +kernel⟩
theorem pn_X10_oneIf : plainFor yX10_oneIf = true := plainFor_of_name (by decide +kernel)
theorem co_X11_init : Cond.code yX11_init cX11_init 1 none ∈ zB := (zB_of 731 (by decide +kernel) rfl)
theorem pl_X11_init : zPl yX11_init 0 := ⟨by decide +kernel, by decide +kernel, by decide +kernel⟩
theorem pn_X11_init : plainFor yX11_init = true := plainFor_of_name (by decide +kernel)
theorem co_X11_in : Cond.code yX11_in cX11_in 6 (some .boolean) ∈ zB := (zB_of 808 (by decide +kernel) rfl)
theorem pl_X11_in : zPl yX11_in 3 := ⟨by decide +kernel, by decide +kernel, by decide +kernel⟩
theorem pn_X11_in : plainFor yX11_in = true := plainFor_of_name (by decide +kernel)
theorem co_X11_changes : Cond.code yX11_changes cX11_changes 2 none ∈ zB := (zB_of 820 (by decide +kernel) rfl)
theorem pl_X11_changes : zPl yX11_changes 0 := ⟨by decide +kernel, by decide +kernel, by decide +kernel⟩
theorem pn_X11_changes : plainFor yX11_changes = true := plainFor_of_name (by decide +kernel)
theorem co_X11_root : Cond.code yX11_root cX11_root 9 (some .long) ∈ zB := (zB_of 814 (by decide +kernel) rfl)
theorem pl_X11_root : zPl yX11_root 1 := ⟨by decide +kernel, by decide +kernel, by decide +kernel⟩
theorem pn_X11_root : plainFor yX11_root = true := plainFor_of_name (by decide +kernel)
theorem co_X11_down : Cond.code yX11_down cX11_down 6 (some .long) ∈ zB := (zB_of 840 (by decide +kernel) rfl)
theorem pl_X11_down : zPl yX11_down 2 := ⟨by decide +kernel, by decide +kernel, by decide +kernel⟩
theorem pn_X11_down : plainFor yX11_down = true := plainFor_of_name (by decide +kernel)
theorem co_X11_surd : Cond.code yX11_surd cX11_surd 6 (some .int) ∈ zB := (zB_of 803 (by decide +kernel) rfl)
theorem pl_X11_surd : zPl yX11_surd 3 := ⟨by decide +kernel, by decide +kernel, by decide +kernel⟩
theorem pn_X11_surd : plainFor yX11_surd = true := plainFor_of_name (by decide +kernel)
theorem co_X11_partOf : Cond.code yX11_partOf cX11_partOf 2 (some .int) ∈ zB := (zB_of 824 (by decide +kernel) rfl)
theorem pl_X11_partOf : zPl yX11_partOf 1 := ⟨by decide +kernel, by decide +kernel, by decide +kernel⟩
theorem pn_X11_partOf : plainFor yX11_partOf = true := plainFor_of_name (by decide +kernel)
theorem co_X11_laysOf : Cond.code yX11_laysOf cX11_laysOf 16 none ∈ zB := (zB_of 837 (by decide +kernel) rfl)
theorem pl_X11_laysOf : zPl yX11_laysOf 3 := ⟨by decide +kernel, by decide +kernel, by decide +kernel⟩
theorem pn_X11_laysOf : plainFor yX11_laysOf = true := plainFor_of_name (by decide +kernel)
theorem co_X11_lays : Cond.code yX11_lays cX11_lays 3 none ∈ zB := (zB_of 833 (by decide +kernel) rfl)
theorem pl_X11_lays : zPl yX11_lays 0 := ⟨by decide +kernel, by decide +kernel, by decide +kernel⟩
theorem pn_X11_lays : plainFor yX11_lays = true := plainFor_of_name (by decide +kernel)
theorem co_X11_term : Cond.code yX11_term cX11_term 2 (some .int) ∈ zB := (zB_of 828 (by decide +kernel) rfl)
theorem pl_X11_term : zPl yX11_term 1 := ⟨by decide +kernel, by decide +kernel, by decide +kernel⟩
theorem pn_X11_term : plainFor yX11_term = true := plainFor_of_name (by decide +kernel)
theorem co_X11_period : Cond.code yX11_period cX11_period 3 (some .int) ∈ zB := (zB_of 849 (by decide +kernel) rfl)
theorem pl_X11_period : zPl yX11_period 0 := ⟨by decide +kernel, by decide +kernel, by decide +kernel⟩
theorem pn_X11_period : plainFor yX11_period = true := plainFor_of_name (by decide +kernel)
theorem co_X11_greatest : Cond.code yX11_greatest cX11_greatest 4 (some .int) ∈ zB := (zB_of 854 (by decide +kernel) rfl)
theorem pl_X11_greatest : zPl yX11_greatest 1 := ⟨by decide +kernel, by decide +kernel, by decide +kernel⟩
theorem pn_X11_greatest : plainFor yX11_greatest = true := plainFor_of_name (by decide +kernel)
theorem co_X11_unlike : Cond.code yX11_unlike cX11_unlike 6 (some .int) ∈ zB := (zB_of 858 (by decide +kernel) rfl)
theorem pl_X11_unlike : zPl yX11_unlike 1 := ⟨by decide +kernel, by decide +kernel, by decide +kernel⟩
theorem pn_X11_unlike : plainFor yX11_unlike = true := plainFor_of_name (by decide +kernel)
theorem co_X11_isMirror : Cond.code yX11_isMirror cX11_isMirror 4 (some .boolean) ∈ zB := (zB_of 862 (by decide +kernel) rfl)
theorem pl_X11_isMirror : zPl yX11_isMirror 1 := ⟨by decide +kernel, by decide +kernel, by decide +kernel⟩
theorem pn_X11_isMirror : plainFor yX11_isMirror = true := plainFor_of_name (by decide +kernel)
theorem co_X11_again : Cond.code yX11_again cX11_again 3 (some .int) ∈ zB := (zB_of 844 (by decide +kernel) rfl)
theorem pl_X11_again : zPl yX11_again 1 := ⟨by decide +kernel, by decide +kernel, by decide +kernel⟩
theorem pn_X11_again : plainFor yX11_again = true := plainFor_of_name (by decide +kernel)
theorem co_X11_size : Cond.code yX11_size cX11_size 2 (some .long) ∈ zB := (zB_of 882 (by decide +kernel) rfl)
theorem pl_X11_size : zPl yX11_size 1 := ⟨by decide +kernel, by decide +kernel, by decide +kernel⟩
theorem pn_X11_size : plainFor yX11_size = true := plainFor_of_name (by decide +kernel)
theorem co_X11_begins : Cond.code yX11_begins cX11_begins 1 none ∈ zB := (zB_of 875 (by decide +kernel) rfl)
theorem pl_X11_begins : zPl yX11_begins 0 := ⟨by decide +kernel, by decide +kernel, by decide +kernel⟩
theorem pn_X11_begins : plainFor yX11_begins = true := plainFor_of_name (by decide +kernel)
theorem co_X11_goesOn : Cond.code yX11_goesOn cX11_goesOn 9 (some .boolean) ∈ zB := (zB_of 879 (by decide +kernel) rfl)
theorem pl_X11_goesOn : zPl yX11_goesOn 1 := ⟨by decide +kernel, by decide +kernel, by decide +kernel⟩
theorem pn_X11_goesOn : plainFor yX11_goesOn = true := plainFor_of_name (by decide +kernel)
theorem co_X11_goesTo : Cond.code yX11_goesTo cX11_goesTo 4 (some .boolean) ∈ zB := (zB_of 871 (by decide +kernel) rfl)
theorem pl_X11_goesTo : zPl yX11_goesTo 1 := ⟨by decide +kernel, by decide +kernel, by decide +kernel⟩
theorem pn_X11_goesTo : plainFor yX11_goesTo = true := plainFor_of_name (by decide +kernel)
theorem co_X11_convergent : Cond.code yX11_convergent cX11_convergent 3 (some .long) ∈ zB := (zB_of 866 (by decide +kernel) rfl)
theorem pl_X11_convergent : zPl yX11_convergent 2 := ⟨by decide +kernel, by decide +kernel, by decide +kernel⟩
theorem pn_X11_convergent : plainFor yX11_convergent = true := plainFor_of_name (by decide +kernel)
theorem co_X11_between : Cond.code yX11_between cX11_between 6 (some .long) ∈ zB := (zB_of 889 (by decide +kernel) rfl)
theorem pl_X11_between : zPl yX11_between 3 := ⟨by decide +kernel, by decide +kernel, by decide +kernel⟩
theorem pn_X11_between : plainFor yX11_between = true := plainFor_of_name (by decide +kernel)
theorem co_X11_isAbove : Cond.code yX11_isAbove cX11_isAbove 8 (some .boolean) ∈ zB := (zB_of 910 (by decide +kernel) rfl)
theorem pl_X11_isAbove : zPl yX11_isAbove 2 := ⟨by decide +kernel, by decide +kernel, by decide +kernel⟩
theorem pn_X11_isAbove : plainFor yX11_isAbove = true := plainFor_of_name (by decide +kernel)
theorem co_X11_isNearer : Cond.code yX11_isNearer cX11_isNearer 12 (some .boolean) ∈ zB := (zB_of 906 (by decide +kernel) rfl)
theorem pl_X11_isNearer : zPl yX11_isNearer 4 := ⟨by decide +kernel, by decide +kernel, by decide +kernel⟩
theorem pn_X11_isNearer : plainFor yX11_isNearer = true := plainFor_of_name (by decide +kernel)
theorem co_X11_floorOf : Cond.code yX11_floorOf cX11_floorOf 4 (some .long) ∈ zB := (zB_of 902 (by decide +kernel) rfl)
theorem pl_X11_floorOf : zPl yX11_floorOf 1 := ⟨by decide +kernel, by decide +kernel, by decide +kernel⟩
theorem pn_X11_floorOf : plainFor yX11_floorOf = true := plainFor_of_name (by decide +kernel)
theorem co_X11_seeks : Cond.code yX11_seeks cX11_seeks 6 (some .int) ∈ zB := (zB_of 898 (by decide +kernel) rfl)
theorem pl_X11_seeks : zPl yX11_seeks 1 := ⟨by decide +kernel, by decide +kernel, by decide +kernel⟩
theorem pn_X11_seeks : plainFor yX11_seeks = true := plainFor_of_name (by decide +kernel)
theorem co_X11_best : Cond.code yX11_best cX11_best 2 (some .int) ∈ zB := (zB_of 914 (by decide +kernel) rfl)
theorem pl_X11_best : zPl yX11_best 1 := ⟨by decide +kernel, by decide +kernel, by decide +kernel⟩
theorem pn_X11_best : plainFor yX11_best = true := plainFor_of_name (by decide +kernel)
theorem co_X11_nearest : Cond.code yX11_nearest cX11_nearest 3 (some .int) ∈ zB := (zB_of 893 (by decide +kernel) rfl)
theorem pl_X11_nearest : zPl yX11_nearest 2 := ⟨by decide +kernel, by decide +kernel, by decide +kernel⟩
theorem pn_X11_nearest : plainFor yX11_nearest = true := plainFor_of_name (by decide +kernel)
theorem co_X11_beside : Cond.code yX11_beside cX11_beside 9 (some .int) ∈ zB := (zB_of 919 (by decide +kernel) rfl)
theorem pl_X11_beside : zPl yX11_beside 3 := ⟨by decide +kernel, by decide +kernel, by decide +kernel⟩
theorem pn_X11_beside : plainFor yX11_beside = true := plainFor_of_name (by decide +kernel)
theorem co_X11_records : Cond.code yX11_records cX11_records 2 (some .int) ∈ zB := (zB_of 923 (by decide +kernel) rfl)
theorem pl_X11_records : zPl yX11_records 1 := ⟨by decide +kernel, by decide +kernel, by decide +kernel⟩
theorem pn_X11_records : plainFor yX11_records = true := plainFor_of_name (by decide +kernel)
theorem co_X11_solves : Cond.code yX11_solves cX11_solves 8 none ∈ zB := (zB_of 936 (by decide +kernel) rfl)
theorem pl_X11_solves : zPl yX11_solves 2 := ⟨by decide +kernel, by decide +kernel, by decide +kernel⟩
theorem pn_X11_solves : plainFor yX11_solves = true := plainFor_of_name (by decide +kernel)
theorem co_X11_isN : Cond.code yX11_isN cX11_isN 1 (some .boolean) ∈ zB := (zB_of 930 (by decide +kernel) rfl)
theorem pl_X11_isN : zPl yX11_isN 1 := ⟨by decide +kernel, by decide +kernel, by decide +kernel⟩
theorem pn_X11_isN : plainFor yX11_isN = true := plainFor_of_name (by decide +kernel)
theorem co_X11_solution : Cond.code yX11_solution cX11_solution 4 (some .int) ∈ zB := (zB_of 927 (by decide +kernel) rfl)
theorem pl_X11_solution : zPl yX11_solution 3 := ⟨by decide +kernel, by decide +kernel, by decide +kernel⟩
theorem pn_X11_solution : plainFor yX11_solution = true := plainFor_of_name (by decide +kernel)
theorem co_X11_solutions : Cond.code yX11_solutions cX11_solutions 2 (some .int) ∈ zB := (zB_of 942 (by decide +kernel) rfl)
theorem pl_X11_solutions : zPl yX11_solutions 1 := ⟨by decide +kernel, by decide +kernel, by decide +kernel⟩
theorem pn_X11_solutions : plainFor yX11_solutions = true := plainFor_of_name (by decide +kernel)
theorem co_X11_leastSolution : Cond.code yX11_leastSolution cX11_leastSolution 3 (some .long) ∈ zB := (zB_of 946 (by decide +kernel) rfl)
theorem pl_X11_leastSolution : zPl yX11_leastSolution 1 := ⟨by decide +kernel, by decide +kernel, by decide +kernel⟩
theorem pn_X11_leastSolution : plainFor yX11_leastSolution = true := plainFor_of_name (by decide +kernel)
theorem co_X11_isAt : Cond.code yX11_isAt cX11_isAt 3 (some .boolean) ∈ zB := (zB_of 962 (by decide +kernel) rfl)
theorem pl_X11_isAt : zPl yX11_isAt 2 := ⟨by decide +kernel, by decide +kernel, by decide +kernel⟩
theorem pn_X11_isAt : plainFor yX11_isAt = true := plainFor_of_name (by decide +kernel)
theorem co_X11_passes : Cond.code yX11_passes cX11_passes 3 (some .boolean) ∈ zB := (zB_of 958 (by decide +kernel) rfl)
theorem pl_X11_passes : zPl yX11_passes 1 := ⟨by decide +kernel, by decide +kernel, by decide +kernel⟩
theorem pn_X11_passes : plainFor yX11_passes = true := plainFor_of_name (by decide +kernel)
theorem co_X11_number : Cond.code yX11_number cX11_number 3 (some .boolean) ∈ zB := (zB_of 966 (by decide +kernel) rfl)
theorem pl_X11_number : zPl yX11_number 0 := ⟨by decide +kernel, by decide +kernel, by decide +kernel⟩
theorem pn_X11_number : plainFor yX11_number = true := plainFor_of_name (by decide +kernel)
theorem co_X11_later : Cond.code yX11_later cX11_later 2 (some .boolean) ∈ zB := (zB_of 970 (by decide +kernel) rfl)
theorem pl_X11_later : zPl yX11_later 0 := ⟨by decide +kernel, by decide +kernel, by decide +kernel⟩
theorem pn_X11_later : plainFor yX11_later = true := plainFor_of_name (by decide +kernel)
theorem co_X11_reads : Cond.code yX11_reads cX11_reads 3 (some .boolean) ∈ zB := (zB_of 954 (by decide +kernel) rfl)
theorem pl_X11_reads : zPl yX11_reads 0 := ⟨by decide +kernel, by decide +kernel, by decide +kernel⟩
theorem pn_X11_reads : plainFor yX11_reads = true := plainFor_of_name (by decide +kernel)
theorem co_X11_fault : Cond.code yX11_fault cX11_fault 2 (some .int) ∈ zB := (zB_of 950 (by decide +kernel) rfl)
theorem pl_X11_fault : zPl yX11_fault 1 := ⟨by decide +kernel, by decide +kernel, by decide +kernel⟩
theorem pn_X11_fault : plainFor yX11_fault = true := plainFor_of_name (by decide +kernel)
theorem co_X11_tells : Cond.code yX11_tells cX11_tells 3 (some .boolean) ∈ zB := (zB_of 983 (by decide +kernel) rfl)
theorem pl_X11_tells : zPl yX11_tells 0 := ⟨by decide +kernel, by decide +kernel, by decide +kernel⟩
theorem pn_X11_tells : plainFor yX11_tells = true := plainFor_of_name (by decide +kernel)
theorem co_X11_fits : Cond.code yX11_fits cX11_fits 1 (some .boolean) ∈ zB := (zB_of 987 (by decide +kernel) rfl)
theorem pl_X11_fits : zPl yX11_fits 0 := ⟨by decide +kernel, by decide +kernel, by decide +kernel⟩
theorem pn_X11_fits : plainFor yX11_fits = true := plainFor_of_name (by decide +kernel)
theorem co_X11_alike : Cond.code yX11_alike cX11_alike 2 (some .int) ∈ zB := (zB_of 979 (by decide +kernel) rfl)
theorem pl_X11_alike : zPl yX11_alike 0 := ⟨by decide +kernel, by decide +kernel, by decide +kernel⟩
theorem pn_X11_alike : plainFor yX11_alike = true := plainFor_of_name (by decide +kernel)
theorem co_X11_told : Cond.code yX11_told cX11_told 2 (some .long) ∈ zB := (zB_of 974 (by decide +kernel) rfl)
theorem pl_X11_told : zPl yX11_told 1 := ⟨by decide +kernel, by decide +kernel, by decide +kernel⟩
theorem pn_X11_told : plainFor yX11_told = true := plainFor_of_name (by decide +kernel)
theorem co_X11_upOf : Cond.code yX11_upOf cX11_upOf 2 (some .int) ∈ zB := (zB_of 1001 (by decide +kernel) rfl)
theorem pl_X11_upOf : zPl yX11_upOf 1 := ⟨by decide +kernel, by decide +kernel, by decide +kernel⟩
theorem pn_X11_upOf : plainFor yX11_upOf = true := plainFor_of_name (by decide +kernel)
theorem co_X11_lowOf : Cond.code yX11_lowOf cX11_lowOf 2 (some .int) ∈ zB := (zB_of 1005 (by decide +kernel) rfl)
theorem pl_X11_lowOf : zPl yX11_lowOf 1 := ⟨by decide +kernel, by decide +kernel, by decide +kernel⟩
theorem pn_X11_lowOf : plainFor yX11_lowOf = true := plainFor_of_name (by decide +kernel)
theorem co_X11_placeOf : Cond.code yX11_placeOf cX11_placeOf 4 (some .int) ∈ zB := (zB_of 1009 (by decide +kernel) rfl)
theorem pl_X11_placeOf : zPl yX11_placeOf 1 := ⟨by decide +kernel, by decide +kernel, by decide +kernel⟩
theorem pn_X11_placeOf : plainFor yX11_placeOf = true := plainFor_of_name (by decide +kernel)
theorem co_X11_at : Cond.code yX11_at cX11_at 4 (some .int) ∈ zB := (zB_of 1017 (by decide +kernel) rfl)
theorem pl_X11_at : zPl yX11_at 1 := ⟨by decide +kernel, by decide +kernel, by decide +kernel⟩
theorem pn_X11_at : plainFor yX11_at = true := plainFor_of_name (by decide +kernel)
theorem co_X11_isNoted : Cond.code yX11_isNoted cX11_isNoted 7 (some .boolean) ∈ zB := (zB_of 997 (by decide +kernel) rfl)
theorem pl_X11_isNoted : zPl yX11_isNoted 2 := ⟨by decide +kernel, by decide +kernel, by decide +kernel⟩
theorem pn_X11_isNoted : plainFor yX11_isNoted = true := plainFor_of_name (by decide +kernel)
theorem co_X11_note : Cond.code yX11_note cX11_note 1 (some .int) ∈ zB := (zB_of 993 (by decide +kernel) rfl)
theorem pl_X11_note : zPl yX11_note 0 := ⟨by decide +kernel, by decide +kernel, by decide +kernel⟩
theorem pn_X11_note : plainFor yX11_note = true := plainFor_of_name (by decide +kernel)
theorem co_X11_strike : Cond.code yX11_strike cX11_strike 4 (some .int) ∈ zB := (zB_of 1013 (by decide +kernel) rfl)
theorem pl_X11_strike : zPl yX11_strike 1 := ⟨by decide +kernel, by decide +kernel, by decide +kernel⟩
theorem pn_X11_strike : plainFor yX11_strike = true := plainFor_of_name (by decide +kernel)
theorem co_X11_strikeAll : Cond.code yX11_strikeAll cX11_strikeAll 2 (some .int) ∈ zB := (zB_of 1021 (by decide +kernel) rfl)
theorem pl_X11_strikeAll : zPl yX11_strikeAll 0 := ⟨by decide +kernel, by decide +kernel, by decide +kernel⟩
theorem pn_X11_strikeAll : plainFor yX11_strikeAll = true := plainFor_of_name (by decide +kernel)
theorem co_X11_isConvergent : Cond.code yX11_isConvergent cX11_isConvergent 6 (some .boolean) ∈ zB := (zB_of 1030 (by decide +kernel) rfl)
theorem pl_X11_isConvergent : zPl yX11_isConvergent 2 := ⟨by decide +kernel, by decide +kernel, by decide +kernel⟩
theorem pn_X11_isConvergent : plainFor yX11_isConvergent = true := plainFor_of_name (by decide +kernel)
theorem co_X11_noteOf : Cond.code yX11_noteOf cX11_noteOf 4 (some .int) ∈ zB := (zB_of 1025 (by decide +kernel) rfl)
theorem pl_X11_noteOf : zPl yX11_noteOf 2 := ⟨by decide +kernel, by decide +kernel, by decide +kernel⟩
theorem pn_X11_noteOf : plainFor yX11_noteOf = true := plainFor_of_name (by decide +kernel)
theorem co_X11_aboveOnes : Cond.code yX11_aboveOnes cX11_aboveOnes 3 (some .int) ∈ zB := (zB_of 1038 (by decide +kernel) rfl)
theorem pl_X11_aboveOnes : zPl yX11_aboveOnes 0 := ⟨by decide +kernel, by decide +kernel, by decide +kernel⟩
theorem pn_X11_aboveOnes : plainFor yX11_aboveOnes = true := plainFor_of_name (by decide +kernel)
theorem co_X11_count : Cond.code yX11_count cX11_count 2 (some .int) ∈ zB := (zB_of 1034 (by decide +kernel) rfl)
theorem pl_X11_count : zPl yX11_count 1 := ⟨by decide +kernel, by decide +kernel, by decide +kernel⟩
theorem pn_X11_count : plainFor yX11_count = true := plainFor_of_name (by decide +kernel)
theorem co_X11_undo : Cond.code yX11_undo cX11_undo 2 (some .int) ∈ zB := (zB_of 1042 (by decide +kernel) rfl)
theorem pl_X11_undo : zPl yX11_undo 0 := ⟨by decide +kernel, by decide +kernel, by decide +kernel⟩
theorem pn_X11_undo : plainFor yX11_undo = true := plainFor_of_name (by decide +kernel)
theorem co_X11_type : Cond.code yX11_type cX11_type 2 (some .int) ∈ zB := (zB_of 1046 (by decide +kernel) rfl)
theorem pl_X11_type : zPl yX11_type 1 := ⟨by decide +kernel, by decide +kernel, by decide +kernel⟩
theorem pn_X11_type : plainFor yX11_type = true := plainFor_of_name (by decide +kernel)
theorem co_X11_clearText : Cond.code yX11_clearText cX11_clearText 2 (some .int) ∈ zB := (zB_of 1052 (by decide +kernel) rfl)
theorem pl_X11_clearText : zPl yX11_clearText 0 := ⟨by decide +kernel, by decide +kernel, by decide +kernel⟩
theorem pn_X11_clearText : plainFor yX11_clearText = true := plainFor_of_name (by decide +kernel)
theorem co_J9_floorDiv_f86c9 : Cond.code yJ9_floorDiv_f86c9 cJ9_floorDiv_f86c9 6 (some .long) ∈ zB := (zB_of 354 (by decide +kernel) rfl)
theorem pl_J9_floorDiv_f86c9 : zPl yJ9_floorDiv_f86c9 2 := ⟨by decide +kernel, by decide +kernel, by decide +kernel⟩
theorem pn_J9_floorDiv_f86c9 : plainFor yJ9_floorDiv_f86c9 = true := by decide +kernel
theorem co_J9_abs_067f4 : Cond.code yJ9_abs_067f4 cJ9_abs_067f4 2 (some .long) ∈ zB := (zB_of 335 (by decide +kernel) rfl)
theorem pl_J9_abs_067f4 : zPl yJ9_abs_067f4 1 := ⟨by decide +kernel, by decide +kernel, by decide +kernel⟩
theorem pn_J9_abs_067f4 : plainFor yJ9_abs_067f4 = true := by decide +kernel
theorem co_J9_max_7cf53 : Cond.code yJ9_max_7cf53 cJ9_max_7cf53 2 (some .int) ∈ zB := (zB_of 491 (by decide +kernel) rfl)
theorem pl_J9_max_7cf53 : zPl yJ9_max_7cf53 2 := ⟨by decide +kernel, by decide +kernel, by decide +kernel⟩
theorem pn_J9_max_7cf53 : plainFor yJ9_max_7cf53 = true := by decide +kernel
theorem co_obj : Cond.code objectInit ⟨#[0xb1]⟩ 1 none ∈ zB := (zB_of 67 (by decide +kernel) rfl)
theorem in_obj : Cond.instanceMethod objectInit ∈ zB := (zB_of 66 (by decide +kernel) rfl)
theorem co_abs : Cond.code Lib.MathLoose.abs_long.x Lib.MathLoose.abs_long.code 2 (some .long) ∈ zB := (zB_of 335 (by decide +kernel) rfl)
theorem st_abs : Cond.static Lib.MathLoose.abs_long.x ∈ zB := (zB_of 334 (by decide +kernel) rfl)
theorem co_max : Cond.code Lib.Math.max.name Lib.Math.max.code 2 (some .int) ∈ zB := (zB_of 491 (by decide +kernel) rfl)
theorem st_max : Cond.static Lib.Math.max.name ∈ zB := (zB_of 490 (by decide +kernel) rfl)
theorem ac_int : Cond.arrayClass .int ∈ zB := (zB_of 116 (by decide +kernel) rfl)
theorem ac_long : Cond.arrayClass .long ∈ zB := (zB_of 171 (by decide +kernel) rfl)
theorem ac_char : Cond.arrayClass .char ∈ zB := (zB_of 322 (by decide +kernel) rfl)
theorem cl_L_7 : Cond.classLink RL 7 RX10 ∈ zB := (zB_of 60 (by decide +kernel) rfl)
theorem n_L_7 : zNW RL 7 10 [.null, .null, .null, .null, .null, .null, .null] 7 := ⟨RX10, TX10, tyX10, rfl, hu_X10, tyX10_ok, cl_L_7, (zB_of 61 (by decide +kernel) rfl), i_X10, fun j hj => by
  rcases (show j = 0 ∨ j = 1 ∨ j = 2 ∨ j = 3 ∨ j = 4 ∨ j = 5 ∨ j = 6 by omega) with rfl | rfl | rfl | rfl | rfl | rfl | rfl <;> rfl⟩
theorem cl_X10_7 : Cond.classLink RX10 7 RX6 ∈ zB := (zB_of 68 (by decide +kernel) rfl)
theorem n_X10_7 : zNW RX10 7 6 [.null, .null] 2 := ⟨RX6, TX6, tyX6, rfl, hu_X6, tyX6_ok, cl_X10_7, (zB_of 69 (by decide +kernel) rfl), i_X6, fun j hj => by
  rcases (show j = 0 ∨ j = 1 by omega) with rfl | rfl <;> rfl⟩
theorem cl_X6_7 : Cond.classLink RX6 7 RX8 ∈ zB := (zB_of 74 (by decide +kernel) rfl)
theorem n_X6_7 : zNW RX6 7 8 [.int 0, .int 0, .int 0] 3 := ⟨RX8, TX8, tyX8, rfl, hu_X8, tyX8_ok, cl_X6_7, (zB_of 75 (by decide +kernel) rfl), i_X8, fun j hj => by
  rcases (show j = 0 ∨ j = 1 ∨ j = 2 by omega) with rfl | rfl | rfl <;> rfl⟩
theorem f_X8_16 : zFL RX8 16 8 0 := ⟨RX8, TX8, 3, rfl, by decide, hu_X8, (zB_of 80 (by decide +kernel) rfl)⟩
theorem f_X6_23 : zFL RX6 23 8 0 := ⟨RX8, TX8, 3, rfl, by decide, hu_X8, (zB_of 81 (by decide +kernel) rfl)⟩
theorem f_X2_43 : zFL RX2 43 8 0 := ⟨RX8, TX8, 3, rfl, by decide, hu_X8, (zB_of 82 (by decide +kernel) rfl)⟩
theorem f_X10_95 : zFL RX10 95 8 0 := ⟨RX8, TX8, 3, rfl, by decide, hu_X8, (zB_of 83 (by decide +kernel) rfl)⟩
theorem f_X8_7 : zFL RX8 7 8 1 := ⟨RX8, TX8, 3, rfl, by decide, hu_X8, (zB_of 84 (by decide +kernel) rfl)⟩
theorem f_X6_27 : zFL RX6 27 8 1 := ⟨RX8, TX8, 3, rfl, by decide, hu_X8, (zB_of 85 (by decide +kernel) rfl)⟩
theorem f_X2_48 : zFL RX2 48 8 1 := ⟨RX8, TX8, 3, rfl, by decide, hu_X8, (zB_of 86 (by decide +kernel) rfl)⟩
theorem f_X10_99 : zFL RX10 99 8 1 := ⟨RX8, TX8, 3, rfl, by decide, hu_X8, (zB_of 87 (by decide +kernel) rfl)⟩
theorem f_X8_13 : zFL RX8 13 8 2 := ⟨RX8, TX8, 3, rfl, by decide, hu_X8, (zB_of 88 (by decide +kernel) rfl)⟩
theorem f_X6_30 : zFL RX6 30 8 2 := ⟨RX8, TX8, 3, rfl, by decide, hu_X8, (zB_of 89 (by decide +kernel) rfl)⟩
theorem f_X2_51 : zFL RX2 51 8 2 := ⟨RX8, TX8, 3, rfl, by decide, hu_X8, (zB_of 90 (by decide +kernel) rfl)⟩
theorem f_X10_102 : zFL RX10 102 8 2 := ⟨RX8, TX8, 3, rfl, by decide, hu_X8, (zB_of 91 (by decide +kernel) rfl)⟩
theorem cl_X6_16 : Cond.classLink RX6 16 RX0 ∈ zB := (zB_of 99 (by decide +kernel) rfl)
theorem n_X6_16 : zNW RX6 16 0 [.null, .null, .int 0] 3 := ⟨RX0, TX0, tyX0, rfl, hu_X0, tyX0_ok, cl_X6_16, (zB_of 100 (by decide +kernel) rfl), i_X0, fun j hj => by
  rcases (show j = 0 ∨ j = 1 ∨ j = 2 by omega) with rfl | rfl | rfl <;> rfl⟩
theorem f_X0_9 : zFL RX0 9 0 0 := ⟨RX0, TX0, 3, rfl, by decide, hu_X0, (zB_of 105 (by decide +kernel) rfl)⟩
theorem f_X0_15 : zFL RX0 15 0 1 := ⟨RX0, TX0, 3, rfl, by decide, hu_X0, (zB_of 106 (by decide +kernel) rfl)⟩
theorem f_X0_18 : zFL RX0 18 0 2 := ⟨RX0, TX0, 3, rfl, by decide, hu_X0, (zB_of 107 (by decide +kernel) rfl)⟩
theorem f_X10_209 : zFL RX10 209 0 2 := ⟨RX0, TX0, 3, rfl, by decide, hu_X0, (zB_of 108 (by decide +kernel) rfl)⟩
theorem f_X6_10 : zFL RX6 10 6 0 := ⟨RX6, TX6, 2, rfl, by decide, hu_X6, (zB_of 117 (by decide +kernel) rfl)⟩
theorem f_X10_58 : zFL RX10 58 6 0 := ⟨RX6, TX6, 2, rfl, by decide, hu_X6, (zB_of 118 (by decide +kernel) rfl)⟩
theorem f_X6_19 : zFL RX6 19 6 1 := ⟨RX6, TX6, 2, rfl, by decide, hu_X6, (zB_of 119 (by decide +kernel) rfl)⟩
theorem f_X10_86 : zFL RX10 86 6 1 := ⟨RX6, TX6, 2, rfl, by decide, hu_X6, (zB_of 120 (by decide +kernel) rfl)⟩
theorem cl_X10_16 : Cond.classLink RX10 16 RX3 ∈ zB := (zB_of 126 (by decide +kernel) rfl)
theorem n_X10_16 : zNW RX10 16 3 [.null, .int 0] 2 := ⟨RX3, TX3, tyX3, rfl, hu_X3, tyX3_ok, cl_X10_16, (zB_of 127 (by decide +kernel) rfl), i_X3, fun j hj => by
  rcases (show j = 0 ∨ j = 1 by omega) with rfl | rfl <;> rfl⟩
theorem cl_X3_9 : Cond.classLink RX3 9 RX6 ∈ zB := (zB_of 132 (by decide +kernel) rfl)
theorem n_X3_9 : zNW RX3 9 6 [.null, .null] 2 := ⟨RX6, TX6, tyX6, rfl, hu_X6, tyX6_ok, cl_X3_9, (zB_of 69 (by decide +kernel) rfl), i_X6, fun j hj => by
  rcases (show j = 0 ∨ j = 1 by omega) with rfl | rfl <;> rfl⟩
theorem f_X3_11 : zFL RX3 11 3 0 := ⟨RX3, TX3, 2, rfl, by decide, hu_X3, (zB_of 135 (by decide +kernel) rfl)⟩
theorem f_X3_18 : zFL RX3 18 3 1 := ⟨RX3, TX3, 2, rfl, by decide, hu_X3, (zB_of 136 (by decide +kernel) rfl)⟩
theorem f_X10_235 : zFL RX10 235 3 1 := ⟨RX3, TX3, 2, rfl, by decide, hu_X3, (zB_of 137 (by decide +kernel) rfl)⟩
theorem cl_X10_23 : Cond.classLink RX10 23 RX2 ∈ zB := (zB_of 143 (by decide +kernel) rfl)
theorem n_X10_23 : zNW RX10 23 2 [.null, .null, .null, .null, .null, .long 0, .long 0, .int 0, .int 0, .int 0] 10 := ⟨RX2, TX2, tyX2, rfl, hu_X2, tyX2_ok, cl_X10_23, (zB_of 144 (by decide +kernel) rfl), i_X2, fun j hj => by
  rcases (show j = 0 ∨ j = 1 ∨ j = 2 ∨ j = 3 ∨ j = 4 ∨ j = 5 ∨ j = 6 ∨ j = 7 ∨ j = 8 ∨ j = 9 by omega) with rfl | rfl | rfl | rfl | rfl | rfl | rfl | rfl | rfl | rfl <;> rfl⟩
theorem cl_X2_22 : Cond.classLink RX2 22 RX7 ∈ zB := (zB_of 149 (by decide +kernel) rfl)
theorem n_X2_22 : zNW RX2 22 7 [.long 0, .long 0, .long 0, .long 0] 4 := ⟨RX7, TX7, tyX7, rfl, hu_X7, tyX7_ok, cl_X2_22, (zB_of 150 (by decide +kernel) rfl), i_X7, fun j hj => by
  rcases (show j = 0 ∨ j = 1 ∨ j = 2 ∨ j = 3 by omega) with rfl | rfl | rfl | rfl <;> rfl⟩
theorem f_X7_13 : zFL RX7 13 7 0 := ⟨RX7, TX7, 4, rfl, by decide, hu_X7, (zB_of 155 (by decide +kernel) rfl)⟩
theorem f_X2_76 : zFL RX2 76 7 0 := ⟨RX7, TX7, 4, rfl, by decide, hu_X7, (zB_of 156 (by decide +kernel) rfl)⟩
theorem f_X7_19 : zFL RX7 19 7 1 := ⟨RX7, TX7, 4, rfl, by decide, hu_X7, (zB_of 157 (by decide +kernel) rfl)⟩
theorem f_X2_83 : zFL RX2 83 7 1 := ⟨RX7, TX7, 4, rfl, by decide, hu_X7, (zB_of 158 (by decide +kernel) rfl)⟩
theorem f_X5_72 : zFL RX5 72 7 1 := ⟨RX7, TX7, 4, rfl, by decide, hu_X7, (zB_of 159 (by decide +kernel) rfl)⟩
theorem f_X7_22 : zFL RX7 22 7 2 := ⟨RX7, TX7, 4, rfl, by decide, hu_X7, (zB_of 160 (by decide +kernel) rfl)⟩
theorem f_X7_28 : zFL RX7 28 7 3 := ⟨RX7, TX7, 4, rfl, by decide, hu_X7, (zB_of 161 (by decide +kernel) rfl)⟩
theorem cl_X2_29 : Cond.classLink RX2 29 RX1 ∈ zB := (zB_of 172 (by decide +kernel) rfl)
theorem n_X2_29 : zNW RX2 29 1 [.long 0, .long 0, .int 0, .long 0, .long 0] 5 := ⟨RX1, TX1, tyX1, rfl, hu_X1, tyX1_ok, cl_X2_29, (zB_of 173 (by decide +kernel) rfl), i_X1, fun j hj => by
  rcases (show j = 0 ∨ j = 1 ∨ j = 2 ∨ j = 3 ∨ j = 4 by omega) with rfl | rfl | rfl | rfl | rfl <;> rfl⟩
theorem f_X1_9 : zFL RX1 9 1 0 := ⟨RX1, TX1, 5, rfl, by decide, hu_X1, (zB_of 178 (by decide +kernel) rfl)⟩
theorem f_X2_106 : zFL RX2 106 1 0 := ⟨RX1, TX1, 5, rfl, by decide, hu_X1, (zB_of 179 (by decide +kernel) rfl)⟩
theorem f_X5_75 : zFL RX5 75 1 0 := ⟨RX1, TX1, 5, rfl, by decide, hu_X1, (zB_of 180 (by decide +kernel) rfl)⟩
theorem f_X10_199 : zFL RX10 199 1 0 := ⟨RX1, TX1, 5, rfl, by decide, hu_X1, (zB_of 181 (by decide +kernel) rfl)⟩
theorem f_X1_15 : zFL RX1 15 1 1 := ⟨RX1, TX1, 5, rfl, by decide, hu_X1, (zB_of 182 (by decide +kernel) rfl)⟩
theorem f_X2_109 : zFL RX2 109 1 1 := ⟨RX1, TX1, 5, rfl, by decide, hu_X1, (zB_of 183 (by decide +kernel) rfl)⟩
theorem f_X5_78 : zFL RX5 78 1 1 := ⟨RX1, TX1, 5, rfl, by decide, hu_X1, (zB_of 184 (by decide +kernel) rfl)⟩
theorem f_X10_202 : zFL RX10 202 1 1 := ⟨RX1, TX1, 5, rfl, by decide, hu_X1, (zB_of 185 (by decide +kernel) rfl)⟩
theorem f_X1_24 : zFL RX1 24 1 2 := ⟨RX1, TX1, 5, rfl, by decide, hu_X1, (zB_of 186 (by decide +kernel) rfl)⟩
theorem f_X2_102 : zFL RX2 102 1 2 := ⟨RX1, TX1, 5, rfl, by decide, hu_X1, (zB_of 187 (by decide +kernel) rfl)⟩
theorem f_X5_68 : zFL RX5 68 1 2 := ⟨RX1, TX1, 5, rfl, by decide, hu_X1, (zB_of 188 (by decide +kernel) rfl)⟩
theorem f_X10_268 : zFL RX10 268 1 2 := ⟨RX1, TX1, 5, rfl, by decide, hu_X1, (zB_of 189 (by decide +kernel) rfl)⟩
theorem f_X1_18 : zFL RX1 18 1 3 := ⟨RX1, TX1, 5, rfl, by decide, hu_X1, (zB_of 190 (by decide +kernel) rfl)⟩
theorem f_X1_21 : zFL RX1 21 1 4 := ⟨RX1, TX1, 5, rfl, by decide, hu_X1, (zB_of 191 (by decide +kernel) rfl)⟩
theorem f_X2_9 : zFL RX2 9 2 0 := ⟨RX2, TX2, 10, rfl, by decide, hu_X2, (zB_of 203 (by decide +kernel) rfl)⟩
theorem f_X2_15 : zFL RX2 15 2 1 := ⟨RX2, TX2, 10, rfl, by decide, hu_X2, (zB_of 204 (by decide +kernel) rfl)⟩
theorem f_X2_19 : zFL RX2 19 2 2 := ⟨RX2, TX2, 10, rfl, by decide, hu_X2, (zB_of 205 (by decide +kernel) rfl)⟩
theorem f_X2_25 : zFL RX2 25 2 3 := ⟨RX2, TX2, 10, rfl, by decide, hu_X2, (zB_of 206 (by decide +kernel) rfl)⟩
theorem f_X2_32 : zFL RX2 32 2 4 := ⟨RX2, TX2, 10, rfl, by decide, hu_X2, (zB_of 207 (by decide +kernel) rfl)⟩
theorem f_X2_80 : zFL RX2 80 2 5 := ⟨RX2, TX2, 10, rfl, by decide, hu_X2, (zB_of 208 (by decide +kernel) rfl)⟩
theorem f_X2_86 : zFL RX2 86 2 6 := ⟨RX2, TX2, 10, rfl, by decide, hu_X2, (zB_of 209 (by decide +kernel) rfl)⟩
theorem f_X2_36 : zFL RX2 36 2 7 := ⟨RX2, TX2, 10, rfl, by decide, hu_X2, (zB_of 210 (by decide +kernel) rfl)⟩
theorem f_X10_114 : zFL RX10 114 2 7 := ⟨RX2, TX2, 10, rfl, by decide, hu_X2, (zB_of 211 (by decide +kernel) rfl)⟩
theorem f_X2_40 : zFL RX2 40 2 8 := ⟨RX2, TX2, 10, rfl, by decide, hu_X2, (zB_of 212 (by decide +kernel) rfl)⟩
theorem f_X10_117 : zFL RX10 117 2 8 := ⟨RX2, TX2, 10, rfl, by decide, hu_X2, (zB_of 213 (by decide +kernel) rfl)⟩
theorem f_X2_89 : zFL RX2 89 2 9 := ⟨RX2, TX2, 10, rfl, by decide, hu_X2, (zB_of 214 (by decide +kernel) rfl)⟩
theorem f_X10_136 : zFL RX10 136 2 9 := ⟨RX2, TX2, 10, rfl, by decide, hu_X2, (zB_of 215 (by decide +kernel) rfl)⟩
theorem cl_X10_30 : Cond.classLink RX10 30 RX4 ∈ zB := (zB_of 237 (by decide +kernel) rfl)
theorem n_X10_30 : zNW RX10 30 4 [.long 0, .long 0, .long 0, .long 0, .int 0] 5 := ⟨RX4, TX4, tyX4, rfl, hu_X4, tyX4_ok, cl_X10_30, (zB_of 238 (by decide +kernel) rfl), i_X4, fun j hj => by
  rcases (show j = 0 ∨ j = 1 ∨ j = 2 ∨ j = 3 ∨ j = 4 by omega) with rfl | rfl | rfl | rfl | rfl <;> rfl⟩
theorem f_X4_7 : zFL RX4 7 4 0 := ⟨RX4, TX4, 5, rfl, by decide, hu_X4, (zB_of 243 (by decide +kernel) rfl)⟩
theorem f_X10_275 : zFL RX10 275 4 0 := ⟨RX4, TX4, 5, rfl, by decide, hu_X4, (zB_of 244 (by decide +kernel) rfl)⟩
theorem f_X4_13 : zFL RX4 13 4 1 := ⟨RX4, TX4, 5, rfl, by decide, hu_X4, (zB_of 245 (by decide +kernel) rfl)⟩
theorem f_X10_281 : zFL RX10 281 4 1 := ⟨RX4, TX4, 5, rfl, by decide, hu_X4, (zB_of 246 (by decide +kernel) rfl)⟩
theorem f_X4_16 : zFL RX4 16 4 2 := ⟨RX4, TX4, 5, rfl, by decide, hu_X4, (zB_of 247 (by decide +kernel) rfl)⟩
theorem f_X10_272 : zFL RX10 272 4 2 := ⟨RX4, TX4, 5, rfl, by decide, hu_X4, (zB_of 248 (by decide +kernel) rfl)⟩
theorem f_X4_19 : zFL RX4 19 4 3 := ⟨RX4, TX4, 5, rfl, by decide, hu_X4, (zB_of 249 (by decide +kernel) rfl)⟩
theorem f_X10_278 : zFL RX10 278 4 3 := ⟨RX4, TX4, 5, rfl, by decide, hu_X4, (zB_of 250 (by decide +kernel) rfl)⟩
theorem f_X4_22 : zFL RX4 22 4 4 := ⟨RX4, TX4, 5, rfl, by decide, hu_X4, (zB_of 251 (by decide +kernel) rfl)⟩
theorem f_X10_162 : zFL RX10 162 4 4 := ⟨RX4, TX4, 5, rfl, by decide, hu_X4, (zB_of 252 (by decide +kernel) rfl)⟩
theorem cl_X10_37 : Cond.classLink RX10 37 RX5 ∈ zB := (zB_of 264 (by decide +kernel) rfl)
theorem n_X10_37 : zNW RX10 37 5 [.null, .null, .int 0, .long 0, .long 0] 5 := ⟨RX5, TX5, tyX5, rfl, hu_X5, tyX5_ok, cl_X10_37, (zB_of 265 (by decide +kernel) rfl), i_X5, fun j hj => by
  rcases (show j = 0 ∨ j = 1 ∨ j = 2 ∨ j = 3 ∨ j = 4 by omega) with rfl | rfl | rfl | rfl | rfl <;> rfl⟩
theorem cl_X5_9 : Cond.classLink RX5 9 RX7 ∈ zB := (zB_of 270 (by decide +kernel) rfl)
theorem n_X5_9 : zNW RX5 9 7 [.long 0, .long 0, .long 0, .long 0] 4 := ⟨RX7, TX7, tyX7, rfl, hu_X7, tyX7_ok, cl_X5_9, (zB_of 150 (by decide +kernel) rfl), i_X7, fun j hj => by
  rcases (show j = 0 ∨ j = 1 ∨ j = 2 ∨ j = 3 by omega) with rfl | rfl | rfl | rfl <;> rfl⟩
theorem cl_X5_18 : Cond.classLink RX5 18 RX1 ∈ zB := (zB_of 272 (by decide +kernel) rfl)
theorem n_X5_18 : zNW RX5 18 1 [.long 0, .long 0, .int 0, .long 0, .long 0] 5 := ⟨RX1, TX1, tyX1, rfl, hu_X1, tyX1_ok, cl_X5_18, (zB_of 173 (by decide +kernel) rfl), i_X1, fun j hj => by
  rcases (show j = 0 ∨ j = 1 ∨ j = 2 ∨ j = 3 ∨ j = 4 by omega) with rfl | rfl | rfl | rfl | rfl <;> rfl⟩
theorem f_X5_12 : zFL RX5 12 5 0 := ⟨RX5, TX5, 5, rfl, by decide, hu_X5, (zB_of 274 (by decide +kernel) rfl)⟩
theorem f_X5_21 : zFL RX5 21 5 1 := ⟨RX5, TX5, 5, rfl, by decide, hu_X5, (zB_of 275 (by decide +kernel) rfl)⟩
theorem f_X5_29 : zFL RX5 29 5 2 := ⟨RX5, TX5, 5, rfl, by decide, hu_X5, (zB_of 276 (by decide +kernel) rfl)⟩
theorem f_X5_37 : zFL RX5 37 5 3 := ⟨RX5, TX5, 5, rfl, by decide, hu_X5, (zB_of 277 (by decide +kernel) rfl)⟩
theorem f_X10_171 : zFL RX10 171 5 3 := ⟨RX5, TX5, 5, rfl, by decide, hu_X5, (zB_of 278 (by decide +kernel) rfl)⟩
theorem f_X5_41 : zFL RX5 41 5 4 := ⟨RX5, TX5, 5, rfl, by decide, hu_X5, (zB_of 279 (by decide +kernel) rfl)⟩
theorem f_X10_175 : zFL RX10 175 5 4 := ⟨RX5, TX5, 5, rfl, by decide, hu_X5, (zB_of 280 (by decide +kernel) rfl)⟩
theorem cl_X10_44 : Cond.classLink RX10 44 RX9 ∈ zB := (zB_of 292 (by decide +kernel) rfl)
theorem n_X10_44 : zNW RX10 44 9 [.null, .null, .int 0, .int 0, .int 0, .int 0] 6 := ⟨RX9, TX9, tyX9, rfl, hu_X9, tyX9_ok, cl_X10_44, (zB_of 293 (by decide +kernel) rfl), i_X9, fun j hj => by
  rcases (show j = 0 ∨ j = 1 ∨ j = 2 ∨ j = 3 ∨ j = 4 ∨ j = 5 by omega) with rfl | rfl | rfl | rfl | rfl | rfl <;> rfl⟩
theorem f_X9_9 : zFL RX9 9 9 0 := ⟨RX9, TX9, 6, rfl, by decide, hu_X9, (zB_of 298 (by decide +kernel) rfl)⟩
theorem f_X9_15 : zFL RX9 15 9 1 := ⟨RX9, TX9, 6, rfl, by decide, hu_X9, (zB_of 299 (by decide +kernel) rfl)⟩
theorem f_X9_19 : zFL RX9 19 9 2 := ⟨RX9, TX9, 6, rfl, by decide, hu_X9, (zB_of 300 (by decide +kernel) rfl)⟩
theorem f_X10_236 : zFL RX10 236 9 2 := ⟨RX9, TX9, 6, rfl, by decide, hu_X9, (zB_of 301 (by decide +kernel) rfl)⟩
theorem f_X9_30 : zFL RX9 30 9 3 := ⟨RX9, TX9, 6, rfl, by decide, hu_X9, (zB_of 302 (by decide +kernel) rfl)⟩
theorem f_X2_129 : zFL RX2 129 9 3 := ⟨RX9, TX9, 6, rfl, by decide, hu_X9, (zB_of 303 (by decide +kernel) rfl)⟩
theorem f_X10_254 : zFL RX10 254 9 3 := ⟨RX9, TX9, 6, rfl, by decide, hu_X9, (zB_of 304 (by decide +kernel) rfl)⟩
theorem f_X9_33 : zFL RX9 33 9 4 := ⟨RX9, TX9, 6, rfl, by decide, hu_X9, (zB_of 305 (by decide +kernel) rfl)⟩
theorem f_X10_246 : zFL RX10 246 9 4 := ⟨RX9, TX9, 6, rfl, by decide, hu_X9, (zB_of 306 (by decide +kernel) rfl)⟩
theorem f_X9_27 : zFL RX9 27 9 5 := ⟨RX9, TX9, 6, rfl, by decide, hu_X9, (zB_of 307 (by decide +kernel) rfl)⟩
theorem f_X10_249 : zFL RX10 249 9 5 := ⟨RX9, TX9, 6, rfl, by decide, hu_X9, (zB_of 308 (by decide +kernel) rfl)⟩
theorem cl_X10_51 : Cond.classLink RX10 51 RX1 ∈ zB := (zB_of 323 (by decide +kernel) rfl)
theorem n_X10_51 : zNW RX10 51 1 [.long 0, .long 0, .int 0, .long 0, .long 0] 5 := ⟨RX1, TX1, tyX1, rfl, hu_X1, tyX1_ok, cl_X10_51, (zB_of 173 (by decide +kernel) rfl), i_X1, fun j hj => by
  rcases (show j = 0 ∨ j = 1 ∨ j = 2 ∨ j = 3 ∨ j = 4 by omega) with rfl | rfl | rfl | rfl | rfl <;> rfl⟩
theorem k_X7_41 : Cond.constantLong RX7 41 (zl (32768)) ∈ zB := (zB_of 339 (by decide +kernel) rfl)
theorem k_X7_35 : Cond.constantLong RX7 35 (zl (-1)) ∈ zB := (zB_of 355 (by decide +kernel) rfl)
theorem k_X1_38 : Cond.constantLong RX1 38 (zl (9000000000000000)) ∈ zB := (zB_of 381 (by decide +kernel) rfl)
theorem f_X10_10 : zFL RX10 10 10 0 := ⟨RX10, TX10, 7, rfl, by decide, hu_X10, (zB_of 382 (by decide +kernel) rfl)⟩
theorem f_X10_19 : zFL RX10 19 10 1 := ⟨RX10, TX10, 7, rfl, by decide, hu_X10, (zB_of 383 (by decide +kernel) rfl)⟩
theorem f_X10_26 : zFL RX10 26 10 2 := ⟨RX10, TX10, 7, rfl, by decide, hu_X10, (zB_of 384 (by decide +kernel) rfl)⟩
theorem f_X10_33 : zFL RX10 33 10 3 := ⟨RX10, TX10, 7, rfl, by decide, hu_X10, (zB_of 385 (by decide +kernel) rfl)⟩
theorem f_X10_40 : zFL RX10 40 10 4 := ⟨RX10, TX10, 7, rfl, by decide, hu_X10, (zB_of 386 (by decide +kernel) rfl)⟩
theorem f_X10_47 : zFL RX10 47 10 5 := ⟨RX10, TX10, 7, rfl, by decide, hu_X10, (zB_of 387 (by decide +kernel) rfl)⟩
theorem f_X10_54 : zFL RX10 54 10 6 := ⟨RX10, TX10, 7, rfl, by decide, hu_X10, (zB_of 388 (by decide +kernel) rfl)⟩
theorem k_X10_70 : Cond.constant RX10 70 (zi (-1000001)) ∈ zB := (zB_of 411 (by decide +kernel) rfl)
theorem k_X10_75 : Cond.constant RX10 75 (zi (-1000002)) ∈ zB := (zB_of 416 (by decide +kernel) rfl)
theorem k_X8_23 : Cond.constantLong RX8 23 (zl (2)) ∈ zB := (zB_of 466 (by decide +kernel) rfl)
theorem k_X10_113 : Cond.constant RX10 113 (zi (-1000003)) ∈ zB := (zB_of 484 (by decide +kernel) rfl)
theorem k_X10_134 : Cond.constantLong RX10 134 (zl (-1000001)) ∈ zB := (zB_of 511 (by decide +kernel) rfl)
theorem k_X10_139 : Cond.constantLong RX10 139 (zl (-1000003)) ∈ zB := (zB_of 512 (by decide +kernel) rfl)
theorem k_X10_145 : Cond.constantLong RX10 145 (zl (9000000000000000)) ∈ zB := (zB_of 517 (by decide +kernel) rfl)
theorem k_X10_224 : Cond.constant RX10 224 (zi (1000000)) ∈ zB := (zB_of 548 (by decide +kernel) rfl)
theorem k_X5_44 : Cond.constantLong RX5 44 (zl (5000)) ∈ zB := (zB_of 569 (by decide +kernel) rfl)
theorem k_X5_50 : Cond.constantLong RX5 50 (zl (1000000)) ∈ zB := (zB_of 574 (by decide +kernel) rfl)
theorem k_X10_170 : Cond.constant RX10 170 (zi (-1000004)) ∈ zB := (zB_of 575 (by decide +kernel) rfl)
theorem k_X10_295 : Cond.constantLong RX10 295 (zl (30000)) ∈ zB := (zB_of 644 (by decide +kernel) rfl)
theorem k_X10_297 : Cond.constantLong RX10 297 (zl (200)) ∈ zB := (zB_of 645 (by decide +kernel) rfl)
theorem k_X10_252 : Cond.constantLong RX10 252 (zl (-1000002)) ∈ zB := (zB_of 713 (by decide +kernel) rfl)
theorem cl_L_10 : Cond.classLink RL 10 RX11 ∈ zB := (zB_of 727 (by decide +kernel) rfl)
theorem n_L_10 : zNW RL 10 11 [.null, .null, .int 0, .null, .int 0, .null, .null, .null, .int 0, .long 0, .long 0, .long 0, .long 0, .long 0, .int 0, .int 0, .int 0, .int 0, .int 0, .int 0, .int 0, .null] 22 := ⟨RX11, TX11, tyX11, rfl, hu_X11, tyX11_ok, cl_L_10, (zB_of 728 (by decide +kernel) rfl), i_X11, fun j hj => by
  rcases (show j = 0 ∨ j = 1 ∨ j = 2 ∨ j = 3 ∨ j = 4 ∨ j = 5 ∨ j = 6 ∨ j = 7 ∨ j = 8 ∨ j = 9 ∨ j = 10 ∨ j = 11 ∨ j = 12 ∨ j = 13 ∨ j = 14 ∨ j = 15 ∨ j = 16 ∨ j = 17 ∨ j = 18 ∨ j = 19 ∨ j = 20 ∨ j = 21 by omega) with rfl | rfl | rfl | rfl | rfl | rfl | rfl | rfl | rfl | rfl | rfl | rfl | rfl | rfl | rfl | rfl | rfl | rfl | rfl | rfl | rfl | rfl <;> rfl⟩
theorem f_X11_7 : zFL RX11 7 11 0 := ⟨RX11, TX11, 22, rfl, by decide, hu_X11, (zB_of 733 (by decide +kernel) rfl)⟩
theorem f_X11_13 : zFL RX11 13 11 1 := ⟨RX11, TX11, 22, rfl, by decide, hu_X11, (zB_of 734 (by decide +kernel) rfl)⟩
theorem f_X11_32 : zFL RX11 32 11 2 := ⟨RX11, TX11, 22, rfl, by decide, hu_X11, (zB_of 735 (by decide +kernel) rfl)⟩
theorem f_X11_16 : zFL RX11 16 11 3 := ⟨RX11, TX11, 22, rfl, by decide, hu_X11, (zB_of 736 (by decide +kernel) rfl)⟩
theorem f_X11_180 : zFL RX11 180 11 4 := ⟨RX11, TX11, 22, rfl, by decide, hu_X11, (zB_of 737 (by decide +kernel) rfl)⟩
theorem f_X11_19 : zFL RX11 19 11 5 := ⟨RX11, TX11, 22, rfl, by decide, hu_X11, (zB_of 738 (by decide +kernel) rfl)⟩
theorem f_X11_22 : zFL RX11 22 11 6 := ⟨RX11, TX11, 22, rfl, by decide, hu_X11, (zB_of 739 (by decide +kernel) rfl)⟩
theorem f_X11_26 : zFL RX11 26 11 7 := ⟨RX11, TX11, 22, rfl, by decide, hu_X11, (zB_of 740 (by decide +kernel) rfl)⟩
theorem f_X11_72 : zFL RX11 72 11 8 := ⟨RX11, TX11, 22, rfl, by decide, hu_X11, (zB_of 741 (by decide +kernel) rfl)⟩
theorem f_X11_93 : zFL RX11 93 11 9 := ⟨RX11, TX11, 22, rfl, by decide, hu_X11, (zB_of 742 (by decide +kernel) rfl)⟩
theorem f_X11_97 : zFL RX11 97 11 10 := ⟨RX11, TX11, 22, rfl, by decide, hu_X11, (zB_of 743 (by decide +kernel) rfl)⟩
theorem f_X11_100 : zFL RX11 100 11 11 := ⟨RX11, TX11, 22, rfl, by decide, hu_X11, (zB_of 744 (by decide +kernel) rfl)⟩
theorem f_X11_103 : zFL RX11 103 11 12 := ⟨RX11, TX11, 22, rfl, by decide, hu_X11, (zB_of 745 (by decide +kernel) rfl)⟩
theorem f_X11_139 : zFL RX11 139 11 13 := ⟨RX11, TX11, 22, rfl, by decide, hu_X11, (zB_of 746 (by decide +kernel) rfl)⟩
theorem f_X11_142 : zFL RX11 142 11 14 := ⟨RX11, TX11, 22, rfl, by decide, hu_X11, (zB_of 747 (by decide +kernel) rfl)⟩
theorem f_X11_154 : zFL RX11 154 11 15 := ⟨RX11, TX11, 22, rfl, by decide, hu_X11, (zB_of 748 (by decide +kernel) rfl)⟩
theorem f_X11_159 : zFL RX11 159 11 16 := ⟨RX11, TX11, 22, rfl, by decide, hu_X11, (zB_of 749 (by decide +kernel) rfl)⟩
theorem f_X11_162 : zFL RX11 162 11 17 := ⟨RX11, TX11, 22, rfl, by decide, hu_X11, (zB_of 750 (by decide +kernel) rfl)⟩
theorem f_X11_177 : zFL RX11 177 11 18 := ⟨RX11, TX11, 22, rfl, by decide, hu_X11, (zB_of 751 (by decide +kernel) rfl)⟩
theorem f_X11_194 : zFL RX11 194 11 19 := ⟨RX11, TX11, 22, rfl, by decide, hu_X11, (zB_of 752 (by decide +kernel) rfl)⟩
theorem f_X11_187 : zFL RX11 187 11 20 := ⟨RX11, TX11, 22, rfl, by decide, hu_X11, (zB_of 753 (by decide +kernel) rfl)⟩
theorem f_X11_29 : zFL RX11 29 11 21 := ⟨RX11, TX11, 22, rfl, by decide, hu_X11, (zB_of 754 (by decide +kernel) rfl)⟩
theorem k_X11_40 : Cond.constantLong RX11 40 (zl (-99)) ∈ zB := (zB_of 804 (by decide +kernel) rfl)
theorem k_X11_42 : Cond.constantLong RX11 42 (zl (99)) ∈ zB := (zB_of 805 (by decide +kernel) rfl)
theorem k_X11_38 : Cond.constantLong RX11 38 (zl (2)) ∈ zB := (zB_of 809 (by decide +kernel) rfl)
theorem k_X11_48 : Cond.constantLong RX11 48 (zl (999)) ∈ zB := (zB_of 810 (by decide +kernel) rfl)
theorem k_X11_50 : Cond.constant RX11 50 (zi (-1000001)) ∈ zB := (zB_of 811 (by decide +kernel) rfl)
theorem k_X11_36 : Cond.constantLong RX11 36 (zl (4000000)) ∈ zB := (zB_of 815 (by decide +kernel) rfl)
theorem k_X11_55 : Cond.constant RX11 55 (zi (-1000002)) ∈ zB := (zB_of 816 (by decide +kernel) rfl)
theorem k_X11_67 : Cond.constantLong RX11 67 (zl (399)) ∈ zB := (zB_of 829 (by decide +kernel) rfl)
theorem k_X11_75 : Cond.constantLong RX11 75 (zl (4)) ∈ zB := (zB_of 845 (by decide +kernel) rfl)
theorem k_X11_81 : Cond.constant RX11 81 (zi (-1000003)) ∈ zB := (zB_of 850 (by decide +kernel) rfl)
theorem k_X11_120 : Cond.constantLong RX11 120 (zl (-1000001)) ∈ zB := (zB_of 867 (by decide +kernel) rfl)
theorem k_X11_109 : Cond.constantLong RX11 109 (zl (36000000000000000)) ∈ zB := (zB_of 883 (by decide +kernel) rfl)
theorem k_X11_111 : Cond.constantLong RX11 111 (zl (9000000000000000)) ∈ zB := (zB_of 884 (by decide +kernel) rfl)
theorem k_X11_125 : Cond.constantLong RX11 125 (zl (-1000003)) ∈ zB := (zB_of 885 (by decide +kernel) rfl)
theorem k_X11_146 : Cond.constantLong RX11 146 (zl (200)) ∈ zB := (zB_of 894 (by decide +kernel) rfl)
theorem k_X11_145 : Cond.constant RX11 145 (zi (1000000)) ∈ zB := (zB_of 915 (by decide +kernel) rfl)
theorem k_X11_165 : Cond.constantLong RX11 165 (zl (-60)) ∈ zB := (zB_of 931 (by decide +kernel) rfl)
theorem k_X11_167 : Cond.constantLong RX11 167 (zl (60)) ∈ zB := (zB_of 932 (by decide +kernel) rfl)
theorem k_X11_157 : Cond.constantLong RX11 157 (zl (-1)) ∈ zB := (zB_of 937 (by decide +kernel) rfl)
theorem k_X11_176 : Cond.constant RX11 176 (zi (-1000004)) ∈ zB := (zB_of 938 (by decide +kernel) rfl)
theorem k_X11_210 : Cond.constantLong RX11 210 (zl (-1000002)) ∈ zB := (zB_of 975 (by decide +kernel) rfl)
theorem k_X11_206 : Cond.constantLong RX11 206 (zl (-30000)) ∈ zB := (zB_of 988 (by decide +kernel) rfl)
theorem k_X11_208 : Cond.constantLong RX11 208 (zl (30000)) ∈ zB := (zB_of 989 (by decide +kernel) rfl)
theorem k_X11_236 : Cond.constantLong RX11 236 (zl (3)) ∈ zB := (zB_of 1026 (by decide +kernel) rfl)
theorem k_X11_244 : Cond.constantLong RX11 244 (zl (32)) ∈ zB := (zB_of 1047 (by decide +kernel) rfl)
theorem k_X11_246 : Cond.constantLong RX11 246 (zl (126)) ∈ zB := (zB_of 1048 (by decide +kernel) rfl)
theorem m_L_9 : zLI RL 9 yX10_init cX10_init 1 0 := ⟨(zB_of 62 (by decide +kernel) rfl), (zB_of 63 (by decide +kernel) rfl), i_X10, co_X10_init, pl_X10_init, rfl⟩
theorem m_X10_1 : Cond.methodLink RX10 1 objectInit ∈ zB := (zB_of 65 (by decide +kernel) rfl)
theorem m_X10_9 : zLN RX10 9 yX6_init cX6_init 1 0 := ⟨⟨"SurdFractions", zNest_of 70 (by decide +kernel) rfl⟩, (zB_of 71 (by decide +kernel) rfl), i_X6, co_X6_init, pl_X6_init, rfl⟩
theorem m_X6_1 : Cond.methodLink RX6 1 objectInit ∈ zB := (zB_of 73 (by decide +kernel) rfl)
theorem m_X6_9 : zLN RX6 9 yX8_init cX8_init 1 0 := ⟨⟨"SurdFractions", zNest_of 76 (by decide +kernel) rfl⟩, (zB_of 77 (by decide +kernel) rfl), i_X8, co_X8_init, pl_X8_init, rfl⟩
theorem m_X8_1 : Cond.methodLink RX8 1 objectInit ∈ zB := (zB_of 79 (by decide +kernel) rfl)
theorem m_X6_18 : zLN RX6 18 yX0_init cX0_init 1 0 := ⟨⟨"SurdFractions", zNest_of 101 (by decide +kernel) rfl⟩, (zB_of 102 (by decide +kernel) rfl), i_X0, co_X0_init, pl_X0_init, rfl⟩
theorem m_X0_3 : Cond.methodLink RX0 3 objectInit ∈ zB := (zB_of 104 (by decide +kernel) rfl)
theorem m_X10_18 : zLI RX10 18 yX3_init cX3_init 2 0 := ⟨(zB_of 128 (by decide +kernel) rfl), (zB_of 129 (by decide +kernel) rfl), i_X3, co_X3_init, pl_X3_init, rfl⟩
theorem m_X3_3 : Cond.methodLink RX3 3 objectInit ∈ zB := (zB_of 131 (by decide +kernel) rfl)
theorem m_X3_17 : zLN RX3 17 yX6_init cX6_init 1 0 := ⟨⟨"SurdFractions", zNest_of 134 (by decide +kernel) rfl⟩, (zB_of 71 (by decide +kernel) rfl), i_X6, co_X6_init, pl_X6_init, rfl⟩
theorem m_X10_25 : zLN RX10 25 yX2_init cX2_init 1 0 := ⟨⟨"SurdFractions", zNest_of 145 (by decide +kernel) rfl⟩, (zB_of 146 (by decide +kernel) rfl), i_X2, co_X2_init, pl_X2_init, rfl⟩
theorem m_X2_3 : Cond.methodLink RX2 3 objectInit ∈ zB := (zB_of 148 (by decide +kernel) rfl)
theorem m_X2_24 : zLN RX2 24 yX7_init cX7_init 1 0 := ⟨⟨"SurdFractions", zNest_of 151 (by decide +kernel) rfl⟩, (zB_of 152 (by decide +kernel) rfl), i_X7, co_X7_init, pl_X7_init, rfl⟩
theorem m_X7_1 : Cond.methodLink RX7 1 objectInit ∈ zB := (zB_of 154 (by decide +kernel) rfl)
theorem m_X2_31 : zLN RX2 31 yX1_init cX1_init 1 0 := ⟨⟨"SurdFractions", zNest_of 174 (by decide +kernel) rfl⟩, (zB_of 175 (by decide +kernel) rfl), i_X1, co_X1_init, pl_X1_init, rfl⟩
theorem m_X1_3 : Cond.methodLink RX1 3 objectInit ∈ zB := (zB_of 177 (by decide +kernel) rfl)
theorem m_X10_32 : zLN RX10 32 yX4_init cX4_init 1 0 := ⟨⟨"SurdFractions", zNest_of 239 (by decide +kernel) rfl⟩, (zB_of 240 (by decide +kernel) rfl), i_X4, co_X4_init, pl_X4_init, rfl⟩
theorem m_X4_1 : Cond.methodLink RX4 1 objectInit ∈ zB := (zB_of 242 (by decide +kernel) rfl)
theorem m_X10_39 : zLN RX10 39 yX5_init cX5_init 1 0 := ⟨⟨"SurdFractions", zNest_of 266 (by decide +kernel) rfl⟩, (zB_of 267 (by decide +kernel) rfl), i_X5, co_X5_init, pl_X5_init, rfl⟩
theorem m_X5_3 : Cond.methodLink RX5 3 objectInit ∈ zB := (zB_of 269 (by decide +kernel) rfl)
theorem m_X5_11 : zLN RX5 11 yX7_init cX7_init 1 0 := ⟨⟨"SurdFractions", zNest_of 271 (by decide +kernel) rfl⟩, (zB_of 152 (by decide +kernel) rfl), i_X7, co_X7_init, pl_X7_init, rfl⟩
theorem m_X5_20 : zLN RX5 20 yX1_init cX1_init 1 0 := ⟨⟨"SurdFractions", zNest_of 273 (by decide +kernel) rfl⟩, (zB_of 175 (by decide +kernel) rfl), i_X1, co_X1_init, pl_X1_init, rfl⟩
theorem m_X10_46 : zLN RX10 46 yX9_init cX9_init 1 0 := ⟨⟨"SurdFractions", zNest_of 294 (by decide +kernel) rfl⟩, (zB_of 295 (by decide +kernel) rfl), i_X9, co_X9_init, pl_X9_init, rfl⟩
theorem m_X9_3 : Cond.methodLink RX9 3 objectInit ∈ zB := (zB_of 297 (by decide +kernel) rfl)
theorem m_X10_53 : zLN RX10 53 yX1_init cX1_init 1 0 := ⟨⟨"SurdFractions", zNest_of 324 (by decide +kernel) rfl⟩, (zB_of 175 (by decide +kernel) rfl), i_X1, co_X1_init, pl_X1_init, rfl⟩
theorem m_X10_62 : zLV RX10 62 yX2_unfold cX2_unfold 3 none 1 := ⟨(zB_of 325 (by decide +kernel) rfl), (zB_of 326 (by decide +kernel) rfl), (zB_of 327 (by decide +kernel) rfl), i_X2, co_X2_unfold, pl_X2_unfold⟩
theorem m_X2_54 : zLV RX2 54 yX7_begin cX7_begin 9 none 3 := ⟨(zB_of 329 (by decide +kernel) rfl), (zB_of 330 (by decide +kernel) rfl), (zB_of 331 (by decide +kernel) rfl), i_X7, co_X7_begin, pl_X7_begin⟩
theorem m_X7_7 : Cond.methodLink RX7 7 Lib.MathLoose.abs_long.x ∈ zB := (zB_of 333 (by decide +kernel) rfl)
theorem m_X7_25 : zLS RX7 25 yX7_rootOf cX7_rootOf 6 (some .long) 1 := ⟨(zB_of 336 (by decide +kernel) rfl), (zB_of 337 (by decide +kernel) rfl), i_X7, co_X7_rootOf, pl_X7_rootOf⟩
theorem m_X2_58 : zLV RX2 58 yX2_lookForPeriod cX2_lookForPeriod 2 none 1 := ⟨(zB_of 340 (by decide +kernel) rfl), (zB_of 342 (by decide +kernel) rfl), (zB_of 0 (by decide +kernel) rfl), i_X2, co_X2_lookForPeriod, pl_X2_lookForPeriod⟩
theorem m_X2_72 : zLV RX2 72 yX7_isReduced cX7_isReduced 1 (some .boolean) 0 := ⟨(zB_of 344 (by decide +kernel) rfl), (zB_of 345 (by decide +kernel) rfl), (zB_of 346 (by decide +kernel) rfl), i_X7, co_X7_isReduced, pl_X7_isReduced⟩
theorem m_X2_62 : zLV RX2 62 yX7_whole cX7_whole 1 (some .long) 0 := ⟨(zB_of 348 (by decide +kernel) rfl), (zB_of 349 (by decide +kernel) rfl), (zB_of 350 (by decide +kernel) rfl), i_X7, co_X7_whole, pl_X7_whole⟩
theorem m_X7_31 : zLS RX7 31 yJ9_floorDiv_f86c9 cJ9_floorDiv_f86c9 6 (some .long) 2 := ⟨(zB_of 352 (by decide +kernel) rfl), (zB_of 353 (by decide +kernel) rfl), i_Math, co_J9_floorDiv_f86c9, pl_J9_floorDiv_f86c9⟩
theorem m_X2_66 : zLV RX2 66 yX7_advance cX7_advance 1 none 0 := ⟨(zB_of 356 (by decide +kernel) rfl), (zB_of 357 (by decide +kernel) rfl), (zB_of 358 (by decide +kernel) rfl), i_X7, co_X7_advance, pl_X7_advance⟩
theorem m_X7_37 : zLV RX7 37 yX7_whole cX7_whole 1 (some .long) 0 := ⟨(zB_of 360 (by decide +kernel) rfl), (zB_of 349 (by decide +kernel) rfl), (zB_of 350 (by decide +kernel) rfl), i_X7, co_X7_whole, pl_X7_whole⟩
theorem m_X2_69 : zLV RX2 69 yX2_chainConvergents cX2_chainConvergents 2 none 0 := ⟨(zB_of 361 (by decide +kernel) rfl), (zB_of 363 (by decide +kernel) rfl), (zB_of 1 (by decide +kernel) rfl), i_X2, co_X2_chainConvergents, pl_X2_chainConvergents⟩
theorem m_X2_92 : zLV RX2 92 yX1_begin cX1_begin 1 none 0 := ⟨(zB_of 365 (by decide +kernel) rfl), (zB_of 366 (by decide +kernel) rfl), (zB_of 367 (by decide +kernel) rfl), i_X1, co_X1_begin, pl_X1_begin⟩
theorem m_X2_94 : zLV RX2 94 yX2_termAt cX2_termAt 2 (some .int) 1 := ⟨(zB_of 369 (by decide +kernel) rfl), (zB_of 370 (by decide +kernel) rfl), (zB_of 371 (by decide +kernel) rfl), i_X2, co_X2_termAt, pl_X2_termAt⟩
theorem m_X2_98 : zLV RX2 98 yX1_add cX1_add 7 none 1 := ⟨(zB_of 373 (by decide +kernel) rfl), (zB_of 374 (by decide +kernel) rfl), (zB_of 375 (by decide +kernel) rfl), i_X1, co_X1_add, pl_X1_add⟩
theorem m_X1_28 : zLS RX1 28 yX1_isTooGreat cX1_isTooGreat 8 (some .boolean) 3 := ⟨(zB_of 377 (by decide +kernel) rfl), (zB_of 378 (by decide +kernel) rfl), i_X1, co_X1_isTooGreat, pl_X1_isTooGreat⟩
theorem m_X1_32 : Cond.methodLink RX1 32 Lib.MathLoose.abs_long.x ∈ zB := (zB_of 380 (by decide +kernel) rfl)
theorem m_L_13 : zLV RL 13 yX10_surd cX10_surd 4 (some .int) 3 := ⟨(zB_of 404 (by decide +kernel) rfl), (zB_of 405 (by decide +kernel) rfl), (zB_of 406 (by decide +kernel) rfl), i_X10, co_X10_surd, pl_X10_surd⟩
theorem m_X10_66 : zLS RX10 66 yX10_isWithin cX10_isWithin 3 (some .boolean) 3 := ⟨(zB_of 408 (by decide +kernel) rfl), (zB_of 409 (by decide +kernel) rfl), i_X10, co_X10_isWithin, pl_X10_isWithin⟩
theorem m_X10_71 : zLS RX10 71 yX10_isSquare cX10_isSquare 3 (some .boolean) 1 := ⟨(zB_of 412 (by decide +kernel) rfl), (zB_of 413 (by decide +kernel) rfl), i_X10, co_X10_isSquare, pl_X10_isSquare⟩
theorem m_X10_284 : zLS RX10 284 yX7_rootOf cX7_rootOf 6 (some .long) 1 := ⟨(zB_of 415 (by decide +kernel) rfl), (zB_of 337 (by decide +kernel) rfl), i_X7, co_X7_rootOf, pl_X7_rootOf⟩
theorem m_X10_76 : zLV RX10 76 yX3_keep cX3_keep 2 none 1 := ⟨(zB_of 417 (by decide +kernel) rfl), (zB_of 418 (by decide +kernel) rfl), (zB_of 419 (by decide +kernel) rfl), i_X3, co_X3_keep, pl_X3_keep⟩
theorem m_X3_22 : zLV RX3 22 yX3_dropOldest cX3_dropOldest 3 none 0 := ⟨(zB_of 421 (by decide +kernel) rfl), (zB_of 423 (by decide +kernel) rfl), (zB_of 2 (by decide +kernel) rfl), i_X3, co_X3_dropOldest, pl_X3_dropOldest⟩
theorem m_X3_25 : zLV RX3 25 yX6_copyFrom cX6_copyFrom 2 none 1 := ⟨(zB_of 425 (by decide +kernel) rfl), (zB_of 426 (by decide +kernel) rfl), (zB_of 427 (by decide +kernel) rfl), i_X6, co_X6_copyFrom, pl_X6_copyFrom⟩
theorem m_X6_33 : zLV RX6 33 yX8_set cX8_set 4 none 3 := ⟨(zB_of 429 (by decide +kernel) rfl), (zB_of 430 (by decide +kernel) rfl), (zB_of 431 (by decide +kernel) rfl), i_X8, co_X8_set, pl_X8_set⟩
theorem m_X6_37 : zLV RX6 37 yX0_copyFrom cX0_copyFrom 3 none 1 := ⟨(zB_of 433 (by decide +kernel) rfl), (zB_of 434 (by decide +kernel) rfl), (zB_of 435 (by decide +kernel) rfl), i_X0, co_X0_copyFrom, pl_X0_copyFrom⟩
theorem m_X0_22 : zLV RX0 22 yX0_upperAt cX0_upperAt 2 (some .int) 1 := ⟨(zB_of 437 (by decide +kernel) rfl), (zB_of 438 (by decide +kernel) rfl), (zB_of 439 (by decide +kernel) rfl), i_X0, co_X0_upperAt, pl_X0_upperAt⟩
theorem m_X0_26 : zLV RX0 26 yX0_lowerAt cX0_lowerAt 2 (some .int) 1 := ⟨(zB_of 441 (by decide +kernel) rfl), (zB_of 442 (by decide +kernel) rfl), (zB_of 443 (by decide +kernel) rfl), i_X0, co_X0_lowerAt, pl_X0_lowerAt⟩
theorem m_X0_35 : zLV RX0 35 yX0_put cX0_put 4 none 3 := ⟨(zB_of 445 (by decide +kernel) rfl), (zB_of 447 (by decide +kernel) rfl), (zB_of 3 (by decide +kernel) rfl), i_X0, co_X0_put, pl_X0_put⟩
theorem m_X10_80 : zLV RX10 80 yX8_set cX8_set 4 none 3 := ⟨(zB_of 449 (by decide +kernel) rfl), (zB_of 430 (by decide +kernel) rfl), (zB_of 431 (by decide +kernel) rfl), i_X8, co_X8_set, pl_X8_set⟩
theorem m_X10_90 : zLV RX10 90 yX0_putInOrder cX0_putInOrder 4 none 1 := ⟨(zB_of 450 (by decide +kernel) rfl), (zB_of 451 (by decide +kernel) rfl), (zB_of 452 (by decide +kernel) rfl), i_X0, co_X0_putInOrder, pl_X0_putInOrder⟩
theorem m_X0_39 : zLV RX0 39 yX0_add cX0_add 5 (some .int) 3 := ⟨(zB_of 454 (by decide +kernel) rfl), (zB_of 455 (by decide +kernel) rfl), (zB_of 456 (by decide +kernel) rfl), i_X0, co_X0_add, pl_X0_add⟩
theorem m_X0_29 : zLV RX0 29 yX8_isNearer cX8_isNearer 14 (some .boolean) 4 := ⟨(zB_of 458 (by decide +kernel) rfl), (zB_of 459 (by decide +kernel) rfl), (zB_of 460 (by decide +kernel) rfl), i_X8, co_X8_isNearer, pl_X8_isNearer⟩
theorem m_X8_19 : zLV RX8 19 yX8_isPassedBy cX8_isPassedBy 8 (some .boolean) 2 := ⟨(zB_of 462 (by decide +kernel) rfl), (zB_of 463 (by decide +kernel) rfl), (zB_of 464 (by decide +kernel) rfl), i_X8, co_X8_isPassedBy, pl_X8_isPassedBy⟩
theorem m_L_18 : zLV RL 18 yX10_partOf cX10_partOf 2 (some .int) 1 := ⟨(zB_of 467 (by decide +kernel) rfl), (zB_of 468 (by decide +kernel) rfl), (zB_of 469 (by decide +kernel) rfl), i_X10, co_X10_partOf, pl_X10_partOf⟩
theorem m_L_23 : zLV RL 23 yX10_term cX10_term 2 (some .int) 1 := ⟨(zB_of 471 (by decide +kernel) rfl), (zB_of 472 (by decide +kernel) rfl), (zB_of 473 (by decide +kernel) rfl), i_X10, co_X10_term, pl_X10_term⟩
theorem m_X10_105 : zLV RX10 105 yX2_termAt cX2_termAt 2 (some .int) 1 := ⟨(zB_of 475 (by decide +kernel) rfl), (zB_of 370 (by decide +kernel) rfl), (zB_of 371 (by decide +kernel) rfl), i_X2, co_X2_termAt, pl_X2_termAt⟩
theorem m_L_27 : zLV RL 27 yX10_again cX10_again 2 (some .int) 1 := ⟨(zB_of 476 (by decide +kernel) rfl), (zB_of 477 (by decide +kernel) rfl), (zB_of 478 (by decide +kernel) rfl), i_X10, co_X10_again, pl_X10_again⟩
theorem m_X10_109 : zLV RX10 109 yX2_comesAgain cX2_comesAgain 1 (some .boolean) 0 := ⟨(zB_of 480 (by decide +kernel) rfl), (zB_of 481 (by decide +kernel) rfl), (zB_of 482 (by decide +kernel) rfl), i_X2, co_X2_comesAgain, pl_X2_comesAgain⟩
theorem m_X10_120 : zLV RX10 120 yX2_greatestOfPeriod cX2_greatestOfPeriod 3 (some .int) 0 := ⟨(zB_of 485 (by decide +kernel) rfl), (zB_of 486 (by decide +kernel) rfl), (zB_of 487 (by decide +kernel) rfl), i_X2, co_X2_greatestOfPeriod, pl_X2_greatestOfPeriod⟩
theorem m_X2_112 : Cond.methodLink RX2 112 Lib.Math.max.name ∈ zB := (zB_of 489 (by decide +kernel) rfl)
theorem m_X10_124 : zLV RX10 124 yX2_unlikeOfPeriod cX2_unlikeOfPeriod 3 (some .int) 0 := ⟨(zB_of 492 (by decide +kernel) rfl), (zB_of 493 (by decide +kernel) rfl), (zB_of 494 (by decide +kernel) rfl), i_X2, co_X2_unlikeOfPeriod, pl_X2_unlikeOfPeriod⟩
theorem m_X2_118 : zLV RX2 118 yX2_isNewInPeriod cX2_isNewInPeriod 3 (some .boolean) 1 := ⟨(zB_of 496 (by decide +kernel) rfl), (zB_of 498 (by decide +kernel) rfl), (zB_of 4 (by decide +kernel) rfl), i_X2, co_X2_isNewInPeriod, pl_X2_isNewInPeriod⟩
theorem m_X10_127 : zLV RX10 127 yX2_isPeriodMirrored cX2_isPeriodMirrored 3 (some .boolean) 0 := ⟨(zB_of 500 (by decide +kernel) rfl), (zB_of 501 (by decide +kernel) rfl), (zB_of 502 (by decide +kernel) rfl), i_X2, co_X2_isPeriodMirrored, pl_X2_isPeriodMirrored⟩
theorem m_X10_130 : zLS RX10 130 yX10_oneIf cX10_oneIf 1 (some .int) 1 := ⟨(zB_of 504 (by decide +kernel) rfl), (zB_of 505 (by decide +kernel) rfl), i_X10, co_X10_oneIf, pl_X10_oneIf⟩
theorem m_L_31 : zLV RL 31 yX10_convergent cX10_convergent 3 (some .long) 2 := ⟨(zB_of 507 (by decide +kernel) rfl), (zB_of 508 (by decide +kernel) rfl), (zB_of 509 (by decide +kernel) rfl), i_X10, co_X10_convergent, pl_X10_convergent⟩
theorem m_X10_141 : zLV RX10 141 yX2_upperAt cX2_upperAt 2 (some .long) 1 := ⟨(zB_of 513 (by decide +kernel) rfl), (zB_of 514 (by decide +kernel) rfl), (zB_of 515 (by decide +kernel) rfl), i_X2, co_X2_upperAt, pl_X2_upperAt⟩
theorem m_X10_147 : zLV RX10 147 yX2_lowerAt cX2_lowerAt 2 (some .long) 1 := ⟨(zB_of 518 (by decide +kernel) rfl), (zB_of 519 (by decide +kernel) rfl), (zB_of 520 (by decide +kernel) rfl), i_X2, co_X2_lowerAt, pl_X2_lowerAt⟩
theorem m_L_36 : zLV RL 36 yX10_between cX10_between 4 (some .long) 3 := ⟨(zB_of 522 (by decide +kernel) rfl), (zB_of 523 (by decide +kernel) rfl), (zB_of 524 (by decide +kernel) rfl), i_X10, co_X10_between, pl_X10_between⟩
theorem m_L_41 : zLV RL 41 yX10_nearest cX10_nearest 3 (some .int) 2 := ⟨(zB_of 526 (by decide +kernel) rfl), (zB_of 527 (by decide +kernel) rfl), (zB_of 528 (by decide +kernel) rfl), i_X10, co_X10_nearest, pl_X10_nearest⟩
theorem m_X10_150 : zLV RX10 150 yX4_find cX4_find 5 none 3 := ⟨(zB_of 530 (by decide +kernel) rfl), (zB_of 531 (by decide +kernel) rfl), (zB_of 532 (by decide +kernel) rfl), i_X4, co_X4_find, pl_X4_find⟩
theorem m_X4_26 : zLV RX4 26 yX4_takeMediant cX4_takeMediant 6 none 1 := ⟨(zB_of 534 (by decide +kernel) rfl), (zB_of 536 (by decide +kernel) rfl), (zB_of 5 (by decide +kernel) rfl), i_X4, co_X4_takeMediant, pl_X4_takeMediant⟩
theorem m_X4_30 : zLV RX4 30 yX8_isNearer cX8_isNearer 14 (some .boolean) 4 := ⟨(zB_of 538 (by decide +kernel) rfl), (zB_of 459 (by decide +kernel) rfl), (zB_of 460 (by decide +kernel) rfl), i_X8, co_X8_isNearer, pl_X8_isNearer⟩
theorem m_X4_36 : zLV RX4 36 yX8_isPassedBy cX8_isPassedBy 8 (some .boolean) 2 := ⟨(zB_of 539 (by decide +kernel) rfl), (zB_of 463 (by decide +kernel) rfl), (zB_of 464 (by decide +kernel) rfl), i_X8, co_X8_isPassedBy, pl_X8_isPassedBy⟩
theorem m_X10_154 : zLV RX10 154 yX4_isAboveNearer cX4_isAboveNearer 2 (some .boolean) 1 := ⟨(zB_of 540 (by decide +kernel) rfl), (zB_of 541 (by decide +kernel) rfl), (zB_of 542 (by decide +kernel) rfl), i_X4, co_X4_isAboveNearer, pl_X4_isAboveNearer⟩
theorem m_X10_158 : zLV RX10 158 yX10_neighbourPart cX10_neighbourPart 3 (some .int) 2 := ⟨(zB_of 544 (by decide +kernel) rfl), (zB_of 546 (by decide +kernel) rfl), (zB_of 6 (by decide +kernel) rfl), i_X10, co_X10_neighbourPart, pl_X10_neighbourPart⟩
theorem m_L_46 : zLV RL 46 yX10_beside cX10_beside 4 (some .int) 3 := ⟨(zB_of 549 (by decide +kernel) rfl), (zB_of 550 (by decide +kernel) rfl), (zB_of 551 (by decide +kernel) rfl), i_X10, co_X10_beside, pl_X10_beside⟩
theorem m_L_50 : zLV RL 50 yX10_records cX10_records 2 (some .int) 1 := ⟨(zB_of 553 (by decide +kernel) rfl), (zB_of 554 (by decide +kernel) rfl), (zB_of 555 (by decide +kernel) rfl), i_X10, co_X10_records, pl_X10_records⟩
theorem m_L_54 : zLV RL 54 yX10_solution cX10_solution 4 (some .int) 3 := ⟨(zB_of 557 (by decide +kernel) rfl), (zB_of 558 (by decide +kernel) rfl), (zB_of 559 (by decide +kernel) rfl), i_X10, co_X10_solution, pl_X10_solution⟩
theorem m_X10_165 : zLS RX10 165 yX10_isRightSide cX10_isRightSide 1 (some .boolean) 1 := ⟨(zB_of 561 (by decide +kernel) rfl), (zB_of 562 (by decide +kernel) rfl), i_X10, co_X10_isRightSide, pl_X10_isRightSide⟩
theorem m_X10_168 : zLV RX10 168 yX5_find cX5_find 8 (some .boolean) 3 := ⟨(zB_of 564 (by decide +kernel) rfl), (zB_of 565 (by decide +kernel) rfl), (zB_of 566 (by decide +kernel) rfl), i_X5, co_X5_find, pl_X5_find⟩
theorem m_X5_33 : zLS RX5 33 yX7_rootOf cX7_rootOf 6 (some .long) 1 := ⟨(zB_of 568 (by decide +kernel) rfl), (zB_of 337 (by decide +kernel) rfl), i_X7, co_X7_rootOf, pl_X7_rootOf⟩
theorem m_X5_46 : zLV RX5 46 yX5_goToRootOf cX5_goToRootOf 3 none 1 := ⟨(zB_of 570 (by decide +kernel) rfl), (zB_of 572 (by decide +kernel) rfl), (zB_of 7 (by decide +kernel) rfl), i_X5, co_X5_goToRootOf, pl_X5_goToRootOf⟩
theorem m_L_58 : zLV RL 58 yX10_solutions cX10_solutions 2 (some .int) 1 := ⟨(zB_of 576 (by decide +kernel) rfl), (zB_of 577 (by decide +kernel) rfl), (zB_of 578 (by decide +kernel) rfl), i_X10, co_X10_solutions, pl_X10_solutions⟩
theorem m_X10_178 : zLV RX10 178 yX5_countAll cX5_countAll 3 (some .int) 2 := ⟨(zB_of 580 (by decide +kernel) rfl), (zB_of 581 (by decide +kernel) rfl), (zB_of 582 (by decide +kernel) rfl), i_X5, co_X5_countAll, pl_X5_countAll⟩
theorem m_X5_25 : zLV RX5 25 yX5_find cX5_find 8 (some .boolean) 3 := ⟨(zB_of 584 (by decide +kernel) rfl), (zB_of 565 (by decide +kernel) rfl), (zB_of 566 (by decide +kernel) rfl), i_X5, co_X5_find, pl_X5_find⟩
theorem m_L_62 : zLV RL 62 yX10_leastSolution cX10_leastSolution 2 (some .long) 1 := ⟨(zB_of 585 (by decide +kernel) rfl), (zB_of 586 (by decide +kernel) rfl), (zB_of 587 (by decide +kernel) rfl), i_X10, co_X10_leastSolution, pl_X10_leastSolution⟩
theorem m_X10_182 : zLV RX10 182 yX5_findLeast cX5_findLeast 3 (some .boolean) 1 := ⟨(zB_of 589 (by decide +kernel) rfl), (zB_of 590 (by decide +kernel) rfl), (zB_of 591 (by decide +kernel) rfl), i_X5, co_X5_findLeast, pl_X5_findLeast⟩
theorem m_X5_52 : zLV RX5 52 yX7_begin cX7_begin 9 none 3 := ⟨(zB_of 593 (by decide +kernel) rfl), (zB_of 330 (by decide +kernel) rfl), (zB_of 331 (by decide +kernel) rfl), i_X7, co_X7_begin, pl_X7_begin⟩
theorem m_X5_56 : zLV RX5 56 yX1_begin cX1_begin 1 none 0 := ⟨(zB_of 594 (by decide +kernel) rfl), (zB_of 366 (by decide +kernel) rfl), (zB_of 367 (by decide +kernel) rfl), i_X1, co_X1_begin, pl_X1_begin⟩
theorem m_X5_58 : zLV RX5 58 yX7_whole cX7_whole 1 (some .long) 0 := ⟨(zB_of 595 (by decide +kernel) rfl), (zB_of 349 (by decide +kernel) rfl), (zB_of 350 (by decide +kernel) rfl), i_X7, co_X7_whole, pl_X7_whole⟩
theorem m_X5_62 : zLV RX5 62 yX1_add cX1_add 7 none 1 := ⟨(zB_of 596 (by decide +kernel) rfl), (zB_of 374 (by decide +kernel) rfl), (zB_of 375 (by decide +kernel) rfl), i_X1, co_X1_add, pl_X1_add⟩
theorem m_X5_65 : zLV RX5 65 yX7_advance cX7_advance 1 none 0 := ⟨(zB_of 597 (by decide +kernel) rfl), (zB_of 357 (by decide +kernel) rfl), (zB_of 358 (by decide +kernel) rfl), i_X7, co_X7_advance, pl_X7_advance⟩
theorem m_L_67 : zLV RL 67 yX10_note cX10_note 1 (some .int) 0 := ⟨(zB_of 598 (by decide +kernel) rfl), (zB_of 599 (by decide +kernel) rfl), (zB_of 600 (by decide +kernel) rfl), i_X10, co_X10_note, pl_X10_note⟩
theorem m_X10_185 : zLV RX10 185 yX9_read cX9_read 5 none 0 := ⟨(zB_of 602 (by decide +kernel) rfl), (zB_of 603 (by decide +kernel) rfl), (zB_of 604 (by decide +kernel) rfl), i_X9, co_X9_read, pl_X9_read⟩
theorem m_X9_23 : zLV RX9 23 yX9_characterAt cX9_characterAt 2 (some .char) 1 := ⟨(zB_of 606 (by decide +kernel) rfl), (zB_of 608 (by decide +kernel) rfl), (zB_of 8 (by decide +kernel) rfl), i_X9, co_X9_characterAt, pl_X9_characterAt⟩
theorem m_X9_36 : zLV RX9 36 yX9_readNumber cX9_readNumber 5 (some .int) 2 := ⟨(zB_of 610 (by decide +kernel) rfl), (zB_of 612 (by decide +kernel) rfl), (zB_of 9 (by decide +kernel) rfl), i_X9, co_X9_readNumber, pl_X9_readNumber⟩
theorem m_X9_44 : zLV RX9 44 yX9_digitAt cX9_digitAt 3 (some .int) 1 := ⟨(zB_of 614 (by decide +kernel) rfl), (zB_of 616 (by decide +kernel) rfl), (zB_of 10 (by decide +kernel) rfl), i_X9, co_X9_digitAt, pl_X9_digitAt⟩
theorem m_X9_40 : zLV RX9 40 yX9_setFault cX9_setFault 3 none 2 := ⟨(zB_of 618 (by decide +kernel) rfl), (zB_of 620 (by decide +kernel) rfl), (zB_of 11 (by decide +kernel) rfl), i_X9, co_X9_setFault, pl_X9_setFault⟩
theorem m_X9_48 : zLV RX9 48 yX9_addTerm cX9_addTerm 2 none 1 := ⟨(zB_of 622 (by decide +kernel) rfl), (zB_of 624 (by decide +kernel) rfl), (zB_of 12 (by decide +kernel) rfl), i_X9, co_X9_addTerm, pl_X9_addTerm⟩
theorem m_X10_188 : zLV RX10 188 yX9_hasFault cX9_hasFault 1 (some .boolean) 0 := ⟨(zB_of 626 (by decide +kernel) rfl), (zB_of 627 (by decide +kernel) rfl), (zB_of 628 (by decide +kernel) rfl), i_X9, co_X9_hasFault, pl_X9_hasFault⟩
theorem m_X10_191 : zLV RX10 191 yX9_chainTerms cX9_chainTerms 3 none 1 := ⟨(zB_of 630 (by decide +kernel) rfl), (zB_of 631 (by decide +kernel) rfl), (zB_of 632 (by decide +kernel) rfl), i_X9, co_X9_chainTerms, pl_X9_chainTerms⟩
theorem m_X9_52 : zLV RX9 52 yX1_begin cX1_begin 1 none 0 := ⟨(zB_of 634 (by decide +kernel) rfl), (zB_of 366 (by decide +kernel) rfl), (zB_of 367 (by decide +kernel) rfl), i_X1, co_X1_begin, pl_X1_begin⟩
theorem m_X9_57 : zLV RX9 57 yX9_termAt cX9_termAt 2 (some .int) 1 := ⟨(zB_of 635 (by decide +kernel) rfl), (zB_of 636 (by decide +kernel) rfl), (zB_of 637 (by decide +kernel) rfl), i_X9, co_X9_termAt, pl_X9_termAt⟩
theorem m_X9_60 : zLV RX9 60 yX1_add cX1_add 7 none 1 := ⟨(zB_of 639 (by decide +kernel) rfl), (zB_of 374 (by decide +kernel) rfl), (zB_of 375 (by decide +kernel) rfl), i_X1, co_X1_add, pl_X1_add⟩
theorem m_X10_195 : zLS RX10 195 yX10_fitsBook cX10_fitsBook 1 (some .boolean) 1 := ⟨(zB_of 640 (by decide +kernel) rfl), (zB_of 641 (by decide +kernel) rfl), i_X10, co_X10_fitsBook, pl_X10_fitsBook⟩
theorem m_X10_290 : Cond.methodLink RX10 290 Lib.MathLoose.abs_long.x ∈ zB := (zB_of 643 (by decide +kernel) rfl)
theorem m_X10_205 : zLV RX10 205 yX0_has cX0_has 6 (some .boolean) 2 := ⟨(zB_of 646 (by decide +kernel) rfl), (zB_of 647 (by decide +kernel) rfl), (zB_of 648 (by decide +kernel) rfl), i_X0, co_X0_has, pl_X0_has⟩
theorem m_X10_212 : zLV RX10 212 yX0_add cX0_add 5 (some .int) 3 := ⟨(zB_of 650 (by decide +kernel) rfl), (zB_of 455 (by decide +kernel) rfl), (zB_of 456 (by decide +kernel) rfl), i_X0, co_X0_add, pl_X0_add⟩
theorem m_L_72 : zLV RL 72 yX10_strike cX10_strike 2 (some .int) 1 := ⟨(zB_of 651 (by decide +kernel) rfl), (zB_of 652 (by decide +kernel) rfl), (zB_of 653 (by decide +kernel) rfl), i_X10, co_X10_strike, pl_X10_strike⟩
theorem m_X10_216 : zLV RX10 216 yX0_remove cX0_remove 3 none 1 := ⟨(zB_of 655 (by decide +kernel) rfl), (zB_of 656 (by decide +kernel) rfl), (zB_of 657 (by decide +kernel) rfl), i_X0, co_X0_remove, pl_X0_remove⟩
theorem m_L_76 : zLV RL 76 yX10_strikeAll cX10_strikeAll 2 (some .int) 0 := ⟨(zB_of 659 (by decide +kernel) rfl), (zB_of 660 (by decide +kernel) rfl), (zB_of 661 (by decide +kernel) rfl), i_X10, co_X10_strikeAll, pl_X10_strikeAll⟩
theorem m_L_80 : zLV RL 80 yX10_noteOf cX10_noteOf 5 (some .int) 2 := ⟨(zB_of 663 (by decide +kernel) rfl), (zB_of 664 (by decide +kernel) rfl), (zB_of 665 (by decide +kernel) rfl), i_X10, co_X10_noteOf, pl_X10_noteOf⟩
theorem m_X10_220 : zLV RX10 220 yX0_upperAt cX0_upperAt 2 (some .int) 1 := ⟨(zB_of 667 (by decide +kernel) rfl), (zB_of 438 (by decide +kernel) rfl), (zB_of 439 (by decide +kernel) rfl), i_X0, co_X0_upperAt, pl_X0_upperAt⟩
theorem m_X10_222 : zLV RX10 222 yX0_lowerAt cX0_lowerAt 2 (some .int) 1 := ⟨(zB_of 668 (by decide +kernel) rfl), (zB_of 442 (by decide +kernel) rfl), (zB_of 443 (by decide +kernel) rfl), i_X0, co_X0_lowerAt, pl_X0_lowerAt⟩
theorem m_X10_225 : zLV RX10 225 yX8_isPassedBy cX8_isPassedBy 8 (some .boolean) 2 := ⟨(zB_of 669 (by decide +kernel) rfl), (zB_of 463 (by decide +kernel) rfl), (zB_of 464 (by decide +kernel) rfl), i_X8, co_X8_isPassedBy, pl_X8_isPassedBy⟩
theorem m_X10_228 : zLV RX10 228 yX2_hasConvergent cX2_hasConvergent 6 (some .boolean) 2 := ⟨(zB_of 670 (by decide +kernel) rfl), (zB_of 671 (by decide +kernel) rfl), (zB_of 672 (by decide +kernel) rfl), i_X2, co_X2_hasConvergent, pl_X2_hasConvergent⟩
theorem m_X2_122 : zLV RX2 122 yX2_upperAt cX2_upperAt 2 (some .long) 1 := ⟨(zB_of 674 (by decide +kernel) rfl), (zB_of 514 (by decide +kernel) rfl), (zB_of 515 (by decide +kernel) rfl), i_X2, co_X2_upperAt, pl_X2_upperAt⟩
theorem m_X2_126 : zLV RX2 126 yX2_lowerAt cX2_lowerAt 2 (some .long) 1 := ⟨(zB_of 675 (by decide +kernel) rfl), (zB_of 519 (by decide +kernel) rfl), (zB_of 520 (by decide +kernel) rfl), i_X2, co_X2_lowerAt, pl_X2_lowerAt⟩
theorem m_L_84 : zLV RL 84 yX10_count cX10_count 2 (some .int) 1 := ⟨(zB_of 676 (by decide +kernel) rfl), (zB_of 677 (by decide +kernel) rfl), (zB_of 678 (by decide +kernel) rfl), i_X10, co_X10_count, pl_X10_count⟩
theorem m_X10_231 : zLV RX10 231 yX0_countAbove cX0_countAbove 4 (some .int) 1 := ⟨(zB_of 680 (by decide +kernel) rfl), (zB_of 681 (by decide +kernel) rfl), (zB_of 682 (by decide +kernel) rfl), i_X0, co_X0_countAbove, pl_X0_countAbove⟩
theorem m_X0_43 : zLV RX0 43 yX8_isPassedBy cX8_isPassedBy 8 (some .boolean) 2 := ⟨(zB_of 684 (by decide +kernel) rfl), (zB_of 463 (by decide +kernel) rfl), (zB_of 464 (by decide +kernel) rfl), i_X8, co_X8_isPassedBy, pl_X8_isPassedBy⟩
theorem m_L_88 : zLV RL 88 yX10_undo cX10_undo 1 (some .int) 0 := ⟨(zB_of 685 (by decide +kernel) rfl), (zB_of 686 (by decide +kernel) rfl), (zB_of 687 (by decide +kernel) rfl), i_X10, co_X10_undo, pl_X10_undo⟩
theorem m_X10_239 : zLV RX10 239 yX3_takeBack cX3_takeBack 2 none 1 := ⟨(zB_of 689 (by decide +kernel) rfl), (zB_of 690 (by decide +kernel) rfl), (zB_of 691 (by decide +kernel) rfl), i_X3, co_X3_takeBack, pl_X3_takeBack⟩
theorem m_L_92 : zLV RL 92 yX10_type cX10_type 2 (some .int) 1 := ⟨(zB_of 693 (by decide +kernel) rfl), (zB_of 694 (by decide +kernel) rfl), (zB_of 695 (by decide +kernel) rfl), i_X10, co_X10_type, pl_X10_type⟩
theorem m_X10_242 : zLV RX10 242 yX9_append cX9_append 2 none 1 := ⟨(zB_of 697 (by decide +kernel) rfl), (zB_of 698 (by decide +kernel) rfl), (zB_of 699 (by decide +kernel) rfl), i_X9, co_X9_append, pl_X9_append⟩
theorem m_L_96 : zLV RL 96 yX10_clearText cX10_clearText 2 (some .int) 0 := ⟨(zB_of 701 (by decide +kernel) rfl), (zB_of 702 (by decide +kernel) rfl), (zB_of 703 (by decide +kernel) rfl), i_X10, co_X10_clearText, pl_X10_clearText⟩
theorem m_L_100 : zLV RL 100 yX10_fault cX10_fault 2 (some .int) 1 := ⟨(zB_of 705 (by decide +kernel) rfl), (zB_of 706 (by decide +kernel) rfl), (zB_of 707 (by decide +kernel) rfl), i_X10, co_X10_fault, pl_X10_fault⟩
theorem m_L_104 : zLV RL 104 yX10_told cX10_told 2 (some .long) 1 := ⟨(zB_of 709 (by decide +kernel) rfl), (zB_of 710 (by decide +kernel) rfl), (zB_of 711 (by decide +kernel) rfl), i_X10, co_X10_told, pl_X10_told⟩
theorem m_X10_257 : zLV RX10 257 yX2_countShared cX2_countShared 3 (some .int) 1 := ⟨(zB_of 714 (by decide +kernel) rfl), (zB_of 715 (by decide +kernel) rfl), (zB_of 716 (by decide +kernel) rfl), i_X2, co_X2_countShared, pl_X2_countShared⟩
theorem m_X2_134 : zLV RX2 134 yX9_termAt cX9_termAt 2 (some .int) 1 := ⟨(zB_of 718 (by decide +kernel) rfl), (zB_of 636 (by decide +kernel) rfl), (zB_of 637 (by decide +kernel) rfl), i_X9, co_X9_termAt, pl_X9_termAt⟩
theorem m_X10_261 : zLV RX10 261 yX10_toldAbove cX10_toldAbove 1 (some .long) 0 := ⟨(zB_of 719 (by decide +kernel) rfl), (zB_of 721 (by decide +kernel) rfl), (zB_of 13 (by decide +kernel) rfl), i_X10, co_X10_toldAbove, pl_X10_toldAbove⟩
theorem m_X10_265 : zLV RX10 265 yX10_toldPart cX10_toldPart 2 (some .long) 1 := ⟨(zB_of 723 (by decide +kernel) rfl), (zB_of 725 (by decide +kernel) rfl), (zB_of 14 (by decide +kernel) rfl), i_X10, co_X10_toldPart, pl_X10_toldPart⟩
theorem m_L_12 : zLI RL 12 yX11_init cX11_init 1 0 := ⟨(zB_of 729 (by decide +kernel) rfl), (zB_of 730 (by decide +kernel) rfl), i_X11, co_X11_init, pl_X11_init, rfl⟩
theorem m_X11_1 : Cond.methodLink RX11 1 objectInit ∈ zB := (zB_of 732 (by decide +kernel) rfl)
theorem m_L_17 : zLV RL 17 yX11_surd cX11_surd 6 (some .int) 3 := ⟨(zB_of 800 (by decide +kernel) rfl), (zB_of 801 (by decide +kernel) rfl), (zB_of 802 (by decide +kernel) rfl), i_X11, co_X11_surd, pl_X11_surd⟩
theorem m_X11_44 : zLS RX11 44 yX11_in cX11_in 6 (some .boolean) 3 := ⟨(zB_of 806 (by decide +kernel) rfl), (zB_of 807 (by decide +kernel) rfl), i_X11, co_X11_in, pl_X11_in⟩
theorem m_X11_51 : zLS RX11 51 yX11_root cX11_root 9 (some .long) 1 := ⟨(zB_of 812 (by decide +kernel) rfl), (zB_of 813 (by decide +kernel) rfl), i_X11, co_X11_root, pl_X11_root⟩
theorem m_X11_56 : zLV RX11 56 yX11_changes cX11_changes 2 none 0 := ⟨(zB_of 817 (by decide +kernel) rfl), (zB_of 819 (by decide +kernel) rfl), (zB_of 15 (by decide +kernel) rfl), i_X11, co_X11_changes, pl_X11_changes⟩
theorem m_L_22 : zLV RL 22 yX11_partOf cX11_partOf 2 (some .int) 1 := ⟨(zB_of 821 (by decide +kernel) rfl), (zB_of 822 (by decide +kernel) rfl), (zB_of 823 (by decide +kernel) rfl), i_X11, co_X11_partOf, pl_X11_partOf⟩
theorem m_L_26 : zLV RL 26 yX11_term cX11_term 2 (some .int) 1 := ⟨(zB_of 825 (by decide +kernel) rfl), (zB_of 826 (by decide +kernel) rfl), (zB_of 827 (by decide +kernel) rfl), i_X11, co_X11_term, pl_X11_term⟩
theorem m_X11_69 : zLV RX11 69 yX11_lays cX11_lays 3 none 0 := ⟨(zB_of 830 (by decide +kernel) rfl), (zB_of 832 (by decide +kernel) rfl), (zB_of 16 (by decide +kernel) rfl), i_X11, co_X11_lays, pl_X11_lays⟩
theorem m_X11_63 : zLV RX11 63 yX11_laysOf cX11_laysOf 16 none 3 := ⟨(zB_of 834 (by decide +kernel) rfl), (zB_of 836 (by decide +kernel) rfl), (zB_of 17 (by decide +kernel) rfl), i_X11, co_X11_laysOf, pl_X11_laysOf⟩
theorem m_X11_59 : zLS RX11 59 yX11_down cX11_down 6 (some .long) 2 := ⟨(zB_of 838 (by decide +kernel) rfl), (zB_of 839 (by decide +kernel) rfl), i_X11, co_X11_down, pl_X11_down⟩
theorem m_L_30 : zLV RL 30 yX11_again cX11_again 3 (some .int) 1 := ⟨(zB_of 841 (by decide +kernel) rfl), (zB_of 842 (by decide +kernel) rfl), (zB_of 843 (by decide +kernel) rfl), i_X11, co_X11_again, pl_X11_again⟩
theorem m_X11_77 : zLV RX11 77 yX11_period cX11_period 3 (some .int) 0 := ⟨(zB_of 846 (by decide +kernel) rfl), (zB_of 848 (by decide +kernel) rfl), (zB_of 18 (by decide +kernel) rfl), i_X11, co_X11_period, pl_X11_period⟩
theorem m_X11_82 : zLV RX11 82 yX11_greatest cX11_greatest 4 (some .int) 1 := ⟨(zB_of 851 (by decide +kernel) rfl), (zB_of 853 (by decide +kernel) rfl), (zB_of 19 (by decide +kernel) rfl), i_X11, co_X11_greatest, pl_X11_greatest⟩
theorem m_X11_86 : zLV RX11 86 yX11_unlike cX11_unlike 6 (some .int) 1 := ⟨(zB_of 855 (by decide +kernel) rfl), (zB_of 857 (by decide +kernel) rfl), (zB_of 20 (by decide +kernel) rfl), i_X11, co_X11_unlike, pl_X11_unlike⟩
theorem m_X11_89 : zLV RX11 89 yX11_isMirror cX11_isMirror 4 (some .boolean) 1 := ⟨(zB_of 859 (by decide +kernel) rfl), (zB_of 861 (by decide +kernel) rfl), (zB_of 21 (by decide +kernel) rfl), i_X11, co_X11_isMirror, pl_X11_isMirror⟩
theorem m_L_35 : zLV RL 35 yX11_convergent cX11_convergent 3 (some .long) 2 := ⟨(zB_of 863 (by decide +kernel) rfl), (zB_of 864 (by decide +kernel) rfl), (zB_of 865 (by decide +kernel) rfl), i_X11, co_X11_convergent, pl_X11_convergent⟩
theorem m_X11_122 : zLV RX11 122 yX11_goesTo cX11_goesTo 4 (some .boolean) 1 := ⟨(zB_of 868 (by decide +kernel) rfl), (zB_of 870 (by decide +kernel) rfl), (zB_of 22 (by decide +kernel) rfl), i_X11, co_X11_goesTo, pl_X11_goesTo⟩
theorem m_X11_113 : zLV RX11 113 yX11_begins cX11_begins 1 none 0 := ⟨(zB_of 872 (by decide +kernel) rfl), (zB_of 874 (by decide +kernel) rfl), (zB_of 23 (by decide +kernel) rfl), i_X11, co_X11_begins, pl_X11_begins⟩
theorem m_X11_116 : zLV RX11 116 yX11_goesOn cX11_goesOn 9 (some .boolean) 1 := ⟨(zB_of 876 (by decide +kernel) rfl), (zB_of 878 (by decide +kernel) rfl), (zB_of 24 (by decide +kernel) rfl), i_X11, co_X11_goesOn, pl_X11_goesOn⟩
theorem m_X11_106 : zLS RX11 106 yX11_size cX11_size 2 (some .long) 1 := ⟨(zB_of 880 (by decide +kernel) rfl), (zB_of 881 (by decide +kernel) rfl), i_X11, co_X11_size, pl_X11_size⟩
theorem m_L_40 : zLV RL 40 yX11_between cX11_between 6 (some .long) 3 := ⟨(zB_of 886 (by decide +kernel) rfl), (zB_of 887 (by decide +kernel) rfl), (zB_of 888 (by decide +kernel) rfl), i_X11, co_X11_between, pl_X11_between⟩
theorem m_L_45 : zLV RL 45 yX11_nearest cX11_nearest 3 (some .int) 2 := ⟨(zB_of 890 (by decide +kernel) rfl), (zB_of 891 (by decide +kernel) rfl), (zB_of 892 (by decide +kernel) rfl), i_X11, co_X11_nearest, pl_X11_nearest⟩
theorem m_X11_148 : zLV RX11 148 yX11_seeks cX11_seeks 6 (some .int) 1 := ⟨(zB_of 895 (by decide +kernel) rfl), (zB_of 897 (by decide +kernel) rfl), (zB_of 25 (by decide +kernel) rfl), i_X11, co_X11_seeks, pl_X11_seeks⟩
theorem m_X11_131 : zLV RX11 131 yX11_floorOf cX11_floorOf 4 (some .long) 1 := ⟨(zB_of 899 (by decide +kernel) rfl), (zB_of 901 (by decide +kernel) rfl), (zB_of 26 (by decide +kernel) rfl), i_X11, co_X11_floorOf, pl_X11_floorOf⟩
theorem m_X11_135 : zLV RX11 135 yX11_isNearer cX11_isNearer 12 (some .boolean) 4 := ⟨(zB_of 903 (by decide +kernel) rfl), (zB_of 905 (by decide +kernel) rfl), (zB_of 27 (by decide +kernel) rfl), i_X11, co_X11_isNearer, pl_X11_isNearer⟩
theorem m_X11_127 : zLV RX11 127 yX11_isAbove cX11_isAbove 8 (some .boolean) 2 := ⟨(zB_of 907 (by decide +kernel) rfl), (zB_of 909 (by decide +kernel) rfl), (zB_of 28 (by decide +kernel) rfl), i_X11, co_X11_isAbove, pl_X11_isAbove⟩
theorem m_X11_151 : zLV RX11 151 yX11_best cX11_best 2 (some .int) 1 := ⟨(zB_of 911 (by decide +kernel) rfl), (zB_of 913 (by decide +kernel) rfl), (zB_of 29 (by decide +kernel) rfl), i_X11, co_X11_best, pl_X11_best⟩
theorem m_L_49 : zLV RL 49 yX11_beside cX11_beside 9 (some .int) 3 := ⟨(zB_of 916 (by decide +kernel) rfl), (zB_of 917 (by decide +kernel) rfl), (zB_of 918 (by decide +kernel) rfl), i_X11, co_X11_beside, pl_X11_beside⟩
theorem m_L_53 : zLV RL 53 yX11_records cX11_records 2 (some .int) 1 := ⟨(zB_of 920 (by decide +kernel) rfl), (zB_of 921 (by decide +kernel) rfl), (zB_of 922 (by decide +kernel) rfl), i_X11, co_X11_records, pl_X11_records⟩
theorem m_L_57 : zLV RL 57 yX11_solution cX11_solution 4 (some .int) 3 := ⟨(zB_of 924 (by decide +kernel) rfl), (zB_of 925 (by decide +kernel) rfl), (zB_of 926 (by decide +kernel) rfl), i_X11, co_X11_solution, pl_X11_solution⟩
theorem m_X11_169 : zLS RX11 169 yX11_isN cX11_isN 1 (some .boolean) 1 := ⟨(zB_of 928 (by decide +kernel) rfl), (zB_of 929 (by decide +kernel) rfl), i_X11, co_X11_isN, pl_X11_isN⟩
theorem m_X11_172 : zLV RX11 172 yX11_solves cX11_solves 8 none 2 := ⟨(zB_of 933 (by decide +kernel) rfl), (zB_of 935 (by decide +kernel) rfl), (zB_of 30 (by decide +kernel) rfl), i_X11, co_X11_solves, pl_X11_solves⟩
theorem m_L_61 : zLV RL 61 yX11_solutions cX11_solutions 2 (some .int) 1 := ⟨(zB_of 939 (by decide +kernel) rfl), (zB_of 940 (by decide +kernel) rfl), (zB_of 941 (by decide +kernel) rfl), i_X11, co_X11_solutions, pl_X11_solutions⟩
theorem m_L_66 : zLV RL 66 yX11_leastSolution cX11_leastSolution 3 (some .long) 1 := ⟨(zB_of 943 (by decide +kernel) rfl), (zB_of 944 (by decide +kernel) rfl), (zB_of 945 (by decide +kernel) rfl), i_X11, co_X11_leastSolution, pl_X11_leastSolution⟩
theorem m_L_103 : zLV RL 103 yX11_fault cX11_fault 2 (some .int) 1 := ⟨(zB_of 947 (by decide +kernel) rfl), (zB_of 948 (by decide +kernel) rfl), (zB_of 949 (by decide +kernel) rfl), i_X11, co_X11_fault, pl_X11_fault⟩
theorem m_X11_203 : zLV RX11 203 yX11_reads cX11_reads 3 (some .boolean) 0 := ⟨(zB_of 951 (by decide +kernel) rfl), (zB_of 953 (by decide +kernel) rfl), (zB_of 31 (by decide +kernel) rfl), i_X11, co_X11_reads, pl_X11_reads⟩
theorem m_X11_197 : zLV RX11 197 yX11_passes cX11_passes 3 (some .boolean) 1 := ⟨(zB_of 955 (by decide +kernel) rfl), (zB_of 957 (by decide +kernel) rfl), (zB_of 32 (by decide +kernel) rfl), i_X11, co_X11_passes, pl_X11_passes⟩
theorem m_X11_183 : zLV RX11 183 yX11_isAt cX11_isAt 3 (some .boolean) 2 := ⟨(zB_of 959 (by decide +kernel) rfl), (zB_of 961 (by decide +kernel) rfl), (zB_of 33 (by decide +kernel) rfl), i_X11, co_X11_isAt, pl_X11_isAt⟩
theorem m_X11_190 : zLV RX11 190 yX11_number cX11_number 3 (some .boolean) 0 := ⟨(zB_of 963 (by decide +kernel) rfl), (zB_of 965 (by decide +kernel) rfl), (zB_of 34 (by decide +kernel) rfl), i_X11, co_X11_number, pl_X11_number⟩
theorem m_X11_200 : zLV RX11 200 yX11_later cX11_later 2 (some .boolean) 0 := ⟨(zB_of 967 (by decide +kernel) rfl), (zB_of 969 (by decide +kernel) rfl), (zB_of 35 (by decide +kernel) rfl), i_X11, co_X11_later, pl_X11_later⟩
theorem m_L_107 : zLV RL 107 yX11_told cX11_told 2 (some .long) 1 := ⟨(zB_of 971 (by decide +kernel) rfl), (zB_of 972 (by decide +kernel) rfl), (zB_of 973 (by decide +kernel) rfl), i_X11, co_X11_told, pl_X11_told⟩
theorem m_X11_212 : zLV RX11 212 yX11_alike cX11_alike 2 (some .int) 0 := ⟨(zB_of 976 (by decide +kernel) rfl), (zB_of 978 (by decide +kernel) rfl), (zB_of 36 (by decide +kernel) rfl), i_X11, co_X11_alike, pl_X11_alike⟩
theorem m_X11_215 : zLV RX11 215 yX11_tells cX11_tells 3 (some .boolean) 0 := ⟨(zB_of 980 (by decide +kernel) rfl), (zB_of 982 (by decide +kernel) rfl), (zB_of 37 (by decide +kernel) rfl), i_X11, co_X11_tells, pl_X11_tells⟩
theorem m_X11_218 : zLV RX11 218 yX11_fits cX11_fits 1 (some .boolean) 0 := ⟨(zB_of 984 (by decide +kernel) rfl), (zB_of 986 (by decide +kernel) rfl), (zB_of 38 (by decide +kernel) rfl), i_X11, co_X11_fits, pl_X11_fits⟩
theorem m_L_71 : zLV RL 71 yX11_note cX11_note 1 (some .int) 0 := ⟨(zB_of 990 (by decide +kernel) rfl), (zB_of 991 (by decide +kernel) rfl), (zB_of 992 (by decide +kernel) rfl), i_X11, co_X11_note, pl_X11_note⟩
theorem m_X11_230 : zLV RX11 230 yX11_isNoted cX11_isNoted 7 (some .boolean) 2 := ⟨(zB_of 994 (by decide +kernel) rfl), (zB_of 996 (by decide +kernel) rfl), (zB_of 39 (by decide +kernel) rfl), i_X11, co_X11_isNoted, pl_X11_isNoted⟩
theorem m_X11_221 : zLV RX11 221 yX11_upOf cX11_upOf 2 (some .int) 1 := ⟨(zB_of 998 (by decide +kernel) rfl), (zB_of 1000 (by decide +kernel) rfl), (zB_of 40 (by decide +kernel) rfl), i_X11, co_X11_upOf, pl_X11_upOf⟩
theorem m_X11_224 : zLV RX11 224 yX11_lowOf cX11_lowOf 2 (some .int) 1 := ⟨(zB_of 1002 (by decide +kernel) rfl), (zB_of 1004 (by decide +kernel) rfl), (zB_of 41 (by decide +kernel) rfl), i_X11, co_X11_lowOf, pl_X11_lowOf⟩
theorem m_X11_227 : zLV RX11 227 yX11_placeOf cX11_placeOf 4 (some .int) 1 := ⟨(zB_of 1006 (by decide +kernel) rfl), (zB_of 1008 (by decide +kernel) rfl), (zB_of 42 (by decide +kernel) rfl), i_X11, co_X11_placeOf, pl_X11_placeOf⟩
theorem m_L_75 : zLV RL 75 yX11_strike cX11_strike 4 (some .int) 1 := ⟨(zB_of 1010 (by decide +kernel) rfl), (zB_of 1011 (by decide +kernel) rfl), (zB_of 1012 (by decide +kernel) rfl), i_X11, co_X11_strike, pl_X11_strike⟩
theorem m_X11_233 : zLV RX11 233 yX11_at cX11_at 4 (some .int) 1 := ⟨(zB_of 1014 (by decide +kernel) rfl), (zB_of 1016 (by decide +kernel) rfl), (zB_of 43 (by decide +kernel) rfl), i_X11, co_X11_at, pl_X11_at⟩
theorem m_L_79 : zLV RL 79 yX11_strikeAll cX11_strikeAll 2 (some .int) 0 := ⟨(zB_of 1018 (by decide +kernel) rfl), (zB_of 1019 (by decide +kernel) rfl), (zB_of 1020 (by decide +kernel) rfl), i_X11, co_X11_strikeAll, pl_X11_strikeAll⟩
theorem m_L_83 : zLV RL 83 yX11_noteOf cX11_noteOf 4 (some .int) 2 := ⟨(zB_of 1022 (by decide +kernel) rfl), (zB_of 1023 (by decide +kernel) rfl), (zB_of 1024 (by decide +kernel) rfl), i_X11, co_X11_noteOf, pl_X11_noteOf⟩
theorem m_X11_238 : zLV RX11 238 yX11_isConvergent cX11_isConvergent 6 (some .boolean) 2 := ⟨(zB_of 1027 (by decide +kernel) rfl), (zB_of 1029 (by decide +kernel) rfl), (zB_of 44 (by decide +kernel) rfl), i_X11, co_X11_isConvergent, pl_X11_isConvergent⟩
theorem m_L_87 : zLV RL 87 yX11_count cX11_count 2 (some .int) 1 := ⟨(zB_of 1031 (by decide +kernel) rfl), (zB_of 1032 (by decide +kernel) rfl), (zB_of 1033 (by decide +kernel) rfl), i_X11, co_X11_count, pl_X11_count⟩
theorem m_X11_241 : zLV RX11 241 yX11_aboveOnes cX11_aboveOnes 3 (some .int) 0 := ⟨(zB_of 1035 (by decide +kernel) rfl), (zB_of 1037 (by decide +kernel) rfl), (zB_of 45 (by decide +kernel) rfl), i_X11, co_X11_aboveOnes, pl_X11_aboveOnes⟩
theorem m_L_91 : zLV RL 91 yX11_undo cX11_undo 2 (some .int) 0 := ⟨(zB_of 1039 (by decide +kernel) rfl), (zB_of 1040 (by decide +kernel) rfl), (zB_of 1041 (by decide +kernel) rfl), i_X11, co_X11_undo, pl_X11_undo⟩
theorem m_L_95 : zLV RL 95 yX11_type cX11_type 2 (some .int) 1 := ⟨(zB_of 1043 (by decide +kernel) rfl), (zB_of 1044 (by decide +kernel) rfl), (zB_of 1045 (by decide +kernel) rfl), i_X11, co_X11_type, pl_X11_type⟩
theorem m_L_99 : zLV RL 99 yX11_clearText cX11_clearText 2 (some .int) 0 := ⟨(zB_of 1049 (by decide +kernel) rfl), (zB_of 1050 (by decide +kernel) rfl), (zB_of 1051 (by decide +kernel) rfl), i_X11, co_X11_clearText, pl_X11_clearText⟩
end
section
/-! ===== MATH 1: whole roots ===== -/
def rtN : Nat → Nat
  | 0 => 0
  | n + 1 => if (rtN n + 1) * (rtN n + 1) ≤ n + 1 then rtN n + 1 else rtN n
theorem rtN_spec : ∀ n : Nat, rtN n * rtN n ≤ n ∧ n < (rtN n + 1) * (rtN n + 1)
  | 0 => by decide
  | n + 1 => by
    have ih := rtN_spec n
    unfold rtN
    split
    · rename_i h
      refine ⟨h, ?_⟩
      have e : (rtN n + 1 + 1) * (rtN n + 1 + 1) = (rtN n + 1) * (rtN n + 1) + 2 * (rtN n + 1) + 1 := by
        simp only [Nat.add_mul, Nat.mul_add]; omega
      omega
    · rename_i h
      omega
def rt (x : Int) : Int := (rtN x.toNat : Int)
theorem rt_nonneg (x : Int) : 0 ≤ rt x := Int.natCast_nonneg _
theorem rt_spec {x : Int} (h : 0 ≤ x) : rt x * rt x ≤ x ∧ x < (rt x + 1) * (rt x + 1) := by
  obtain ⟨n, rfl⟩ := Int.eq_ofNat_of_zero_le h
  have h1 := rtN_spec n
  unfold rt
  rw [Int.toNat_natCast]
  constructor
  · exact_mod_cast h1.1
  · exact_mod_cast h1.2
theorem sq_lt_of {a b : Int} (h0 : 0 ≤ b) (h : a * a < b * b) : a < b := by
  by_cases q : a < b
  · exact q
  · have q : b ≤ a := by omega
    have := Int.mul_le_mul q q h0 (by omega)
    omega
theorem rt_uniq {x r : Int} (h0 : 0 ≤ r) (h1 : r * r ≤ x) (h2 : x < (r + 1) * (r + 1)) : r = rt x := by
  have h3 : 0 ≤ x := Int.le_trans (Int.mul_nonneg h0 h0) h1
  have h4 := rt_spec h3
  have h5 := rt_nonneg x
  have a : r < rt x + 1 := sq_lt_of (by omega) (by omega)
  have b : rt x < r + 1 := sq_lt_of (by omega) (by omega)
  omega
theorem rt_le {x r : Int} (h0 : 0 ≤ r) (hx : 0 ≤ x) (h : x < (r + 1) * (r + 1)) : rt x ≤ r := by
  have h4 := rt_spec hx
  have : rt x < r + 1 := sq_lt_of (by omega) (by omega)
  omega
theorem rt_neg {x : Int} (h : x ≤ 0) : rt x = 0 := by
  unfold rt
  rw [show x.toNat = 0 by omega]; rfl
theorem sq_bd {a M : Int} (h : -M ≤ a ∧ a ≤ M) : 0 ≤ a * a ∧ a * a ≤ M * M := by
  by_cases h0 : 0 ≤ a
  · exact ⟨Int.mul_nonneg h0 h0, Int.mul_le_mul h.2 h.2 h0 (by omega)⟩
  · have e : a * a = (-a) * (-a) := by rw [Int.neg_mul_neg]
    rw [e]
    exact ⟨Int.mul_nonneg (by omega) (by omega), Int.mul_le_mul (by omega) (by omega) (by omega) (by omega)⟩
theorem mul_bd {a b M N : Int} (ha : -M ≤ a ∧ a ≤ M) (hb : -N ≤ b ∧ b ≤ N) : -(M * N) ≤ a * b ∧ a * b ≤ M * N := by
  have key : ∀ x y : Int, 0 ≤ x → x ≤ M → 0 ≤ y → y ≤ N → 0 ≤ x * y ∧ x * y ≤ M * N := fun x y h1 h2 h3 h4 => ⟨Int.mul_nonneg h1 h3, Int.mul_le_mul h2 h4 h3 (by omega)⟩
  by_cases h0 : 0 ≤ a <;> by_cases h1 : 0 ≤ b
  · have := key a b h0 ha.2 h1 hb.2; omega
  · have := key a (-b) h0 ha.2 (by omega) (by omega); rw [Int.mul_neg] at this; omega
  · have := key (-a) b (by omega) (by omega) h1 hb.2; rw [Int.neg_mul] at this; omega
  · have := key (-a) (-b) (by omega) (by omega) (by omega) (by omega); rw [Int.neg_mul_neg] at this; omega
/-- the bits 32768, 16384 .. 1, 0 -/
def bitOk (b : Int) : Prop := b = 32768 ∨ b = 16384 ∨ b = 8192 ∨ b = 4096 ∨ b = 2048 ∨ b = 1024 ∨ b = 512 ∨ b = 256 ∨ b = 128 ∨ b = 64 ∨ b = 32 ∨ b = 16 ∨ b = 8 ∨ b = 4 ∨ b = 2 ∨ b = 1 ∨ b = 0
theorem bitOk_nn {b : Int} (h : bitOk b) : 0 ≤ b := by unfold bitOk at h; omega
theorem bitOk_half {b : Int} (h : bitOk b) (h0 : 0 < b) : bitOk (b / 2) ∧ ((b = 1 ∧ b / 2 = 0) ∨ (2 * (b / 2) = b ∧ 0 < b / 2)) := by unfold bitOk at h ⊢; omega
/-- one step of the root by bits -/
def rtInv (n r b : Int) : Prop := 0 ≤ r ∧ r * r ≤ n ∧ bitOk b ∧ r + 2 * b ≤ 65536 ∧ (0 < b → n < (r + 2 * b) * (r + 2 * b)) ∧ (b = 0 → n < (r + 1) * (r + 1))
theorem rtInv_0 {n : Int} (h0 : 0 ≤ n) (h : n < 4294967296) : rtInv n 0 32768 := ⟨by omega, by omega, Or.inl rfl, by omega, fun _ => by omega, fun q => absurd q (by decide)⟩
theorem rtInv_up {n r b : Int} (h : rtInv n r b) (h0 : 0 < b) (h1 : (r + b) * (r + b) ≤ n) : rtInv n (r + b) (b / 2) := by
  obtain ⟨a1, a2, a3, a4, a5, a6⟩ := h
  obtain ⟨b1, b2⟩ := bitOk_half a3 h0
  refine ⟨by omega, h1, b1, by omega, fun q => ?_, fun q => ?_⟩
  · rcases b2 with b2 | b2
    · omega
    · have := a5 h0
      rw [b2.1, show r + b + b = r + 2 * b by omega]; exact this
  · rcases b2 with b2 | b2
    · have := a5 h0
      rw [b2.1] at this ⊢
      rw [show r + 1 + 1 = r + 2 * 1 by omega]; exact this
    · omega
theorem rtInv_dn {n r b : Int} (h : rtInv n r b) (h0 : 0 < b) (h1 : n < (r + b) * (r + b)) : rtInv n r (b / 2) := by
  obtain ⟨a1, a2, a3, a4, a5, a6⟩ := h
  obtain ⟨b1, b2⟩ := bitOk_half a3 h0
  refine ⟨a1, a2, b1, by omega, fun q => ?_, fun q => ?_⟩
  · rcases b2 with b2 | b2
    · omega
    · rw [b2.1]; exact h1
  · rcases b2 with b2 | b2
    · rw [b2.1] at h1; exact h1
    · omega
theorem rtInv_end {n r b : Int} (h : rtInv n r b) (h0 : b ≤ 0) : rt n = r := by
  have h1 := bitOk_nn h.2.2.1
  exact (rt_uniq h.1 h.2.1 (h.2.2.2.2.2 (by omega))).symm
theorem rtInv_bd {n r b : Int} (h : rtInv n r b) : 0 ≤ b ∧ b ≤ 32768 ∧ 0 ≤ r ∧ r ≤ 65536 ∧ 0 ≤ r + b ∧ r + b ≤ 65536 ∧ 0 ≤ (r + b) * (r + b) ∧ (r + b) * (r + b) ≤ 4294967296 := by
  obtain ⟨a1, a2, a3, a4, a5, a6⟩ := h
  have b1 := bitOk_nn a3
  have b2 : b ≤ 32768 := by unfold bitOk at a3; omega
  have b3 := sq_bd (a := r + b) (M := 65536) ⟨by omega, by omega⟩
  omega
-- division
theorem ediv_uniq {a b c : Int} (hb : 0 < b) (h1 : c * b ≤ a) (h2 : a < c * b + b) : a / b = c := by
  have h := (Int.ediv_emod_unique (a := a) (b := b) (r := a - c * b) (q := c) hb).mpr ⟨by rw [Int.mul_comm b c]; omega, by omega, by omega⟩
  exact h.1
theorem ediv_spec {a b : Int} (hb : 0 < b) : (a / b) * b ≤ a ∧ a < (a / b) * b + b := by
  have h1 := Int.mul_ediv_add_emod a b
  have h2 := Int.emod_nonneg a (b := b) (by omega)
  have h3 := Int.emod_lt_of_pos a hb
  rw [Int.mul_comm] at h1
  omega
theorem tdiv_spec {a b : Int} (hb : 0 < b) : (0 ≤ a → a.tdiv b = a / b) ∧ (a < 0 → (a.tdiv b) * b = a → a.tdiv b = a / b) ∧ (a < 0 → ¬ (a.tdiv b) * b = a → a.tdiv b - 1 = a / b) := by
  refine ⟨fun h => Int.tdiv_eq_ediv_of_nonneg h, fun h h1 => ?_, fun h h1 => ?_⟩
  · exact (ediv_uniq hb (by omega) (by omega)).symm
  · have e : a.tdiv b = -((-a) / b) := by
      rw [show a = -(-a) by omega, Int.neg_tdiv, Int.tdiv_eq_ediv_of_nonneg (by omega), Int.neg_neg]
    have s := ediv_spec (a := -a) hb
    rw [e] at h1 ⊢
    rw [Int.neg_mul] at h1
    refine (ediv_uniq hb ?_ ?_).symm
    · rw [Int.sub_mul, Int.neg_mul]; omega
    · rw [Int.sub_mul, Int.neg_mul]; omega
theorem zl_xor {a b : Int} (ha : -9223372036854775808 ≤ a ∧ a ≤ 9223372036854775807) (hb : -9223372036854775808 ≤ b ∧ b ≤ 9223372036854775807) : ∃ x : Int, zl a ^^^ zl b = zl x ∧ (-9223372036854775808 ≤ x ∧ x ≤ 9223372036854775807) ∧ (x < 0 ↔ ¬ (a < 0 ↔ b < 0)) := by
  refine ⟨(zl a ^^^ zl b).toInt, (Int64.ofInt_toInt _).symm, ⟨Int64.le_toInt _, ?_⟩, ?_⟩
  · have := Int64.toInt_lt (zl a ^^^ zl b); omega
  · have h1 : (zl a ^^^ zl b).toInt < 0 ↔ (zl a ^^^ zl b).toBitVec.msb = true := by
      rw [BitVec.msb_eq_toInt, Int64.toInt_toBitVec, decide_eq_true_eq]
    have h2 : (zl a).toBitVec.msb = decide (a < 0) := by rw [BitVec.msb_eq_toInt]; simp only [Int64.toInt_toBitVec, zl_toInt ha]
    have h3 : (zl b).toBitVec.msb = decide (b < 0) := by rw [BitVec.msb_eq_toInt]; simp only [Int64.toInt_toBitVec, zl_toInt hb]
    rw [h1, Int64.toBitVec_xor, BitVec.msb_xor, h2, h3]
    by_cases p : a < 0 <;> by_cases q : b < 0 <;> simp [p, q]
/-- the greatest whole number not above (t + the root of a number whose whole root is r) / b -/
def wh (r t b : Int) : Int := if 0 < b then (t + r) / b else if b < 0 then (-1) - (t + r) / (-b) else 0
theorem wh_pos {r t b : Int} (h : 0 < b) : wh r t b = (t + r) / b := if_pos h
theorem wh_neg {r t b : Int} (h : b < 0) : wh r t b = (-1) - (t + r) / (-b) := by unfold wh; rw [if_neg (by omega), if_pos h]
theorem wh_zero {r t b : Int} (h : b = 0) : wh r t b = 0 := by unfold wh; rw [if_neg (by omega), if_neg (by omega)]
theorem tdiv_bd {a b : Int} (hb : 0 < b) : -(zabs a) ≤ a.tdiv b ∧ a.tdiv b ≤ zabs a ∧ -(zabs a) ≤ (a.tdiv b) * b ∧ (a.tdiv b) * b ≤ zabs a := by
  have key : ∀ x : Int, 0 ≤ x → 0 ≤ x / b ∧ x / b ≤ x ∧ 0 ≤ (x / b) * b ∧ (x / b) * b ≤ x := by
    intro x hx
    have s := ediv_spec (a := x) hb
    have h1 : 0 ≤ x / b := Int.ediv_nonneg hx (by omega)
    have h2 : x / b ≤ (x / b) * b := by
      have := Int.mul_le_mul_of_nonneg_left (show 1 ≤ b by omega) h1
      rw [Int.mul_one] at this; exact this
    have h3 := Int.mul_nonneg h1 (show 0 ≤ b by omega)
    omega
  rcases zabs_or a with ⟨h0, e⟩ | ⟨h0, e⟩
  · have := key a h0
    rw [e, Int.tdiv_eq_ediv_of_nonneg h0]
    omega
  · have := key (-a) (by omega)
    have e2 : a.tdiv b = -((-a) / b) := by
      rw [show a = -(-a) by omega, Int.neg_tdiv, Int.tdiv_eq_ediv_of_nonneg (by omega), Int.neg_neg]
    rw [e, e2, Int.neg_mul]
    omega
theorem tdiv_floor {a b : Int} (hb : 0 < b) (h : 0 ≤ a ∨ a.tdiv b * b = a) : a / b = a.tdiv b := by
  have s := tdiv_spec (a := a) hb
  by_cases h0 : 0 ≤ a
  · exact (s.1 h0).symm
  · rcases h with h | h
    · exact absurd h h0
    · exact (s.2.1 (by omega) h).symm
end
section
abbrev rm_X10_isWithin : Room := { frames := 0, cells := 0, slots := 0, locals := 0 }
set_option maxRecDepth 100000 in
theorem c_X10_isWithin (l : Launch) (D : va_G) (κ : Nat → ClassId) (x : Int) (lo : Int) (hi : Int) (hx : -2147483648 ≤ x ∧ x ≤ 2147483647) (hlo : -2147483648 ≤ lo ∧ lo ≤ 2147483647) (hhi : -2147483648 ≤ hi ∧ hi ≤ 2147483647) : ZI l yX10_isWithin cX10_isWithin 3 .boolean rm_X10_isWithin D κ [.int (zi x), .int (zi lo), .int (zi hi)] [] (fun z w => ((1 = z ∧ (lo ≤ x ∧ x ≤ hi)) ∨ (0 = z ∧ ¬ (lo ≤ x ∧ x ≤ hi))) ∧ [] = w) := by
  refine ZI.enter (own := RX10) rfl pn_X10_isWithin (Nat.le_of_ble_eq_true rfl) (fun X E fin => ?_)
  show Zg X [] 0 0 0 [(0, .int (zi x)), (1, .int (zi lo)), (2, .int (zi hi))] []
  refine z_iload_n E 0 rfl rfl dX10_isWithin_0 ?_
  refine z_iload_n E 1 rfl rfl dX10_isWithin_1 ?_
  refine z_ic_lt (tgt := 14) E (by omega) (by omega) dX10_isWithin_2 (by decide) (fun h_2 => ?_) (fun h_2 => ?_)
  · refine z_iconst E dX10_isWithin_14 ?_
    exact fin _ _ _ _ rfl (by first | exact ⟨Or.inr ⟨rfl, by omega⟩, rfl⟩ | omega) dX10_isWithin_15
  · refine z_iload_n E 0 rfl rfl dX10_isWithin_5 ?_
    refine z_iload_n E 2 rfl rfl dX10_isWithin_6 ?_
    refine z_ic_gt (tgt := 14) E (by omega) (by omega) dX10_isWithin_7 (by decide) (fun h_7 => ?_) (fun h_7 => ?_)
    · refine z_iconst E dX10_isWithin_14 ?_
      exact fin _ _ _ _ rfl (by first | exact ⟨Or.inr ⟨rfl, by omega⟩, rfl⟩ | omega) dX10_isWithin_15
    · refine z_iconst E dX10_isWithin_10 ?_
      refine z_goto (tgt := 15) E dX10_isWithin_11 (by decide) ?_
      exact fin _ _ _ _ rfl (by first | exact ⟨Or.inl ⟨rfl, by omega⟩, rfl⟩ | omega) dX10_isWithin_15
abbrev rm_X11_in : Room := { frames := 0, cells := 0, slots := 0, locals := 0 }
set_option maxRecDepth 100000 in
theorem c_X11_in (l : Launch) (D : va_G) (κ : Nat → ClassId) (x : Int) (lo : Int) (hi : Int) (hx : -9223372036854775808 ≤ x ∧ x ≤ 9223372036854775807) (hlo : -9223372036854775808 ≤ lo ∧ lo ≤ 9223372036854775807) (hhi : -9223372036854775808 ≤ hi ∧ hi ≤ 9223372036854775807) : ZI l yX11_in cX11_in 6 .boolean rm_X11_in D κ [.long (zl x), .long (zl lo), .long (zl hi)] [] (fun z w => ((1 = z ∧ (lo ≤ x ∧ x ≤ hi)) ∨ (0 = z ∧ ¬ (lo ≤ x ∧ x ≤ hi))) ∧ [] = w) := by
  refine ZI.enter (own := RX11) rfl pn_X11_in (Nat.le_of_ble_eq_true rfl) (fun X E fin => ?_)
  show Zg X [] 0 0 0 [(0, .long (zl x)), (2, .long (zl lo)), (4, .long (zl hi))] []
  refine z_lload_n E 0 rfl rfl dX11_in_0 ?_
  refine z_lload_n E 1 rfl rfl dX11_in_1 ?_
  refine z_lc_lt (tgt := 17) E (by omega) (by omega) dX11_in_2 dX11_in_3 (by decide) (fun h_2 => ?_) (fun h_2 => ?_)
  · refine z_iconst E dX11_in_17 ?_
    exact fin _ _ _ _ rfl (by first | exact ⟨Or.inr ⟨rfl, by omega⟩, rfl⟩ | omega) dX11_in_18
  · refine z_lload_n E 0 rfl rfl dX11_in_6 ?_
    refine z_lload E 2 rfl dX11_in_7 ?_
    refine z_lc_gt (tgt := 17) E (by omega) (by omega) dX11_in_9 dX11_in_10 (by decide) (fun h_9 => ?_) (fun h_9 => ?_)
    · refine z_iconst E dX11_in_17 ?_
      exact fin _ _ _ _ rfl (by first | exact ⟨Or.inr ⟨rfl, by omega⟩, rfl⟩ | omega) dX11_in_18
    · refine z_iconst E dX11_in_13 ?_
      refine z_goto (tgt := 18) E dX11_in_14 (by decide) ?_
      exact fin _ _ _ _ rfl (by first | exact ⟨Or.inl ⟨rfl, by omega⟩, rfl⟩ | omega) dX11_in_18
abbrev rm_X10_oneIf : Room := { frames := 0, cells := 0, slots := 0, locals := 0 }
set_option maxRecDepth 100000 in
theorem c_X10_oneIf (l : Launch) (D : va_G) (κ : Nat → ClassId) (x : Int) (hx : x = 0 ∨ x = 1) : ZI l yX10_oneIf cX10_oneIf 1 .int rm_X10_oneIf D κ [.int (zi x)] [] (fun z w => x = z ∧ [] = w) := by
  refine ZI.enter (own := RX10) rfl pn_X10_oneIf (Nat.le_of_ble_eq_true rfl) (fun X E fin => ?_)
  show Zg X [] 0 0 0 [(0, .int (zi x))] []
  refine z_iload_n E 0 rfl rfl dX10_oneIf_0 ?_
  refine z_if_eq (tgt := 8) E (by omega) dX10_oneIf_1 (by decide) (fun h_1 => ?_) (fun h_1 => ?_)
  · refine z_iconst E dX10_oneIf_8 ?_
    exact fin _ _ _ _ rfl (⟨by omega, rfl⟩) dX10_oneIf_9
  · refine z_iconst E dX10_oneIf_4 ?_
    refine z_goto (tgt := 9) E dX10_oneIf_5 (by decide) ?_
    exact fin _ _ _ _ rfl (⟨by omega, rfl⟩) dX10_oneIf_9
abbrev rm_X0_upperAt : Room := { frames := 0, cells := 0, slots := 0, locals := 0 }
set_option maxRecDepth 100000 in
theorem c_X0_upperAt (l : Launch) (D : va_G) (κ : Nat → ClassId) (h0 : Nat) (hu : Nat) (hl : Nat) (n : Int) (u : Int → Int) (i : Int) (hi : 0 ≤ i ∧ i < 8) : ZI l yX0_upperAt cX0_upperAt 2 .int rm_X0_upperAt D κ [.ref h0, .int (zi i)] [(h0, .inr (0, [.ref hu, .ref hl, .int (zi n)])), (hu, ai κ 8 u)] (fun z w => (u i) = z ∧ [(h0, .inr (0, [.ref hu, .ref hl, .int (zi n)])), (hu, ai κ 8 u)] = w) := by
  refine ZI.enter (own := RX0) rfl pn_X0_upperAt (Nat.le_of_ble_eq_true rfl) (fun X E fin => ?_)
  show Zg X [(h0, .inr (0, [.ref hu, .ref hl, .int (zi n)])), (hu, ai κ 8 u)] 0 0 0 [(0, .ref h0), (1, .int (zi i))] []
  refine z_iload_n E 1 rfl rfl dX0_upperAt_0 ?_
  refine z_if_lt (tgt := 22) E (by omega) dX0_upperAt_1 (by decide) (fun h_1 => ?_) (fun h_1 => ?_)
  · refine z_iconst E dX0_upperAt_22 ?_
    exact fin _ _ _ _ rfl (by first | exact ⟨rfl, rfl⟩ | omega) dX0_upperAt_23
  · refine z_iload_n E 1 rfl rfl dX0_upperAt_4 ?_
    refine z_aload_n E 0 rfl rfl dX0_upperAt_5 ?_
    refine z_get E f_X0_9 0 rfl rfl dX0_upperAt_6 ?_
    refine z_alen_ai E 1 rfl dX0_upperAt_9 ?_
    refine z_ic_ge (tgt := 22) E (by omega) (by omega) dX0_upperAt_10 (by decide) (fun h_10 => ?_) (fun h_10 => ?_)
    · refine z_iconst E dX0_upperAt_22 ?_
      exact fin _ _ _ _ rfl (by first | exact ⟨rfl, rfl⟩ | omega) dX0_upperAt_23
    · refine z_aload_n E 0 rfl rfl dX0_upperAt_13 ?_
      refine z_get E f_X0_9 0 rfl rfl dX0_upperAt_14 ?_
      refine z_iload_n E 1 rfl rfl dX0_upperAt_17 ?_
      refine z_iald E 1 rfl (Nat.le_of_ble_eq_true rfl) (by omega) (by omega) dX0_upperAt_18 ?_
      refine z_goto (tgt := 23) E dX0_upperAt_19 (by decide) ?_
      exact fin _ _ _ _ rfl (by first | exact ⟨rfl, rfl⟩ | omega) dX0_upperAt_23
abbrev rm_X0_lowerAt : Room := { frames := 0, cells := 0, slots := 0, locals := 0 }
set_option maxRecDepth 100000 in
theorem c_X0_lowerAt (l : Launch) (D : va_G) (κ : Nat → ClassId) (h0 : Nat) (hu : Nat) (hl : Nat) (n : Int) (u : Int → Int) (i : Int) (hi : 0 ≤ i ∧ i < 8) : ZI l yX0_lowerAt cX0_lowerAt 2 .int rm_X0_lowerAt D κ [.ref h0, .int (zi i)] [(h0, .inr (0, [.ref hu, .ref hl, .int (zi n)])), (hl, ai κ 8 u)] (fun z w => (u i) = z ∧ [(h0, .inr (0, [.ref hu, .ref hl, .int (zi n)])), (hl, ai κ 8 u)] = w) := by
  refine ZI.enter (own := RX0) rfl pn_X0_lowerAt (Nat.le_of_ble_eq_true rfl) (fun X E fin => ?_)
  show Zg X [(h0, .inr (0, [.ref hu, .ref hl, .int (zi n)])), (hl, ai κ 8 u)] 0 0 0 [(0, .ref h0), (1, .int (zi i))] []
  refine z_iload_n E 1 rfl rfl dX0_lowerAt_0 ?_
  refine z_if_lt (tgt := 22) E (by omega) dX0_lowerAt_1 (by decide) (fun h_1 => ?_) (fun h_1 => ?_)
  · refine z_iconst E dX0_lowerAt_22 ?_
    exact fin _ _ _ _ rfl (by first | exact ⟨rfl, rfl⟩ | omega) dX0_lowerAt_23
  · refine z_iload_n E 1 rfl rfl dX0_lowerAt_4 ?_
    refine z_aload_n E 0 rfl rfl dX0_lowerAt_5 ?_
    refine z_get E f_X0_15 0 rfl rfl dX0_lowerAt_6 ?_
    refine z_alen_ai E 1 rfl dX0_lowerAt_9 ?_
    refine z_ic_ge (tgt := 22) E (by omega) (by omega) dX0_lowerAt_10 (by decide) (fun h_10 => ?_) (fun h_10 => ?_)
    · refine z_iconst E dX0_lowerAt_22 ?_
      exact fin _ _ _ _ rfl (by first | exact ⟨rfl, rfl⟩ | omega) dX0_lowerAt_23
    · refine z_aload_n E 0 rfl rfl dX0_lowerAt_13 ?_
      refine z_get E f_X0_15 0 rfl rfl dX0_lowerAt_14 ?_
      refine z_iload_n E 1 rfl rfl dX0_lowerAt_17 ?_
      refine z_iald E 1 rfl (Nat.le_of_ble_eq_true rfl) (by omega) (by omega) dX0_lowerAt_18 ?_
      refine z_goto (tgt := 23) E dX0_lowerAt_19 (by decide) ?_
      exact fin _ _ _ _ rfl (by first | exact ⟨rfl, rfl⟩ | omega) dX0_lowerAt_23
abbrev rm_X0_put : Room := { frames := 0, cells := 0, slots := 0, locals := 0 }
set_option maxRecDepth 100000 in
theorem c_X0_put (l : Launch) (D : va_G) (κ : Nat → ClassId) (h0 : Nat) (hu : Nat) (hl : Nat) (n : Int) (u : Int → Int) (lo : Int → Int) (i : Int) (a : Int) (b : Int) (hi : 0 ≤ i ∧ i < 8) : ZV l yX0_put cX0_put 4 rm_X0_put D κ [.ref h0, .int (zi i), .int (zi a), .int (zi b)] [(h0, .inr (0, [.ref hu, .ref hl, .int (zi n)])), (hu, ai κ 8 u), (hl, ai κ 8 lo)] (fun w => [(h0, .inr (0, [.ref hu, .ref hl, .int (zi n)])), (hu, ai κ 8 (zu u i a)), (hl, ai κ 8 (zu lo i b))] = w) := by
  refine ZV.enter (own := RX0) rfl pn_X0_put (Nat.le_of_ble_eq_true rfl) (fun X E fin => ?_)
  show Zg X [(h0, .inr (0, [.ref hu, .ref hl, .int (zi n)])), (hu, ai κ 8 u), (hl, ai κ 8 lo)] 0 0 0 [(0, .ref h0), (1, .int (zi i)), (2, .int (zi a)), (3, .int (zi b))] []
  refine z_iload_n E 1 rfl rfl dX0_put_0 ?_
  refine z_if_lt (tgt := 36) E (by omega) dX0_put_1 (by decide) (fun h_1 => ?_) (fun h_1 => ?_)
  · exact fin _ _ _ (by first | exact rfl | omega) dX0_put_36
  · refine z_iload_n E 1 rfl rfl dX0_put_4 ?_
    refine z_aload_n E 0 rfl rfl dX0_put_5 ?_
    refine z_get E f_X0_9 0 rfl rfl dX0_put_6 ?_
    refine z_alen_ai E 1 rfl dX0_put_9 ?_
    refine z_ic_ge (tgt := 36) E (by omega) (by omega) dX0_put_10 (by decide) (fun h_10 => ?_) (fun h_10 => ?_)
    · exact fin _ _ _ (by first | exact rfl | omega) dX0_put_36
    · refine z_iload_n E 1 rfl rfl dX0_put_13 ?_
      refine z_aload_n E 0 rfl rfl dX0_put_14 ?_
      refine z_get E f_X0_15 0 rfl rfl dX0_put_15 ?_
      refine z_alen_ai E 2 rfl dX0_put_18 ?_
      refine z_ic_ge (tgt := 36) E (by omega) (by omega) dX0_put_19 (by decide) (fun h_19 => ?_) (fun h_19 => ?_)
      · exact fin _ _ _ (by first | exact rfl | omega) dX0_put_36
      · refine z_aload_n E 0 rfl rfl dX0_put_22 ?_
        refine z_get E f_X0_9 0 rfl rfl dX0_put_23 ?_
        refine z_iload_n E 1 rfl rfl dX0_put_26 ?_
        refine z_iload_n E 2 rfl rfl dX0_put_27 ?_
        refine z_iast (ws' := [(h0, .inr (0, [.ref hu, .ref hl, .int (zi n)])), (hu, ai κ 8 (zu u i a)), (hl, ai κ 8 lo)]) E 1 rfl (Nat.le_of_ble_eq_true rfl) (by omega) (by omega) rfl dX0_put_28 ?_
        refine z_aload_n E 0 rfl rfl dX0_put_29 ?_
        refine z_get E f_X0_15 0 rfl rfl dX0_put_30 ?_
        refine z_iload_n E 1 rfl rfl dX0_put_33 ?_
        refine z_iload_n E 3 rfl rfl dX0_put_34 ?_
        refine z_iast (ws' := [(h0, .inr (0, [.ref hu, .ref hl, .int (zi n)])), (hu, ai κ 8 (zu u i a)), (hl, ai κ 8 (zu lo i b))]) E 2 rfl (Nat.le_of_ble_eq_true rfl) (by omega) (by omega) rfl dX0_put_35 ?_
        exact fin _ _ _ (by first | exact rfl | omega) dX0_put_36
abbrev rm_X7_rootOf : Room := { frames := 0, cells := 0, slots := 0, locals := 0 }
set_option maxRecDepth 100000 in
theorem c_X7_rootOf (l : Launch) (D : va_G) (κ : Nat → ClassId) (n : Int) (hn : 0 ≤ n ∧ n < 4294967296) : ZL l yX7_rootOf cX7_rootOf 6 rm_X7_rootOf D κ [.long (zl n)] [] (fun z w => (rt n) = z ∧ [] = w) := by
  refine ZL.enter (own := RX7) rfl pn_X7_rootOf (Nat.le_of_ble_eq_true rfl) (fun X E fin => ?_)
  show Zg X [] 0 0 0 [(0, .long (zl n))] []
  refine z_lconst0 E dX7_rootOf_0 ?_
  refine z_lstore_n (lv' := [(2, .long (zl 0)), (0, .long (zl n))]) E dX7_rootOf_1 rfl (Nat.le_of_ble_eq_true rfl) rfl ?_
  refine z_ldc2 E k_X7_41 dX7_rootOf_2 ?_
  refine z_lstore (lv' := [(4, .long (zl 32768)), (2, .long (zl 0)), (0, .long (zl n))]) E dX7_rootOf_5 (Nat.le_of_ble_eq_true rfl) rfl ?_
  have lp_7 : ∀ (n_7 : Nat) (r : Int) (b : Int), (rtInv n r b) → (b) < (n_7 : Int) → Zg X [] 0 0 7 [(0, .long (zl n)), (2, .long (zl r)), (4, .long (zl b))] [] := by
    intro n_7
    induction n_7 with
    | zero =>
      intro r b i1 hmu
      exact absurd hmu (by have := rtInv_bd i1; omega)
    | succ n_7 ih_7 =>
      intro r b i1 hmu_7
      have hbd := rtInv_bd i1
      refine z_lload E 2 rfl dX7_rootOf_7 ?_
      refine z_lconst0 E dX7_rootOf_9 ?_
      refine z_lc_le (tgt := 42) E (by omega) (by omega) dX7_rootOf_10 dX7_rootOf_11 (by decide) (fun h_10 => ?_) (fun h_10 => ?_)
      · refine z_lload_n E 1 rfl rfl dX7_rootOf_42 ?_
        exact fin _ _ _ _ (⟨rtInv_end i1 (by omega), rfl⟩) dX7_rootOf_43
      · refine z_lload_n E 1 rfl rfl dX7_rootOf_14 ?_
        refine z_lload E 2 rfl dX7_rootOf_15 ?_
        refine z_ladd E dX7_rootOf_17 ?_
        refine z_lload_n E 1 rfl rfl dX7_rootOf_18 ?_
        refine z_lload E 2 rfl dX7_rootOf_19 ?_
        refine z_ladd E dX7_rootOf_21 ?_
        refine z_lmul E dX7_rootOf_22 ?_
        refine z_lload_n E 0 rfl rfl dX7_rootOf_23 ?_
        refine z_lc_gt (tgt := 33) E (by omega) (by omega) dX7_rootOf_24 dX7_rootOf_25 (by decide) (fun h_24 => ?_) (fun h_24 => ?_)
        · refine z_lload E 2 rfl dX7_rootOf_33 ?_
          refine z_iconst E dX7_rootOf_35 ?_
          refine z_lshr1 E (by omega) dX7_rootOf_36 ?_
          refine z_lstore (lv' := [(4, .long (zl (b / 2))), (0, .long (zl n)), (2, .long (zl r))]) E dX7_rootOf_37 (Nat.le_of_ble_eq_true rfl) rfl ?_
          refine z_goto (tgt := 7) E dX7_rootOf_39 (by decide) ?_
          refine Zg.sub (lv' := [(0, .long (zl n)), (2, .long (zl r)), (4, .long (zl (b / 2)))]) [1, 2, 0] rfl ?_
          exact ih_7 r (b / 2) (rtInv_dn i1 (by omega) (by omega)) (by omega)
        · refine z_lload_n E 1 rfl rfl dX7_rootOf_28 ?_
          refine z_lload E 2 rfl dX7_rootOf_29 ?_
          refine z_ladd E dX7_rootOf_31 ?_
          refine z_lstore_n (lv' := [(2, .long (zl (r + b))), (0, .long (zl n)), (4, .long (zl b))]) E dX7_rootOf_32 rfl (Nat.le_of_ble_eq_true rfl) rfl ?_
          refine z_lload E 2 rfl dX7_rootOf_33 ?_
          refine z_iconst E dX7_rootOf_35 ?_
          refine z_lshr1 E (by omega) dX7_rootOf_36 ?_
          refine z_lstore (lv' := [(4, .long (zl (b / 2))), (2, .long (zl (r + b))), (0, .long (zl n))]) E dX7_rootOf_37 (Nat.le_of_ble_eq_true rfl) rfl ?_
          refine z_goto (tgt := 7) E dX7_rootOf_39 (by decide) ?_
          refine Zg.sub (lv' := [(0, .long (zl n)), (2, .long (zl (r + b))), (4, .long (zl (b / 2)))]) [2, 1, 0] rfl ?_
          exact ih_7 (r + b) (b / 2) (rtInv_up i1 (by omega) (by omega)) (by omega)
  refine Zg.sub (lv' := [(0, .long (zl n)), (2, .long (zl 0)), (4, .long (zl 32768))]) [2, 1, 0] rfl ?_
  exact lp_7 ((32768 : Int).toNat + 1) 0 32768 (rtInv_0 hn.1 hn.2) (by omega)
abbrev rm_J9_floorDiv_f86c9 : Room := { frames := 0, cells := 0, slots := 0, locals := 0 }
set_option maxRecDepth 100000 in
theorem c_J9_floorDiv_f86c9 (l : Launch) (D : va_G) (κ : Nat → ClassId) (a : Int) (b : Int) (ha : -4611686018427387904 ≤ a ∧ a ≤ 4611686018427387904) (hb : 0 < b ∧ b ≤ 4611686018427387904) : ZL l yJ9_floorDiv_f86c9 cJ9_floorDiv_f86c9 6 rm_J9_floorDiv_f86c9 D κ [.long (zl a), .long (zl b)] [] (fun z w => (a / b) = z ∧ [] = w) := by
  refine ZL.enter (own := RJ9) rfl pn_J9_floorDiv_f86c9 (Nat.le_of_ble_eq_true rfl) (fun X E fin => ?_)
  show Zg X [] 0 0 0 [(0, .long (zl a)), (2, .long (zl b))] []
  have hq := tdiv_spec (a := a) (b := b) hb.1
  have hq2 := ediv_spec (a := a) (b := b) hb.1
  have hq3 := tdiv_bd (a := a) (b := b) hb.1
  have hq4 := zabs_or a
  refine z_lload_n E 0 rfl rfl dJ9_floorDiv_f86c9_0 ?_
  refine z_lload_n E 1 rfl rfl dJ9_floorDiv_f86c9_1 ?_
  refine z_ldiv E (by omega) (by omega) (by omega) dJ9_floorDiv_f86c9_2 ?_
  refine z_lstore (lv' := [(4, .long (zl (Int.tdiv a b))), (0, .long (zl a)), (2, .long (zl b))]) E dJ9_floorDiv_f86c9_3 (Nat.le_of_ble_eq_true rfl) rfl ?_
  refine z_lload_n E 1 rfl rfl dJ9_floorDiv_f86c9_5 ?_
  refine z_lload_n E 2 rfl rfl dJ9_floorDiv_f86c9_6 ?_
  obtain ⟨x_7, ex_7, rx_7, sx_7⟩ := zl_xor (a := a) (b := b) (by omega) (by omega)
  refine z_lxor E dJ9_floorDiv_f86c9_7 ?_
  rw [ex_7]
  refine z_lconst0 E dJ9_floorDiv_f86c9_8 ?_
  refine z_lc_ge (tgt := 27) E (by omega) (by omega) dJ9_floorDiv_f86c9_9 dJ9_floorDiv_f86c9_10 (by decide) (fun h_9 => ?_) (fun h_9 => ?_)
  · refine z_lload E 0 rfl dJ9_floorDiv_f86c9_27 ?_
    exact fin _ _ _ _ (⟨tdiv_floor hb.1 (by omega), rfl⟩) dJ9_floorDiv_f86c9_29
  · refine z_lload E 0 rfl dJ9_floorDiv_f86c9_13 ?_
    refine z_lload_n E 2 rfl rfl dJ9_floorDiv_f86c9_15 ?_
    refine z_lmul E dJ9_floorDiv_f86c9_16 ?_
    refine z_lload_n E 1 rfl rfl dJ9_floorDiv_f86c9_17 ?_
    refine z_lc_eq (tgt := 27) E (by omega) (by omega) dJ9_floorDiv_f86c9_18 dJ9_floorDiv_f86c9_19 (by decide) (fun h_18 => ?_) (fun h_18 => ?_)
    · refine z_lload E 0 rfl dJ9_floorDiv_f86c9_27 ?_
      exact fin _ _ _ _ (⟨tdiv_floor hb.1 (by omega), rfl⟩) dJ9_floorDiv_f86c9_29
    · refine z_lload E 0 rfl dJ9_floorDiv_f86c9_22 ?_
      refine z_lconst1 E dJ9_floorDiv_f86c9_24 ?_
      refine z_lsub E dJ9_floorDiv_f86c9_25 ?_
      exact fin _ _ _ _ (⟨(hq.2.2 (by omega) (by omega)).symm, rfl⟩) dJ9_floorDiv_f86c9_26
abbrev rm_X7_init : Room := { frames := 1, cells := 0, slots := 0, locals := 12 }
set_option maxRecDepth 100000 in
theorem c_X7_init (l : Launch) (D : va_G) (κ : Nat → ClassId) (h0 : Nat)  : ZV l yX7_init cX7_init 1 rm_X7_init D κ [.ref h0] [(h0, .inr (7, [.long (zl 0), .long (zl 0), .long (zl 0), .long (zl 0)]))] (fun w => [(h0, .inr (7, [.long (zl 0), .long (zl 0), .long (zl 0), .long (zl 0)]))] = w) := by
  refine ZV.enter0 (own := RX7) rfl pn_X7_init (Nat.le_of_ble_eq_true rfl) (fun X E hini fin => ?_)
  have hini := hini rfl
  show Zg X [(h0, .inr (7, [.long (zl 0), .long (zl 0), .long (zl 0), .long (zl 0)]))] 0 0 0 [(0, .ref h0)] []
  refine z_aload_n E 0 rfl rfl dX7_init_0 ?_
  refine z_objInit E m_X7_1 in_obj co_obj (Nat.le_of_ble_eq_true rfl) (Nat.le_of_ble_eq_true rfl) dX7_init_1 ?_
  exact fin _ _ _ (by first | exact rfl | omega) dX7_init_4
abbrev rm_X7_begin : Room := { frames := 1, cells := 0, slots := 0, locals := 25 }
set_option maxRecDepth 100000 in
theorem c_X7_begin (l : Launch) (D : va_G) (κ : Nat → ClassId) (h0 : Nat) (t : Int) (b : Int) (s : Int) (r : Int) (p : Int) (d : Int) (q : Int) (hq : -99 ≤ q ∧ q ≤ 99) (hs : 0 ≤ (d * (zabs q)) * (zabs q) ∧ (d * (zabs q)) * (zabs q) < 4294967296) : ZV l yX7_begin cX7_begin 9 rm_X7_begin D κ [.ref h0, .long (zl p), .long (zl d), .long (zl q)] [(h0, .inr (7, [.long (zl t), .long (zl b), .long (zl s), .long (zl r)]))] (fun w => [(h0, .inr (7, [.long (zl (p * (zabs q))), .long (zl (q * (zabs q))), .long (zl ((d * (zabs q)) * (zabs q))), .long (zl (rt ((d * (zabs q)) * (zabs q))))]))] = w) := by
  refine ZV.enter (own := RX7) rfl pn_X7_begin (Nat.le_of_ble_eq_true rfl) (fun X E fin => ?_)
  show Zg X [(h0, .inr (7, [.long (zl t), .long (zl b), .long (zl s), .long (zl r)]))] 0 0 0 [(0, .ref h0), (1, .long (zl p)), (3, .long (zl d)), (5, .long (zl q))] []
  refine z_lload E 3 rfl dX7_begin_0 ?_
  refine z_labs E (by omega) m_X7_7 st_abs i_Math co_abs (Nat.le_of_ble_eq_true rfl) (Nat.le_of_ble_eq_true rfl) (Nat.le_of_ble_eq_true rfl) (Nat.le_of_ble_eq_true rfl) dX7_begin_2 ?_
  refine z_lstore (lv' := [(7, .long (zl (zabs q))), (0, .ref h0), (1, .long (zl p)), (3, .long (zl d)), (5, .long (zl q))]) E dX7_begin_5 (Nat.le_of_ble_eq_true rfl) rfl ?_
  refine z_aload_n E 1 rfl rfl dX7_begin_7 ?_
  refine z_lload_n E 2 rfl rfl dX7_begin_8 ?_
  refine z_lload E 0 rfl dX7_begin_9 ?_
  refine z_lmul E dX7_begin_11 ?_
  refine z_put (ws' := [(h0, .inr (7, [.long (zl (p * (zabs q))), .long (zl b), .long (zl s), .long (zl r)]))]) E f_X7_13 t_X7_0 0 rfl rfl rfl (Nat.le_of_ble_eq_true rfl) rfl dX7_begin_12 ?_
  refine z_aload_n E 1 rfl rfl dX7_begin_15 ?_
  refine z_lload E 4 rfl dX7_begin_16 ?_
  refine z_lload E 0 rfl dX7_begin_18 ?_
  refine z_lmul E dX7_begin_20 ?_
  refine z_put (ws' := [(h0, .inr (7, [.long (zl (p * (zabs q))), .long (zl (q * (zabs q))), .long (zl s), .long (zl r)]))]) E f_X7_19 t_X7_1 0 rfl rfl rfl (Nat.le_of_ble_eq_true rfl) rfl dX7_begin_21 ?_
  refine z_aload_n E 1 rfl rfl dX7_begin_24 ?_
  refine z_lload_n E 3 rfl rfl dX7_begin_25 ?_
  refine z_lload E 0 rfl dX7_begin_26 ?_
  refine z_lmul E dX7_begin_28 ?_
  refine z_lload E 0 rfl dX7_begin_29 ?_
  refine z_lmul E dX7_begin_31 ?_
  refine z_put (ws' := [(h0, .inr (7, [.long (zl (p * (zabs q))), .long (zl (q * (zabs q))), .long (zl ((d * (zabs q)) * (zabs q))), .long (zl r)]))]) E f_X7_22 t_X7_2 0 rfl rfl rfl (Nat.le_of_ble_eq_true rfl) rfl dX7_begin_32 ?_
  refine z_aload_n E 1 rfl rfl dX7_begin_35 ?_
  refine z_aload_n E 1 rfl rfl dX7_begin_36 ?_
  refine z_get E f_X7_22 0 rfl rfl dX7_begin_37 ?_
  refine z_callSl (As := [.long (zl ((d * (zabs q)) * (zabs q)))]) (rest := [.ref h0]) (wr := [(h0, .inr (7, [.long (zl (p * (zabs q))), .long (zl (q * (zabs q))), .long (zl ((d * (zabs q)) * (zabs q))), .long (zl r)]))]) E (c_X7_rootOf l D κ ((d * (zabs q)) * (zabs q)) (by omega)) m_X7_25 ⟨Nat.le_of_ble_eq_true rfl, Nat.le_of_ble_eq_true rfl⟩ ⟨rfl, rfl⟩ [] [0] rfl rfl rfl rfl (by decide) rfl rfl (Nat.le_of_ble_eq_true rfl) dX7_begin_40 ⟨Nat.le_of_ble_eq_true rfl, Nat.le_of_ble_eq_true rfl⟩ (fun z40 w1 hq => ?_)
  obtain ⟨rfl, rfl⟩ := hq
  refine z_put (ws' := [(h0, .inr (7, [.long (zl (p * (zabs q))), .long (zl (q * (zabs q))), .long (zl ((d * (zabs q)) * (zabs q))), .long (zl (rt ((d * (zabs q)) * (zabs q))))]))]) E f_X7_28 t_X7_3 0 rfl rfl rfl (Nat.le_of_ble_eq_true rfl) rfl dX7_begin_43 ?_
  exact fin _ _ _ (by first | exact rfl | omega) dX7_begin_46
abbrev rm_X7_whole : Room := { frames := 1, cells := 0, slots := 0, locals := 25 }
set_option maxRecDepth 100000 in
theorem c_X7_whole (l : Launch) (D : va_G) (κ : Nat → ClassId) (h0 : Nat) (t : Int) (b : Int) (s : Int) (r : Int) (ht : -1000000 ≤ t ∧ t ≤ 1000000) (hb : -1000000 ≤ b ∧ b ≤ 1000000) (hr : -1000000 ≤ r ∧ r ≤ 1000000) : ZL l yX7_whole cX7_whole 1 rm_X7_whole D κ [.ref h0] [(h0, .inr (7, [.long (zl t), .long (zl b), .long (zl s), .long (zl r)]))] (fun z w => (wh r t b) = z ∧ [(h0, .inr (7, [.long (zl t), .long (zl b), .long (zl s), .long (zl r)]))] = w) := by
  refine ZL.enter (own := RX7) rfl pn_X7_whole (Nat.le_of_ble_eq_true rfl) (fun X E fin => ?_)
  show Zg X [(h0, .inr (7, [.long (zl t), .long (zl b), .long (zl s), .long (zl r)]))] 0 0 0 [(0, .ref h0)] []
  refine z_aload_n E 0 rfl rfl dX7_whole_0 ?_
  refine z_get E f_X7_19 0 rfl rfl dX7_whole_1 ?_
  refine z_lconst0 E dX7_whole_4 ?_
  refine z_lc_le (tgt := 26) E (by omega) (by omega) dX7_whole_5 dX7_whole_6 (by decide) (fun h_5 => ?_) (fun h_5 => ?_)
  · refine z_aload_n E 0 rfl rfl dX7_whole_26 ?_
    refine z_get E f_X7_19 0 rfl rfl dX7_whole_27 ?_
    refine z_lconst0 E dX7_whole_30 ?_
    refine z_lc_ge (tgt := 57) E (by omega) (by omega) dX7_whole_31 dX7_whole_32 (by decide) (fun h_31 => ?_) (fun h_31 => ?_)
    · refine z_lconst0 E dX7_whole_57 ?_
      exact fin _ _ _ _ (⟨wh_zero (by omega), rfl⟩) dX7_whole_58
    · refine z_ldc2 E k_X7_35 dX7_whole_35 ?_
      refine z_aload_n E 0 rfl rfl dX7_whole_38 ?_
      refine z_get E f_X7_13 0 rfl rfl dX7_whole_39 ?_
      refine z_aload_n E 0 rfl rfl dX7_whole_42 ?_
      refine z_get E f_X7_28 0 rfl rfl dX7_whole_43 ?_
      refine z_ladd E dX7_whole_46 ?_
      refine z_aload_n E 0 rfl rfl dX7_whole_47 ?_
      refine z_get E f_X7_19 0 rfl rfl dX7_whole_48 ?_
      refine z_lneg E dX7_whole_51 ?_
      refine z_callSl (As := [.long (zl (t + r)), .long (zl (-b))]) (rest := [.long (zl (-1))]) (wr := [(h0, .inr (7, [.long (zl t), .long (zl b), .long (zl s), .long (zl r)]))]) E (c_J9_floorDiv_f86c9 l D κ (t + r) (-b) (by omega) (by omega)) m_X7_31 ⟨Nat.le_of_ble_eq_true rfl, Nat.le_of_ble_eq_true rfl⟩ ⟨rfl, rfl⟩ [] [0] rfl rfl rfl rfl (by decide) rfl rfl (Nat.le_of_ble_eq_true rfl) dX7_whole_52 ⟨Nat.le_of_ble_eq_true rfl, Nat.le_of_ble_eq_true rfl⟩ (fun z52 w1 hq => ?_)
      obtain ⟨rfl, rfl⟩ := hq
      refine z_lsub E dX7_whole_55 ?_
      exact fin _ _ _ _ (⟨wh_neg (by omega), rfl⟩) dX7_whole_56
  · refine z_aload_n E 0 rfl rfl dX7_whole_9 ?_
    refine z_get E f_X7_13 0 rfl rfl dX7_whole_10 ?_
    refine z_aload_n E 0 rfl rfl dX7_whole_13 ?_
    refine z_get E f_X7_28 0 rfl rfl dX7_whole_14 ?_
    refine z_ladd E dX7_whole_17 ?_
    refine z_aload_n E 0 rfl rfl dX7_whole_18 ?_
    refine z_get E f_X7_19 0 rfl rfl dX7_whole_19 ?_
    refine z_callSl (As := [.long (zl (t + r)), .long (zl b)]) (rest := []) (wr := [(h0, .inr (7, [.long (zl t), .long (zl b), .long (zl s), .long (zl r)]))]) E (c_J9_floorDiv_f86c9 l D κ (t + r) b (by omega) (by omega)) m_X7_31 ⟨Nat.le_of_ble_eq_true rfl, Nat.le_of_ble_eq_true rfl⟩ ⟨rfl, rfl⟩ [] [0] rfl rfl rfl rfl (by decide) rfl rfl (Nat.le_of_ble_eq_true rfl) dX7_whole_22 ⟨Nat.le_of_ble_eq_true rfl, Nat.le_of_ble_eq_true rfl⟩ (fun z22 w1 hq => ?_)
    obtain ⟨rfl, rfl⟩ := hq
    exact fin _ _ _ _ (⟨wh_pos (by omega), rfl⟩) dX7_whole_25
abbrev rm_X7_advance : Room := { frames := 2, cells := 0, slots := 0, locals := 45 }
set_option maxRecDepth 100000 in
theorem c_X7_advance (l : Launch) (D : va_G) (κ : Nat → ClassId) (h0 : Nat) (t : Int) (b : Int) (s : Int) (r : Int) (ht : -1000000 ≤ t ∧ t ≤ 1000000) (hb : -1000000 ≤ b ∧ b ≤ 1000000) (hr : -1000000 ≤ r ∧ r ≤ 1000000) (h00 : b ≠ 0) (hT : -1000000 ≤ ((wh r t b) * b) - t ∧ ((wh r t b) * b) - t ≤ 1000000) (hs : -1000000000 ≤ s ∧ s ≤ 1000000000) : ZV l yX7_advance cX7_advance 1 rm_X7_advance D κ [.ref h0] [(h0, .inr (7, [.long (zl t), .long (zl b), .long (zl s), .long (zl r)]))] (fun w => [(h0, .inr (7, [.long (zl (((wh r t b) * b) - t)), .long (zl (Int.tdiv (s - ((((wh r t b) * b) - t) * (((wh r t b) * b) - t))) b)), .long (zl s), .long (zl r)]))] = w) := by
  refine ZV.enter (own := RX7) rfl pn_X7_advance (Nat.le_of_ble_eq_true rfl) (fun X E fin => ?_)
  show Zg X [(h0, .inr (7, [.long (zl t), .long (zl b), .long (zl s), .long (zl r)]))] 0 0 0 [(0, .ref h0)] []
  refine z_aload_n E 0 rfl rfl dX7_advance_0 ?_
  refine z_get E f_X7_19 0 rfl rfl dX7_advance_1 ?_
  refine z_lconst0 E dX7_advance_4 ?_
  refine z_lc_ne (tgt := 10) E (by omega) (by omega) dX7_advance_5 dX7_advance_6 (by decide) (fun h_5 => ?_) (fun h_5 => ?_)
  · refine z_aload_n E 0 rfl rfl dX7_advance_10 ?_
    refine z_aload_n E 0 rfl rfl dX7_advance_11 ?_
    refine z_callVl (As := []) (rest := [.ref h0]) (wr := []) E (c_X7_whole l D κ h0 t b s r (by omega) (by omega) (by omega)) m_X7_37 ⟨Nat.le_of_ble_eq_true rfl, Nat.le_of_ble_eq_true rfl⟩ ⟨rfl, rfl⟩ [0] [] rfl rfl rfl rfl (by decide) rfl rfl rfl rfl (Nat.le_of_ble_eq_true rfl) dX7_advance_12 ⟨Nat.le_of_ble_eq_true rfl, Nat.le_of_ble_eq_true rfl⟩ (fun z12 w1 hq => ?_)
    obtain ⟨rfl, rfl⟩ := hq
    refine z_aload_n E 0 rfl rfl dX7_advance_15 ?_
    refine z_get E f_X7_19 0 rfl rfl dX7_advance_16 ?_
    refine z_lmul E dX7_advance_19 ?_
    refine z_aload_n E 0 rfl rfl dX7_advance_20 ?_
    refine z_get E f_X7_13 0 rfl rfl dX7_advance_21 ?_
    refine z_lsub E dX7_advance_24 ?_
    refine z_put (ws' := [(h0, .inr (7, [.long (zl (((wh r t b) * b) - t)), .long (zl b), .long (zl s), .long (zl r)]))]) E f_X7_13 t_X7_0 0 rfl rfl rfl (Nat.le_of_ble_eq_true rfl) rfl dX7_advance_25 ?_
    refine z_aload_n E 0 rfl rfl dX7_advance_28 ?_
    refine z_aload_n E 0 rfl rfl dX7_advance_29 ?_
    refine z_get E f_X7_22 0 rfl rfl dX7_advance_30 ?_
    refine z_aload_n E 0 rfl rfl dX7_advance_33 ?_
    refine z_get E f_X7_13 0 rfl rfl dX7_advance_34 ?_
    refine z_aload_n E 0 rfl rfl dX7_advance_37 ?_
    refine z_get E f_X7_13 0 rfl rfl dX7_advance_38 ?_
    refine z_lmul E dX7_advance_41 ?_
    refine z_lsub E dX7_advance_42 ?_
    refine z_aload_n E 0 rfl rfl dX7_advance_43 ?_
    refine z_get E f_X7_19 0 rfl rfl dX7_advance_44 ?_
    have hT2 := sq_bd (a := ((wh r t b) * b) - t) (M := 1000000) hT
    refine z_ldiv E (by omega) (by omega) (by omega) dX7_advance_47 ?_
    refine z_put (ws' := [(h0, .inr (7, [.long (zl (((wh r t b) * b) - t)), .long (zl (Int.tdiv (s - ((((wh r t b) * b) - t) * (((wh r t b) * b) - t))) b)), .long (zl s), .long (zl r)]))]) E f_X7_19 t_X7_1 0 rfl rfl rfl (Nat.le_of_ble_eq_true rfl) rfl dX7_advance_48 ?_
    exact fin _ _ _ (by first | exact rfl | omega) dX7_advance_51
  · exact fin _ _ _ (by first | exact rfl | omega) dX7_advance_9
abbrev rm_X7_isReduced : Room := { frames := 0, cells := 0, slots := 0, locals := 0 }
set_option maxRecDepth 100000 in
theorem c_X7_isReduced (l : Launch) (D : va_G) (κ : Nat → ClassId) (h0 : Nat) (t : Int) (b : Int) (s : Int) (r : Int) (ht : -1000000 ≤ t ∧ t ≤ 1000000) (hb : -1000000 ≤ b ∧ b ≤ 1000000) (hr : -1000000 ≤ r ∧ r ≤ 1000000) : ZI l yX7_isReduced cX7_isReduced 1 .boolean rm_X7_isReduced D κ [.ref h0] [(h0, .inr (7, [.long (zl t), .long (zl b), .long (zl s), .long (zl r)]))] (fun z w => ((1 = z ∧ (0 < t ∧ t ≤ r ∧ r - t < b ∧ b ≤ r + t)) ∨ (0 = z ∧ ¬ (0 < t ∧ t ≤ r ∧ r - t < b ∧ b ≤ r + t))) ∧ [(h0, .inr (7, [.long (zl t), .long (zl b), .long (zl s), .long (zl r)]))] = w) := by
  refine ZI.enter (own := RX7) rfl pn_X7_isReduced (Nat.le_of_ble_eq_true rfl) (fun X E fin => ?_)
  show Zg X [(h0, .inr (7, [.long (zl t), .long (zl b), .long (zl s), .long (zl r)]))] 0 0 0 [(0, .ref h0)] []
  refine z_aload_n E 0 rfl rfl dX7_isReduced_0 ?_
  refine z_get E f_X7_13 0 rfl rfl dX7_isReduced_1 ?_
  refine z_lconst0 E dX7_isReduced_4 ?_
  refine z_lc_le (tgt := 59) E (by omega) (by omega) dX7_isReduced_5 dX7_isReduced_6 (by decide) (fun h_5 => ?_) (fun h_5 => ?_)
  · refine z_iconst E dX7_isReduced_59 ?_
    exact fin _ _ _ _ rfl (by first | exact ⟨Or.inr ⟨rfl, by omega⟩, rfl⟩ | omega) dX7_isReduced_60
  · refine z_aload_n E 0 rfl rfl dX7_isReduced_9 ?_
    refine z_get E f_X7_13 0 rfl rfl dX7_isReduced_10 ?_
    refine z_aload_n E 0 rfl rfl dX7_isReduced_13 ?_
    refine z_get E f_X7_28 0 rfl rfl dX7_isReduced_14 ?_
    refine z_lc_gt (tgt := 59) E (by omega) (by omega) dX7_isReduced_17 dX7_isReduced_18 (by decide) (fun h_17 => ?_) (fun h_17 => ?_)
    · refine z_iconst E dX7_isReduced_59 ?_
      exact fin _ _ _ _ rfl (by first | exact ⟨Or.inr ⟨rfl, by omega⟩, rfl⟩ | omega) dX7_isReduced_60
    · refine z_aload_n E 0 rfl rfl dX7_isReduced_21 ?_
      refine z_get E f_X7_19 0 rfl rfl dX7_isReduced_22 ?_
      refine z_aload_n E 0 rfl rfl dX7_isReduced_25 ?_
      refine z_get E f_X7_28 0 rfl rfl dX7_isReduced_26 ?_
      refine z_aload_n E 0 rfl rfl dX7_isReduced_29 ?_
      refine z_get E f_X7_13 0 rfl rfl dX7_isReduced_30 ?_
      refine z_lsub E dX7_isReduced_33 ?_
      refine z_lc_le (tgt := 59) E (by omega) (by omega) dX7_isReduced_34 dX7_isReduced_35 (by decide) (fun h_34 => ?_) (fun h_34 => ?_)
      · refine z_iconst E dX7_isReduced_59 ?_
        exact fin _ _ _ _ rfl (by first | exact ⟨Or.inr ⟨rfl, by omega⟩, rfl⟩ | omega) dX7_isReduced_60
      · refine z_aload_n E 0 rfl rfl dX7_isReduced_38 ?_
        refine z_get E f_X7_19 0 rfl rfl dX7_isReduced_39 ?_
        refine z_aload_n E 0 rfl rfl dX7_isReduced_42 ?_
        refine z_get E f_X7_28 0 rfl rfl dX7_isReduced_43 ?_
        refine z_aload_n E 0 rfl rfl dX7_isReduced_46 ?_
        refine z_get E f_X7_13 0 rfl rfl dX7_isReduced_47 ?_
        refine z_ladd E dX7_isReduced_50 ?_
        refine z_lc_gt (tgt := 59) E (by omega) (by omega) dX7_isReduced_51 dX7_isReduced_52 (by decide) (fun h_51 => ?_) (fun h_51 => ?_)
        · refine z_iconst E dX7_isReduced_59 ?_
          exact fin _ _ _ _ rfl (by first | exact ⟨Or.inr ⟨rfl, by omega⟩, rfl⟩ | omega) dX7_isReduced_60
        · refine z_iconst E dX7_isReduced_55 ?_
          refine z_goto (tgt := 60) E dX7_isReduced_56 (by decide) ?_
          exact fin _ _ _ _ rfl (by first | exact ⟨Or.inl ⟨rfl, by omega⟩, rfl⟩ | omega) dX7_isReduced_60
end
section
/-! ===== MATH 2: chains of terms; where a fraction stands to the surd; books ===== -/
theorem zabs_mul (a b : Int) : zabs (a * b) = zabs a * zabs b := by
  rcases zabs_or a with ⟨h, e⟩ | ⟨h, e⟩ <;> rcases zabs_or b with ⟨g, f⟩ | ⟨g, f⟩ <;> rw [e, f]
  · exact zabs_pos (Int.mul_nonneg h g)
  · rw [Int.mul_neg]; exact zabs_neg (Int.mul_nonpos_of_nonneg_of_nonpos h (by omega))
  · rw [Int.neg_mul]; exact zabs_neg (Int.mul_nonpos_of_nonpos_of_nonneg (by omega) g)
  · rw [Int.neg_mul_neg]; exact zabs_pos (Int.mul_nonneg_of_nonpos_of_nonpos (by omega) (by omega))
theorem zabs_nonneg (a : Int) : 0 ≤ zabs a := by have := zabs_or a; omega
theorem tg_big {t p a : Int} (h : 0 < zabs t) (h2 : Int.tdiv (9000000000000000 + (zabs a)) (zabs t) < zabs p) : 9000000000000000 < zabs (t * p + a) := by
  have ha := zabs_nonneg a
  rw [Int.tdiv_eq_ediv_of_nonneg (by omega)] at h2
  have s := ediv_spec (a := 9000000000000000 + zabs a) h
  have h3 : ((9000000000000000 + zabs a) / zabs t + 1) * zabs t ≤ zabs p * zabs t := Int.mul_le_mul_of_nonneg_right (by omega) (by omega)
  rw [Int.add_mul, Int.one_mul] at h3
  have e := zabs_mul t p
  rw [Int.mul_comm (zabs t)] at e
  have q1 := zabs_or (t * p + a)
  have q2 := zabs_or (t * p)
  have q3 := zabs_or a
  omega
theorem tg_bd {t p a : Int} (h : zabs t ≤ 0 ∨ (0 < zabs t ∧ zabs p ≤ Int.tdiv (9000000000000000 + (zabs a)) (zabs t))) : -(9000000000000000 + zabs a) ≤ t * p ∧ t * p ≤ 9000000000000000 + zabs a := by
  have ha := zabs_nonneg a
  have ht := zabs_nonneg t
  have e := zabs_mul t p
  have q2 := zabs_or (t * p)
  rcases h with h | ⟨h, h2⟩
  · rw [show zabs t = 0 by omega, Int.zero_mul] at e
    omega
  · rw [Int.tdiv_eq_ediv_of_nonneg (by omega)] at h2
    have s := ediv_spec (a := 9000000000000000 + zabs a) h
    have h3 : zabs p * zabs t ≤ ((9000000000000000 + zabs a) / zabs t) * zabs t := Int.mul_le_mul_of_nonneg_right h2 (by omega)
    rw [Int.mul_comm (zabs t)] at e
    omega
abbrev zCh : Type := Int × Int × Int × Int × Int
/-- a chain goes on by a term: upper, lower, whether it is over, upper ahead, lower ahead -/
def chAdd (t : Int) (c : zCh) : zCh := if c.2.2.1 = 1 ∨ 9000000000000000 < zabs (t * c.1 + c.2.2.2.1) ∨ 9000000000000000 < zabs (t * c.2.1 + c.2.2.2.2) then (c.1, c.2.1, 1, c.2.2.2.1, c.2.2.2.2) else (t * c.1 + c.2.2.2.1, t * c.2.1 + c.2.2.2.2, 0, c.1, c.2.1)
theorem chAdd_over {t u v o a b : Int} (h : o = 1 ∨ 9000000000000000 < zabs (t * u + a) ∨ 9000000000000000 < zabs (t * v + b)) : chAdd t (u, v, o, a, b) = (u, v, 1, a, b) := if_pos h
theorem chAdd_go {t u v o a b : Int} (h : ¬ (o = 1 ∨ 9000000000000000 < zabs (t * u + a) ∨ 9000000000000000 < zabs (t * v + b))) : chAdd t (u, v, o, a, b) = (t * u + a, t * v + b, 0, u, v) := if_neg h
def chRun (f : Int → Int) : Nat → zCh
  | 0 => (1, 0, 0, 0, 1)
  | k + 1 => chAdd (f k) (chRun f k)
def chOk (c : zCh) : Prop := (-9000000000000000 ≤ c.1 ∧ c.1 ≤ 9000000000000000) ∧ (-9000000000000000 ≤ c.2.1 ∧ c.2.1 ≤ 9000000000000000) ∧ (c.2.2.1 = 0 ∨ c.2.2.1 = 1) ∧ (-9000000000000000 ≤ c.2.2.2.1 ∧ c.2.2.2.1 ≤ 9000000000000000) ∧ (-9000000000000000 ≤ c.2.2.2.2 ∧ c.2.2.2.2 ≤ 9000000000000000)
theorem chAdd_ok {t : Int} {c : zCh} (h : chOk c) : chOk (chAdd t c) := by
  obtain ⟨u, v, o, a, b⟩ := c
  obtain ⟨h1, h2, h3, h4, h5⟩ := h
  dsimp only at h1 h2 h3 h4 h5
  by_cases q : o = 1 ∨ 9000000000000000 < zabs (t * u + a) ∨ 9000000000000000 < zabs (t * v + b)
  · rw [chAdd_over q]; exact ⟨h1, h2, Or.inr rfl, h4, h5⟩
  · rw [chAdd_go q]
    have z1 := zabs_or (t * u + a)
    have z2 := zabs_or (t * v + b)
    refine ⟨?_, ?_, Or.inl rfl, h1, h2⟩ <;> dsimp only <;> omega
theorem chRun_ok (f : Int → Int) : ∀ k : Nat, chOk (chRun f k)
  | 0 => by unfold chRun chOk; dsimp only; omega
  | k + 1 => chAdd_ok (chRun_ok f k)
theorem chRun_bd {f : Int → Int} {k : Nat} {u v o a b : Int} (h : chRun f k = (u, v, o, a, b)) : (-9000000000000000 ≤ u ∧ u ≤ 9000000000000000) ∧ (-9000000000000000 ≤ v ∧ v ≤ 9000000000000000) ∧ (o = 0 ∨ o = 1) ∧ (-9000000000000000 ≤ a ∧ a ≤ 9000000000000000) ∧ (-9000000000000000 ≤ b ∧ b ≤ 9000000000000000) := by
  have := chRun_ok f k
  rw [h] at this
  exact this
theorem chRun_s {f : Int → Int} {i : Int} {c c' : zCh} {t : Int} (h0 : 0 ≤ i) (h : chRun f i.toNat = c) (ht : t = f i) (h2 : chAdd t c = c') : chRun f (i + 1).toNat = c' := by
  rw [show (i + 1).toNat = i.toNat + 1 by omega]
  show chAdd (f ((i.toNat : Nat) : Int)) (chRun f i.toNat) = c'
  rw [h, show ((i.toNat : Nat) : Int) = i by omega, ← ht, h2]
/-- the fraction n / m is above the surd -/
def abv (p d q n m : Int) : Bool := (decide (0 < q * n - p * m ∧ (m * m) * d < (q * n - p * m) * (q * n - p * m))) == decide (0 < q)
theorem abv_iff {p d q n m : Int} : abv p d q n m = true ↔ ((0 < q * n - p * m ∧ (m * m) * d < (q * n - p * m) * (q * n - p * m)) ↔ 0 < q) := by
  unfold abv
  rw [beq_iff_eq, decide_eq_decide]
/-- a / b is nearer to the surd than c / e -/
def nrr (p d q a b c e : Int) : Bool := if abv p d q a b == abv p d q c e then (if abv p d q a b then decide (a * e < c * b) else decide (c * b < a * e)) else abv p d q a b != abv p d q (a * e + c * b) ((2 * b) * e)
theorem nrr_tt {p d q a b c e : Int} (h1 : abv p d q a b = true) (h2 : abv p d q c e = true) : nrr p d q a b c e = true ↔ a * e < c * b := by
  unfold nrr; rw [h1, h2]; simp
theorem nrr_ff {p d q a b c e : Int} (h1 : ¬ abv p d q a b = true) (h2 : ¬ abv p d q c e = true) : nrr p d q a b c e = true ↔ c * b < a * e := by
  unfold nrr; rw [Bool.not_eq_true] at h1 h2; rw [h1, h2]; simp
theorem nrr_tf {p d q a b c e : Int} (h1 : abv p d q a b = true) (h2 : ¬ abv p d q c e = true) : nrr p d q a b c e = true ↔ ¬ abv p d q (a * e + c * b) ((2 * b) * e) = true := by
  unfold nrr; rw [Bool.not_eq_true] at h2; rw [h1, h2]; simp
theorem nrr_ft {p d q a b c e : Int} (h1 : ¬ abv p d q a b = true) (h2 : abv p d q c e = true) : nrr p d q a b c e = true ↔ abv p d q (a * e + c * b) ((2 * b) * e) = true := by
  unfold nrr; rw [Bool.not_eq_true] at h1; rw [h1, h2]; simp
def okF (a b : Int) : Prop := -30000 ≤ a ∧ a ≤ 30000 ∧ 1 ≤ b ∧ b ≤ 200
theorem okF_mul {a b c e : Int} (h : okF a b) (g : okF c e) : (-6000000 ≤ a * e ∧ a * e ≤ 6000000) ∧ (-6000000 ≤ c * b ∧ c * b ≤ 6000000) ∧ (1 ≤ (2 * b) * e ∧ (2 * b) * e ≤ 80000) := by
  obtain ⟨h1, h2, h3, h4⟩ := h
  obtain ⟨g1, g2, g3, g4⟩ := g
  have e1 := mul_bd (a := a) (b := e) (M := 30000) (N := 200) ⟨h1, h2⟩ ⟨by omega, g4⟩
  have e2 := mul_bd (a := c) (b := b) (M := 30000) (N := 200) ⟨g1, g2⟩ ⟨by omega, h4⟩
  have e3 := mul_bd (a := 2 * b) (b := e) (M := 400) (N := 200) ⟨by omega, by omega⟩ ⟨by omega, g4⟩
  have e4 := Int.mul_le_mul (a := 2) (c := 2 * b) (b := 1) (d := e) (by omega) g3 (by omega) (by omega)
  omega
-- the first n of a row, as a list
def tk {α : Type} (f : Int → α) : Nat → List α
  | 0 => []
  | k + 1 => tk f k ++ [f k]
theorem tk_len {α : Type} (f : Int → α) : ∀ k : Nat, (tk f k).length = k
  | 0 => rfl
  | k + 1 => by unfold tk; rw [List.length_append, tk_len f k]; rfl
theorem tk_cong {α : Type} {f g : Int → α} : ∀ {k : Nat}, (∀ i : Int, 0 ≤ i → i < k → f i = g i) → tk f k = tk g k
  | 0, _ => rfl
  | k + 1, h => by unfold tk; rw [tk_cong (fun i a b => h i a (by omega)), h k (by omega) (by omega)]
theorem tk_get {α : Type} {f : Int → α} : ∀ {k : Nat} {i : Nat}, i < k → (tk f k)[i]? = some (f i)
  | 0, i, h => absurd h (Nat.not_lt_zero i)
  | k + 1, i, h => by
    unfold tk
    by_cases q : i < k
    · rw [List.getElem?_append_left (by rw [tk_len]; exact q)]; exact tk_get q
    · rw [List.getElem?_append_right (by rw [tk_len]; omega), tk_len, show i = k by omega, Nat.sub_self]; rfl
theorem tk_mem {α : Type} {f : Int → α} {k : Nat} {x : α} (h : x ∈ tk f k) : ∃ i : Int, 0 ≤ i ∧ i < k ∧ f i = x := by
  obtain ⟨i, hi⟩ := List.getElem?_of_mem h
  have hl := (List.getElem?_eq_some_iff.mp hi).1
  rw [tk_len] at hl
  rw [tk_get hl] at hi
  exact ⟨i, by omega, by omega, Option.some.inj hi⟩
theorem tk_in {α : Type} {f : Int → α} {k : Nat} {i : Int} (h0 : 0 ≤ i) (h : i < k) : f i ∈ tk f k := by
  have := tk_get (f := f) (k := k) (i := i.toNat) (by omega)
  rw [show ((i.toNat : Nat) : Int) = i by omega] at this
  exact List.mem_of_getElem? this
def pr (u v : Int → Int) : Int → Int × Int := fun i => (u i, v i)
/-- what Book.add does: from the last one on, all that the new one is nearer than go a place up -/
def insP (p d q a b n : Int) (u v u' v' : Int → Int) (j : Int) : Prop := 0 ≤ j ∧ j ≤ n ∧ (∀ i : Int, 0 ≤ i → i < j → u' i = u i ∧ v' i = v i) ∧ u' j = a ∧ v' j = b ∧ (∀ i : Int, j < i → i ≤ n → u' i = u (i - 1) ∧ v' i = v (i - 1)) ∧ (∀ i : Int, j ≤ i → i < n → nrr p d q a b (u i) (v i) = true) ∧ (0 < j → ¬ nrr p d q a b (u (j - 1)) (v (j - 1)) = true) ∧ (∀ i : Int, n < i → u' i = u i ∧ v' i = v i)
def insQ (p d q a b n : Int) (u v u' v' : Int → Int) (j : Int) : Prop := 0 ≤ j ∧ j ≤ n ∧ (∀ i : Int, 0 ≤ i → i < j → u' i = u i ∧ v' i = v i) ∧ (∀ i : Int, j < i → i ≤ n → u' i = u (i - 1) ∧ v' i = v (i - 1)) ∧ (∀ i : Int, j ≤ i → i < n → nrr p d q a b (u i) (v i) = true) ∧ (∀ i : Int, n < i → u' i = u i ∧ v' i = v i)
theorem insQ_0 {p d q a b n : Int} {u v : Int → Int} (h : 0 ≤ n) : insQ p d q a b n u v u v n := ⟨h, by omega, fun _ _ _ => ⟨rfl, rfl⟩, fun i h1 h2 => absurd h1 (by omega), fun i h1 h2 => absurd h1 (by omega), fun _ _ => ⟨rfl, rfl⟩⟩
theorem insQ_s {p d q a b n : Int} {u v u' v' : Int → Int} {j : Int} (h : insQ p d q a b n u v u' v' j) (h0 : 0 < j) (hn : nrr p d q a b (u' (j - 1)) (v' (j - 1)) = true) : insQ p d q a b n u v (zu u' j (u' (j - 1))) (zu v' j (v' (j - 1))) (j - 1) := by
  obtain ⟨a1, a2, a3, a4, a5, a6⟩ := h
  have e := a3 (j - 1) (by omega) (by omega)
  refine ⟨by omega, by omega, fun i h1 h2 => ?_, fun i h1 h2 => ?_, fun i h1 h2 => ?_, fun i h1 => ?_⟩
  · rw [zu_n _ _ (by omega), zu_n _ _ (by omega)]; exact a3 i h1 (by omega)
  · by_cases q : i = j
    · subst q; rw [zu_s, zu_s]; exact e
    · rw [zu_n _ _ q, zu_n _ _ q]; exact a4 i (by omega) h2
  · by_cases q : i = j - 1
    · subst q; rw [← e.1, ← e.2]; exact hn
    · exact a5 i (by omega) h2
  · rw [zu_n _ _ (by omega), zu_n _ _ (by omega)]; exact a6 i h1
theorem insQ_end {p d q a b n : Int} {u v u' v' : Int → Int} {j : Int} (h : insQ p d q a b n u v u' v' j) (hn : j ≤ 0 ∨ ¬ nrr p d q a b (u' (j - 1)) (v' (j - 1)) = true) : insP p d q a b n u v (zu u' j a) (zu v' j b) j := by
  obtain ⟨a1, a2, a3, a4, a5, a6⟩ := h
  refine ⟨a1, a2, fun i h1 h2 => ?_, zu_s _ _ _, zu_s _ _ _, fun i h1 h2 => ?_, a5, fun h0 => ?_, fun i h1 => ?_⟩
  · rw [zu_n _ _ (by omega), zu_n _ _ (by omega)]; exact a3 i h1 (by omega)
  · rw [zu_n _ _ (by omega), zu_n _ _ (by omega)]; exact a4 i (by omega) h2
  · have e := a3 (j - 1) (by omega) (by omega)
    rw [← e.1, ← e.2]
    rcases hn with hn | hn
    · omega
    · exact hn
  · rw [zu_n _ _ (by omega), zu_n _ _ (by omega)]; exact a6 i h1
theorem insP_okF {p d q a b n : Int} {u v u' v' : Int → Int} {j : Int} (h : insP p d q a b n u v u' v' j) (hB : ∀ i : Int, 0 ≤ i → i < n → okF (u i) (v i)) (hab : okF a b) : ∀ i : Int, 0 ≤ i → i < n + 1 → okF (u' i) (v' i) := by
  obtain ⟨a1, a2, a3, a4, a5, a6, -⟩ := h
  intro i h1 h2
  by_cases q : i < j
  · have := a3 i h1 q; rw [this.1, this.2]; exact hB i h1 (by omega)
  · by_cases r : i = j
    · subst r; rw [a4, a5]; exact hab
    · have := a6 i (by omega) (by omega); rw [this.1, this.2]; exact hB (i - 1) (by omega) (by omega)
theorem lt_si {P : Int → Prop} {i : Int} (h : ∀ k : Int, 0 ≤ k → k < i → P k) (hi : P i) : ∀ k : Int, 0 ≤ k → k < i + 1 → P k := by
  intro k h1 h2
  by_cases q : k = i
  · rw [q]; exact hi
  · exact h k h1 (by omega)
def remQ (k i : Int) (u v u' v' : Int → Int) : Prop := (∀ j : Int, j < k → u' j = u j ∧ v' j = v j) ∧ (∀ j : Int, k ≤ j → j < i → u' j = u (j + 1) ∧ v' j = v (j + 1)) ∧ (∀ j : Int, i ≤ j → u' j = u j ∧ v' j = v j)
theorem remQ_0 {k : Int} {u v : Int → Int} : remQ k k u v u v := ⟨fun _ _ => ⟨rfl, rfl⟩, fun j h1 h2 => absurd h1 (by omega), fun _ _ => ⟨rfl, rfl⟩⟩
theorem remQ_s {k i : Int} {u v u' v' : Int → Int} (h : remQ k i u v u' v') (hk : k ≤ i) : remQ k (i + 1) u v (zu u' i (u' (i + 1))) (zu v' i (v' (i + 1))) := by
  obtain ⟨a1, a2, a3⟩ := h
  have e := a3 (i + 1) (by omega)
  refine ⟨fun j h1 => ?_, fun j h1 h2 => ?_, fun j h1 => ?_⟩
  · rw [zu_n _ _ (by omega), zu_n _ _ (by omega)]; exact a1 j h1
  · by_cases q : j = i
    · subst q; rw [zu_s, zu_s]; exact e
    · rw [zu_n _ _ q, zu_n _ _ q]; exact a2 j h1 (by omega)
  · rw [zu_n _ _ (by omega), zu_n _ _ (by omega)]; exact a3 j (by omega)
def cntA (p d q : Int) (u v : Int → Int) : Nat → Int
  | 0 => 0
  | k + 1 => cntA p d q u v k + (if abv p d q (u k) (v k) then 1 else 0)
theorem cntA_t {p d q c i : Int} {u v : Int → Int} (h0 : 0 ≤ i) (h : c = cntA p d q u v i.toNat) (ha : abv p d q (u i) (v i) = true) : c + 1 = cntA p d q u v (i + 1).toNat := by
  rw [show (i + 1).toNat = i.toNat + 1 by omega]
  unfold cntA
  rw [show ((i.toNat : Nat) : Int) = i by omega, if_pos ha, h]
theorem cntA_f {p d q c i : Int} {u v : Int → Int} (h0 : 0 ≤ i) (h : c = cntA p d q u v i.toNat) (ha : ¬ abv p d q (u i) (v i) = true) : c = cntA p d q u v (i + 1).toNat := by
  rw [show (i + 1).toNat = i.toNat + 1 by omega]
  unfold cntA
  rw [show ((i.toNat : Nat) : Int) = i by omega, if_neg ha, h]; omega
theorem cpQ_s {i : Int} {u v u' v' : Int → Int} (h : ∀ k : Int, 0 ≤ k → k < i → u' k = u k ∧ v' k = v k) : ∀ k : Int, 0 ≤ k → k < i + 1 → zu u' i (u i) k = u k ∧ zu v' i (v i) k = v k := by
  intro k h1 h2
  by_cases q : k = i
  · subst q; exact ⟨zu_s _ _ _, zu_s _ _ _⟩
  · rw [zu_n _ _ q, zu_n _ _ q]; exact h k h1 (by omega)
end
section
abbrev rm_X1_init : Room := { frames := 1, cells := 0, slots := 0, locals := 12 }
set_option maxRecDepth 100000 in
theorem c_X1_init (l : Launch) (D : va_G) (κ : Nat → ClassId) (h0 : Nat)  : ZV l yX1_init cX1_init 1 rm_X1_init D κ [.ref h0] [(h0, .inr (1, [.long (zl 0), .long (zl 0), .int (zi 0), .long (zl 0), .long (zl 0)]))] (fun w => [(h0, .inr (1, [.long (zl 0), .long (zl 0), .int (zi 0), .long (zl 0), .long (zl 0)]))] = w) := by
  refine ZV.enter0 (own := RX1) rfl pn_X1_init (Nat.le_of_ble_eq_true rfl) (fun X E hini fin => ?_)
  have hini := hini rfl
  show Zg X [(h0, .inr (1, [.long (zl 0), .long (zl 0), .int (zi 0), .long (zl 0), .long (zl 0)]))] 0 0 0 [(0, .ref h0)] []
  refine z_aload_n E 0 rfl rfl dX1_init_0 ?_
  refine z_objInit E m_X1_3 in_obj co_obj (Nat.le_of_ble_eq_true rfl) (Nat.le_of_ble_eq_true rfl) dX1_init_1 ?_
  exact fin _ _ _ (by first | exact rfl | omega) dX1_init_4
abbrev rm_X1_begin : Room := { frames := 0, cells := 0, slots := 0, locals := 0 }
set_option maxRecDepth 100000 in
theorem c_X1_begin (l : Launch) (D : va_G) (κ : Nat → ClassId) (h0 : Nat) (u : Int) (v : Int) (o : Int) (ua : Int) (va : Int)  : ZV l yX1_begin cX1_begin 1 rm_X1_begin D κ [.ref h0] [(h0, .inr (1, [.long (zl u), .long (zl v), .int (zi o), .long (zl ua), .long (zl va)]))] (fun w => [(h0, .inr (1, [.long (zl 1), .long (zl 0), .int (zi 0), .long (zl 0), .long (zl 1)]))] = w) := by
  refine ZV.enter (own := RX1) rfl pn_X1_begin (Nat.le_of_ble_eq_true rfl) (fun X E fin => ?_)
  show Zg X [(h0, .inr (1, [.long (zl u), .long (zl v), .int (zi o), .long (zl ua), .long (zl va)]))] 0 0 0 [(0, .ref h0)] []
  refine z_aload_n E 0 rfl rfl dX1_begin_0 ?_
  refine z_lconst1 E dX1_begin_1 ?_
  refine z_put (ws' := [(h0, .inr (1, [.long (zl 1), .long (zl v), .int (zi o), .long (zl ua), .long (zl va)]))]) E f_X1_9 t_X1_0 0 rfl rfl rfl (Nat.le_of_ble_eq_true rfl) rfl dX1_begin_2 ?_
  refine z_aload_n E 0 rfl rfl dX1_begin_5 ?_
  refine z_lconst0 E dX1_begin_6 ?_
  refine z_put (ws' := [(h0, .inr (1, [.long (zl 1), .long (zl 0), .int (zi o), .long (zl ua), .long (zl va)]))]) E f_X1_15 t_X1_1 0 rfl rfl rfl (Nat.le_of_ble_eq_true rfl) rfl dX1_begin_7 ?_
  refine z_aload_n E 0 rfl rfl dX1_begin_10 ?_
  refine z_lconst0 E dX1_begin_11 ?_
  refine z_put (ws' := [(h0, .inr (1, [.long (zl 1), .long (zl 0), .int (zi o), .long (zl 0), .long (zl va)]))]) E f_X1_18 t_X1_3 0 rfl rfl rfl (Nat.le_of_ble_eq_true rfl) rfl dX1_begin_12 ?_
  refine z_aload_n E 0 rfl rfl dX1_begin_15 ?_
  refine z_lconst1 E dX1_begin_16 ?_
  refine z_put (ws' := [(h0, .inr (1, [.long (zl 1), .long (zl 0), .int (zi o), .long (zl 0), .long (zl 1)]))]) E f_X1_21 t_X1_4 0 rfl rfl rfl (Nat.le_of_ble_eq_true rfl) rfl dX1_begin_17 ?_
  refine z_aload_n E 0 rfl rfl dX1_begin_20 ?_
  refine z_iconst E dX1_begin_21 ?_
  refine z_put (ws' := [(h0, .inr (1, [.long (zl 1), .long (zl 0), .int (zi 0), .long (zl 0), .long (zl 1)]))]) E f_X1_24 t_X1_2 0 rfl rfl rfl (Nat.le_of_ble_eq_true rfl) rfl dX1_begin_22 ?_
  exact fin _ _ _ (by first | exact rfl | omega) dX1_begin_25
abbrev rm_X1_isTooGreat : Room := { frames := 1, cells := 0, slots := 0, locals := 17 }
set_option maxRecDepth 100000 in
theorem c_X1_isTooGreat (l : Launch) (D : va_G) (κ : Nat → ClassId) (t : Int) (p : Int) (a : Int) (ht : -1000000 ≤ t ∧ t ≤ 1000000) (hp : -9000000000000000 ≤ p ∧ p ≤ 9000000000000000) (ha : -9000000000000000 ≤ a ∧ a ≤ 9000000000000000) : ZI l yX1_isTooGreat cX1_isTooGreat 8 .boolean rm_X1_isTooGreat D κ [.long (zl t), .long (zl p), .long (zl a)] [] (fun z w => ((1 = z ∧ (9000000000000000 < zabs ((t * p) + a))) ∨ (0 = z ∧ ¬ (9000000000000000 < zabs ((t * p) + a)))) ∧ [] = w) := by
  refine ZI.enter (own := RX1) rfl pn_X1_isTooGreat (Nat.le_of_ble_eq_true rfl) (fun X E fin => ?_)
  show Zg X [] 0 0 0 [(0, .long (zl t)), (2, .long (zl p)), (4, .long (zl a))] []
  have z1 := zabs_or t
  have z2 := zabs_or p
  have z3 := zabs_or a
  refine z_lload_n E 0 rfl rfl dX1_isTooGreat_0 ?_
  refine z_labs E (by omega) m_X1_32 st_abs i_Math co_abs (Nat.le_of_ble_eq_true rfl) (Nat.le_of_ble_eq_true rfl) (Nat.le_of_ble_eq_true rfl) (Nat.le_of_ble_eq_true rfl) dX1_isTooGreat_1 ?_
  refine z_lstore (lv' := [(6, .long (zl (zabs t))), (0, .long (zl t)), (2, .long (zl p)), (4, .long (zl a))]) E dX1_isTooGreat_4 (Nat.le_of_ble_eq_true rfl) rfl ?_
  refine z_lload E 0 rfl dX1_isTooGreat_6 ?_
  refine z_lconst0 E dX1_isTooGreat_8 ?_
  refine z_lc_le (tgt := 35) E (by omega) (by omega) dX1_isTooGreat_9 dX1_isTooGreat_10 (by decide) (fun h_9 => ?_) (fun h_9 => ?_)
  · have z6 := tg_bd (t := t) (p := p) (a := a) (Or.inl (by omega))
    have z7 := zabs_or ((t * p) + a)
    refine z_lload_n E 1 rfl rfl dX1_isTooGreat_35 ?_
    refine z_lload_n E 2 rfl rfl dX1_isTooGreat_36 ?_
    refine z_lmul E dX1_isTooGreat_37 ?_
    refine z_lload E 3 rfl dX1_isTooGreat_38 ?_
    refine z_ladd E dX1_isTooGreat_40 ?_
    refine z_labs E (by omega) m_X1_32 st_abs i_Math co_abs (Nat.le_of_ble_eq_true rfl) (Nat.le_of_ble_eq_true rfl) (Nat.le_of_ble_eq_true rfl) (Nat.le_of_ble_eq_true rfl) dX1_isTooGreat_41 ?_
    refine z_ldc2 E k_X1_38 dX1_isTooGreat_44 ?_
    refine z_lc_le (tgt := 55) E (by omega) (by omega) dX1_isTooGreat_47 dX1_isTooGreat_48 (by decide) (fun h_47 => ?_) (fun h_47 => ?_)
    · refine z_iconst E dX1_isTooGreat_55 ?_
      exact fin _ _ _ _ rfl (by first | exact ⟨Or.inr ⟨rfl, by omega⟩, rfl⟩ | omega) dX1_isTooGreat_56
    · refine z_iconst E dX1_isTooGreat_51 ?_
      refine z_goto (tgt := 56) E dX1_isTooGreat_52 (by decide) ?_
      exact fin _ _ _ _ rfl (by first | exact ⟨Or.inl ⟨rfl, by omega⟩, rfl⟩ | omega) dX1_isTooGreat_56
  · refine z_lload_n E 2 rfl rfl dX1_isTooGreat_13 ?_
    refine z_labs E (by omega) m_X1_32 st_abs i_Math co_abs (Nat.le_of_ble_eq_true rfl) (Nat.le_of_ble_eq_true rfl) (Nat.le_of_ble_eq_true rfl) (Nat.le_of_ble_eq_true rfl) dX1_isTooGreat_14 ?_
    refine z_ldc2 E k_X1_38 dX1_isTooGreat_17 ?_
    refine z_lload E 3 rfl dX1_isTooGreat_20 ?_
    refine z_labs E (by omega) m_X1_32 st_abs i_Math co_abs (Nat.le_of_ble_eq_true rfl) (Nat.le_of_ble_eq_true rfl) (Nat.le_of_ble_eq_true rfl) (Nat.le_of_ble_eq_true rfl) dX1_isTooGreat_22 ?_
    refine z_ladd E dX1_isTooGreat_25 ?_
    refine z_lload E 0 rfl dX1_isTooGreat_26 ?_
    have z4 := tdiv_bd (a := 9000000000000000 + (zabs a)) (b := zabs t) (by omega)
    have z5 := zabs_or (9000000000000000 + (zabs a))
    refine z_ldiv E (by omega) (by omega) (by omega) dX1_isTooGreat_28 ?_
    refine z_lc_le (tgt := 35) E (by omega) (by omega) dX1_isTooGreat_29 dX1_isTooGreat_30 (by decide) (fun h_29 => ?_) (fun h_29 => ?_)
    · have z6 := tg_bd (t := t) (p := p) (a := a) (Or.inr ⟨by omega, by omega⟩)
      have z7 := zabs_or ((t * p) + a)
      refine z_lload_n E 1 rfl rfl dX1_isTooGreat_35 ?_
      refine z_lload_n E 2 rfl rfl dX1_isTooGreat_36 ?_
      refine z_lmul E dX1_isTooGreat_37 ?_
      refine z_lload E 3 rfl dX1_isTooGreat_38 ?_
      refine z_ladd E dX1_isTooGreat_40 ?_
      refine z_labs E (by omega) m_X1_32 st_abs i_Math co_abs (Nat.le_of_ble_eq_true rfl) (Nat.le_of_ble_eq_true rfl) (Nat.le_of_ble_eq_true rfl) (Nat.le_of_ble_eq_true rfl) dX1_isTooGreat_41 ?_
      refine z_ldc2 E k_X1_38 dX1_isTooGreat_44 ?_
      refine z_lc_le (tgt := 55) E (by omega) (by omega) dX1_isTooGreat_47 dX1_isTooGreat_48 (by decide) (fun h_47 => ?_) (fun h_47 => ?_)
      · refine z_iconst E dX1_isTooGreat_55 ?_
        exact fin _ _ _ _ rfl (by first | exact ⟨Or.inr ⟨rfl, by omega⟩, rfl⟩ | omega) dX1_isTooGreat_56
      · refine z_iconst E dX1_isTooGreat_51 ?_
        refine z_goto (tgt := 56) E dX1_isTooGreat_52 (by decide) ?_
        exact fin _ _ _ _ rfl (by first | exact ⟨Or.inl ⟨rfl, by omega⟩, rfl⟩ | omega) dX1_isTooGreat_56
    · refine z_iconst E dX1_isTooGreat_33 ?_
      exact fin _ _ _ _ rfl (⟨Or.inl ⟨rfl, tg_big (by omega) (by omega)⟩, rfl⟩) dX1_isTooGreat_34
abbrev rm_X1_add : Room := { frames := 2, cells := 0, slots := 0, locals := 44 }
set_option maxRecDepth 100000 in
theorem c_X1_add (l : Launch) (D : va_G) (κ : Nat → ClassId) (h0 : Nat) (u : Int) (v : Int) (o : Int) (ua : Int) (va : Int) (t : Int) (ho : o = 0 ∨ o = 1) (ht : -1000000 ≤ t ∧ t ≤ 1000000) (hu : -9000000000000000 ≤ u ∧ u ≤ 9000000000000000) (hv : -9000000000000000 ≤ v ∧ v ≤ 9000000000000000) (hua : -9000000000000000 ≤ ua ∧ ua ≤ 9000000000000000) (hva : -9000000000000000 ≤ va ∧ va ≤ 9000000000000000) : ZV l yX1_add cX1_add 7 rm_X1_add D κ [.ref h0, .long (zl t)] [(h0, .inr (1, [.long (zl u), .long (zl v), .int (zi o), .long (zl ua), .long (zl va)]))] (fun w => ∃ u' : Int, ∃ v' : Int, ∃ o' : Int, ∃ ua' : Int, ∃ va' : Int, (chAdd t (u, v, o, ua, va) = (u', v', o', ua', va')) ∧ [(h0, .inr (1, [.long (zl u'), .long (zl v'), .int (zi o'), .long (zl ua'), .long (zl va')]))] = w) := by
  refine ZV.enter (own := RX1) rfl pn_X1_add (Nat.le_of_ble_eq_true rfl) (fun X E fin => ?_)
  show Zg X [(h0, .inr (1, [.long (zl u), .long (zl v), .int (zi o), .long (zl ua), .long (zl va)]))] 0 0 0 [(0, .ref h0), (1, .long (zl t))] []
  refine z_aload_n E 0 rfl rfl dX1_add_0 ?_
  refine z_get E f_X1_24 0 rfl rfl dX1_add_1 ?_
  refine z_if_ne (tgt := 37) E (by omega) dX1_add_4 (by decide) (fun h_4 => ?_) (fun h_4 => ?_)
  · refine z_aload_n E 0 rfl rfl dX1_add_37 ?_
    refine z_iconst E dX1_add_38 ?_
    refine z_put (ws' := [(h0, .inr (1, [.long (zl u), .long (zl v), .int (zi 1), .long (zl ua), .long (zl va)]))]) E f_X1_24 t_X1_2 0 rfl rfl rfl (Nat.le_of_ble_eq_true rfl) rfl dX1_add_39 ?_
    exact fin _ _ _ (⟨_, _, _, _, _, chAdd_over (by omega), rfl⟩) dX1_add_42
  · refine z_lload_n E 1 rfl rfl dX1_add_7 ?_
    refine z_aload_n E 0 rfl rfl dX1_add_8 ?_
    refine z_get E f_X1_9 0 rfl rfl dX1_add_9 ?_
    refine z_aload_n E 0 rfl rfl dX1_add_12 ?_
    refine z_get E f_X1_18 0 rfl rfl dX1_add_13 ?_
    refine z_callSi (As := [.long (zl t), .long (zl u), .long (zl ua)]) (rest := []) (wr := [(h0, .inr (1, [.long (zl u), .long (zl v), .int (zi o), .long (zl ua), .long (zl va)]))]) E (c_X1_isTooGreat l D κ t u ua (by omega) (by omega) (by omega)) m_X1_28 ⟨Nat.le_of_ble_eq_true rfl, Nat.le_of_ble_eq_true rfl⟩ ⟨rfl, rfl⟩ [] [0] rfl rfl rfl rfl (by decide) rfl rfl (Nat.le_of_ble_eq_true rfl) dX1_add_16 ⟨Nat.le_of_ble_eq_true rfl, Nat.le_of_ble_eq_true rfl⟩ (fun z16 w1 hq => ?_)
    obtain ⟨⟨rfl, hc_16⟩ | ⟨rfl, hc_16⟩, rfl⟩ := hq
    · refine z_if_ne (tgt := 37) E (by omega) dX1_add_19 (by decide) (fun _ => ?_) (fun h => absurd h (by decide))
      refine z_aload_n E 0 rfl rfl dX1_add_37 ?_
      refine z_iconst E dX1_add_38 ?_
      refine z_put (ws' := [(h0, .inr (1, [.long (zl u), .long (zl v), .int (zi 1), .long (zl ua), .long (zl va)]))]) E f_X1_24 t_X1_2 0 rfl rfl rfl (Nat.le_of_ble_eq_true rfl) rfl dX1_add_39 ?_
      exact fin _ _ _ (⟨_, _, _, _, _, chAdd_over (by omega), rfl⟩) dX1_add_42
    · refine z_if_ne (tgt := 37) E (by omega) dX1_add_19 (by decide) (fun h => absurd h (by decide)) (fun _ => ?_)
      refine z_lload_n E 1 rfl rfl dX1_add_22 ?_
      refine z_aload_n E 0 rfl rfl dX1_add_23 ?_
      refine z_get E f_X1_15 0 rfl rfl dX1_add_24 ?_
      refine z_aload_n E 0 rfl rfl dX1_add_27 ?_
      refine z_get E f_X1_21 0 rfl rfl dX1_add_28 ?_
      refine z_callSi (As := [.long (zl t), .long (zl v), .long (zl va)]) (rest := []) (wr := [(h0, .inr (1, [.long (zl u), .long (zl v), .int (zi o), .long (zl ua), .long (zl va)]))]) E (c_X1_isTooGreat l D κ t v va (by omega) (by omega) (by omega)) m_X1_28 ⟨Nat.le_of_ble_eq_true rfl, Nat.le_of_ble_eq_true rfl⟩ ⟨rfl, rfl⟩ [] [0] rfl rfl rfl rfl (by decide) rfl rfl (Nat.le_of_ble_eq_true rfl) dX1_add_31 ⟨Nat.le_of_ble_eq_true rfl, Nat.le_of_ble_eq_true rfl⟩ (fun z31 w1 hq => ?_)
      obtain ⟨⟨rfl, hc_31⟩ | ⟨rfl, hc_31⟩, rfl⟩ := hq
      · refine z_if_eq (tgt := 43) E (by omega) dX1_add_34 (by decide) (fun h => absurd h (by decide)) (fun _ => ?_)
        refine z_aload_n E 0 rfl rfl dX1_add_37 ?_
        refine z_iconst E dX1_add_38 ?_
        refine z_put (ws' := [(h0, .inr (1, [.long (zl u), .long (zl v), .int (zi 1), .long (zl ua), .long (zl va)]))]) E f_X1_24 t_X1_2 0 rfl rfl rfl (Nat.le_of_ble_eq_true rfl) rfl dX1_add_39 ?_
        exact fin _ _ _ (⟨_, _, _, _, _, chAdd_over (by omega), rfl⟩) dX1_add_42
      · refine z_if_eq (tgt := 43) E (by omega) dX1_add_34 (by decide) (fun _ => ?_) (fun h => absurd h (by decide))
        have ho0 : o = 0 := by omega
        subst ho0
        refine z_lload_n E 1 rfl rfl dX1_add_43 ?_
        refine z_aload_n E 0 rfl rfl dX1_add_44 ?_
        refine z_get E f_X1_9 0 rfl rfl dX1_add_45 ?_
        refine z_lmul E dX1_add_48 ?_
        refine z_aload_n E 0 rfl rfl dX1_add_49 ?_
        refine z_get E f_X1_18 0 rfl rfl dX1_add_50 ?_
        refine z_ladd E dX1_add_53 ?_
        refine z_lstore_n (lv' := [(3, .long (zl ((t * u) + ua))), (0, .ref h0), (1, .long (zl t))]) E dX1_add_54 rfl (Nat.le_of_ble_eq_true rfl) rfl ?_
        refine z_lload_n E 2 rfl rfl dX1_add_55 ?_
        refine z_aload_n E 1 rfl rfl dX1_add_56 ?_
        refine z_get E f_X1_15 0 rfl rfl dX1_add_57 ?_
        refine z_lmul E dX1_add_60 ?_
        refine z_aload_n E 1 rfl rfl dX1_add_61 ?_
        refine z_get E f_X1_21 0 rfl rfl dX1_add_62 ?_
        refine z_ladd E dX1_add_65 ?_
        refine z_lstore (lv' := [(5, .long (zl ((t * v) + va))), (3, .long (zl ((t * u) + ua))), (0, .ref h0), (1, .long (zl t))]) E dX1_add_66 (Nat.le_of_ble_eq_true rfl) rfl ?_
        refine z_aload_n E 2 rfl rfl dX1_add_68 ?_
        refine z_aload_n E 2 rfl rfl dX1_add_69 ?_
        refine z_get E f_X1_9 0 rfl rfl dX1_add_70 ?_
        refine z_put (ws' := [(h0, .inr (1, [.long (zl u), .long (zl v), .int (zi 0), .long (zl u), .long (zl va)]))]) E f_X1_18 t_X1_3 0 rfl rfl rfl (Nat.le_of_ble_eq_true rfl) rfl dX1_add_73 ?_
        refine z_aload_n E 2 rfl rfl dX1_add_76 ?_
        refine z_aload_n E 2 rfl rfl dX1_add_77 ?_
        refine z_get E f_X1_15 0 rfl rfl dX1_add_78 ?_
        refine z_put (ws' := [(h0, .inr (1, [.long (zl u), .long (zl v), .int (zi 0), .long (zl u), .long (zl v)]))]) E f_X1_21 t_X1_4 0 rfl rfl rfl (Nat.le_of_ble_eq_true rfl) rfl dX1_add_81 ?_
        refine z_aload_n E 2 rfl rfl dX1_add_84 ?_
        refine z_lload_n E 1 rfl rfl dX1_add_85 ?_
        refine z_put (ws' := [(h0, .inr (1, [.long (zl ((t * u) + ua)), .long (zl v), .int (zi 0), .long (zl u), .long (zl v)]))]) E f_X1_9 t_X1_0 0 rfl rfl rfl (Nat.le_of_ble_eq_true rfl) rfl dX1_add_86 ?_
        refine z_aload_n E 2 rfl rfl dX1_add_89 ?_
        refine z_lload E 0 rfl dX1_add_90 ?_
        refine z_put (ws' := [(h0, .inr (1, [.long (zl ((t * u) + ua)), .long (zl ((t * v) + va)), .int (zi 0), .long (zl u), .long (zl v)]))]) E f_X1_15 t_X1_1 0 rfl rfl rfl (Nat.le_of_ble_eq_true rfl) rfl dX1_add_92 ?_
        exact fin _ _ _ (⟨_, _, _, _, _, chAdd_go (by omega), rfl⟩) dX1_add_95
abbrev rm_X8_init : Room := { frames := 1, cells := 0, slots := 0, locals := 12 }
set_option maxRecDepth 100000 in
theorem c_X8_init (l : Launch) (D : va_G) (κ : Nat → ClassId) (h0 : Nat)  : ZV l yX8_init cX8_init 1 rm_X8_init D κ [.ref h0] [(h0, .inr (8, [.int (zi 0), .int (zi 0), .int (zi 0)]))] (fun w => [(h0, .inr (8, [.int (zi 0), .int (zi 2), .int (zi 1)]))] = w) := by
  refine ZV.enter0 (own := RX8) rfl pn_X8_init (Nat.le_of_ble_eq_true rfl) (fun X E hini fin => ?_)
  have hini := hini rfl
  show Zg X [(h0, .inr (8, [.int (zi 0), .int (zi 0), .int (zi 0)]))] 0 0 0 [(0, .ref h0)] []
  refine z_aload_n E 0 rfl rfl dX8_init_0 ?_
  refine z_objInit E m_X8_1 in_obj co_obj (Nat.le_of_ble_eq_true rfl) (Nat.le_of_ble_eq_true rfl) dX8_init_1 ?_
  refine z_aload_n E 0 rfl rfl dX8_init_4 ?_
  refine z_iconst E dX8_init_5 ?_
  refine z_put (ws' := [(h0, .inr (8, [.int (zi 0), .int (zi 2), .int (zi 0)]))]) E f_X8_7 t_X8_1 0 rfl rfl rfl (Nat.le_of_ble_eq_true rfl) rfl dX8_init_6 ?_
  refine z_aload_n E 0 rfl rfl dX8_init_9 ?_
  refine z_iconst E dX8_init_10 ?_
  refine z_put (ws' := [(h0, .inr (8, [.int (zi 0), .int (zi 2), .int (zi 1)]))]) E f_X8_13 t_X8_2 0 rfl rfl rfl (Nat.le_of_ble_eq_true rfl) rfl dX8_init_11 ?_
  exact fin _ _ _ (by first | exact rfl | omega) dX8_init_14
abbrev rm_X8_set : Room := { frames := 0, cells := 0, slots := 0, locals := 0 }
set_option maxRecDepth 100000 in
theorem c_X8_set (l : Launch) (D : va_G) (κ : Nat → ClassId) (h0 : Nat) (p : Int) (d : Int) (q : Int) (a : Int) (b : Int) (c : Int)  : ZV l yX8_set cX8_set 4 rm_X8_set D κ [.ref h0, .int (zi a), .int (zi b), .int (zi c)] [(h0, .inr (8, [.int (zi p), .int (zi d), .int (zi q)]))] (fun w => [(h0, .inr (8, [.int (zi a), .int (zi b), .int (zi c)]))] = w) := by
  refine ZV.enter (own := RX8) rfl pn_X8_set (Nat.le_of_ble_eq_true rfl) (fun X E fin => ?_)
  show Zg X [(h0, .inr (8, [.int (zi p), .int (zi d), .int (zi q)]))] 0 0 0 [(0, .ref h0), (1, .int (zi a)), (2, .int (zi b)), (3, .int (zi c))] []
  refine z_aload_n E 0 rfl rfl dX8_set_0 ?_
  refine z_iload_n E 1 rfl rfl dX8_set_1 ?_
  refine z_put (ws' := [(h0, .inr (8, [.int (zi a), .int (zi d), .int (zi q)]))]) E f_X8_16 t_X8_0 0 rfl rfl rfl (Nat.le_of_ble_eq_true rfl) rfl dX8_set_2 ?_
  refine z_aload_n E 0 rfl rfl dX8_set_5 ?_
  refine z_iload_n E 2 rfl rfl dX8_set_6 ?_
  refine z_put (ws' := [(h0, .inr (8, [.int (zi a), .int (zi b), .int (zi q)]))]) E f_X8_7 t_X8_1 0 rfl rfl rfl (Nat.le_of_ble_eq_true rfl) rfl dX8_set_7 ?_
  refine z_aload_n E 0 rfl rfl dX8_set_10 ?_
  refine z_iload_n E 3 rfl rfl dX8_set_11 ?_
  refine z_put (ws' := [(h0, .inr (8, [.int (zi a), .int (zi b), .int (zi c)]))]) E f_X8_13 t_X8_2 0 rfl rfl rfl (Nat.le_of_ble_eq_true rfl) rfl dX8_set_12 ?_
  exact fin _ _ _ (by first | exact rfl | omega) dX8_set_15
abbrev rm_X8_isPassedBy : Room := { frames := 0, cells := 0, slots := 0, locals := 0 }
set_option maxRecDepth 100000 in
theorem c_X8_isPassedBy (l : Launch) (D : va_G) (κ : Nat → ClassId) (h0 : Nat) (p : Int) (d : Int) (q : Int) (n : Int) (m : Int) (hp : -99 ≤ p ∧ p ≤ 99) (hd : 2 ≤ d ∧ d ≤ 999) (hq : -99 ≤ q ∧ q ≤ 99) (hn : -12500000 ≤ n ∧ n ≤ 12500000) (hm : 1 ≤ m ∧ m ≤ 80000) : ZI l yX8_isPassedBy cX8_isPassedBy 8 .boolean rm_X8_isPassedBy D κ [.ref h0, .long (zl n), .long (zl m)] [(h0, .inr (8, [.int (zi p), .int (zi d), .int (zi q)]))] (fun z w => ((1 = z ∧ (abv p d q n m = true)) ∨ (0 = z ∧ ¬ (abv p d q n m = true))) ∧ [(h0, .inr (8, [.int (zi p), .int (zi d), .int (zi q)]))] = w) := by
  refine ZI.enter (own := RX8) rfl pn_X8_isPassedBy (Nat.le_of_ble_eq_true rfl) (fun X E fin => ?_)
  show Zg X [(h0, .inr (8, [.int (zi p), .int (zi d), .int (zi q)]))] 0 0 0 [(0, .ref h0), (1, .long (zl n)), (3, .long (zl m))] []
  have b1 := mul_bd (a := q) (b := n) (M := 99) (N := 12500000) hq hn
  have b2 := mul_bd (a := p) (b := m) (M := 99) (N := 80000) hp (by omega)
  have b3 := sq_bd (a := (q * n) - (p * m)) (M := 1245420000) (by omega)
  have b4 := sq_bd (a := m) (M := 80000) (by omega)
  have b5 := mul_bd (a := m * m) (b := d) (M := 6400000000) (N := 999) (by omega) (by omega)
  refine z_aload_n E 0 rfl rfl dX8_isPassedBy_0 ?_
  refine z_get E f_X8_13 0 rfl rfl dX8_isPassedBy_1 ?_
  refine z_i2l E (by omega) dX8_isPassedBy_4 ?_
  refine z_lload_n E 1 rfl rfl dX8_isPassedBy_5 ?_
  refine z_lmul E dX8_isPassedBy_6 ?_
  refine z_aload_n E 0 rfl rfl dX8_isPassedBy_7 ?_
  refine z_get E f_X8_16 0 rfl rfl dX8_isPassedBy_8 ?_
  refine z_i2l E (by omega) dX8_isPassedBy_11 ?_
  refine z_lload_n E 2 rfl rfl dX8_isPassedBy_12 ?_
  refine z_lmul E dX8_isPassedBy_13 ?_
  refine z_lsub E dX8_isPassedBy_14 ?_
  refine z_lstore (lv' := [(5, .long (zl ((q * n) - (p * m)))), (0, .ref h0), (1, .long (zl n)), (3, .long (zl m))]) E dX8_isPassedBy_15 (Nat.le_of_ble_eq_true rfl) rfl ?_
  refine z_lload E 0 rfl dX8_isPassedBy_17 ?_
  refine z_lconst0 E dX8_isPassedBy_19 ?_
  refine z_lc_le (tgt := 46) E (by omega) (by omega) dX8_isPassedBy_20 dX8_isPassedBy_21 (by decide) (fun h_20 => ?_) (fun h_20 => ?_)
  · refine z_iconst E dX8_isPassedBy_46 ?_
    refine z_istore (lv' := [(7, .int (zi 0)), (5, .long (zl ((q * n) - (p * m)))), (0, .ref h0), (1, .long (zl n)), (3, .long (zl m))]) E dX8_isPassedBy_47 (Nat.le_of_ble_eq_true rfl) rfl ?_
    refine z_iload E 0 rfl dX8_isPassedBy_49 ?_
    refine z_aload_n E 2 rfl rfl dX8_isPassedBy_51 ?_
    refine z_get E f_X8_13 0 rfl rfl dX8_isPassedBy_52 ?_
    refine z_if_le (tgt := 62) E (by omega) dX8_isPassedBy_55 (by decide) (fun h_55 => ?_) (fun h_55 => ?_)
    · refine z_iconst E dX8_isPassedBy_62 ?_
      refine z_ic_ne (tgt := 70) E (by omega) (by omega) dX8_isPassedBy_63 (by decide) (fun h => absurd h (by decide)) (fun _ => ?_)
      refine z_iconst E dX8_isPassedBy_66 ?_
      refine z_goto (tgt := 71) E dX8_isPassedBy_67 (by decide) ?_
      exact fin _ _ _ _ rfl (⟨Or.inl ⟨rfl, by rw [abv_iff]; omega⟩, rfl⟩) dX8_isPassedBy_71
    · refine z_iconst E dX8_isPassedBy_58 ?_
      refine z_goto (tgt := 63) E dX8_isPassedBy_59 (by decide) ?_
      refine z_ic_ne (tgt := 70) E (by omega) (by omega) dX8_isPassedBy_63 (by decide) (fun _ => ?_) (fun h => absurd h (by decide))
      refine z_iconst E dX8_isPassedBy_70 ?_
      exact fin _ _ _ _ rfl (⟨Or.inr ⟨rfl, by rw [abv_iff]; omega⟩, rfl⟩) dX8_isPassedBy_71
  · refine z_lload E 0 rfl dX8_isPassedBy_24 ?_
    refine z_lload E 0 rfl dX8_isPassedBy_26 ?_
    refine z_lmul E dX8_isPassedBy_28 ?_
    refine z_lload_n E 3 rfl rfl dX8_isPassedBy_29 ?_
    refine z_lload_n E 3 rfl rfl dX8_isPassedBy_30 ?_
    refine z_lmul E dX8_isPassedBy_31 ?_
    refine z_aload_n E 1 rfl rfl dX8_isPassedBy_32 ?_
    refine z_get E f_X8_7 0 rfl rfl dX8_isPassedBy_33 ?_
    refine z_i2l E (by omega) dX8_isPassedBy_36 ?_
    refine z_lmul E dX8_isPassedBy_37 ?_
    refine z_lc_le (tgt := 46) E (by omega) (by omega) dX8_isPassedBy_38 dX8_isPassedBy_39 (by decide) (fun h_38 => ?_) (fun h_38 => ?_)
    · refine z_iconst E dX8_isPassedBy_46 ?_
      refine z_istore (lv' := [(7, .int (zi 0)), (5, .long (zl ((q * n) - (p * m)))), (0, .ref h0), (1, .long (zl n)), (3, .long (zl m))]) E dX8_isPassedBy_47 (Nat.le_of_ble_eq_true rfl) rfl ?_
      refine z_iload E 0 rfl dX8_isPassedBy_49 ?_
      refine z_aload_n E 2 rfl rfl dX8_isPassedBy_51 ?_
      refine z_get E f_X8_13 0 rfl rfl dX8_isPassedBy_52 ?_
      refine z_if_le (tgt := 62) E (by omega) dX8_isPassedBy_55 (by decide) (fun h_55 => ?_) (fun h_55 => ?_)
      · refine z_iconst E dX8_isPassedBy_62 ?_
        refine z_ic_ne (tgt := 70) E (by omega) (by omega) dX8_isPassedBy_63 (by decide) (fun h => absurd h (by decide)) (fun _ => ?_)
        refine z_iconst E dX8_isPassedBy_66 ?_
        refine z_goto (tgt := 71) E dX8_isPassedBy_67 (by decide) ?_
        exact fin _ _ _ _ rfl (⟨Or.inl ⟨rfl, by rw [abv_iff]; omega⟩, rfl⟩) dX8_isPassedBy_71
      · refine z_iconst E dX8_isPassedBy_58 ?_
        refine z_goto (tgt := 63) E dX8_isPassedBy_59 (by decide) ?_
        refine z_ic_ne (tgt := 70) E (by omega) (by omega) dX8_isPassedBy_63 (by decide) (fun _ => ?_) (fun h => absurd h (by decide))
        refine z_iconst E dX8_isPassedBy_70 ?_
        exact fin _ _ _ _ rfl (⟨Or.inr ⟨rfl, by rw [abv_iff]; omega⟩, rfl⟩) dX8_isPassedBy_71
    · refine z_iconst E dX8_isPassedBy_42 ?_
      refine z_goto (tgt := 47) E dX8_isPassedBy_43 (by decide) ?_
      refine z_istore (lv' := [(7, .int (zi 1)), (5, .long (zl ((q * n) - (p * m)))), (0, .ref h0), (1, .long (zl n)), (3, .long (zl m))]) E dX8_isPassedBy_47 (Nat.le_of_ble_eq_true rfl) rfl ?_
      refine z_iload E 0 rfl dX8_isPassedBy_49 ?_
      refine z_aload_n E 2 rfl rfl dX8_isPassedBy_51 ?_
      refine z_get E f_X8_13 0 rfl rfl dX8_isPassedBy_52 ?_
      refine z_if_le (tgt := 62) E (by omega) dX8_isPassedBy_55 (by decide) (fun h_55 => ?_) (fun h_55 => ?_)
      · refine z_iconst E dX8_isPassedBy_62 ?_
        refine z_ic_ne (tgt := 70) E (by omega) (by omega) dX8_isPassedBy_63 (by decide) (fun _ => ?_) (fun h => absurd h (by decide))
        refine z_iconst E dX8_isPassedBy_70 ?_
        exact fin _ _ _ _ rfl (⟨Or.inr ⟨rfl, by rw [abv_iff]; omega⟩, rfl⟩) dX8_isPassedBy_71
      · refine z_iconst E dX8_isPassedBy_58 ?_
        refine z_goto (tgt := 63) E dX8_isPassedBy_59 (by decide) ?_
        refine z_ic_ne (tgt := 70) E (by omega) (by omega) dX8_isPassedBy_63 (by decide) (fun h => absurd h (by decide)) (fun _ => ?_)
        refine z_iconst E dX8_isPassedBy_66 ?_
        refine z_goto (tgt := 71) E dX8_isPassedBy_67 (by decide) ?_
        exact fin _ _ _ _ rfl (⟨Or.inl ⟨rfl, by rw [abv_iff]; omega⟩, rfl⟩) dX8_isPassedBy_71
abbrev rm_X8_isNearer : Room := { frames := 1, cells := 0, slots := 0, locals := 27 }
set_option maxRecDepth 100000 in
theorem c_X8_isNearer (l : Launch) (D : va_G) (κ : Nat → ClassId) (h0 : Nat) (p : Int) (d : Int) (q : Int) (a : Int) (b : Int) (c : Int) (e : Int) (hp : -99 ≤ p ∧ p ≤ 99) (hd : 2 ≤ d ∧ d ≤ 999) (hq : -99 ≤ q ∧ q ≤ 99) (h1 : okF a b) (h2 : okF c e) : ZI l yX8_isNearer cX8_isNearer 14 .boolean rm_X8_isNearer D κ [.ref h0, .long (zl a), .long (zl b), .long (zl c), .long (zl e)] [(h0, .inr (8, [.int (zi p), .int (zi d), .int (zi q)]))] (fun z w => ((1 = z ∧ (nrr p d q a b c e = true)) ∨ (0 = z ∧ ¬ (nrr p d q a b c e = true))) ∧ [(h0, .inr (8, [.int (zi p), .int (zi d), .int (zi q)]))] = w) := by
  refine ZI.enter (own := RX8) rfl pn_X8_isNearer (Nat.le_of_ble_eq_true rfl) (fun X E fin => ?_)
  show Zg X [(h0, .inr (8, [.int (zi p), .int (zi d), .int (zi q)]))] 0 0 0 [(0, .ref h0), (1, .long (zl a)), (3, .long (zl b)), (5, .long (zl c)), (7, .long (zl e))] []
  have b1 := okF_mul h1 h2
  unfold okF at h1 h2
  refine z_aload_n E 0 rfl rfl dX8_isNearer_0 ?_
  refine z_lload_n E 1 rfl rfl dX8_isNearer_1 ?_
  refine z_lload_n E 2 rfl rfl dX8_isNearer_2 ?_
  refine z_callVi (As := [.long (zl a), .long (zl b)]) (rest := []) (wr := []) E (c_X8_isPassedBy l D κ h0 p d q a b (by omega) (by omega) (by omega) (by omega) (by omega)) m_X8_19 ⟨Nat.le_of_ble_eq_true rfl, Nat.le_of_ble_eq_true rfl⟩ ⟨rfl, rfl⟩ [0] [] rfl rfl rfl rfl (by decide) rfl rfl rfl rfl (Nat.le_of_ble_eq_true rfl) dX8_isNearer_3 ⟨Nat.le_of_ble_eq_true rfl, Nat.le_of_ble_eq_true rfl⟩ (fun z3 w1 hq => ?_)
  obtain ⟨⟨rfl, hc_3⟩ | ⟨rfl, hc_3⟩, rfl⟩ := hq
  · refine z_istore (lv' := [(9, .int (zi 1)), (0, .ref h0), (1, .long (zl a)), (3, .long (zl b)), (5, .long (zl c)), (7, .long (zl e))]) E dX8_isNearer_6 (Nat.le_of_ble_eq_true rfl) rfl ?_
    refine z_lload_n E 2 rfl rfl dX8_isNearer_8 ?_
    refine z_lload E 5 rfl dX8_isNearer_9 ?_
    refine z_lmul E dX8_isNearer_11 ?_
    refine z_lstore (lv' := [(10, .long (zl (a * e))), (9, .int (zi 1)), (0, .ref h0), (1, .long (zl a)), (3, .long (zl b)), (5, .long (zl c)), (7, .long (zl e))]) E dX8_isNearer_12 (Nat.le_of_ble_eq_true rfl) rfl ?_
    refine z_lload E 5 rfl dX8_isNearer_14 ?_
    refine z_lload_n E 4 rfl rfl dX8_isNearer_16 ?_
    refine z_lmul E dX8_isNearer_17 ?_
    refine z_lstore (lv' := [(12, .long (zl (c * b))), (10, .long (zl (a * e))), (9, .int (zi 1)), (0, .ref h0), (1, .long (zl a)), (3, .long (zl b)), (5, .long (zl c)), (7, .long (zl e))]) E dX8_isNearer_18 (Nat.le_of_ble_eq_true rfl) rfl ?_
    refine z_iload E 2 rfl dX8_isNearer_20 ?_
    refine z_aload_n E 3 rfl rfl dX8_isNearer_22 ?_
    refine z_lload E 6 rfl dX8_isNearer_23 ?_
    refine z_lload E 7 rfl dX8_isNearer_25 ?_
    refine z_callVi (As := [.long (zl c), .long (zl e)]) (rest := [.int (zi 1)]) (wr := []) E (c_X8_isPassedBy l D κ h0 p d q c e (by omega) (by omega) (by omega) (by omega) (by omega)) m_X8_19 ⟨Nat.le_of_ble_eq_true rfl, Nat.le_of_ble_eq_true rfl⟩ ⟨rfl, rfl⟩ [0] [] rfl rfl rfl rfl (by decide) rfl rfl rfl rfl (Nat.le_of_ble_eq_true rfl) dX8_isNearer_27 ⟨Nat.le_of_ble_eq_true rfl, Nat.le_of_ble_eq_true rfl⟩ (fun z27 w1 hq => ?_)
    obtain ⟨⟨rfl, hc_27⟩ | ⟨rfl, hc_27⟩, rfl⟩ := hq
    · refine z_ic_ne (tgt := 68) E (by omega) (by omega) dX8_isNearer_30 (by decide) (fun h => absurd h (by decide)) (fun _ => ?_)
      refine z_iload E 2 rfl dX8_isNearer_33 ?_
      refine z_if_eq (tgt := 54) E (by omega) dX8_isNearer_35 (by decide) (fun h => absurd h (by decide)) (fun _ => ?_)
      refine z_lload E 1 rfl dX8_isNearer_38 ?_
      refine z_lload E 0 rfl dX8_isNearer_40 ?_
      refine z_lc_ge (tgt := 50) E (by omega) (by omega) dX8_isNearer_42 dX8_isNearer_43 (by decide) (fun h_42 => ?_) (fun h_42 => ?_)
      · refine z_iconst E dX8_isNearer_50 ?_
        refine z_goto (tgt := 67) E dX8_isNearer_51 (by decide) ?_
        exact fin _ _ _ _ rfl (⟨Or.inr ⟨rfl, by rw [nrr_tt hc_3 hc_27]; omega⟩, rfl⟩) dX8_isNearer_67
      · refine z_iconst E dX8_isNearer_46 ?_
        refine z_goto (tgt := 67) E dX8_isNearer_47 (by decide) ?_
        exact fin _ _ _ _ rfl (⟨Or.inl ⟨rfl, by rw [nrr_tt hc_3 hc_27]; omega⟩, rfl⟩) dX8_isNearer_67
    · refine z_ic_ne (tgt := 68) E (by omega) (by omega) dX8_isNearer_30 (by decide) (fun _ => ?_) (fun h => absurd h (by decide))
      refine z_iload E 2 rfl dX8_isNearer_68 ?_
      refine z_aload_n E 3 rfl rfl dX8_isNearer_70 ?_
      refine z_lload E 1 rfl dX8_isNearer_71 ?_
      refine z_lload E 0 rfl dX8_isNearer_73 ?_
      refine z_ladd E dX8_isNearer_75 ?_
      refine z_ldc2 E k_X8_23 dX8_isNearer_76 ?_
      refine z_lload_n E 5 rfl rfl dX8_isNearer_79 ?_
      refine z_lmul E dX8_isNearer_80 ?_
      refine z_lload E 7 rfl dX8_isNearer_81 ?_
      refine z_lmul E dX8_isNearer_83 ?_
      refine z_callVi (As := [.long (zl ((a * e) + (c * b))), .long (zl ((2 * b) * e))]) (rest := [.int (zi 1)]) (wr := []) E (c_X8_isPassedBy l D κ h0 p d q ((a * e) + (c * b)) ((2 * b) * e) (by omega) (by omega) (by omega) (by omega) (by omega)) m_X8_19 ⟨Nat.le_of_ble_eq_true rfl, Nat.le_of_ble_eq_true rfl⟩ ⟨rfl, rfl⟩ [0] [] rfl rfl rfl rfl (by decide) rfl rfl rfl rfl (Nat.le_of_ble_eq_true rfl) dX8_isNearer_84 ⟨Nat.le_of_ble_eq_true rfl, Nat.le_of_ble_eq_true rfl⟩ (fun z84 w1 hq => ?_)
      obtain ⟨⟨rfl, hc_84⟩ | ⟨rfl, hc_84⟩, rfl⟩ := hq
      · refine z_ic_eq (tgt := 94) E (by omega) (by omega) dX8_isNearer_87 (by decide) (fun _ => ?_) (fun h => absurd h (by decide))
        refine z_iconst E dX8_isNearer_94 ?_
        exact fin _ _ _ _ rfl (⟨Or.inr ⟨rfl, by rw [nrr_tf hc_3 hc_27]; simpa using hc_84⟩, rfl⟩) dX8_isNearer_95
      · refine z_ic_eq (tgt := 94) E (by omega) (by omega) dX8_isNearer_87 (by decide) (fun h => absurd h (by decide)) (fun _ => ?_)
        refine z_iconst E dX8_isNearer_90 ?_
        refine z_goto (tgt := 95) E dX8_isNearer_91 (by decide) ?_
        exact fin _ _ _ _ rfl (⟨Or.inl ⟨rfl, by rw [nrr_tf hc_3 hc_27]; simpa using hc_84⟩, rfl⟩) dX8_isNearer_95
  · refine z_istore (lv' := [(9, .int (zi 0)), (0, .ref h0), (1, .long (zl a)), (3, .long (zl b)), (5, .long (zl c)), (7, .long (zl e))]) E dX8_isNearer_6 (Nat.le_of_ble_eq_true rfl) rfl ?_
    refine z_lload_n E 2 rfl rfl dX8_isNearer_8 ?_
    refine z_lload E 5 rfl dX8_isNearer_9 ?_
    refine z_lmul E dX8_isNearer_11 ?_
    refine z_lstore (lv' := [(10, .long (zl (a * e))), (9, .int (zi 0)), (0, .ref h0), (1, .long (zl a)), (3, .long (zl b)), (5, .long (zl c)), (7, .long (zl e))]) E dX8_isNearer_12 (Nat.le_of_ble_eq_true rfl) rfl ?_
    refine z_lload E 5 rfl dX8_isNearer_14 ?_
    refine z_lload_n E 4 rfl rfl dX8_isNearer_16 ?_
    refine z_lmul E dX8_isNearer_17 ?_
    refine z_lstore (lv' := [(12, .long (zl (c * b))), (10, .long (zl (a * e))), (9, .int (zi 0)), (0, .ref h0), (1, .long (zl a)), (3, .long (zl b)), (5, .long (zl c)), (7, .long (zl e))]) E dX8_isNearer_18 (Nat.le_of_ble_eq_true rfl) rfl ?_
    refine z_iload E 2 rfl dX8_isNearer_20 ?_
    refine z_aload_n E 3 rfl rfl dX8_isNearer_22 ?_
    refine z_lload E 6 rfl dX8_isNearer_23 ?_
    refine z_lload E 7 rfl dX8_isNearer_25 ?_
    refine z_callVi (As := [.long (zl c), .long (zl e)]) (rest := [.int (zi 0)]) (wr := []) E (c_X8_isPassedBy l D κ h0 p d q c e (by omega) (by omega) (by omega) (by omega) (by omega)) m_X8_19 ⟨Nat.le_of_ble_eq_true rfl, Nat.le_of_ble_eq_true rfl⟩ ⟨rfl, rfl⟩ [0] [] rfl rfl rfl rfl (by decide) rfl rfl rfl rfl (Nat.le_of_ble_eq_true rfl) dX8_isNearer_27 ⟨Nat.le_of_ble_eq_true rfl, Nat.le_of_ble_eq_true rfl⟩ (fun z27 w1 hq => ?_)
    obtain ⟨⟨rfl, hc_27⟩ | ⟨rfl, hc_27⟩, rfl⟩ := hq
    · refine z_ic_ne (tgt := 68) E (by omega) (by omega) dX8_isNearer_30 (by decide) (fun _ => ?_) (fun h => absurd h (by decide))
      refine z_iload E 2 rfl dX8_isNearer_68 ?_
      refine z_aload_n E 3 rfl rfl dX8_isNearer_70 ?_
      refine z_lload E 1 rfl dX8_isNearer_71 ?_
      refine z_lload E 0 rfl dX8_isNearer_73 ?_
      refine z_ladd E dX8_isNearer_75 ?_
      refine z_ldc2 E k_X8_23 dX8_isNearer_76 ?_
      refine z_lload_n E 5 rfl rfl dX8_isNearer_79 ?_
      refine z_lmul E dX8_isNearer_80 ?_
      refine z_lload E 7 rfl dX8_isNearer_81 ?_
      refine z_lmul E dX8_isNearer_83 ?_
      refine z_callVi (As := [.long (zl ((a * e) + (c * b))), .long (zl ((2 * b) * e))]) (rest := [.int (zi 0)]) (wr := []) E (c_X8_isPassedBy l D κ h0 p d q ((a * e) + (c * b)) ((2 * b) * e) (by omega) (by omega) (by omega) (by omega) (by omega)) m_X8_19 ⟨Nat.le_of_ble_eq_true rfl, Nat.le_of_ble_eq_true rfl⟩ ⟨rfl, rfl⟩ [0] [] rfl rfl rfl rfl (by decide) rfl rfl rfl rfl (Nat.le_of_ble_eq_true rfl) dX8_isNearer_84 ⟨Nat.le_of_ble_eq_true rfl, Nat.le_of_ble_eq_true rfl⟩ (fun z84 w1 hq => ?_)
      obtain ⟨⟨rfl, hc_84⟩ | ⟨rfl, hc_84⟩, rfl⟩ := hq
      · refine z_ic_eq (tgt := 94) E (by omega) (by omega) dX8_isNearer_87 (by decide) (fun h => absurd h (by decide)) (fun _ => ?_)
        refine z_iconst E dX8_isNearer_90 ?_
        refine z_goto (tgt := 95) E dX8_isNearer_91 (by decide) ?_
        exact fin _ _ _ _ rfl (⟨Or.inl ⟨rfl, by rw [nrr_ft hc_3 hc_27]; simpa using hc_84⟩, rfl⟩) dX8_isNearer_95
      · refine z_ic_eq (tgt := 94) E (by omega) (by omega) dX8_isNearer_87 (by decide) (fun _ => ?_) (fun h => absurd h (by decide))
        refine z_iconst E dX8_isNearer_94 ?_
        exact fin _ _ _ _ rfl (⟨Or.inr ⟨rfl, by rw [nrr_ft hc_3 hc_27]; simpa using hc_84⟩, rfl⟩) dX8_isNearer_95
    · refine z_ic_ne (tgt := 68) E (by omega) (by omega) dX8_isNearer_30 (by decide) (fun h => absurd h (by decide)) (fun _ => ?_)
      refine z_iload E 2 rfl dX8_isNearer_33 ?_
      refine z_if_eq (tgt := 54) E (by omega) dX8_isNearer_35 (by decide) (fun _ => ?_) (fun h => absurd h (by decide))
      refine z_lload E 1 rfl dX8_isNearer_54 ?_
      refine z_lload E 0 rfl dX8_isNearer_56 ?_
      refine z_lc_le (tgt := 66) E (by omega) (by omega) dX8_isNearer_58 dX8_isNearer_59 (by decide) (fun h_58 => ?_) (fun h_58 => ?_)
      · refine z_iconst E dX8_isNearer_66 ?_
        exact fin _ _ _ _ rfl (⟨Or.inr ⟨rfl, by rw [nrr_ff hc_3 hc_27]; omega⟩, rfl⟩) dX8_isNearer_67
      · refine z_iconst E dX8_isNearer_62 ?_
        refine z_goto (tgt := 67) E dX8_isNearer_63 (by decide) ?_
        exact fin _ _ _ _ rfl (⟨Or.inl ⟨rfl, by rw [nrr_ff hc_3 hc_27]; omega⟩, rfl⟩) dX8_isNearer_67
abbrev rm_X0_init : Room := { frames := 1, cells := 2, slots := 16, locals := 12 }
set_option maxRecDepth 100000 in
theorem c_X0_init (l : Launch) (D : va_G) (κ : Nat → ClassId) (h0 : Nat)  : ZV l yX0_init cX0_init 1 rm_X0_init D κ [.ref h0] [(h0, .inr (0, [.null, .null, .int (zi 0)]))] (fun w => ∃ hu : Nat, ∃ hl : Nat, [(h0, .inr (0, [.ref hu, .ref hl, .int (zi 0)])), (hu, ai κ 8 (fun _ => 0)), (hl, ai κ 8 (fun _ => 0))] = w) := by
  refine ZV.enter0 (own := RX0) rfl pn_X0_init (Nat.le_of_ble_eq_true rfl) (fun X E hini fin => ?_)
  have hini := hini rfl
  show Zg X [(h0, .inr (0, [.null, .null, .int (zi 0)]))] 0 0 0 [(0, .ref h0)] []
  refine z_aload_n E 0 rfl rfl dX0_init_0 ?_
  refine z_objInit E m_X0_3 in_obj co_obj (Nat.le_of_ble_eq_true rfl) (Nat.le_of_ble_eq_true rfl) dX0_init_1 ?_
  refine z_aload_n E 0 rfl rfl dX0_init_4 ?_
  refine z_bipush E dX0_init_5 (by decide) ?_
  refine z_newa_ai (N := 8) E (Nat.le_of_ble_eq_true rfl) ac_int (Nat.le_of_ble_eq_true rfl) (Nat.le_of_ble_eq_true rfl) dX0_init_7 (fun q1 => ?_)
  show Zg X [(h0, .inr (0, [.null, .null, .int (zi 0)])), (q1, ai κ 8 (fun _ => 0))] 1 8 9 [(0, .ref h0)] [.ref q1, .ref h0]
  refine z_putF (ws' := [(h0, .inr (0, [.ref q1, .null, .int (zi 0)])), (q1, ai κ 8 (fun _ => 0))]) E hini f_X0_9 t_X0_0 (fun q h => by cases h; rfl) 0 rfl rfl rfl (Nat.le_of_ble_eq_true rfl) rfl dX0_init_9 ?_
  refine z_aload_n E 0 rfl rfl dX0_init_12 ?_
  refine z_bipush E dX0_init_13 (by decide) ?_
  refine z_newa_ai (N := 8) E (Nat.le_of_ble_eq_true rfl) ac_int (Nat.le_of_ble_eq_true rfl) (Nat.le_of_ble_eq_true rfl) dX0_init_15 (fun q2 => ?_)
  show Zg X [(h0, .inr (0, [.ref q1, .null, .int (zi 0)])), (q1, ai κ 8 (fun _ => 0)), (q2, ai κ 8 (fun _ => 0))] 2 16 17 [(0, .ref h0)] [.ref q2, .ref h0]
  refine z_putF (ws' := [(h0, .inr (0, [.ref q1, .ref q2, .int (zi 0)])), (q1, ai κ 8 (fun _ => 0)), (q2, ai κ 8 (fun _ => 0))]) E hini f_X0_15 t_X0_1 (fun q h => by cases h; rfl) 0 rfl rfl rfl (Nat.le_of_ble_eq_true rfl) rfl dX0_init_17 ?_
  exact fin _ _ _ (by first | exact ⟨_, _, rfl⟩ | omega) dX0_init_20
abbrev rm_X0_has : Room := { frames := 1, cells := 0, slots := 0, locals := 21 }
set_option maxRecDepth 100000 in
theorem c_X0_has (l : Launch) (D : va_G) (κ : Nat → ClassId) (h0 : Nat) (hu : Nat) (hl : Nat) (n : Int) (u : Int → Int) (lo : Int → Int) (a : Int) (b : Int) (hn : 0 ≤ n ∧ n ≤ 8) (hB : ∀ i : Int, 0 ≤ i → i < n → okF (u i) (lo i)) (ha : -9000000000000000 ≤ a ∧ a ≤ 9000000000000000) (hb : -9000000000000000 ≤ b ∧ b ≤ 9000000000000000) : ZI l yX0_has cX0_has 6 .boolean rm_X0_has D κ [.ref h0, .long (zl a), .long (zl b)] [(h0, .inr (0, [.ref hu, .ref hl, .int (zi n)])), (hu, ai κ 8 u), (hl, ai κ 8 lo)] (fun z w => ((1 = z ∧ (∃ i : Int, 0 ≤ i ∧ i < n ∧ u i = a ∧ lo i = b)) ∨ (0 = z ∧ ¬ (∃ i : Int, 0 ≤ i ∧ i < n ∧ u i = a ∧ lo i = b))) ∧ [(h0, .inr (0, [.ref hu, .ref hl, .int (zi n)])), (hu, ai κ 8 u), (hl, ai κ 8 lo)] = w) := by
  refine ZI.enter (own := RX0) rfl pn_X0_has (Nat.le_of_ble_eq_true rfl) (fun X E fin => ?_)
  show Zg X [(h0, .inr (0, [.ref hu, .ref hl, .int (zi n)])), (hu, ai κ 8 u), (hl, ai κ 8 lo)] 0 0 0 [(0, .ref h0), (1, .long (zl a)), (3, .long (zl b))] []
  refine z_iconst E dX0_has_0 ?_
  refine z_istore (lv' := [(5, .int (zi 0)), (0, .ref h0), (1, .long (zl a)), (3, .long (zl b))]) E dX0_has_1 (Nat.le_of_ble_eq_true rfl) rfl ?_
  have lp_3 : ∀ (n_3 : Nat) (i : Int), (0 ≤ i ∧ i ≤ n) → (∀ k : Int, 0 ≤ k → k < i → ¬ (u k = a ∧ lo k = b)) → (n - i) < (n_3 : Int) → Zg X [(h0, .inr (0, [.ref hu, .ref hl, .int (zi n)])), (hl, ai κ 8 lo), (hu, ai κ 8 u)] 0 0 3 [(0, .ref h0), (1, .long (zl a)), (3, .long (zl b)), (5, .int (zi i))] [] := by
    intro n_3
    induction n_3 with
    | zero =>
      intro i i1 i2 hmu
      exact absurd hmu (by omega)
    | succ n_3 ih_3 =>
      intro i i1 i2 hmu_3
      refine z_iload E 3 rfl dX0_has_3 ?_
      refine z_aload_n E 0 rfl rfl dX0_has_5 ?_
      refine z_get E f_X0_18 0 rfl rfl dX0_has_6 ?_
      refine z_ic_ge (tgt := 44) E (by omega) (by omega) dX0_has_9 (by decide) (fun h_9 => ?_) (fun h_9 => ?_)
      · refine z_iconst E dX0_has_44 ?_
        refine Zg.perm (ws' := [(h0, .inr (0, [.ref hu, .ref hl, .int (zi n)])), (hu, ai κ 8 u), (hl, ai κ 8 lo)]) [0, 2, 1] rfl rfl ?_
        exact fin _ _ _ _ rfl (⟨Or.inr ⟨rfl, fun ⟨k, k1, k2, k3, k4⟩ => i2 k k1 (by omega) ⟨k3, k4⟩⟩, rfl⟩) dX0_has_45
      · have hk := hB i (by omega) (by omega)
        unfold okF at hk
        refine z_aload_n E 0 rfl rfl dX0_has_12 ?_
        refine z_iload E 3 rfl dX0_has_13 ?_
        refine z_callVi (As := [.int (zi i)]) (rest := []) (wr := [(hl, ai κ 8 lo)]) E (c_X0_upperAt l D κ h0 hu hl n u i (by omega)) m_X0_22 ⟨Nat.le_of_ble_eq_true rfl, Nat.le_of_ble_eq_true rfl⟩ ⟨rfl, rfl⟩ [0, 2] [1] rfl rfl rfl rfl (by decide) rfl rfl rfl rfl (Nat.le_of_ble_eq_true rfl) dX0_has_15 ⟨Nat.le_of_ble_eq_true rfl, Nat.le_of_ble_eq_true rfl⟩ (fun z15 w1 hq => ?_)
        obtain ⟨rfl, rfl⟩ := hq
        refine z_i2l E (by omega) dX0_has_18 ?_
        refine z_lload_n E 1 rfl rfl dX0_has_19 ?_
        refine z_lc_ne (tgt := 38) E (by omega) (by omega) dX0_has_20 dX0_has_21 (by decide) (fun h_20 => ?_) (fun h_20 => ?_)
        · refine z_iinc (lv' := [(5, .int (zi (i + 1))), (0, .ref h0), (1, .long (zl a)), (3, .long (zl b))]) E 3 rfl dX0_has_38 (Nat.le_of_ble_eq_true rfl) rfl ?_
          refine z_goto (tgt := 3) E dX0_has_41 (by decide) ?_
          refine Zg.sub (lv' := [(0, .ref h0), (1, .long (zl a)), (3, .long (zl b)), (5, .int (zi (i + 1)))]) [1, 2, 3, 0] rfl ?_
          refine Zg.perm (ws' := [(h0, .inr (0, [.ref hu, .ref hl, .int (zi n)])), (hl, ai κ 8 lo), (hu, ai κ 8 u)]) [1, 0, 2] rfl rfl ?_
          exact ih_3 (i + 1) (by omega) (lt_si i2 (by omega)) (by omega)
        · refine z_aload_n E 0 rfl rfl dX0_has_24 ?_
          refine z_iload E 3 rfl dX0_has_25 ?_
          refine z_callVi (As := [.int (zi i)]) (rest := []) (wr := [(hu, ai κ 8 u)]) E (c_X0_lowerAt l D κ h0 hu hl n lo i (by omega)) m_X0_26 ⟨Nat.le_of_ble_eq_true rfl, Nat.le_of_ble_eq_true rfl⟩ ⟨rfl, rfl⟩ [1, 0] [2] rfl rfl rfl rfl (by decide) rfl rfl rfl rfl (Nat.le_of_ble_eq_true rfl) dX0_has_27 ⟨Nat.le_of_ble_eq_true rfl, Nat.le_of_ble_eq_true rfl⟩ (fun z27 w1 hq => ?_)
          obtain ⟨rfl, rfl⟩ := hq
          refine z_i2l E (by omega) dX0_has_30 ?_
          refine z_lload_n E 2 rfl rfl dX0_has_31 ?_
          refine z_lc_ne (tgt := 38) E (by omega) (by omega) dX0_has_32 dX0_has_33 (by decide) (fun h_32 => ?_) (fun h_32 => ?_)
          · refine z_iinc (lv' := [(5, .int (zi (i + 1))), (0, .ref h0), (1, .long (zl a)), (3, .long (zl b))]) E 3 rfl dX0_has_38 (Nat.le_of_ble_eq_true rfl) rfl ?_
            refine z_goto (tgt := 3) E dX0_has_41 (by decide) ?_
            refine Zg.sub (lv' := [(0, .ref h0), (1, .long (zl a)), (3, .long (zl b)), (5, .int (zi (i + 1)))]) [1, 2, 3, 0] rfl ?_
            refine Zg.perm (ws' := [(h0, .inr (0, [.ref hu, .ref hl, .int (zi n)])), (hl, ai κ 8 lo), (hu, ai κ 8 u)]) [1, 2, 0] rfl rfl ?_
            exact ih_3 (i + 1) (by omega) (lt_si i2 (by omega)) (by omega)
          · refine z_iconst E dX0_has_36 ?_
            refine Zg.perm (ws' := [(h0, .inr (0, [.ref hu, .ref hl, .int (zi n)])), (hu, ai κ 8 u), (hl, ai κ 8 lo)]) [1, 0, 2] rfl rfl ?_
            exact fin _ _ _ _ rfl (⟨Or.inl ⟨rfl, ⟨i, by omega, by omega, by omega, by omega⟩⟩, rfl⟩) dX0_has_37
  refine Zg.sub (lv' := [(0, .ref h0), (1, .long (zl a)), (3, .long (zl b)), (5, .int (zi 0))]) [1, 2, 3, 0] rfl ?_
  refine Zg.perm (ws' := [(h0, .inr (0, [.ref hu, .ref hl, .int (zi n)])), (hl, ai κ 8 lo), (hu, ai κ 8 u)]) [0, 2, 1] rfl rfl ?_
  exact lp_3 ((n - 0 : Int).toNat + 1) 0 (by omega) (fun k h1 h2 => absurd h2 (by omega)) (by omega)
abbrev rm_X0_add : Room := { frames := 2, cells := 0, slots := 0, locals := 60 }
set_option maxRecDepth 100000 in
theorem c_X0_add (l : Launch) (D : va_G) (κ : Nat → ClassId) (h0 : Nat) (hu : Nat) (hl : Nat) (n : Int) (u : Int → Int) (lo : Int → Int) (h1 : Nat) (p : Int) (d : Int) (q : Int) (a : Int) (b : Int) (hn : 0 ≤ n ∧ n ≤ 7) (hB : ∀ i : Int, 0 ≤ i → i < n → okF (u i) (lo i)) (hp : -99 ≤ p ∧ p ≤ 99) (hd : 2 ≤ d ∧ d ≤ 999) (hq : -99 ≤ q ∧ q ≤ 99) (hab : okF a b) : ZI l yX0_add cX0_add 5 .int rm_X0_add D κ [.ref h0, .ref h1, .int (zi a), .int (zi b)] [(h0, .inr (0, [.ref hu, .ref hl, .int (zi n)])), (hu, ai κ 8 u), (hl, ai κ 8 lo), (h1, .inr (8, [.int (zi p), .int (zi d), .int (zi q)]))] (fun z w => ∃ u' : Int → Int, ∃ lo' : Int → Int, ∃ j : Int, (insP p d q a b n u lo u' lo' j) ∧ j = z ∧ [(h0, .inr (0, [.ref hu, .ref hl, .int (zi (n + 1))])), (hu, ai κ 8 u'), (hl, ai κ 8 lo'), (h1, .inr (8, [.int (zi p), .int (zi d), .int (zi q)]))] = w) := by
  refine ZI.enter (own := RX0) rfl pn_X0_add (Nat.le_of_ble_eq_true rfl) (fun X E fin => ?_)
  show Zg X [(h0, .inr (0, [.ref hu, .ref hl, .int (zi n)])), (hu, ai κ 8 u), (hl, ai κ 8 lo), (h1, .inr (8, [.int (zi p), .int (zi d), .int (zi q)]))] 0 0 0 [(0, .ref h0), (1, .ref h1), (2, .int (zi a)), (3, .int (zi b))] []
  refine z_aload_n E 0 rfl rfl dX0_add_0 ?_
  refine z_get E f_X0_18 0 rfl rfl dX0_add_1 ?_
  refine z_istore (lv' := [(4, .int (zi n)), (0, .ref h0), (1, .ref h1), (2, .int (zi a)), (3, .int (zi b))]) E dX0_add_4 (Nat.le_of_ble_eq_true rfl) rfl ?_
  have lp_6 : ∀ (n_6 : Nat) (j : Int) (v : Int → Int) (w : Int → Int), (insQ p d q a b n u lo v w j) → (j) < (n_6 : Int) → Zg X [(h0, .inr (0, [.ref hu, .ref hl, .int (zi n)])), (h1, .inr (8, [.int (zi p), .int (zi d), .int (zi q)])), (hl, ai κ 8 w), (hu, ai κ 8 v)] 0 0 6 [(0, .ref h0), (1, .ref h1), (2, .int (zi a)), (3, .int (zi b)), (4, .int (zi j))] [] := by
    intro n_6
    induction n_6 with
    | zero =>
      intro j v w i1 hmu
      exact absurd hmu (by have := i1.1; omega)
    | succ n_6 ih_6 =>
      intro j v w i1 hmu_6
      have hj1 := i1.1
      have hj2 := i1.2.1
      refine z_iload E 4 rfl dX0_add_6 ?_
      refine z_if_le (tgt := 68) E (by omega) dX0_add_8 (by decide) (fun h_8 => ?_) (fun h_8 => ?_)
      · refine z_aload_n E 0 rfl rfl dX0_add_68 ?_
        refine z_iload E 4 rfl dX0_add_69 ?_
        refine z_iload_n E 2 rfl rfl dX0_add_71 ?_
        refine z_iload_n E 3 rfl rfl dX0_add_72 ?_
        refine z_callVv (As := [.int (zi j), .int (zi a), .int (zi b)]) (rest := []) (wr := [(h1, .inr (8, [.int (zi p), .int (zi d), .int (zi q)]))]) E (c_X0_put l D κ h0 hu hl n v w j a b (by omega)) m_X0_35 ⟨Nat.le_of_ble_eq_true rfl, Nat.le_of_ble_eq_true rfl⟩ ⟨rfl, rfl⟩ [0, 3, 2] [1] rfl rfl rfl rfl (by decide) rfl rfl rfl rfl (Nat.le_of_ble_eq_true rfl) dX0_add_73 ⟨Nat.le_of_ble_eq_true rfl, Nat.le_of_ble_eq_true rfl⟩ (fun  w1 hq => ?_)
        obtain rfl := hq
        refine z_aload_n E 0 rfl rfl dX0_add_76 ?_
        refine z_dup E rfl dX0_add_77 ?_
        refine z_get E f_X0_18 1 rfl rfl dX0_add_78 ?_
        refine z_iconst E dX0_add_81 ?_
        refine z_iadd E dX0_add_82 ?_
        refine z_put (ws' := [(h1, .inr (8, [.int (zi p), .int (zi d), .int (zi q)])), (h0, .inr (0, [.ref hu, .ref hl, .int (zi (n + 1))])), (hu, ai κ 8 (zu v j a)), (hl, ai κ 8 (zu w j b))]) E f_X0_18 t_X0_2 1 rfl rfl rfl (Nat.le_of_ble_eq_true rfl) rfl dX0_add_83 ?_
        refine z_iload E 4 rfl dX0_add_86 ?_
        refine Zg.perm (ws' := [(h0, .inr (0, [.ref hu, .ref hl, .int (zi (n + 1))])), (hu, ai κ 8 (zu v j a)), (hl, ai κ 8 (zu w j b)), (h1, .inr (8, [.int (zi p), .int (zi d), .int (zi q)]))]) [1, 2, 3, 0] rfl rfl ?_
        exact fin _ _ _ _ rfl (⟨_, _, _, insQ_end i1 (Or.inl (by omega)), rfl, rfl⟩) dX0_add_88
      · have hk := i1.2.2.1 (j - 1) (by omega) (by omega)
        have hok := hB (j - 1) (by omega) (by omega)
        rw [← hk.1, ← hk.2] at hok
        have hok2 := hok
        unfold okF at hok
        have hab2 := hab
        unfold okF at hab2
        refine z_aload_n E 1 rfl rfl dX0_add_11 ?_
        refine z_iload_n E 2 rfl rfl dX0_add_12 ?_
        refine z_i2l E (by omega) dX0_add_13 ?_
        refine z_iload_n E 3 rfl rfl dX0_add_14 ?_
        refine z_i2l E (by omega) dX0_add_15 ?_
        refine z_aload_n E 0 rfl rfl dX0_add_16 ?_
        refine z_iload E 4 rfl dX0_add_17 ?_
        refine z_iconst E dX0_add_19 ?_
        refine z_isub E dX0_add_20 ?_
        refine z_callVi (As := [.int (zi (j - 1))]) (rest := [.long (zl b), .long (zl a), .ref h1]) (wr := [(h1, .inr (8, [.int (zi p), .int (zi d), .int (zi q)])), (hl, ai κ 8 w)]) E (c_X0_upperAt l D κ h0 hu hl n v (j - 1) (by omega)) m_X0_22 ⟨Nat.le_of_ble_eq_true rfl, Nat.le_of_ble_eq_true rfl⟩ ⟨rfl, rfl⟩ [0, 3] [1, 2] rfl rfl rfl rfl (by decide) rfl rfl rfl rfl (Nat.le_of_ble_eq_true rfl) dX0_add_21 ⟨Nat.le_of_ble_eq_true rfl, Nat.le_of_ble_eq_true rfl⟩ (fun z21 w1 hq => ?_)
        obtain ⟨rfl, rfl⟩ := hq
        refine z_i2l E (by omega) dX0_add_24 ?_
        refine z_aload_n E 0 rfl rfl dX0_add_25 ?_
        refine z_iload E 4 rfl dX0_add_26 ?_
        refine z_iconst E dX0_add_28 ?_
        refine z_isub E dX0_add_29 ?_
        refine z_callVi (As := [.int (zi (j - 1))]) (rest := [.long (zl (v (j - 1))), .long (zl b), .long (zl a), .ref h1]) (wr := [(h1, .inr (8, [.int (zi p), .int (zi d), .int (zi q)])), (hu, ai κ 8 v)]) E (c_X0_lowerAt l D κ h0 hu hl n w (j - 1) (by omega)) m_X0_26 ⟨Nat.le_of_ble_eq_true rfl, Nat.le_of_ble_eq_true rfl⟩ ⟨rfl, rfl⟩ [2, 1] [0, 3] rfl rfl rfl rfl (by decide) rfl rfl rfl rfl (Nat.le_of_ble_eq_true rfl) dX0_add_30 ⟨Nat.le_of_ble_eq_true rfl, Nat.le_of_ble_eq_true rfl⟩ (fun z30 w1 hq => ?_)
        obtain ⟨rfl, rfl⟩ := hq
        refine z_i2l E (by omega) dX0_add_33 ?_
        refine z_callVi (As := [.long (zl a), .long (zl b), .long (zl (v (j - 1))), .long (zl (w (j - 1)))]) (rest := []) (wr := [(hu, ai κ 8 v), (h0, .inr (0, [.ref hu, .ref hl, .int (zi n)])), (hl, ai κ 8 w)]) E (c_X8_isNearer l D κ h1 p d q a b (v (j - 1)) (w (j - 1)) (by omega) (by omega) (by omega) (hab) (hok2)) m_X0_29 ⟨Nat.le_of_ble_eq_true rfl, Nat.le_of_ble_eq_true rfl⟩ ⟨rfl, rfl⟩ [0] [1, 2, 3] rfl rfl rfl rfl (by decide) rfl rfl rfl rfl (Nat.le_of_ble_eq_true rfl) dX0_add_34 ⟨Nat.le_of_ble_eq_true rfl, Nat.le_of_ble_eq_true rfl⟩ (fun z34 w1 hq => ?_)
        obtain ⟨⟨rfl, hc_34⟩ | ⟨rfl, hc_34⟩, rfl⟩ := hq
        · refine z_if_eq (tgt := 68) E (by omega) dX0_add_37 (by decide) (fun h => absurd h (by decide)) (fun _ => ?_)
          refine z_aload_n E 0 rfl rfl dX0_add_40 ?_
          refine z_iload E 4 rfl dX0_add_41 ?_
          refine z_aload_n E 0 rfl rfl dX0_add_43 ?_
          refine z_iload E 4 rfl dX0_add_44 ?_
          refine z_iconst E dX0_add_46 ?_
          refine z_isub E dX0_add_47 ?_
          refine z_callVi (As := [.int (zi (j - 1))]) (rest := [.int (zi j), .ref h0]) (wr := [(hl, ai κ 8 w), (h1, .inr (8, [.int (zi p), .int (zi d), .int (zi q)]))]) E (c_X0_upperAt l D κ h0 hu hl n v (j - 1) (by omega)) m_X0_22 ⟨Nat.le_of_ble_eq_true rfl, Nat.le_of_ble_eq_true rfl⟩ ⟨rfl, rfl⟩ [1, 0] [2, 3] rfl rfl rfl rfl (by decide) rfl rfl rfl rfl (Nat.le_of_ble_eq_true rfl) dX0_add_48 ⟨Nat.le_of_ble_eq_true rfl, Nat.le_of_ble_eq_true rfl⟩ (fun z48 w1 hq => ?_)
          obtain ⟨rfl, rfl⟩ := hq
          refine z_aload_n E 0 rfl rfl dX0_add_51 ?_
          refine z_iload E 4 rfl dX0_add_52 ?_
          refine z_iconst E dX0_add_54 ?_
          refine z_isub E dX0_add_55 ?_
          refine z_callVi (As := [.int (zi (j - 1))]) (rest := [.int (zi (v (j - 1))), .int (zi j), .ref h0]) (wr := [(h1, .inr (8, [.int (zi p), .int (zi d), .int (zi q)])), (hu, ai κ 8 v)]) E (c_X0_lowerAt l D κ h0 hu hl n w (j - 1) (by omega)) m_X0_26 ⟨Nat.le_of_ble_eq_true rfl, Nat.le_of_ble_eq_true rfl⟩ ⟨rfl, rfl⟩ [2, 0] [1, 3] rfl rfl rfl rfl (by decide) rfl rfl rfl rfl (Nat.le_of_ble_eq_true rfl) dX0_add_56 ⟨Nat.le_of_ble_eq_true rfl, Nat.le_of_ble_eq_true rfl⟩ (fun z56 w1 hq => ?_)
          obtain ⟨rfl, rfl⟩ := hq
          refine z_callVv (As := [.int (zi j), .int (zi (v (j - 1))), .int (zi (w (j - 1)))]) (rest := []) (wr := [(h1, .inr (8, [.int (zi p), .int (zi d), .int (zi q)]))]) E (c_X0_put l D κ h0 hu hl n v w j (v (j - 1)) (w (j - 1)) (by omega)) m_X0_35 ⟨Nat.le_of_ble_eq_true rfl, Nat.le_of_ble_eq_true rfl⟩ ⟨rfl, rfl⟩ [2, 1, 3] [0] rfl rfl rfl rfl (by decide) rfl rfl rfl rfl (Nat.le_of_ble_eq_true rfl) dX0_add_59 ⟨Nat.le_of_ble_eq_true rfl, Nat.le_of_ble_eq_true rfl⟩ (fun  w1 hq => ?_)
          obtain rfl := hq
          refine z_iinc (lv' := [(4, .int (zi (j + (-1)))), (0, .ref h0), (1, .ref h1), (2, .int (zi a)), (3, .int (zi b))]) E 4 rfl dX0_add_62 (Nat.le_of_ble_eq_true rfl) rfl ?_
          refine z_goto (tgt := 6) E dX0_add_65 (by decide) ?_
          refine Zg.sub (lv' := [(0, .ref h0), (1, .ref h1), (2, .int (zi a)), (3, .int (zi b)), (4, .int (zi (j + (-1))))]) [1, 2, 3, 4, 0] rfl ?_
          refine Zg.perm (ws' := [(h0, .inr (0, [.ref hu, .ref hl, .int (zi n)])), (h1, .inr (8, [.int (zi p), .int (zi d), .int (zi q)])), (hl, ai κ 8 (zu w j (w (j - 1)))), (hu, ai κ 8 (zu v j (v (j - 1))))]) [1, 0, 3, 2] rfl rfl ?_
          exact ih_6 (j + (-1)) (zu v j (v (j - 1))) (zu w j (w (j - 1))) (insQ_s i1 (by omega) hc_34) (by omega)
        · refine z_if_eq (tgt := 68) E (by omega) dX0_add_37 (by decide) (fun _ => ?_) (fun h => absurd h (by decide))
          refine z_aload_n E 0 rfl rfl dX0_add_68 ?_
          refine z_iload E 4 rfl dX0_add_69 ?_
          refine z_iload_n E 2 rfl rfl dX0_add_71 ?_
          refine z_iload_n E 3 rfl rfl dX0_add_72 ?_
          refine z_callVv (As := [.int (zi j), .int (zi a), .int (zi b)]) (rest := []) (wr := [(h1, .inr (8, [.int (zi p), .int (zi d), .int (zi q)]))]) E (c_X0_put l D κ h0 hu hl n v w j a b (by omega)) m_X0_35 ⟨Nat.le_of_ble_eq_true rfl, Nat.le_of_ble_eq_true rfl⟩ ⟨rfl, rfl⟩ [1, 0, 2] [3] rfl rfl rfl rfl (by decide) rfl rfl rfl rfl (Nat.le_of_ble_eq_true rfl) dX0_add_73 ⟨Nat.le_of_ble_eq_true rfl, Nat.le_of_ble_eq_true rfl⟩ (fun  w1 hq => ?_)
          obtain rfl := hq
          refine z_aload_n E 0 rfl rfl dX0_add_76 ?_
          refine z_dup E rfl dX0_add_77 ?_
          refine z_get E f_X0_18 1 rfl rfl dX0_add_78 ?_
          refine z_iconst E dX0_add_81 ?_
          refine z_iadd E dX0_add_82 ?_
          refine z_put (ws' := [(h1, .inr (8, [.int (zi p), .int (zi d), .int (zi q)])), (h0, .inr (0, [.ref hu, .ref hl, .int (zi (n + 1))])), (hu, ai κ 8 (zu v j a)), (hl, ai κ 8 (zu w j b))]) E f_X0_18 t_X0_2 1 rfl rfl rfl (Nat.le_of_ble_eq_true rfl) rfl dX0_add_83 ?_
          refine z_iload E 4 rfl dX0_add_86 ?_
          refine Zg.perm (ws' := [(h0, .inr (0, [.ref hu, .ref hl, .int (zi (n + 1))])), (hu, ai κ 8 (zu v j a)), (hl, ai κ 8 (zu w j b)), (h1, .inr (8, [.int (zi p), .int (zi d), .int (zi q)]))]) [1, 2, 3, 0] rfl rfl ?_
          exact fin _ _ _ _ rfl (⟨_, _, _, insQ_end i1 (Or.inr hc_34), rfl, rfl⟩) dX0_add_88
  refine Zg.sub (lv' := [(0, .ref h0), (1, .ref h1), (2, .int (zi a)), (3, .int (zi b)), (4, .int (zi n))]) [1, 2, 3, 4, 0] rfl ?_
  refine Zg.perm (ws' := [(h0, .inr (0, [.ref hu, .ref hl, .int (zi n)])), (h1, .inr (8, [.int (zi p), .int (zi d), .int (zi q)])), (hl, ai κ 8 lo), (hu, ai κ 8 u)]) [0, 3, 2, 1] rfl rfl ?_
  exact lp_6 ((n : Int).toNat + 1) n u lo (insQ_0 hn.1) (by omega)
abbrev rm_X0_remove : Room := { frames := 1, cells := 0, slots := 0, locals := 23 }
set_option maxRecDepth 100000 in
theorem c_X0_remove (l : Launch) (D : va_G) (κ : Nat → ClassId) (h0 : Nat) (hu : Nat) (hl : Nat) (n : Int) (u : Int → Int) (lo : Int → Int) (k : Int) (hn : 0 ≤ n ∧ n ≤ 8) (hk : 0 ≤ k ∧ k < n) : ZV l yX0_remove cX0_remove 3 rm_X0_remove D κ [.ref h0, .int (zi k)] [(h0, .inr (0, [.ref hu, .ref hl, .int (zi n)])), (hu, ai κ 8 u), (hl, ai κ 8 lo)] (fun w => ∃ u' : Int → Int, ∃ lo' : Int → Int, (∀ i : Int, (i < k → u' i = u i ∧ lo' i = lo i) ∧ (k ≤ i → i < n - 1 → u' i = u (i + 1) ∧ lo' i = lo (i + 1))) ∧ [(h0, .inr (0, [.ref hu, .ref hl, .int (zi (n - 1))])), (hu, ai κ 8 u'), (hl, ai κ 8 lo')] = w) := by
  refine ZV.enter (own := RX0) rfl pn_X0_remove (Nat.le_of_ble_eq_true rfl) (fun X E fin => ?_)
  show Zg X [(h0, .inr (0, [.ref hu, .ref hl, .int (zi n)])), (hu, ai κ 8 u), (hl, ai κ 8 lo)] 0 0 0 [(0, .ref h0), (1, .int (zi k))] []
  refine z_aload_n E 0 rfl rfl dX0_remove_0 ?_
  refine z_dup E rfl dX0_remove_1 ?_
  refine z_get E f_X0_18 0 rfl rfl dX0_remove_2 ?_
  refine z_iconst E dX0_remove_5 ?_
  refine z_isub E dX0_remove_6 ?_
  refine z_put (ws' := [(h0, .inr (0, [.ref hu, .ref hl, .int (zi (n - 1))])), (hu, ai κ 8 u), (hl, ai κ 8 lo)]) E f_X0_18 t_X0_2 0 rfl rfl rfl (Nat.le_of_ble_eq_true rfl) rfl dX0_remove_7 ?_
  refine z_iload_n E 1 rfl rfl dX0_remove_10 ?_
  refine z_istore_n (lv' := [(2, .int (zi k)), (0, .ref h0), (1, .int (zi k))]) E dX0_remove_11 rfl (Nat.le_of_ble_eq_true rfl) rfl ?_
  have lp_12 : ∀ (n_12 : Nat) (i : Int) (v : Int → Int) (w : Int → Int), (k ≤ i ∧ i ≤ n - 1) → (remQ k i u lo v w) → (n - i) < (n_12 : Int) → Zg X [(h0, .inr (0, [.ref hu, .ref hl, .int (zi (n - 1))])), (hl, ai κ 8 w), (hu, ai κ 8 v)] 0 0 12 [(0, .ref h0), (1, .int (zi k)), (2, .int (zi i))] [] := by
    intro n_12
    induction n_12 with
    | zero =>
      intro i v w i1 i2 hmu
      exact absurd hmu (by omega)
    | succ n_12 ih_12 =>
      intro i v w i1 i2 hmu_12
      refine z_iload_n E 2 rfl rfl dX0_remove_12 ?_
      refine z_aload_n E 0 rfl rfl dX0_remove_13 ?_
      refine z_get E f_X0_18 0 rfl rfl dX0_remove_14 ?_
      refine z_ic_ge (tgt := 45) E (by omega) (by omega) dX0_remove_17 (by decide) (fun h_17 => ?_) (fun h_17 => ?_)
      · refine Zg.perm (ws' := [(h0, .inr (0, [.ref hu, .ref hl, .int (zi (n - 1))])), (hu, ai κ 8 v), (hl, ai κ 8 w)]) [0, 2, 1] rfl rfl ?_
        exact fin _ _ _ (⟨_, _, fun j => ⟨fun h => i2.1 j h, fun h1 h2 => i2.2.1 j h1 (by omega)⟩, rfl⟩) dX0_remove_45
      · refine z_aload_n E 0 rfl rfl dX0_remove_20 ?_
        refine z_iload_n E 2 rfl rfl dX0_remove_21 ?_
        refine z_aload_n E 0 rfl rfl dX0_remove_22 ?_
        refine z_iload_n E 2 rfl rfl dX0_remove_23 ?_
        refine z_iconst E dX0_remove_24 ?_
        refine z_iadd E dX0_remove_25 ?_
        refine z_callVi (As := [.int (zi (i + 1))]) (rest := [.int (zi i), .ref h0]) (wr := [(hl, ai κ 8 w)]) E (c_X0_upperAt l D κ h0 hu hl (n - 1) v (i + 1) (by omega)) m_X0_22 ⟨Nat.le_of_ble_eq_true rfl, Nat.le_of_ble_eq_true rfl⟩ ⟨rfl, rfl⟩ [0, 2] [1] rfl rfl rfl rfl (by decide) rfl rfl rfl rfl (Nat.le_of_ble_eq_true rfl) dX0_remove_26 ⟨Nat.le_of_ble_eq_true rfl, Nat.le_of_ble_eq_true rfl⟩ (fun z26 w1 hq => ?_)
        obtain ⟨rfl, rfl⟩ := hq
        refine z_aload_n E 0 rfl rfl dX0_remove_29 ?_
        refine z_iload_n E 2 rfl rfl dX0_remove_30 ?_
        refine z_iconst E dX0_remove_31 ?_
        refine z_iadd E dX0_remove_32 ?_
        refine z_callVi (As := [.int (zi (i + 1))]) (rest := [.int (zi (v (i + 1))), .int (zi i), .ref h0]) (wr := [(hu, ai κ 8 v)]) E (c_X0_lowerAt l D κ h0 hu hl (n - 1) w (i + 1) (by omega)) m_X0_26 ⟨Nat.le_of_ble_eq_true rfl, Nat.le_of_ble_eq_true rfl⟩ ⟨rfl, rfl⟩ [1, 0] [2] rfl rfl rfl rfl (by decide) rfl rfl rfl rfl (Nat.le_of_ble_eq_true rfl) dX0_remove_33 ⟨Nat.le_of_ble_eq_true rfl, Nat.le_of_ble_eq_true rfl⟩ (fun z33 w1 hq => ?_)
        obtain ⟨rfl, rfl⟩ := hq
        refine z_callVv (As := [.int (zi i), .int (zi (v (i + 1))), .int (zi (w (i + 1)))]) (rest := []) (wr := []) E (c_X0_put l D κ h0 hu hl (n - 1) v w i (v (i + 1)) (w (i + 1)) (by omega)) m_X0_35 ⟨Nat.le_of_ble_eq_true rfl, Nat.le_of_ble_eq_true rfl⟩ ⟨rfl, rfl⟩ [1, 0, 2] [] rfl rfl rfl rfl (by decide) rfl rfl rfl rfl (Nat.le_of_ble_eq_true rfl) dX0_remove_36 ⟨Nat.le_of_ble_eq_true rfl, Nat.le_of_ble_eq_true rfl⟩ (fun  w1 hq => ?_)
        obtain rfl := hq
        refine z_iinc (lv' := [(2, .int (zi (i + 1))), (0, .ref h0), (1, .int (zi k))]) E 2 rfl dX0_remove_39 (Nat.le_of_ble_eq_true rfl) rfl ?_
        refine z_goto (tgt := 12) E dX0_remove_42 (by decide) ?_
        refine Zg.sub (lv' := [(0, .ref h0), (1, .int (zi k)), (2, .int (zi (i + 1)))]) [1, 2, 0] rfl ?_
        refine Zg.perm (ws' := [(h0, .inr (0, [.ref hu, .ref hl, .int (zi (n - 1))])), (hl, ai κ 8 (zu w i (w (i + 1)))), (hu, ai κ 8 (zu v i (v (i + 1))))]) [0, 2, 1] rfl rfl ?_
        exact ih_12 (i + 1) (zu v i (v (i + 1))) (zu w i (w (i + 1))) (by omega) (remQ_s i2 (by omega)) (by omega)
  refine Zg.sub (lv' := [(0, .ref h0), (1, .int (zi k)), (2, .int (zi k))]) [1, 2, 0] rfl ?_
  refine Zg.perm (ws' := [(h0, .inr (0, [.ref hu, .ref hl, .int (zi (n - 1))])), (hl, ai κ 8 lo), (hu, ai κ 8 u)]) [0, 2, 1] rfl rfl ?_
  exact lp_12 ((n - k : Int).toNat + 1) k u lo (by omega) (remQ_0) (by omega)
abbrev rm_X0_countAbove : Room := { frames := 1, cells := 0, slots := 0, locals := 27 }
set_option maxRecDepth 100000 in
theorem c_X0_countAbove (l : Launch) (D : va_G) (κ : Nat → ClassId) (h0 : Nat) (hu : Nat) (hl : Nat) (n : Int) (u : Int → Int) (lo : Int → Int) (h1 : Nat) (p : Int) (d : Int) (q : Int) (hn : 0 ≤ n ∧ n ≤ 8) (hB : ∀ i : Int, 0 ≤ i → i < n → okF (u i) (lo i)) (hp : -99 ≤ p ∧ p ≤ 99) (hd : 2 ≤ d ∧ d ≤ 999) (hq : -99 ≤ q ∧ q ≤ 99) : ZI l yX0_countAbove cX0_countAbove 4 .int rm_X0_countAbove D κ [.ref h0, .ref h1] [(h0, .inr (0, [.ref hu, .ref hl, .int (zi n)])), (hu, ai κ 8 u), (hl, ai κ 8 lo), (h1, .inr (8, [.int (zi p), .int (zi d), .int (zi q)]))] (fun z w => (cntA p d q u lo n.toNat) = z ∧ [(h0, .inr (0, [.ref hu, .ref hl, .int (zi n)])), (hu, ai κ 8 u), (hl, ai κ 8 lo), (h1, .inr (8, [.int (zi p), .int (zi d), .int (zi q)]))] = w) := by
  refine ZI.enter (own := RX0) rfl pn_X0_countAbove (Nat.le_of_ble_eq_true rfl) (fun X E fin => ?_)
  show Zg X [(h0, .inr (0, [.ref hu, .ref hl, .int (zi n)])), (hu, ai κ 8 u), (hl, ai κ 8 lo), (h1, .inr (8, [.int (zi p), .int (zi d), .int (zi q)]))] 0 0 0 [(0, .ref h0), (1, .ref h1)] []
  refine z_iconst E dX0_countAbove_0 ?_
  refine z_istore_n (lv' := [(2, .int (zi 0)), (0, .ref h0), (1, .ref h1)]) E dX0_countAbove_1 rfl (Nat.le_of_ble_eq_true rfl) rfl ?_
  refine z_iconst E dX0_countAbove_2 ?_
  refine z_istore_n (lv' := [(3, .int (zi 0)), (2, .int (zi 0)), (0, .ref h0), (1, .ref h1)]) E dX0_countAbove_3 rfl (Nat.le_of_ble_eq_true rfl) rfl ?_
  have lp_4 : ∀ (n_4 : Nat) (c : Int) (i : Int), (0 ≤ i ∧ i ≤ n) → (c = cntA p d q u lo i.toNat) → (0 ≤ c ∧ c ≤ i) → (n - i) < (n_4 : Int) → Zg X [(h0, .inr (0, [.ref hu, .ref hl, .int (zi n)])), (h1, .inr (8, [.int (zi p), .int (zi d), .int (zi q)])), (hl, ai κ 8 lo), (hu, ai κ 8 u)] 0 0 4 [(0, .ref h0), (1, .ref h1), (2, .int (zi c)), (3, .int (zi i))] [] := by
    intro n_4
    induction n_4 with
    | zero =>
      intro c i i1 i2 i3 hmu
      exact absurd hmu (by omega)
    | succ n_4 ih_4 =>
      intro c i i1 i2 i3 hmu_4
      refine z_iload_n E 3 rfl rfl dX0_countAbove_4 ?_
      refine z_aload_n E 0 rfl rfl dX0_countAbove_5 ?_
      refine z_get E f_X0_18 0 rfl rfl dX0_countAbove_6 ?_
      refine z_ic_ge (tgt := 40) E (by omega) (by omega) dX0_countAbove_9 (by decide) (fun h_9 => ?_) (fun h_9 => ?_)
      · refine z_iload_n E 2 rfl rfl dX0_countAbove_40 ?_
        refine Zg.perm (ws' := [(h0, .inr (0, [.ref hu, .ref hl, .int (zi n)])), (hu, ai κ 8 u), (hl, ai κ 8 lo), (h1, .inr (8, [.int (zi p), .int (zi d), .int (zi q)]))]) [0, 3, 2, 1] rfl rfl ?_
        exact fin _ _ _ _ rfl (⟨by rw [i2, show i = n by omega], rfl⟩) dX0_countAbove_41
      · have hk := hB i (by omega) (by omega)
        unfold okF at hk
        refine z_aload_n E 1 rfl rfl dX0_countAbove_12 ?_
        refine z_aload_n E 0 rfl rfl dX0_countAbove_13 ?_
        refine z_iload_n E 3 rfl rfl dX0_countAbove_14 ?_
        refine z_callVi (As := [.int (zi i)]) (rest := [.ref h1]) (wr := [(h1, .inr (8, [.int (zi p), .int (zi d), .int (zi q)])), (hl, ai κ 8 lo)]) E (c_X0_upperAt l D κ h0 hu hl n u i (by omega)) m_X0_22 ⟨Nat.le_of_ble_eq_true rfl, Nat.le_of_ble_eq_true rfl⟩ ⟨rfl, rfl⟩ [0, 3] [1, 2] rfl rfl rfl rfl (by decide) rfl rfl rfl rfl (Nat.le_of_ble_eq_true rfl) dX0_countAbove_15 ⟨Nat.le_of_ble_eq_true rfl, Nat.le_of_ble_eq_true rfl⟩ (fun z15 w1 hq => ?_)
        obtain ⟨rfl, rfl⟩ := hq
        refine z_i2l E (by omega) dX0_countAbove_18 ?_
        refine z_aload_n E 0 rfl rfl dX0_countAbove_19 ?_
        refine z_iload_n E 3 rfl rfl dX0_countAbove_20 ?_
        refine z_callVi (As := [.int (zi i)]) (rest := [.long (zl (u i)), .ref h1]) (wr := [(h1, .inr (8, [.int (zi p), .int (zi d), .int (zi q)])), (hu, ai κ 8 u)]) E (c_X0_lowerAt l D κ h0 hu hl n lo i (by omega)) m_X0_26 ⟨Nat.le_of_ble_eq_true rfl, Nat.le_of_ble_eq_true rfl⟩ ⟨rfl, rfl⟩ [2, 1] [0, 3] rfl rfl rfl rfl (by decide) rfl rfl rfl rfl (Nat.le_of_ble_eq_true rfl) dX0_countAbove_21 ⟨Nat.le_of_ble_eq_true rfl, Nat.le_of_ble_eq_true rfl⟩ (fun z21 w1 hq => ?_)
        obtain ⟨rfl, rfl⟩ := hq
        refine z_i2l E (by omega) dX0_countAbove_24 ?_
        refine z_callVi (As := [.long (zl (u i)), .long (zl (lo i))]) (rest := []) (wr := [(hu, ai κ 8 u), (h0, .inr (0, [.ref hu, .ref hl, .int (zi n)])), (hl, ai κ 8 lo)]) E (c_X8_isPassedBy l D κ h1 p d q (u i) (lo i) (by omega) (by omega) (by omega) (by omega) (by omega)) m_X0_43 ⟨Nat.le_of_ble_eq_true rfl, Nat.le_of_ble_eq_true rfl⟩ ⟨rfl, rfl⟩ [0] [1, 2, 3] rfl rfl rfl rfl (by decide) rfl rfl rfl rfl (Nat.le_of_ble_eq_true rfl) dX0_countAbove_25 ⟨Nat.le_of_ble_eq_true rfl, Nat.le_of_ble_eq_true rfl⟩ (fun z25 w1 hq => ?_)
        obtain ⟨⟨rfl, hc_25⟩ | ⟨rfl, hc_25⟩, rfl⟩ := hq
        · refine z_if_eq (tgt := 34) E (by omega) dX0_countAbove_28 (by decide) (fun h => absurd h (by decide)) (fun _ => ?_)
          refine z_iinc (lv' := [(2, .int (zi (c + 1))), (0, .ref h0), (1, .ref h1), (3, .int (zi i))]) E 2 rfl dX0_countAbove_31 (Nat.le_of_ble_eq_true rfl) rfl ?_
          refine z_iinc (lv' := [(3, .int (zi (i + 1))), (2, .int (zi (c + 1))), (0, .ref h0), (1, .ref h1)]) E 3 rfl dX0_countAbove_34 (Nat.le_of_ble_eq_true rfl) rfl ?_
          refine z_goto (tgt := 4) E dX0_countAbove_37 (by decide) ?_
          refine Zg.sub (lv' := [(0, .ref h0), (1, .ref h1), (2, .int (zi (c + 1))), (3, .int (zi (i + 1)))]) [2, 3, 1, 0] rfl ?_
          refine Zg.perm (ws' := [(h0, .inr (0, [.ref hu, .ref hl, .int (zi n)])), (h1, .inr (8, [.int (zi p), .int (zi d), .int (zi q)])), (hl, ai κ 8 lo), (hu, ai κ 8 u)]) [1, 3, 2, 0] rfl rfl ?_
          exact ih_4 (c + 1) (i + 1) (by omega) (cntA_t (by omega) i2 hc_25) (by omega) (by omega)
        · refine z_if_eq (tgt := 34) E (by omega) dX0_countAbove_28 (by decide) (fun _ => ?_) (fun h => absurd h (by decide))
          refine z_iinc (lv' := [(3, .int (zi (i + 1))), (0, .ref h0), (1, .ref h1), (2, .int (zi c))]) E 3 rfl dX0_countAbove_34 (Nat.le_of_ble_eq_true rfl) rfl ?_
          refine z_goto (tgt := 4) E dX0_countAbove_37 (by decide) ?_
          refine Zg.sub (lv' := [(0, .ref h0), (1, .ref h1), (2, .int (zi c)), (3, .int (zi (i + 1)))]) [1, 2, 3, 0] rfl ?_
          refine Zg.perm (ws' := [(h0, .inr (0, [.ref hu, .ref hl, .int (zi n)])), (h1, .inr (8, [.int (zi p), .int (zi d), .int (zi q)])), (hl, ai κ 8 lo), (hu, ai κ 8 u)]) [1, 3, 2, 0] rfl rfl ?_
          exact ih_4 c (i + 1) (by omega) (cntA_f (by omega) i2 hc_25) (by omega) (by omega)
  refine Zg.sub (lv' := [(0, .ref h0), (1, .ref h1), (2, .int (zi 0)), (3, .int (zi 0))]) [2, 3, 1, 0] rfl ?_
  refine Zg.perm (ws' := [(h0, .inr (0, [.ref hu, .ref hl, .int (zi n)])), (h1, .inr (8, [.int (zi p), .int (zi d), .int (zi q)])), (hl, ai κ 8 lo), (hu, ai κ 8 u)]) [0, 3, 2, 1] rfl rfl ?_
  exact lp_4 ((n - 0 : Int).toNat + 1) 0 0 (by omega) (rfl) (by omega) (by omega)
abbrev rm_X0_copyFrom : Room := { frames := 1, cells := 0, slots := 0, locals := 23 }
set_option maxRecDepth 100000 in
theorem c_X0_copyFrom (l : Launch) (D : va_G) (κ : Nat → ClassId) (h0 : Nat) (hu : Nat) (hl : Nat) (n : Int) (u : Int → Int) (lo : Int → Int) (h1 : Nat) (gu : Nat) (gl : Nat) (n2 : Int) (u2 : Int → Int) (lo2 : Int → Int) (hn : 0 ≤ n2 ∧ n2 ≤ 8) : ZV l yX0_copyFrom cX0_copyFrom 3 rm_X0_copyFrom D κ [.ref h0, .ref h1] [(h0, .inr (0, [.ref hu, .ref hl, .int (zi n)])), (hu, ai κ 8 u), (hl, ai κ 8 lo), (h1, .inr (0, [.ref gu, .ref gl, .int (zi n2)])), (gu, ai κ 8 u2), (gl, ai κ 8 lo2)] (fun w => ∃ u' : Int → Int, ∃ lo' : Int → Int, (∀ i : Int, 0 ≤ i → i < n2 → u' i = u2 i ∧ lo' i = lo2 i) ∧ [(h0, .inr (0, [.ref hu, .ref hl, .int (zi n2)])), (hu, ai κ 8 u'), (hl, ai κ 8 lo'), (h1, .inr (0, [.ref gu, .ref gl, .int (zi n2)])), (gu, ai κ 8 u2), (gl, ai κ 8 lo2)] = w) := by
  refine ZV.enter (own := RX0) rfl pn_X0_copyFrom (Nat.le_of_ble_eq_true rfl) (fun X E fin => ?_)
  show Zg X [(h0, .inr (0, [.ref hu, .ref hl, .int (zi n)])), (hu, ai κ 8 u), (hl, ai κ 8 lo), (h1, .inr (0, [.ref gu, .ref gl, .int (zi n2)])), (gu, ai κ 8 u2), (gl, ai κ 8 lo2)] 0 0 0 [(0, .ref h0), (1, .ref h1)] []
  refine z_aload_n E 0 rfl rfl dX0_copyFrom_0 ?_
  refine z_aload_n E 1 rfl rfl dX0_copyFrom_1 ?_
  refine z_get E f_X0_18 3 rfl rfl dX0_copyFrom_2 ?_
  refine z_put (ws' := [(h0, .inr (0, [.ref hu, .ref hl, .int (zi n2)])), (hu, ai κ 8 u), (hl, ai κ 8 lo), (h1, .inr (0, [.ref gu, .ref gl, .int (zi n2)])), (gu, ai κ 8 u2), (gl, ai κ 8 lo2)]) E f_X0_18 t_X0_2 0 rfl rfl rfl (Nat.le_of_ble_eq_true rfl) rfl dX0_copyFrom_5 ?_
  refine z_iconst E dX0_copyFrom_8 ?_
  refine z_istore_n (lv' := [(2, .int (zi 0)), (0, .ref h0), (1, .ref h1)]) E dX0_copyFrom_9 rfl (Nat.le_of_ble_eq_true rfl) rfl ?_
  have lp_10 : ∀ (n_10 : Nat) (i : Int) (v : Int → Int) (w : Int → Int), (0 ≤ i ∧ i ≤ n2) → (∀ k : Int, 0 ≤ k → k < i → v k = u2 k ∧ w k = lo2 k) → (n2 - i) < (n_10 : Int) → Zg X [(gl, ai κ 8 lo2), (gu, ai κ 8 u2), (h0, .inr (0, [.ref hu, .ref hl, .int (zi n2)])), (h1, .inr (0, [.ref gu, .ref gl, .int (zi n2)])), (hl, ai κ 8 w), (hu, ai κ 8 v)] 0 0 10 [(0, .ref h0), (1, .ref h1), (2, .int (zi i))] [] := by
    intro n_10
    induction n_10 with
    | zero =>
      intro i v w i1 i2 hmu
      exact absurd hmu (by omega)
    | succ n_10 ih_10 =>
      intro i v w i1 i2 hmu_10
      refine z_iload_n E 2 rfl rfl dX0_copyFrom_10 ?_
      refine z_aload_n E 0 rfl rfl dX0_copyFrom_11 ?_
      refine z_get E f_X0_18 2 rfl rfl dX0_copyFrom_12 ?_
      refine z_ic_ge (tgt := 39) E (by omega) (by omega) dX0_copyFrom_15 (by decide) (fun h_15 => ?_) (fun h_15 => ?_)
      · refine Zg.perm (ws' := [(h0, .inr (0, [.ref hu, .ref hl, .int (zi n2)])), (hu, ai κ 8 v), (hl, ai κ 8 w), (h1, .inr (0, [.ref gu, .ref gl, .int (zi n2)])), (gu, ai κ 8 u2), (gl, ai κ 8 lo2)]) [2, 5, 4, 3, 1, 0] rfl rfl ?_
        exact fin _ _ _ (⟨_, _, fun j h1 h2 => i2 j h1 (by omega), rfl⟩) dX0_copyFrom_39
      · refine z_aload_n E 0 rfl rfl dX0_copyFrom_18 ?_
        refine z_iload_n E 2 rfl rfl dX0_copyFrom_19 ?_
        refine z_aload_n E 1 rfl rfl dX0_copyFrom_20 ?_
        refine z_iload_n E 2 rfl rfl dX0_copyFrom_21 ?_
        refine z_callVi (As := [.int (zi i)]) (rest := [.int (zi i), .ref h0]) (wr := [(gl, ai κ 8 lo2), (h0, .inr (0, [.ref hu, .ref hl, .int (zi n2)])), (hl, ai κ 8 w), (hu, ai κ 8 v)]) E (c_X0_upperAt l D κ h1 gu gl n2 u2 i (by omega)) m_X0_22 ⟨Nat.le_of_ble_eq_true rfl, Nat.le_of_ble_eq_true rfl⟩ ⟨rfl, rfl⟩ [3, 1] [0, 2, 4, 5] rfl rfl rfl rfl (by decide) rfl rfl rfl rfl (Nat.le_of_ble_eq_true rfl) dX0_copyFrom_22 ⟨Nat.le_of_ble_eq_true rfl, Nat.le_of_ble_eq_true rfl⟩ (fun z22 w1 hq => ?_)
        obtain ⟨rfl, rfl⟩ := hq
        refine z_aload_n E 1 rfl rfl dX0_copyFrom_25 ?_
        refine z_iload_n E 2 rfl rfl dX0_copyFrom_26 ?_
        refine z_callVi (As := [.int (zi i)]) (rest := [.int (zi (u2 i)), .int (zi i), .ref h0]) (wr := [(h0, .inr (0, [.ref hu, .ref hl, .int (zi n2)])), (hl, ai κ 8 w), (hu, ai κ 8 v), (gu, ai κ 8 u2)]) E (c_X0_lowerAt l D κ h1 gu gl n2 lo2 i (by omega)) m_X0_26 ⟨Nat.le_of_ble_eq_true rfl, Nat.le_of_ble_eq_true rfl⟩ ⟨rfl, rfl⟩ [4, 0] [1, 2, 3, 5] rfl rfl rfl rfl (by decide) rfl rfl rfl rfl (Nat.le_of_ble_eq_true rfl) dX0_copyFrom_27 ⟨Nat.le_of_ble_eq_true rfl, Nat.le_of_ble_eq_true rfl⟩ (fun z27 w1 hq => ?_)
        obtain ⟨rfl, rfl⟩ := hq
        refine z_callVv (As := [.int (zi i), .int (zi (u2 i)), .int (zi (lo2 i))]) (rest := []) (wr := [(gu, ai κ 8 u2), (h1, .inr (0, [.ref gu, .ref gl, .int (zi n2)])), (gl, ai κ 8 lo2)]) E (c_X0_put l D κ h0 hu hl n2 v w i (u2 i) (lo2 i) (by omega)) m_X0_35 ⟨Nat.le_of_ble_eq_true rfl, Nat.le_of_ble_eq_true rfl⟩ ⟨rfl, rfl⟩ [0, 2, 1] [3, 4, 5] rfl rfl rfl rfl (by decide) rfl rfl rfl rfl (Nat.le_of_ble_eq_true rfl) dX0_copyFrom_30 ⟨Nat.le_of_ble_eq_true rfl, Nat.le_of_ble_eq_true rfl⟩ (fun  w1 hq => ?_)
        obtain rfl := hq
        refine z_iinc (lv' := [(2, .int (zi (i + 1))), (0, .ref h0), (1, .ref h1)]) E 2 rfl dX0_copyFrom_33 (Nat.le_of_ble_eq_true rfl) rfl ?_
        refine z_goto (tgt := 10) E dX0_copyFrom_36 (by decide) ?_
        refine Zg.sub (lv' := [(0, .ref h0), (1, .ref h1), (2, .int (zi (i + 1)))]) [1, 2, 0] rfl ?_
        refine Zg.perm (ws' := [(gl, ai κ 8 lo2), (gu, ai κ 8 u2), (h0, .inr (0, [.ref hu, .ref hl, .int (zi n2)])), (h1, .inr (0, [.ref gu, .ref gl, .int (zi n2)])), (hl, ai κ 8 (zu w i (lo2 i))), (hu, ai κ 8 (zu v i (u2 i)))]) [2, 0, 3, 1, 5, 4] rfl rfl ?_
        exact ih_10 (i + 1) (zu v i (u2 i)) (zu w i (lo2 i)) (by omega) (cpQ_s i2) (by omega)
  refine Zg.sub (lv' := [(0, .ref h0), (1, .ref h1), (2, .int (zi 0))]) [1, 2, 0] rfl ?_
  refine Zg.perm (ws' := [(gl, ai κ 8 lo2), (gu, ai κ 8 u2), (h0, .inr (0, [.ref hu, .ref hl, .int (zi n2)])), (h1, .inr (0, [.ref gu, .ref gl, .int (zi n2)])), (hl, ai κ 8 lo), (hu, ai κ 8 u)]) [5, 4, 0, 3, 2, 1] rfl rfl ?_
  exact lp_10 ((n2 - 0 : Int).toNat + 1) 0 u lo (by omega) (fun k h1 h2 => absurd h2 (by omega)) (by omega)
end
