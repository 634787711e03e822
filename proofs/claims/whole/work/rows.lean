section
-- ===== PART A: goes FIRST, ahead of the names: the tables' words, and 'selects' of the private methods out of them =====
/-- a private method of a class that the tables say can be made, by its rows of tables_1 -/
def lw_okq (q : MethodName × Nat) : Prop := (q.1.cls ≠ "java/lang/invoke/MethodHandle" ∧ q.1.cls ≠ "java/lang/invoke/VarHandle") ∧ Cond.instantiable q.1.cls q.2 ∈ tables_1 ∧ Cond.privateMethod q.1 ∈ tables_1 ∧ Cond.instanceMethod q.1 ∈ tables_1
theorem lw_p0 : lw_okq (⟨"PuzzlePress", "startNew", "(I)V"⟩, 8) := ⟨⟨by decide +kernel, by decide +kernel⟩, List.mem_of_getElem? (i := 21) (by decide +kernel), List.mem_of_getElem? (i := 161) (by decide +kernel), List.mem_of_getElem? (i := 162) (by decide +kernel)⟩
theorem lw_p1 : lw_okq (⟨"PuzzlePress$Square", "addUnlike", "(LPuzzlePress$Units;III)V"⟩, 8) := ⟨⟨by decide +kernel, by decide +kernel⟩, List.mem_of_getElem? (i := 86) (by decide +kernel), List.mem_of_getElem? (i := 196) (by decide +kernel), List.mem_of_getElem? (i := 197) (by decide +kernel)⟩
theorem lw_p2 : lw_okq (⟨"PuzzlePress$Square", "addWays", "(LPuzzlePress$Units;IJIII)V"⟩, 8) := ⟨⟨by decide +kernel, by decide +kernel⟩, List.mem_of_getElem? (i := 86) (by decide +kernel), List.mem_of_getElem? (i := 217) (by decide +kernel), List.mem_of_getElem? (i := 218) (by decide +kernel)⟩
theorem lw_p3 : lw_okq (⟨"PuzzlePress$Square", "obeys", "(III)Z"⟩, 8) := ⟨⟨by decide +kernel, by decide +kernel⟩, List.mem_of_getElem? (i := 86) (by decide +kernel), List.mem_of_getElem? (i := 221) (by decide +kernel), List.mem_of_getElem? (i := 222) (by decide +kernel)⟩
theorem lw_p4 : lw_okq (⟨"PuzzlePress$Stars", "addJustOne", "(LPuzzlePress$Units;I)V"⟩, 6) := ⟨⟨by decide +kernel, by decide +kernel⟩, List.mem_of_getElem? (i := 107) (by decide +kernel), List.mem_of_getElem? (i := 258) (by decide +kernel), List.mem_of_getElem? (i := 259) (by decide +kernel)⟩
theorem lw_p5 : lw_okq (⟨"PuzzlePress$Stars", "wayWithStar", "(II)J"⟩, 6) := ⟨⟨by decide +kernel, by decide +kernel⟩, List.mem_of_getElem? (i := 107) (by decide +kernel), List.mem_of_getElem? (i := 266) (by decide +kernel), List.mem_of_getElem? (i := 267) (by decide +kernel)⟩
theorem lw_p6 : lw_okq (⟨"PuzzlePress$Stars", "addNotBoth", "(LPuzzlePress$Units;II)V"⟩, 6) := ⟨⟨by decide +kernel, by decide +kernel⟩, List.mem_of_getElem? (i := 107) (by decide +kernel), List.mem_of_getElem? (i := 283) (by decide +kernel), List.mem_of_getElem? (i := 284) (by decide +kernel)⟩
theorem lw_p7 : lw_okq (⟨"PuzzlePress", "renewUnits", "()V"⟩, 8) := ⟨⟨by decide +kernel, by decide +kernel⟩, List.mem_of_getElem? (i := 21) (by decide +kernel), List.mem_of_getElem? (i := 295) (by decide +kernel), List.mem_of_getElem? (i := 296) (by decide +kernel)⟩
theorem lw_p8 : lw_okq (⟨"PuzzlePress$Picture", "wayOf", "(II)J"⟩, 8) := ⟨⟨by decide +kernel, by decide +kernel⟩, List.mem_of_getElem? (i := 29) (by decide +kernel), List.mem_of_getElem? (i := 319) (by decide +kernel), List.mem_of_getElem? (i := 320) (by decide +kernel)⟩
theorem lw_p9 : lw_okq (⟨"PuzzlePress", "atFirst", "()J"⟩, 8) := ⟨⟨by decide +kernel, by decide +kernel⟩, List.mem_of_getElem? (i := 21) (by decide +kernel), List.mem_of_getElem? (i := 342) (by decide +kernel), List.mem_of_getElem? (i := 343) (by decide +kernel)⟩
theorem lw_p10 : lw_okq (⟨"PuzzlePress$Reasoner", "search", "(LPuzzlePress$Kind;JJII)V"⟩, 3) := ⟨⟨by decide +kernel, by decide +kernel⟩, List.mem_of_getElem? (i := 120) (by decide +kernel), List.mem_of_getElem? (i := 390) (by decide +kernel), List.mem_of_getElem? (i := 391) (by decide +kernel)⟩
theorem lw_p11 : lw_okq (⟨"PuzzlePress$Units", "keptBy", "(IJ)J"⟩, 5) := ⟨⟨by decide +kernel, by decide +kernel⟩, List.mem_of_getElem? (i := 126) (by decide +kernel), List.mem_of_getElem? (i := 398) (by decide +kernel), List.mem_of_getElem? (i := 399) (by decide +kernel)⟩
theorem lw_p12 : lw_okq (⟨"PuzzlePress$Reasoner", "isRefuted", "(LPuzzlePress$Kind;JII)Z"⟩, 3) := ⟨⟨by decide +kernel, by decide +kernel⟩, List.mem_of_getElem? (i := 120) (by decide +kernel), List.mem_of_getElem? (i := 435) (by decide +kernel), List.mem_of_getElem? (i := 436) (by decide +kernel)⟩
theorem lw_p13 : lw_okq (⟨"PuzzlePress$Reasoner", "supposeEach", "(LPuzzlePress$Kind;J)J"⟩, 3) := ⟨⟨by decide +kernel, by decide +kernel⟩, List.mem_of_getElem? (i := 120) (by decide +kernel), List.mem_of_getElem? (i := 475) (by decide +kernel), List.mem_of_getElem? (i := 476) (by decide +kernel)⟩
theorem lw_p14 : lw_okq (⟨"java/lang/Throwable", "fillInStackTrace", "(I)Ljava/lang/Throwable;"⟩, 6) := ⟨⟨by decide +kernel, by decide +kernel⟩, List.mem_of_getElem? (i := 527) (by decide +kernel), List.mem_of_getElem? (i := 525) (by decide +kernel), List.mem_of_getElem? (i := 526) (by decide +kernel)⟩
theorem lw_p15 : lw_okq (⟨"PuzzlePress", "checkCell", "(I)V"⟩, 8) := ⟨⟨by decide +kernel, by decide +kernel⟩, List.mem_of_getElem? (i := 21) (by decide +kernel), List.mem_of_getElem? (i := 645) (by decide +kernel), List.mem_of_getElem? (i := 646) (by decide +kernel)⟩
def lw_privs_1 : List (MethodName × Nat) := [(⟨"PuzzlePress", "startNew", "(I)V"⟩, 8), (⟨"PuzzlePress$Square", "addUnlike", "(LPuzzlePress$Units;III)V"⟩, 8), (⟨"PuzzlePress$Square", "addWays", "(LPuzzlePress$Units;IJIII)V"⟩, 8), (⟨"PuzzlePress$Square", "obeys", "(III)Z"⟩, 8), (⟨"PuzzlePress$Stars", "addJustOne", "(LPuzzlePress$Units;I)V"⟩, 6), (⟨"PuzzlePress$Stars", "wayWithStar", "(II)J"⟩, 6), (⟨"PuzzlePress$Stars", "addNotBoth", "(LPuzzlePress$Units;II)V"⟩, 6), (⟨"PuzzlePress", "renewUnits", "()V"⟩, 8), (⟨"PuzzlePress$Picture", "wayOf", "(II)J"⟩, 8), (⟨"PuzzlePress", "atFirst", "()J"⟩, 8), (⟨"PuzzlePress$Reasoner", "search", "(LPuzzlePress$Kind;JJII)V"⟩, 3), (⟨"PuzzlePress$Units", "keptBy", "(IJ)J"⟩, 5), (⟨"PuzzlePress$Reasoner", "isRefuted", "(LPuzzlePress$Kind;JII)Z"⟩, 3), (⟨"PuzzlePress$Reasoner", "supposeEach", "(LPuzzlePress$Kind;J)J"⟩, 3), (⟨"java/lang/Throwable", "fillInStackTrace", "(I)Ljava/lang/Throwable;"⟩, 6), (⟨"PuzzlePress", "checkCell", "(I)V"⟩, 8)]
theorem lw_r1 : ∀ q ∈ lw_privs_1, lw_okq q := List.forall_mem_cons.mpr ⟨lw_p0, List.forall_mem_cons.mpr ⟨lw_p1, List.forall_mem_cons.mpr ⟨lw_p2, List.forall_mem_cons.mpr ⟨lw_p3, List.forall_mem_cons.mpr ⟨lw_p4, List.forall_mem_cons.mpr ⟨lw_p5, List.forall_mem_cons.mpr ⟨lw_p6, List.forall_mem_cons.mpr ⟨lw_p7, List.forall_mem_cons.mpr ⟨lw_p8, List.forall_mem_cons.mpr ⟨lw_p9, List.forall_mem_cons.mpr ⟨lw_p10, List.forall_mem_cons.mpr ⟨lw_p11, List.forall_mem_cons.mpr ⟨lw_p12, List.forall_mem_cons.mpr ⟨lw_p13, List.forall_mem_cons.mpr ⟨lw_p14, List.forall_mem_cons.mpr ⟨lw_p15, fun _ h => absurd h List.not_mem_nil⟩⟩⟩⟩⟩⟩⟩⟩⟩⟩⟩⟩⟩⟩⟩⟩
theorem lw_p16 : lw_okq (⟨"PuzzlePress", "firstFilling", "()J"⟩, 8) := ⟨⟨by decide +kernel, by decide +kernel⟩, List.mem_of_getElem? (i := 21) (by decide +kernel), List.mem_of_getElem? (i := 671) (by decide +kernel), List.mem_of_getElem? (i := 672) (by decide +kernel)⟩
theorem lw_p17 : lw_okq (⟨"PuzzlePressModel", "begin", "(I)V"⟩, 24) := ⟨⟨by decide +kernel, by decide +kernel⟩, List.mem_of_getElem? (i := 723) (by decide +kernel), List.mem_of_getElem? (i := 738) (by decide +kernel), List.mem_of_getElem? (i := 739) (by decide +kernel)⟩
theorem lw_p18 : lw_okq (⟨"PuzzlePressModel", "refresh", "()V"⟩, 24) := ⟨⟨by decide +kernel, by decide +kernel⟩, List.mem_of_getElem? (i := 723) (by decide +kernel), List.mem_of_getElem? (i := 742) (by decide +kernel), List.mem_of_getElem? (i := 743) (by decide +kernel)⟩
theorem lw_p19 : lw_okq (⟨"PuzzlePressModel", "allValues", "()I"⟩, 24) := ⟨⟨by decide +kernel, by decide +kernel⟩, List.mem_of_getElem? (i := 723) (by decide +kernel), List.mem_of_getElem? (i := 746) (by decide +kernel), List.mem_of_getElem? (i := 747) (by decide +kernel)⟩
theorem lw_p20 : lw_okq (⟨"PuzzlePressModel", "noCell", "(I)Z"⟩, 24) := ⟨⟨by decide +kernel, by decide +kernel⟩, List.mem_of_getElem? (i := 723) (by decide +kernel), List.mem_of_getElem? (i := 846) (by decide +kernel), List.mem_of_getElem? (i := 847) (by decide +kernel)⟩
theorem lw_p21 : lw_okq (⟨"PuzzlePressModel", "sizeOf", "(I)I"⟩, 24) := ⟨⟨by decide +kernel, by decide +kernel⟩, List.mem_of_getElem? (i := 723) (by decide +kernel), List.mem_of_getElem? (i := 850) (by decide +kernel), List.mem_of_getElem? (i := 851) (by decide +kernel)⟩
theorem lw_p22 : lw_okq (⟨"PuzzlePressModel", "isValue", "(I)Z"⟩, 24) := ⟨⟨by decide +kernel, by decide +kernel⟩, List.mem_of_getElem? (i := 723) (by decide +kernel), List.mem_of_getElem? (i := 862) (by decide +kernel), List.mem_of_getElem? (i := 863) (by decide +kernel)⟩
theorem lw_p23 : lw_okq (⟨"PuzzlePressModel", "search", "()V"⟩, 24) := ⟨⟨by decide +kernel, by decide +kernel⟩, List.mem_of_getElem? (i := 723) (by decide +kernel), List.mem_of_getElem? (i := 874) (by decide +kernel), List.mem_of_getElem? (i := 875) (by decide +kernel)⟩
theorem lw_p24 : lw_okq (⟨"PuzzlePressModel", "lay", "(II)Z"⟩, 24) := ⟨⟨by decide +kernel, by decide +kernel⟩, List.mem_of_getElem? (i := 723) (by decide +kernel), List.mem_of_getElem? (i := 878) (by decide +kernel), List.mem_of_getElem? (i := 879) (by decide +kernel)⟩
theorem lw_p25 : lw_okq (⟨"PuzzlePressModel", "valueOf", "(II)I"⟩, 24) := ⟨⟨by decide +kernel, by decide +kernel⟩, List.mem_of_getElem? (i := 723) (by decide +kernel), List.mem_of_getElem? (i := 885) (by decide +kernel), List.mem_of_getElem? (i := 886) (by decide +kernel)⟩
theorem lw_p26 : lw_okq (⟨"PuzzlePressModel", "isFilling", "()Z"⟩, 24) := ⟨⟨by decide +kernel, by decide +kernel⟩, List.mem_of_getElem? (i := 723) (by decide +kernel), List.mem_of_getElem? (i := 889) (by decide +kernel), List.mem_of_getElem? (i := 890) (by decide +kernel)⟩
theorem lw_p27 : lw_okq (⟨"PuzzlePressModel", "groupsFit", "()Z"⟩, 24) := ⟨⟨by decide +kernel, by decide +kernel⟩, List.mem_of_getElem? (i := 723) (by decide +kernel), List.mem_of_getElem? (i := 893) (by decide +kernel), List.mem_of_getElem? (i := 894) (by decide +kernel)⟩
theorem lw_p28 : lw_okq (⟨"PuzzlePressModel", "columnsFit", "()Z"⟩, 24) := ⟨⟨by decide +kernel, by decide +kernel⟩, List.mem_of_getElem? (i := 723) (by decide +kernel), List.mem_of_getElem? (i := 897) (by decide +kernel), List.mem_of_getElem? (i := 898) (by decide +kernel)⟩
theorem lw_p29 : lw_okq (⟨"PuzzlePressModel", "starsFit", "()Z"⟩, 24) := ⟨⟨by decide +kernel, by decide +kernel⟩, List.mem_of_getElem? (i := 723) (by decide +kernel), List.mem_of_getElem? (i := 901) (by decide +kernel), List.mem_of_getElem? (i := 902) (by decide +kernel)⟩
theorem lw_p30 : lw_okq (⟨"PuzzlePressModel", "countAll", "()I"⟩, 24) := ⟨⟨by decide +kernel, by decide +kernel⟩, List.mem_of_getElem? (i := 723) (by decide +kernel), List.mem_of_getElem? (i := 913) (by decide +kernel), List.mem_of_getElem? (i := 914) (by decide +kernel)⟩
theorem lw_p31 : lw_okq (⟨"PuzzlePressModel", "reasonByOne", "()V"⟩, 24) := ⟨⟨by decide +kernel, by decide +kernel⟩, List.mem_of_getElem? (i := 723) (by decide +kernel), List.mem_of_getElem? (i := 921) (by decide +kernel), List.mem_of_getElem? (i := 922) (by decide +kernel)⟩
def lw_privs_2 : List (MethodName × Nat) := [(⟨"PuzzlePress", "firstFilling", "()J"⟩, 8), (⟨"PuzzlePressModel", "begin", "(I)V"⟩, 24), (⟨"PuzzlePressModel", "refresh", "()V"⟩, 24), (⟨"PuzzlePressModel", "allValues", "()I"⟩, 24), (⟨"PuzzlePressModel", "noCell", "(I)Z"⟩, 24), (⟨"PuzzlePressModel", "sizeOf", "(I)I"⟩, 24), (⟨"PuzzlePressModel", "isValue", "(I)Z"⟩, 24), (⟨"PuzzlePressModel", "search", "()V"⟩, 24), (⟨"PuzzlePressModel", "lay", "(II)Z"⟩, 24), (⟨"PuzzlePressModel", "valueOf", "(II)I"⟩, 24), (⟨"PuzzlePressModel", "isFilling", "()Z"⟩, 24), (⟨"PuzzlePressModel", "groupsFit", "()Z"⟩, 24), (⟨"PuzzlePressModel", "columnsFit", "()Z"⟩, 24), (⟨"PuzzlePressModel", "starsFit", "()Z"⟩, 24), (⟨"PuzzlePressModel", "countAll", "()I"⟩, 24), (⟨"PuzzlePressModel", "reasonByOne", "()V"⟩, 24)]
theorem lw_r2 : ∀ q ∈ lw_privs_2, lw_okq q := List.forall_mem_cons.mpr ⟨lw_p16, List.forall_mem_cons.mpr ⟨lw_p17, List.forall_mem_cons.mpr ⟨lw_p18, List.forall_mem_cons.mpr ⟨lw_p19, List.forall_mem_cons.mpr ⟨lw_p20, List.forall_mem_cons.mpr ⟨lw_p21, List.forall_mem_cons.mpr ⟨lw_p22, List.forall_mem_cons.mpr ⟨lw_p23, List.forall_mem_cons.mpr ⟨lw_p24, List.forall_mem_cons.mpr ⟨lw_p25, List.forall_mem_cons.mpr ⟨lw_p26, List.forall_mem_cons.mpr ⟨lw_p27, List.forall_mem_cons.mpr ⟨lw_p28, List.forall_mem_cons.mpr ⟨lw_p29, List.forall_mem_cons.mpr ⟨lw_p30, List.forall_mem_cons.mpr ⟨lw_p31, fun _ h => absurd h List.not_mem_nil⟩⟩⟩⟩⟩⟩⟩⟩⟩⟩⟩⟩⟩⟩⟩⟩
theorem lw_p32 : lw_okq (⟨"PuzzlePressModel", "look", "()Z"⟩, 24) := ⟨⟨by decide +kernel, by decide +kernel⟩, List.mem_of_getElem? (i := 723) (by decide +kernel), List.mem_of_getElem? (i := 925) (by decide +kernel), List.mem_of_getElem? (i := 926) (by decide +kernel)⟩
theorem lw_p33 : lw_okq (⟨"PuzzlePressModel", "tryPicture", "(I)V"⟩, 24) := ⟨⟨by decide +kernel, by decide +kernel⟩, List.mem_of_getElem? (i := 723) (by decide +kernel), List.mem_of_getElem? (i := 929) (by decide +kernel), List.mem_of_getElem? (i := 930) (by decide +kernel)⟩
theorem lw_p34 : lw_okq (⟨"PuzzlePressModel", "addLine", "(I)V"⟩, 24) := ⟨⟨by decide +kernel, by decide +kernel⟩, List.mem_of_getElem? (i := 723) (by decide +kernel), List.mem_of_getElem? (i := 933) (by decide +kernel), List.mem_of_getElem? (i := 934) (by decide +kernel)⟩
theorem lw_p35 : lw_okq (⟨"PuzzlePressModel", "beginUnit", "()V"⟩, 24) := ⟨⟨by decide +kernel, by decide +kernel⟩, List.mem_of_getElem? (i := 723) (by decide +kernel), List.mem_of_getElem? (i := 937) (by decide +kernel), List.mem_of_getElem? (i := 938) (by decide +kernel)⟩
theorem lw_p36 : lw_okq (⟨"PuzzlePressModel", "addCell", "(I)V"⟩, 24) := ⟨⟨by decide +kernel, by decide +kernel⟩, List.mem_of_getElem? (i := 723) (by decide +kernel), List.mem_of_getElem? (i := 941) (by decide +kernel), List.mem_of_getElem? (i := 942) (by decide +kernel)⟩
theorem lw_p37 : lw_okq (⟨"PuzzlePressModel", "may", "(II)Z"⟩, 24) := ⟨⟨by decide +kernel, by decide +kernel⟩, List.mem_of_getElem? (i := 723) (by decide +kernel), List.mem_of_getElem? (i := 945) (by decide +kernel), List.mem_of_getElem? (i := 946) (by decide +kernel)⟩
theorem lw_p38 : lw_okq (⟨"PuzzlePressModel", "lose", "()V"⟩, 24) := ⟨⟨by decide +kernel, by decide +kernel⟩, List.mem_of_getElem? (i := 723) (by decide +kernel), List.mem_of_getElem? (i := 949) (by decide +kernel), List.mem_of_getElem? (i := 950) (by decide +kernel)⟩
theorem lw_p39 : lw_okq (⟨"PuzzlePressModel", "trySquare", "(II)V"⟩, 24) := ⟨⟨by decide +kernel, by decide +kernel⟩, List.mem_of_getElem? (i := 723) (by decide +kernel), List.mem_of_getElem? (i := 953) (by decide +kernel), List.mem_of_getElem? (i := 954) (by decide +kernel)⟩
theorem lw_p40 : lw_okq (⟨"PuzzlePressModel", "goes", "(III)Z"⟩, 24) := ⟨⟨by decide +kernel, by decide +kernel⟩, List.mem_of_getElem? (i := 723) (by decide +kernel), List.mem_of_getElem? (i := 957) (by decide +kernel), List.mem_of_getElem? (i := 958) (by decide +kernel)⟩
theorem lw_p41 : lw_okq (⟨"PuzzlePressModel", "note", "(IIIIII)V"⟩, 24) := ⟨⟨by decide +kernel, by decide +kernel⟩, List.mem_of_getElem? (i := 723) (by decide +kernel), List.mem_of_getElem? (i := 961) (by decide +kernel), List.mem_of_getElem? (i := 962) (by decide +kernel)⟩
theorem lw_p42 : lw_okq (⟨"PuzzlePressModel", "tryStar", "()V"⟩, 24) := ⟨⟨by decide +kernel, by decide +kernel⟩, List.mem_of_getElem? (i := 723) (by decide +kernel), List.mem_of_getElem? (i := 965) (by decide +kernel), List.mem_of_getElem? (i := 966) (by decide +kernel)⟩
theorem lw_p43 : lw_okq (⟨"PuzzlePressModel", "addGroup", "(I)V"⟩, 24) := ⟨⟨by decide +kernel, by decide +kernel⟩, List.mem_of_getElem? (i := 723) (by decide +kernel), List.mem_of_getElem? (i := 969) (by decide +kernel), List.mem_of_getElem? (i := 970) (by decide +kernel)⟩
theorem lw_p44 : lw_okq (⟨"PuzzlePressModel", "tryPairs", "()V"⟩, 24) := ⟨⟨by decide +kernel, by decide +kernel⟩, List.mem_of_getElem? (i := 723) (by decide +kernel), List.mem_of_getElem? (i := 973) (by decide +kernel), List.mem_of_getElem? (i := 974) (by decide +kernel)⟩
theorem lw_p45 : lw_okq (⟨"PuzzlePressModel", "reasonByBoth", "()V"⟩, 24) := ⟨⟨by decide +kernel, by decide +kernel⟩, List.mem_of_getElem? (i := 723) (by decide +kernel), List.mem_of_getElem? (i := 977) (by decide +kernel), List.mem_of_getElem? (i := 978) (by decide +kernel)⟩
theorem lw_p46 : lw_okq (⟨"PuzzlePressModel", "fails", "(II)Z"⟩, 24) := ⟨⟨by decide +kernel, by decide +kernel⟩, List.mem_of_getElem? (i := 723) (by decide +kernel), List.mem_of_getElem? (i := 981) (by decide +kernel), List.mem_of_getElem? (i := 982) (by decide +kernel)⟩
theorem lw_p47 : lw_okq (⟨"PuzzlePressModel", "isEmpty", "()Z"⟩, 24) := ⟨⟨by decide +kernel, by decide +kernel⟩, List.mem_of_getElem? (i := 723) (by decide +kernel), List.mem_of_getElem? (i := 985) (by decide +kernel), List.mem_of_getElem? (i := 986) (by decide +kernel)⟩
def lw_privs_3 : List (MethodName × Nat) := [(⟨"PuzzlePressModel", "look", "()Z"⟩, 24), (⟨"PuzzlePressModel", "tryPicture", "(I)V"⟩, 24), (⟨"PuzzlePressModel", "addLine", "(I)V"⟩, 24), (⟨"PuzzlePressModel", "beginUnit", "()V"⟩, 24), (⟨"PuzzlePressModel", "addCell", "(I)V"⟩, 24), (⟨"PuzzlePressModel", "may", "(II)Z"⟩, 24), (⟨"PuzzlePressModel", "lose", "()V"⟩, 24), (⟨"PuzzlePressModel", "trySquare", "(II)V"⟩, 24), (⟨"PuzzlePressModel", "goes", "(III)Z"⟩, 24), (⟨"PuzzlePressModel", "note", "(IIIIII)V"⟩, 24), (⟨"PuzzlePressModel", "tryStar", "()V"⟩, 24), (⟨"PuzzlePressModel", "addGroup", "(I)V"⟩, 24), (⟨"PuzzlePressModel", "tryPairs", "()V"⟩, 24), (⟨"PuzzlePressModel", "reasonByBoth", "()V"⟩, 24), (⟨"PuzzlePressModel", "fails", "(II)Z"⟩, 24), (⟨"PuzzlePressModel", "isEmpty", "()Z"⟩, 24)]
theorem lw_r3 : ∀ q ∈ lw_privs_3, lw_okq q := List.forall_mem_cons.mpr ⟨lw_p32, List.forall_mem_cons.mpr ⟨lw_p33, List.forall_mem_cons.mpr ⟨lw_p34, List.forall_mem_cons.mpr ⟨lw_p35, List.forall_mem_cons.mpr ⟨lw_p36, List.forall_mem_cons.mpr ⟨lw_p37, List.forall_mem_cons.mpr ⟨lw_p38, List.forall_mem_cons.mpr ⟨lw_p39, List.forall_mem_cons.mpr ⟨lw_p40, List.forall_mem_cons.mpr ⟨lw_p41, List.forall_mem_cons.mpr ⟨lw_p42, List.forall_mem_cons.mpr ⟨lw_p43, List.forall_mem_cons.mpr ⟨lw_p44, List.forall_mem_cons.mpr ⟨lw_p45, List.forall_mem_cons.mpr ⟨lw_p46, List.forall_mem_cons.mpr ⟨lw_p47, fun _ h => absurd h List.not_mem_nil⟩⟩⟩⟩⟩⟩⟩⟩⟩⟩⟩⟩⟩⟩⟩⟩
theorem lw_p48 : lw_okq (⟨"PuzzlePressModel", "firstLost", "()I"⟩, 24) := ⟨⟨by decide +kernel, by decide +kernel⟩, List.mem_of_getElem? (i := 723) (by decide +kernel), List.mem_of_getElem? (i := 997) (by decide +kernel), List.mem_of_getElem? (i := 998) (by decide +kernel)⟩
theorem lw_p49 : lw_okq (⟨"PuzzlePressModel", "firstFailing", "()I"⟩, 24) := ⟨⟨by decide +kernel, by decide +kernel⟩, List.mem_of_getElem? (i := 723) (by decide +kernel), List.mem_of_getElem? (i := 1001) (by decide +kernel), List.mem_of_getElem? (i := 1002) (by decide +kernel)⟩
theorem lw_p50 : lw_okq (⟨"PuzzlePressModel", "gradeNow", "()I"⟩, 24) := ⟨⟨by decide +kernel, by decide +kernel⟩, List.mem_of_getElem? (i := 723) (by decide +kernel), List.mem_of_getElem? (i := 1009) (by decide +kernel), List.mem_of_getElem? (i := 1010) (by decide +kernel)⟩
theorem lw_p51 : lw_okq (⟨"PuzzlePressModel", "isDone", "()Z"⟩, 24) := ⟨⟨by decide +kernel, by decide +kernel⟩, List.mem_of_getElem? (i := 723) (by decide +kernel), List.mem_of_getElem? (i := 1013) (by decide +kernel), List.mem_of_getElem? (i := 1014) (by decide +kernel)⟩
def lw_privs_4 : List (MethodName × Nat) := [(⟨"PuzzlePressModel", "firstLost", "()I"⟩, 24), (⟨"PuzzlePressModel", "firstFailing", "()I"⟩, 24), (⟨"PuzzlePressModel", "gradeNow", "()I"⟩, 24), (⟨"PuzzlePressModel", "isDone", "()Z"⟩, 24)]
theorem lw_r4 : ∀ q ∈ lw_privs_4, lw_okq q := List.forall_mem_cons.mpr ⟨lw_p48, List.forall_mem_cons.mpr ⟨lw_p49, List.forall_mem_cons.mpr ⟨lw_p50, List.forall_mem_cons.mpr ⟨lw_p51, fun _ h => absurd h List.not_mem_nil⟩⟩⟩⟩
def lw_privs : List (MethodName × Nat) := lw_privs_1 ++ (lw_privs_2 ++ (lw_privs_3 ++ (lw_privs_4)))
def lw_tbl : List Cond := k2_sels lw_privs ++ tables_1
theorem lw_privs_ok : ∀ q ∈ lw_privs, lw_okq q := by
  show ∀ q ∈ lw_privs_1 ++ (lw_privs_2 ++ (lw_privs_3 ++ (lw_privs_4))), lw_okq q
  exact List.forall_mem_append.mpr ⟨lw_r1, List.forall_mem_append.mpr ⟨lw_r2, List.forall_mem_append.mpr ⟨lw_r3, lw_r4⟩⟩⟩
end
section
/-! Names, fields, the words that all contracts share: by wip/gen/names.py -/
def R_PP : String := "PuzzlePress"
def R_KD : String := "PuzzlePress$Kind"
def R_PI : String := "PuzzlePress$Picture"
def R_SQ : String := "PuzzlePress$Square"
def R_ST : String := "PuzzlePress$Stars"
def R_UN : String := "PuzzlePress$Units"
def R_RE : String := "PuzzlePress$Reasoner"
def R_MO : String := "PuzzlePressModel"
def R_LW : String := "PuzzlePressLaw"
def R_JI : String := "java/lang/Integer"
def R_JL : String := "java/lang/Long"
def R_JM : String := "java/lang/Math"
def F_PP : u_T := fun k => match k with
  | 0 => ("PuzzlePress", "picture", "LPuzzlePress$Picture;", true)
  | 1 => ("PuzzlePress", "square", "LPuzzlePress$Square;", true)
  | 2 => ("PuzzlePress", "stars", "LPuzzlePress$Stars;", true)
  | 3 => ("PuzzlePress", "reasoner", "LPuzzlePress$Reasoner;", true)
  | 4 => ("PuzzlePress", "givens", "[I", true)
  | 5 => ("PuzzlePress", "now", "LPuzzlePress$Kind;", false)
  | 6 => ("PuzzlePress", "kindNumber", "I", false)
  | _ => ("PuzzlePress", "left", "J", false)
def t_PP : Nat → FieldType := fun k => match k with
  | 0 => .object "PuzzlePress$Picture"
  | 1 => .object "PuzzlePress$Square"
  | 2 => .object "PuzzlePress$Stars"
  | 3 => .object "PuzzlePress$Reasoner"
  | 4 => .array .int
  | 5 => .object "PuzzlePress$Kind"
  | 6 => .int
  | _ => .long
theorem n_PP : ∀ a, a < 8 → ∀ b, b < 8 → a ≠ b → (F_PP a).2.1 ≠ (F_PP b).2.1 := by decide +kernel
theorem t_PP_ok : ∀ k, k < 8 → parseFieldDescriptor (F_PP k).2.2.1 = some (t_PP k) := by decide +kernel
def F_PI : u_T := fun k => match k with
  | 0 => ("PuzzlePress$Kind", "side", "I", true)
  | 1 => ("PuzzlePress$Kind", "cells", "I", true)
  | 2 => ("PuzzlePress$Kind", "least", "I", true)
  | 3 => ("PuzzlePress$Kind", "values", "I", true)
  | 4 => ("PuzzlePress$Kind", "groups", "I", true)
  | 5 => ("PuzzlePress$Kind", "groupOf", "[I", true)
  | 6 => ("PuzzlePress$Picture", "clues", "[I", true)
  | _ => ("PuzzlePress$Picture", "clueOf", "[I", true)
def t_PI : Nat → FieldType := fun k => match k with
  | 0 => .int
  | 1 => .int
  | 2 => .int
  | 3 => .int
  | 4 => .int
  | 5 => .array .int
  | 6 => .array .int
  | _ => .array .int
theorem n_PI : ∀ a, a < 8 → ∀ b, b < 8 → a ≠ b → (F_PI a).2.1 ≠ (F_PI b).2.1 := by decide +kernel
theorem t_PI_ok : ∀ k, k < 8 → parseFieldDescriptor (F_PI k).2.2.1 = some (t_PI k) := by decide +kernel
def F_SQ : u_T := fun k => match k with
  | 0 => ("PuzzlePress$Kind", "side", "I", true)
  | 1 => ("PuzzlePress$Kind", "cells", "I", true)
  | 2 => ("PuzzlePress$Kind", "least", "I", true)
  | 3 => ("PuzzlePress$Kind", "values", "I", true)
  | 4 => ("PuzzlePress$Kind", "groups", "I", true)
  | 5 => ("PuzzlePress$Kind", "groupOf", "[I", true)
  | 6 => ("PuzzlePress$Square", "rules", "[I", true)
  | _ => ("PuzzlePress$Square", "numbers", "[I", true)
def t_SQ : Nat → FieldType := fun k => match k with
  | 0 => .int
  | 1 => .int
  | 2 => .int
  | 3 => .int
  | 4 => .int
  | 5 => .array .int
  | 6 => .array .int
  | _ => .array .int
theorem n_SQ : ∀ a, a < 8 → ∀ b, b < 8 → a ≠ b → (F_SQ a).2.1 ≠ (F_SQ b).2.1 := by decide +kernel
theorem t_SQ_ok : ∀ k, k < 8 → parseFieldDescriptor (F_SQ k).2.2.1 = some (t_SQ k) := by decide +kernel
def F_ST : u_T := fun k => match k with
  | 0 => ("PuzzlePress$Kind", "side", "I", true)
  | 1 => ("PuzzlePress$Kind", "cells", "I", true)
  | 2 => ("PuzzlePress$Kind", "least", "I", true)
  | 3 => ("PuzzlePress$Kind", "values", "I", true)
  | 4 => ("PuzzlePress$Kind", "groups", "I", true)
  | _ => ("PuzzlePress$Kind", "groupOf", "[I", true)
def t_ST : Nat → FieldType := fun k => match k with
  | 0 => .int
  | 1 => .int
  | 2 => .int
  | 3 => .int
  | 4 => .int
  | _ => .array .int
theorem n_ST : ∀ a, a < 6 → ∀ b, b < 6 → a ≠ b → (F_ST a).2.1 ≠ (F_ST b).2.1 := by decide +kernel
theorem t_ST_ok : ∀ k, k < 6 → parseFieldDescriptor (F_ST k).2.2.1 = some (t_ST k) := by decide +kernel
def F_RE : u_T := fun k => match k with
  | 0 => ("PuzzlePress$Reasoner", "units", "LPuzzlePress$Units;", true)
  | 1 => ("PuzzlePress$Reasoner", "firstFound", "J", false)
  | _ => ("PuzzlePress$Reasoner", "found", "I", false)
def t_RE : Nat → FieldType := fun k => match k with
  | 0 => .object "PuzzlePress$Units"
  | 1 => .long
  | _ => .int
theorem n_RE : ∀ a, a < 3 → ∀ b, b < 3 → a ≠ b → (F_RE a).2.1 ≠ (F_RE b).2.1 := by decide +kernel
theorem t_RE_ok : ∀ k, k < 3 → parseFieldDescriptor (F_RE k).2.2.1 = some (t_RE k) := by decide +kernel
def F_UN : u_T := fun k => match k with
  | 0 => ("PuzzlePress$Units", "scopes", "[J", true)
  | 1 => ("PuzzlePress$Units", "starts", "[I", true)
  | 2 => ("PuzzlePress$Units", "ways", "[J", true)
  | 3 => ("PuzzlePress$Units", "count", "I", false)
  | _ => ("PuzzlePress$Units", "fixed", "I", false)
def t_UN : Nat → FieldType := fun k => match k with
  | 0 => .array .long
  | 1 => .array .int
  | 2 => .array .long
  | 3 => .int
  | _ => .int
theorem n_UN : ∀ a, a < 5 → ∀ b, b < 5 → a ≠ b → (F_UN a).2.1 ≠ (F_UN b).2.1 := by decide +kernel
theorem t_UN_ok : ∀ k, k < 5 → parseFieldDescriptor (F_UN k).2.2.1 = some (t_UN k) := by decide +kernel
def F_MO : u_T := fun k => match k with
  | 0 => ("PuzzlePressModel", "thrown", "I", false)
  | 1 => ("PuzzlePressModel", "kind", "I", false)
  | 2 => ("PuzzlePressModel", "cells", "I", false)
  | 3 => ("PuzzlePressModel", "wide", "I", false)
  | 4 => ("PuzzlePressModel", "clues", "[I", true)
  | 5 => ("PuzzlePressModel", "groups", "[I", true)
  | 6 => ("PuzzlePressModel", "rules", "[I", true)
  | 7 => ("PuzzlePressModel", "numbers", "[I", true)
  | 8 => ("PuzzlePressModel", "givens", "[I", true)
  | 9 => ("PuzzlePressModel", "candidates", "[I", true)
  | 10 => ("PuzzlePressModel", "now", "[I", true)
  | 11 => ("PuzzlePressModel", "lost", "[I", true)
  | 12 => ("PuzzlePressModel", "kept", "[I", true)
  | 13 => ("PuzzlePressModel", "many", "I", false)
  | 14 => ("PuzzlePressModel", "unit", "[I", true)
  | 15 => ("PuzzlePressModel", "can", "[I", true)
  | 16 => ("PuzzlePressModel", "found", "I", false)
  | 17 => ("PuzzlePressModel", "first", "[I", true)
  | 18 => ("PuzzlePressModel", "fill", "[I", true)
  | 19 => ("PuzzlePressModel", "pattern", "[I", true)
  | 20 => ("PuzzlePressModel", "stretches", "[I", true)
  | 21 => ("PuzzlePressModel", "orders", "[I", true)
  | 22 => ("PuzzlePressModel", "besides", "[I", true)
  | _ => ("PuzzlePressModel", "beside", "[I", true)
def t_MO : Nat → FieldType := fun k => match k with
  | 0 => .int
  | 1 => .int
  | 2 => .int
  | 3 => .int
  | 4 => .array .int
  | 5 => .array .int
  | 6 => .array .int
  | 7 => .array .int
  | 8 => .array .int
  | 9 => .array .int
  | 10 => .array .int
  | 11 => .array .int
  | 12 => .array .int
  | 13 => .int
  | 14 => .array .int
  | 15 => .array .int
  | 16 => .int
  | 17 => .array .int
  | 18 => .array .int
  | 19 => .array .int
  | 20 => .array .int
  | 21 => .array .int
  | 22 => .array .int
  | _ => .array .int
theorem n_MO : ∀ a, a < 24 → ∀ b, b < 24 → a ≠ b → (F_MO a).2.1 ≠ (F_MO b).2.1 := by decide +kernel
theorem t_MO_ok : ∀ k, k < 24 → parseFieldDescriptor (F_MO k).2.2.1 = some (t_MO k) := by decide +kernel
abbrev vwCl : List vw_C := [(R_PP, F_PP, 8), (R_PI, F_PI, 8), (R_SQ, F_SQ, 8), (R_ST, F_ST, 6), (R_RE, F_RE, 3), (R_UN, F_UN, 5), (R_MO, F_MO, 24)]
abbrev b_PP_init : ByteArray := prog_1_method_1_code
def y_PP_init : MethodName := ⟨R_PP, "<init>", "()V"⟩
theorem hd_PP_init : y_PP_init.cls = R_PP ∧ y_PP_init.cls ≠ "java/lang/invoke/MethodHandle" ∧ y_PP_init.cls ≠ "java/lang/invoke/VarHandle" ∧ (parseMethodDescriptor y_PP_init.desc).map (fun d => d.parameters.length) = some 0 := by decide +kernel
abbrev b_PP_open : ByteArray := prog_1_method_2_code
def y_PP_open : MethodName := ⟨R_PP, "open", "(I)I"⟩
theorem hd_PP_open : y_PP_open.cls = R_PP ∧ y_PP_open.cls ≠ "java/lang/invoke/MethodHandle" ∧ y_PP_open.cls ≠ "java/lang/invoke/VarHandle" ∧ (parseMethodDescriptor y_PP_open.desc).map (fun d => d.parameters.length) = some 1 := by decide +kernel
abbrev b_PP_kind : ByteArray := prog_1_method_3_code
def y_PP_kind : MethodName := ⟨R_PP, "kind", "()I"⟩
theorem hd_PP_kind : y_PP_kind.cls = R_PP ∧ y_PP_kind.cls ≠ "java/lang/invoke/MethodHandle" ∧ y_PP_kind.cls ≠ "java/lang/invoke/VarHandle" ∧ (parseMethodDescriptor y_PP_kind.desc).map (fun d => d.parameters.length) = some 0 := by decide +kernel
abbrev b_PP_clue : ByteArray := prog_1_method_4_code
def y_PP_clue : MethodName := ⟨R_PP, "clue", "(II)I"⟩
theorem hd_PP_clue : y_PP_clue.cls = R_PP ∧ y_PP_clue.cls ≠ "java/lang/invoke/MethodHandle" ∧ y_PP_clue.cls ≠ "java/lang/invoke/VarHandle" ∧ (parseMethodDescriptor y_PP_clue.desc).map (fun d => d.parameters.length) = some 2 := by decide +kernel
abbrev b_PP_group : ByteArray := prog_1_method_5_code
def y_PP_group : MethodName := ⟨R_PP, "group", "(II)I"⟩
theorem hd_PP_group : y_PP_group.cls = R_PP ∧ y_PP_group.cls ≠ "java/lang/invoke/MethodHandle" ∧ y_PP_group.cls ≠ "java/lang/invoke/VarHandle" ∧ (parseMethodDescriptor y_PP_group.desc).map (fun d => d.parameters.length) = some 2 := by decide +kernel
abbrev b_PP_rule : ByteArray := prog_1_method_6_code
def y_PP_rule : MethodName := ⟨R_PP, "rule", "(III)I"⟩
theorem hd_PP_rule : y_PP_rule.cls = R_PP ∧ y_PP_rule.cls ≠ "java/lang/invoke/MethodHandle" ∧ y_PP_rule.cls ≠ "java/lang/invoke/VarHandle" ∧ (parseMethodDescriptor y_PP_rule.desc).map (fun d => d.parameters.length) = some 3 := by decide +kernel
abbrev b_PP_give : ByteArray := prog_1_method_7_code
def y_PP_give : MethodName := ⟨R_PP, "give", "(II)I"⟩
theorem hd_PP_give : y_PP_give.cls = R_PP ∧ y_PP_give.cls ≠ "java/lang/invoke/MethodHandle" ∧ y_PP_give.cls ≠ "java/lang/invoke/VarHandle" ∧ (parseMethodDescriptor y_PP_give.desc).map (fun d => d.parameters.length) = some 2 := by decide +kernel
abbrev b_PP_given : ByteArray := prog_1_method_8_code
def y_PP_given : MethodName := ⟨R_PP, "given", "(I)I"⟩
theorem hd_PP_given : y_PP_given.cls = R_PP ∧ y_PP_given.cls ≠ "java/lang/invoke/MethodHandle" ∧ y_PP_given.cls ≠ "java/lang/invoke/VarHandle" ∧ (parseMethodDescriptor y_PP_given.desc).map (fun d => d.parameters.length) = some 1 := by decide +kernel
abbrev b_PP_fillings : ByteArray := prog_1_method_9_code
def y_PP_fillings : MethodName := ⟨R_PP, "fillings", "()I"⟩
theorem hd_PP_fillings : y_PP_fillings.cls = R_PP ∧ y_PP_fillings.cls ≠ "java/lang/invoke/MethodHandle" ∧ y_PP_fillings.cls ≠ "java/lang/invoke/VarHandle" ∧ (parseMethodDescriptor y_PP_fillings.desc).map (fun d => d.parameters.length) = some 0 := by decide +kernel
abbrev b_PP_value : ByteArray := prog_1_method_10_code
def y_PP_value : MethodName := ⟨R_PP, "value", "(I)I"⟩
theorem hd_PP_value : y_PP_value.cls = R_PP ∧ y_PP_value.cls ≠ "java/lang/invoke/MethodHandle" ∧ y_PP_value.cls ≠ "java/lang/invoke/VarHandle" ∧ (parseMethodDescriptor y_PP_value.desc).map (fun d => d.parameters.length) = some 1 := by decide +kernel
abbrev b_PP_fresh : ByteArray := prog_1_method_11_code
def y_PP_fresh : MethodName := ⟨R_PP, "fresh", "()I"⟩
theorem hd_PP_fresh : y_PP_fresh.cls = R_PP ∧ y_PP_fresh.cls ≠ "java/lang/invoke/MethodHandle" ∧ y_PP_fresh.cls ≠ "java/lang/invoke/VarHandle" ∧ (parseMethodDescriptor y_PP_fresh.desc).map (fun d => d.parameters.length) = some 0 := by decide +kernel
abbrev b_PP_reason : ByteArray := prog_1_method_12_code
def y_PP_reason : MethodName := ⟨R_PP, "reason", "(I)I"⟩
theorem hd_PP_reason : y_PP_reason.cls = R_PP ∧ y_PP_reason.cls ≠ "java/lang/invoke/MethodHandle" ∧ y_PP_reason.cls ≠ "java/lang/invoke/VarHandle" ∧ (parseMethodDescriptor y_PP_reason.desc).map (fun d => d.parameters.length) = some 1 := by decide +kernel
abbrev b_PP_candidates : ByteArray := prog_1_method_13_code
def y_PP_candidates : MethodName := ⟨R_PP, "candidates", "(I)I"⟩
theorem hd_PP_candidates : y_PP_candidates.cls = R_PP ∧ y_PP_candidates.cls ≠ "java/lang/invoke/MethodHandle" ∧ y_PP_candidates.cls ≠ "java/lang/invoke/VarHandle" ∧ (parseMethodDescriptor y_PP_candidates.desc).map (fun d => d.parameters.length) = some 1 := by decide +kernel
abbrev b_PP_step : ByteArray := prog_1_method_14_code
def y_PP_step : MethodName := ⟨R_PP, "step", "()I"⟩
theorem hd_PP_step : y_PP_step.cls = R_PP ∧ y_PP_step.cls ≠ "java/lang/invoke/MethodHandle" ∧ y_PP_step.cls ≠ "java/lang/invoke/VarHandle" ∧ (parseMethodDescriptor y_PP_step.desc).map (fun d => d.parameters.length) = some 0 := by decide +kernel
abbrev b_PP_grade : ByteArray := prog_1_method_15_code
def y_PP_grade : MethodName := ⟨R_PP, "grade", "()I"⟩
theorem hd_PP_grade : y_PP_grade.cls = R_PP ∧ y_PP_grade.cls ≠ "java/lang/invoke/MethodHandle" ∧ y_PP_grade.cls ≠ "java/lang/invoke/VarHandle" ∧ (parseMethodDescriptor y_PP_grade.desc).map (fun d => d.parameters.length) = some 0 := by decide +kernel
abbrev b_PP_full : ByteArray := prog_1_method_16_code
def y_PP_full : MethodName := ⟨R_PP, "full", "()I"⟩
theorem hd_PP_full : y_PP_full.cls = R_PP ∧ y_PP_full.cls ≠ "java/lang/invoke/MethodHandle" ∧ y_PP_full.cls ≠ "java/lang/invoke/VarHandle" ∧ (parseMethodDescriptor y_PP_full.desc).map (fun d => d.parameters.length) = some 0 := by decide +kernel
abbrev b_PP_thin : ByteArray := prog_1_method_17_code
def y_PP_thin : MethodName := ⟨R_PP, "thin", "(I)I"⟩
theorem hd_PP_thin : y_PP_thin.cls = R_PP ∧ y_PP_thin.cls ≠ "java/lang/invoke/MethodHandle" ∧ y_PP_thin.cls ≠ "java/lang/invoke/VarHandle" ∧ (parseMethodDescriptor y_PP_thin.desc).map (fun d => d.parameters.length) = some 1 := by decide +kernel
abbrev b_PP_checkCell : ByteArray := prog_1_method_18_code
def y_PP_checkCell : MethodName := ⟨R_PP, "checkCell", "(I)V"⟩
theorem hd_PP_checkCell : y_PP_checkCell.cls = R_PP ∧ y_PP_checkCell.cls ≠ "java/lang/invoke/MethodHandle" ∧ y_PP_checkCell.cls ≠ "java/lang/invoke/VarHandle" ∧ (parseMethodDescriptor y_PP_checkCell.desc).map (fun d => d.parameters.length) = some 1 := by decide +kernel
abbrev b_PP_startNew : ByteArray := prog_1_method_19_code
def y_PP_startNew : MethodName := ⟨R_PP, "startNew", "(I)V"⟩
theorem hd_PP_startNew : y_PP_startNew.cls = R_PP ∧ y_PP_startNew.cls ≠ "java/lang/invoke/MethodHandle" ∧ y_PP_startNew.cls ≠ "java/lang/invoke/VarHandle" ∧ (parseMethodDescriptor y_PP_startNew.desc).map (fun d => d.parameters.length) = some 1 := by decide +kernel
abbrev b_PP_renewUnits : ByteArray := prog_1_method_20_code
def y_PP_renewUnits : MethodName := ⟨R_PP, "renewUnits", "()V"⟩
theorem hd_PP_renewUnits : y_PP_renewUnits.cls = R_PP ∧ y_PP_renewUnits.cls ≠ "java/lang/invoke/MethodHandle" ∧ y_PP_renewUnits.cls ≠ "java/lang/invoke/VarHandle" ∧ (parseMethodDescriptor y_PP_renewUnits.desc).map (fun d => d.parameters.length) = some 0 := by decide +kernel
abbrev b_PP_atFirst : ByteArray := prog_1_method_21_code
def y_PP_atFirst : MethodName := ⟨R_PP, "atFirst", "()J"⟩
theorem hd_PP_atFirst : y_PP_atFirst.cls = R_PP ∧ y_PP_atFirst.cls ≠ "java/lang/invoke/MethodHandle" ∧ y_PP_atFirst.cls ≠ "java/lang/invoke/VarHandle" ∧ (parseMethodDescriptor y_PP_atFirst.desc).map (fun d => d.parameters.length) = some 0 := by decide +kernel
abbrev b_PP_firstFilling : ByteArray := prog_1_method_22_code
def y_PP_firstFilling : MethodName := ⟨R_PP, "firstFilling", "()J"⟩
theorem hd_PP_firstFilling : y_PP_firstFilling.cls = R_PP ∧ y_PP_firstFilling.cls ≠ "java/lang/invoke/MethodHandle" ∧ y_PP_firstFilling.cls ≠ "java/lang/invoke/VarHandle" ∧ (parseMethodDescriptor y_PP_firstFilling.desc).map (fun d => d.parameters.length) = some 0 := by decide +kernel
abbrev b_PP_isEasy : ByteArray := prog_1_method_23_code
def y_PP_isEasy : MethodName := ⟨R_PP, "isEasy", "(II)Z"⟩
theorem hd_PP_isEasy : y_PP_isEasy.cls = R_PP ∧ y_PP_isEasy.cls ≠ "java/lang/invoke/MethodHandle" ∧ y_PP_isEasy.cls ≠ "java/lang/invoke/VarHandle" ∧ (parseMethodDescriptor y_PP_isEasy.desc).map (fun d => d.parameters.length) = some 2 := by decide +kernel
abbrev b_MO_init : ByteArray := prog_9_method_1_code
def y_MO_init : MethodName := ⟨R_MO, "<init>", "()V"⟩
theorem hd_MO_init : y_MO_init.cls = R_MO ∧ y_MO_init.cls ≠ "java/lang/invoke/MethodHandle" ∧ y_MO_init.cls ≠ "java/lang/invoke/VarHandle" ∧ (parseMethodDescriptor y_MO_init.desc).map (fun d => d.parameters.length) = some 0 := by decide +kernel
abbrev b_MO_thrown : ByteArray := prog_9_method_2_code
def y_MO_thrown : MethodName := ⟨R_MO, "thrown", "()I"⟩
theorem hd_MO_thrown : y_MO_thrown.cls = R_MO ∧ y_MO_thrown.cls ≠ "java/lang/invoke/MethodHandle" ∧ y_MO_thrown.cls ≠ "java/lang/invoke/VarHandle" ∧ (parseMethodDescriptor y_MO_thrown.desc).map (fun d => d.parameters.length) = some 0 := by decide +kernel
abbrev b_MO_begin : ByteArray := prog_9_method_3_code
def y_MO_begin : MethodName := ⟨R_MO, "begin", "(I)V"⟩
theorem hd_MO_begin : y_MO_begin.cls = R_MO ∧ y_MO_begin.cls ≠ "java/lang/invoke/MethodHandle" ∧ y_MO_begin.cls ≠ "java/lang/invoke/VarHandle" ∧ (parseMethodDescriptor y_MO_begin.desc).map (fun d => d.parameters.length) = some 1 := by decide +kernel
abbrev b_MO_allValues : ByteArray := prog_9_method_4_code
def y_MO_allValues : MethodName := ⟨R_MO, "allValues", "()I"⟩
theorem hd_MO_allValues : y_MO_allValues.cls = R_MO ∧ y_MO_allValues.cls ≠ "java/lang/invoke/MethodHandle" ∧ y_MO_allValues.cls ≠ "java/lang/invoke/VarHandle" ∧ (parseMethodDescriptor y_MO_allValues.desc).map (fun d => d.parameters.length) = some 0 := by decide +kernel
abbrev b_MO_refresh : ByteArray := prog_9_method_5_code
def y_MO_refresh : MethodName := ⟨R_MO, "refresh", "()V"⟩
theorem hd_MO_refresh : y_MO_refresh.cls = R_MO ∧ y_MO_refresh.cls ≠ "java/lang/invoke/MethodHandle" ∧ y_MO_refresh.cls ≠ "java/lang/invoke/VarHandle" ∧ (parseMethodDescriptor y_MO_refresh.desc).map (fun d => d.parameters.length) = some 0 := by decide +kernel
abbrev b_MO_open : ByteArray := prog_9_method_6_code
def y_MO_open : MethodName := ⟨R_MO, "open", "(I)I"⟩
theorem hd_MO_open : y_MO_open.cls = R_MO ∧ y_MO_open.cls ≠ "java/lang/invoke/MethodHandle" ∧ y_MO_open.cls ≠ "java/lang/invoke/VarHandle" ∧ (parseMethodDescriptor y_MO_open.desc).map (fun d => d.parameters.length) = some 1 := by decide +kernel
abbrev b_MO_kind : ByteArray := prog_9_method_7_code
def y_MO_kind : MethodName := ⟨R_MO, "kind", "()I"⟩
theorem hd_MO_kind : y_MO_kind.cls = R_MO ∧ y_MO_kind.cls ≠ "java/lang/invoke/MethodHandle" ∧ y_MO_kind.cls ≠ "java/lang/invoke/VarHandle" ∧ (parseMethodDescriptor y_MO_kind.desc).map (fun d => d.parameters.length) = some 0 := by decide +kernel
abbrev b_MO_isClue : ByteArray := prog_9_method_8_code
def y_MO_isClue : MethodName := ⟨R_MO, "isClue", "(I)Z"⟩
theorem hd_MO_isClue : y_MO_isClue.cls = R_MO ∧ y_MO_isClue.cls ≠ "java/lang/invoke/MethodHandle" ∧ y_MO_isClue.cls ≠ "java/lang/invoke/VarHandle" ∧ (parseMethodDescriptor y_MO_isClue.desc).map (fun d => d.parameters.length) = some 1 := by decide +kernel
abbrev b_MO_clue : ByteArray := prog_9_method_9_code
def y_MO_clue : MethodName := ⟨R_MO, "clue", "(II)I"⟩
theorem hd_MO_clue : y_MO_clue.cls = R_MO ∧ y_MO_clue.cls ≠ "java/lang/invoke/MethodHandle" ∧ y_MO_clue.cls ≠ "java/lang/invoke/VarHandle" ∧ (parseMethodDescriptor y_MO_clue.desc).map (fun d => d.parameters.length) = some 2 := by decide +kernel
abbrev b_MO_noCell : ByteArray := prog_9_method_10_code
def y_MO_noCell : MethodName := ⟨R_MO, "noCell", "(I)Z"⟩
theorem hd_MO_noCell : y_MO_noCell.cls = R_MO ∧ y_MO_noCell.cls ≠ "java/lang/invoke/MethodHandle" ∧ y_MO_noCell.cls ≠ "java/lang/invoke/VarHandle" ∧ (parseMethodDescriptor y_MO_noCell.desc).map (fun d => d.parameters.length) = some 1 := by decide +kernel
abbrev b_MO_sizeOf : ByteArray := prog_9_method_11_code
def y_MO_sizeOf : MethodName := ⟨R_MO, "sizeOf", "(I)I"⟩
theorem hd_MO_sizeOf : y_MO_sizeOf.cls = R_MO ∧ y_MO_sizeOf.cls ≠ "java/lang/invoke/MethodHandle" ∧ y_MO_sizeOf.cls ≠ "java/lang/invoke/VarHandle" ∧ (parseMethodDescriptor y_MO_sizeOf.desc).map (fun d => d.parameters.length) = some 1 := by decide +kernel
abbrev b_MO_group : ByteArray := prog_9_method_12_code
def y_MO_group : MethodName := ⟨R_MO, "group", "(II)I"⟩
theorem hd_MO_group : y_MO_group.cls = R_MO ∧ y_MO_group.cls ≠ "java/lang/invoke/MethodHandle" ∧ y_MO_group.cls ≠ "java/lang/invoke/VarHandle" ∧ (parseMethodDescriptor y_MO_group.desc).map (fun d => d.parameters.length) = some 2 := by decide +kernel
abbrev b_MO_rule : ByteArray := prog_9_method_13_code
def y_MO_rule : MethodName := ⟨R_MO, "rule", "(III)I"⟩
theorem hd_MO_rule : y_MO_rule.cls = R_MO ∧ y_MO_rule.cls ≠ "java/lang/invoke/MethodHandle" ∧ y_MO_rule.cls ≠ "java/lang/invoke/VarHandle" ∧ (parseMethodDescriptor y_MO_rule.desc).map (fun d => d.parameters.length) = some 3 := by decide +kernel
abbrev b_MO_isValue : ByteArray := prog_9_method_14_code
def y_MO_isValue : MethodName := ⟨R_MO, "isValue", "(I)Z"⟩
theorem hd_MO_isValue : y_MO_isValue.cls = R_MO ∧ y_MO_isValue.cls ≠ "java/lang/invoke/MethodHandle" ∧ y_MO_isValue.cls ≠ "java/lang/invoke/VarHandle" ∧ (parseMethodDescriptor y_MO_isValue.desc).map (fun d => d.parameters.length) = some 1 := by decide +kernel
abbrev b_MO_give : ByteArray := prog_9_method_15_code
def y_MO_give : MethodName := ⟨R_MO, "give", "(II)I"⟩
theorem hd_MO_give : y_MO_give.cls = R_MO ∧ y_MO_give.cls ≠ "java/lang/invoke/MethodHandle" ∧ y_MO_give.cls ≠ "java/lang/invoke/VarHandle" ∧ (parseMethodDescriptor y_MO_give.desc).map (fun d => d.parameters.length) = some 2 := by decide +kernel
abbrev b_MO_given : ByteArray := prog_9_method_16_code
def y_MO_given : MethodName := ⟨R_MO, "given", "(I)I"⟩
theorem hd_MO_given : y_MO_given.cls = R_MO ∧ y_MO_given.cls ≠ "java/lang/invoke/MethodHandle" ∧ y_MO_given.cls ≠ "java/lang/invoke/VarHandle" ∧ (parseMethodDescriptor y_MO_given.desc).map (fun d => d.parameters.length) = some 1 := by decide +kernel
abbrev b_MO_stretchesOf : ByteArray := prog_9_method_17_code
def y_MO_stretchesOf : MethodName := ⟨R_MO, "stretchesOf", "(I)I"⟩
theorem hd_MO_stretchesOf : y_MO_stretchesOf.cls = R_MO ∧ y_MO_stretchesOf.cls ≠ "java/lang/invoke/MethodHandle" ∧ y_MO_stretchesOf.cls ≠ "java/lang/invoke/VarHandle" ∧ (parseMethodDescriptor y_MO_stretchesOf.desc).map (fun d => d.parameters.length) = some 1 := by decide +kernel
abbrev b_MO_valueOf : ByteArray := prog_9_method_18_code
def y_MO_valueOf : MethodName := ⟨R_MO, "valueOf", "(II)I"⟩
theorem hd_MO_valueOf : y_MO_valueOf.cls = R_MO ∧ y_MO_valueOf.cls ≠ "java/lang/invoke/MethodHandle" ∧ y_MO_valueOf.cls ≠ "java/lang/invoke/VarHandle" ∧ (parseMethodDescriptor y_MO_valueOf.desc).map (fun d => d.parameters.length) = some 2 := by decide +kernel
abbrev b_MO_ones : ByteArray := prog_9_method_19_code
def y_MO_ones : MethodName := ⟨R_MO, "ones", "(I)I"⟩
theorem hd_MO_ones : y_MO_ones.cls = R_MO ∧ y_MO_ones.cls ≠ "java/lang/invoke/MethodHandle" ∧ y_MO_ones.cls ≠ "java/lang/invoke/VarHandle" ∧ (parseMethodDescriptor y_MO_ones.desc).map (fun d => d.parameters.length) = some 1 := by decide +kernel
abbrev b_MO_lay : ByteArray := prog_9_method_20_code
def y_MO_lay : MethodName := ⟨R_MO, "lay", "(II)Z"⟩
theorem hd_MO_lay : y_MO_lay.cls = R_MO ∧ y_MO_lay.cls ≠ "java/lang/invoke/MethodHandle" ∧ y_MO_lay.cls ≠ "java/lang/invoke/VarHandle" ∧ (parseMethodDescriptor y_MO_lay.desc).map (fun d => d.parameters.length) = some 2 := by decide +kernel
abbrev b_MO_columnsFit : ByteArray := prog_9_method_21_code
def y_MO_columnsFit : MethodName := ⟨R_MO, "columnsFit", "()Z"⟩
theorem hd_MO_columnsFit : y_MO_columnsFit.cls = R_MO ∧ y_MO_columnsFit.cls ≠ "java/lang/invoke/MethodHandle" ∧ y_MO_columnsFit.cls ≠ "java/lang/invoke/VarHandle" ∧ (parseMethodDescriptor y_MO_columnsFit.desc).map (fun d => d.parameters.length) = some 0 := by decide +kernel
abbrev b_MO_groupsFit : ByteArray := prog_9_method_22_code
def y_MO_groupsFit : MethodName := ⟨R_MO, "groupsFit", "()Z"⟩
theorem hd_MO_groupsFit : y_MO_groupsFit.cls = R_MO ∧ y_MO_groupsFit.cls ≠ "java/lang/invoke/MethodHandle" ∧ y_MO_groupsFit.cls ≠ "java/lang/invoke/VarHandle" ∧ (parseMethodDescriptor y_MO_groupsFit.desc).map (fun d => d.parameters.length) = some 0 := by decide +kernel
abbrev b_MO_apart : ByteArray := prog_9_method_23_code
def y_MO_apart : MethodName := ⟨R_MO, "apart", "(II)I"⟩
theorem hd_MO_apart : y_MO_apart.cls = R_MO ∧ y_MO_apart.cls ≠ "java/lang/invoke/MethodHandle" ∧ y_MO_apart.cls ≠ "java/lang/invoke/VarHandle" ∧ (parseMethodDescriptor y_MO_apart.desc).map (fun d => d.parameters.length) = some 2 := by decide +kernel
abbrev b_MO_touch : ByteArray := prog_9_method_24_code
def y_MO_touch : MethodName := ⟨R_MO, "touch", "(II)Z"⟩
theorem hd_MO_touch : y_MO_touch.cls = R_MO ∧ y_MO_touch.cls ≠ "java/lang/invoke/MethodHandle" ∧ y_MO_touch.cls ≠ "java/lang/invoke/VarHandle" ∧ (parseMethodDescriptor y_MO_touch.desc).map (fun d => d.parameters.length) = some 2 := by decide +kernel
abbrev b_MO_starsFit : ByteArray := prog_9_method_25_code
def y_MO_starsFit : MethodName := ⟨R_MO, "starsFit", "()Z"⟩
theorem hd_MO_starsFit : y_MO_starsFit.cls = R_MO ∧ y_MO_starsFit.cls ≠ "java/lang/invoke/MethodHandle" ∧ y_MO_starsFit.cls ≠ "java/lang/invoke/VarHandle" ∧ (parseMethodDescriptor y_MO_starsFit.desc).map (fun d => d.parameters.length) = some 0 := by decide +kernel
abbrev b_MO_isFilling : ByteArray := prog_9_method_26_code
def y_MO_isFilling : MethodName := ⟨R_MO, "isFilling", "()Z"⟩
theorem hd_MO_isFilling : y_MO_isFilling.cls = R_MO ∧ y_MO_isFilling.cls ≠ "java/lang/invoke/MethodHandle" ∧ y_MO_isFilling.cls ≠ "java/lang/invoke/VarHandle" ∧ (parseMethodDescriptor y_MO_isFilling.desc).map (fun d => d.parameters.length) = some 0 := by decide +kernel
abbrev b_MO_search : ByteArray := prog_9_method_27_code
def y_MO_search : MethodName := ⟨R_MO, "search", "()V"⟩
theorem hd_MO_search : y_MO_search.cls = R_MO ∧ y_MO_search.cls ≠ "java/lang/invoke/MethodHandle" ∧ y_MO_search.cls ≠ "java/lang/invoke/VarHandle" ∧ (parseMethodDescriptor y_MO_search.desc).map (fun d => d.parameters.length) = some 0 := by decide +kernel
abbrev b_MO_fillings : ByteArray := prog_9_method_28_code
def y_MO_fillings : MethodName := ⟨R_MO, "fillings", "()I"⟩
theorem hd_MO_fillings : y_MO_fillings.cls = R_MO ∧ y_MO_fillings.cls ≠ "java/lang/invoke/MethodHandle" ∧ y_MO_fillings.cls ≠ "java/lang/invoke/VarHandle" ∧ (parseMethodDescriptor y_MO_fillings.desc).map (fun d => d.parameters.length) = some 0 := by decide +kernel
abbrev b_MO_value : ByteArray := prog_9_method_29_code
def y_MO_value : MethodName := ⟨R_MO, "value", "(I)I"⟩
theorem hd_MO_value : y_MO_value.cls = R_MO ∧ y_MO_value.cls ≠ "java/lang/invoke/MethodHandle" ∧ y_MO_value.cls ≠ "java/lang/invoke/VarHandle" ∧ (parseMethodDescriptor y_MO_value.desc).map (fun d => d.parameters.length) = some 1 := by decide +kernel
abbrev b_MO_may : ByteArray := prog_9_method_30_code
def y_MO_may : MethodName := ⟨R_MO, "may", "(II)Z"⟩
theorem hd_MO_may : y_MO_may.cls = R_MO ∧ y_MO_may.cls ≠ "java/lang/invoke/MethodHandle" ∧ y_MO_may.cls ≠ "java/lang/invoke/VarHandle" ∧ (parseMethodDescriptor y_MO_may.desc).map (fun d => d.parameters.length) = some 2 := by decide +kernel
abbrev b_MO_lose : ByteArray := prog_9_method_31_code
def y_MO_lose : MethodName := ⟨R_MO, "lose", "()V"⟩
theorem hd_MO_lose : y_MO_lose.cls = R_MO ∧ y_MO_lose.cls ≠ "java/lang/invoke/MethodHandle" ∧ y_MO_lose.cls ≠ "java/lang/invoke/VarHandle" ∧ (parseMethodDescriptor y_MO_lose.desc).map (fun d => d.parameters.length) = some 0 := by decide +kernel
abbrev b_MO_beginUnit : ByteArray := prog_9_method_32_code
def y_MO_beginUnit : MethodName := ⟨R_MO, "beginUnit", "()V"⟩
theorem hd_MO_beginUnit : y_MO_beginUnit.cls = R_MO ∧ y_MO_beginUnit.cls ≠ "java/lang/invoke/MethodHandle" ∧ y_MO_beginUnit.cls ≠ "java/lang/invoke/VarHandle" ∧ (parseMethodDescriptor y_MO_beginUnit.desc).map (fun d => d.parameters.length) = some 0 := by decide +kernel
abbrev b_MO_addCell : ByteArray := prog_9_method_33_code
def y_MO_addCell : MethodName := ⟨R_MO, "addCell", "(I)V"⟩
theorem hd_MO_addCell : y_MO_addCell.cls = R_MO ∧ y_MO_addCell.cls ≠ "java/lang/invoke/MethodHandle" ∧ y_MO_addCell.cls ≠ "java/lang/invoke/VarHandle" ∧ (parseMethodDescriptor y_MO_addCell.desc).map (fun d => d.parameters.length) = some 1 := by decide +kernel
abbrev b_MO_addLine : ByteArray := prog_9_method_34_code
def y_MO_addLine : MethodName := ⟨R_MO, "addLine", "(I)V"⟩
theorem hd_MO_addLine : y_MO_addLine.cls = R_MO ∧ y_MO_addLine.cls ≠ "java/lang/invoke/MethodHandle" ∧ y_MO_addLine.cls ≠ "java/lang/invoke/VarHandle" ∧ (parseMethodDescriptor y_MO_addLine.desc).map (fun d => d.parameters.length) = some 1 := by decide +kernel
abbrev b_MO_tryPicture : ByteArray := prog_9_method_35_code
def y_MO_tryPicture : MethodName := ⟨R_MO, "tryPicture", "(I)V"⟩
theorem hd_MO_tryPicture : y_MO_tryPicture.cls = R_MO ∧ y_MO_tryPicture.cls ≠ "java/lang/invoke/MethodHandle" ∧ y_MO_tryPicture.cls ≠ "java/lang/invoke/VarHandle" ∧ (parseMethodDescriptor y_MO_tryPicture.desc).map (fun d => d.parameters.length) = some 1 := by decide +kernel
abbrev b_MO_goes : ByteArray := prog_9_method_36_code
def y_MO_goes : MethodName := ⟨R_MO, "goes", "(III)Z"⟩
theorem hd_MO_goes : y_MO_goes.cls = R_MO ∧ y_MO_goes.cls ≠ "java/lang/invoke/MethodHandle" ∧ y_MO_goes.cls ≠ "java/lang/invoke/VarHandle" ∧ (parseMethodDescriptor y_MO_goes.desc).map (fun d => d.parameters.length) = some 3 := by decide +kernel
abbrev b_MO_note : ByteArray := prog_9_method_37_code
def y_MO_note : MethodName := ⟨R_MO, "note", "(IIIIII)V"⟩
theorem hd_MO_note : y_MO_note.cls = R_MO ∧ y_MO_note.cls ≠ "java/lang/invoke/MethodHandle" ∧ y_MO_note.cls ≠ "java/lang/invoke/VarHandle" ∧ (parseMethodDescriptor y_MO_note.desc).map (fun d => d.parameters.length) = some 6 := by decide +kernel
abbrev b_MO_trySquare : ByteArray := prog_9_method_38_code
def y_MO_trySquare : MethodName := ⟨R_MO, "trySquare", "(II)V"⟩
theorem hd_MO_trySquare : y_MO_trySquare.cls = R_MO ∧ y_MO_trySquare.cls ≠ "java/lang/invoke/MethodHandle" ∧ y_MO_trySquare.cls ≠ "java/lang/invoke/VarHandle" ∧ (parseMethodDescriptor y_MO_trySquare.desc).map (fun d => d.parameters.length) = some 2 := by decide +kernel
abbrev b_MO_tryStar : ByteArray := prog_9_method_39_code
def y_MO_tryStar : MethodName := ⟨R_MO, "tryStar", "()V"⟩
theorem hd_MO_tryStar : y_MO_tryStar.cls = R_MO ∧ y_MO_tryStar.cls ≠ "java/lang/invoke/MethodHandle" ∧ y_MO_tryStar.cls ≠ "java/lang/invoke/VarHandle" ∧ (parseMethodDescriptor y_MO_tryStar.desc).map (fun d => d.parameters.length) = some 0 := by decide +kernel
abbrev b_MO_tryPairs : ByteArray := prog_9_method_40_code
def y_MO_tryPairs : MethodName := ⟨R_MO, "tryPairs", "()V"⟩
theorem hd_MO_tryPairs : y_MO_tryPairs.cls = R_MO ∧ y_MO_tryPairs.cls ≠ "java/lang/invoke/MethodHandle" ∧ y_MO_tryPairs.cls ≠ "java/lang/invoke/VarHandle" ∧ (parseMethodDescriptor y_MO_tryPairs.desc).map (fun d => d.parameters.length) = some 0 := by decide +kernel
abbrev b_MO_addGroup : ByteArray := prog_9_method_41_code
def y_MO_addGroup : MethodName := ⟨R_MO, "addGroup", "(I)V"⟩
theorem hd_MO_addGroup : y_MO_addGroup.cls = R_MO ∧ y_MO_addGroup.cls ≠ "java/lang/invoke/MethodHandle" ∧ y_MO_addGroup.cls ≠ "java/lang/invoke/VarHandle" ∧ (parseMethodDescriptor y_MO_addGroup.desc).map (fun d => d.parameters.length) = some 1 := by decide +kernel
abbrev b_MO_look : ByteArray := prog_9_method_42_code
def y_MO_look : MethodName := ⟨R_MO, "look", "()Z"⟩
theorem hd_MO_look : y_MO_look.cls = R_MO ∧ y_MO_look.cls ≠ "java/lang/invoke/MethodHandle" ∧ y_MO_look.cls ≠ "java/lang/invoke/VarHandle" ∧ (parseMethodDescriptor y_MO_look.desc).map (fun d => d.parameters.length) = some 0 := by decide +kernel
abbrev b_MO_reasonByOne : ByteArray := prog_9_method_43_code
def y_MO_reasonByOne : MethodName := ⟨R_MO, "reasonByOne", "()V"⟩
theorem hd_MO_reasonByOne : y_MO_reasonByOne.cls = R_MO ∧ y_MO_reasonByOne.cls ≠ "java/lang/invoke/MethodHandle" ∧ y_MO_reasonByOne.cls ≠ "java/lang/invoke/VarHandle" ∧ (parseMethodDescriptor y_MO_reasonByOne.desc).map (fun d => d.parameters.length) = some 0 := by decide +kernel
abbrev b_MO_isEmpty : ByteArray := prog_9_method_44_code
def y_MO_isEmpty : MethodName := ⟨R_MO, "isEmpty", "()Z"⟩
theorem hd_MO_isEmpty : y_MO_isEmpty.cls = R_MO ∧ y_MO_isEmpty.cls ≠ "java/lang/invoke/MethodHandle" ∧ y_MO_isEmpty.cls ≠ "java/lang/invoke/VarHandle" ∧ (parseMethodDescriptor y_MO_isEmpty.desc).map (fun d => d.parameters.length) = some 0 := by decide +kernel
abbrev b_MO_fails : ByteArray := prog_9_method_45_code
def y_MO_fails : MethodName := ⟨R_MO, "fails", "(II)Z"⟩
theorem hd_MO_fails : y_MO_fails.cls = R_MO ∧ y_MO_fails.cls ≠ "java/lang/invoke/MethodHandle" ∧ y_MO_fails.cls ≠ "java/lang/invoke/VarHandle" ∧ (parseMethodDescriptor y_MO_fails.desc).map (fun d => d.parameters.length) = some 2 := by decide +kernel
abbrev b_MO_reasonByBoth : ByteArray := prog_9_method_46_code
def y_MO_reasonByBoth : MethodName := ⟨R_MO, "reasonByBoth", "()V"⟩
theorem hd_MO_reasonByBoth : y_MO_reasonByBoth.cls = R_MO ∧ y_MO_reasonByBoth.cls ≠ "java/lang/invoke/MethodHandle" ∧ y_MO_reasonByBoth.cls ≠ "java/lang/invoke/VarHandle" ∧ (parseMethodDescriptor y_MO_reasonByBoth.desc).map (fun d => d.parameters.length) = some 0 := by decide +kernel
abbrev b_MO_countAll : ByteArray := prog_9_method_47_code
def y_MO_countAll : MethodName := ⟨R_MO, "countAll", "()I"⟩
theorem hd_MO_countAll : y_MO_countAll.cls = R_MO ∧ y_MO_countAll.cls ≠ "java/lang/invoke/MethodHandle" ∧ y_MO_countAll.cls ≠ "java/lang/invoke/VarHandle" ∧ (parseMethodDescriptor y_MO_countAll.desc).map (fun d => d.parameters.length) = some 0 := by decide +kernel
abbrev b_MO_fresh : ByteArray := prog_9_method_48_code
def y_MO_fresh : MethodName := ⟨R_MO, "fresh", "()I"⟩
theorem hd_MO_fresh : y_MO_fresh.cls = R_MO ∧ y_MO_fresh.cls ≠ "java/lang/invoke/MethodHandle" ∧ y_MO_fresh.cls ≠ "java/lang/invoke/VarHandle" ∧ (parseMethodDescriptor y_MO_fresh.desc).map (fun d => d.parameters.length) = some 0 := by decide +kernel
abbrev b_MO_reason : ByteArray := prog_9_method_49_code
def y_MO_reason : MethodName := ⟨R_MO, "reason", "(I)I"⟩
theorem hd_MO_reason : y_MO_reason.cls = R_MO ∧ y_MO_reason.cls ≠ "java/lang/invoke/MethodHandle" ∧ y_MO_reason.cls ≠ "java/lang/invoke/VarHandle" ∧ (parseMethodDescriptor y_MO_reason.desc).map (fun d => d.parameters.length) = some 1 := by decide +kernel
abbrev b_MO_candidates : ByteArray := prog_9_method_50_code
def y_MO_candidates : MethodName := ⟨R_MO, "candidates", "(I)I"⟩
theorem hd_MO_candidates : y_MO_candidates.cls = R_MO ∧ y_MO_candidates.cls ≠ "java/lang/invoke/MethodHandle" ∧ y_MO_candidates.cls ≠ "java/lang/invoke/VarHandle" ∧ (parseMethodDescriptor y_MO_candidates.desc).map (fun d => d.parameters.length) = some 1 := by decide +kernel
abbrev b_MO_firstLost : ByteArray := prog_9_method_51_code
def y_MO_firstLost : MethodName := ⟨R_MO, "firstLost", "()I"⟩
theorem hd_MO_firstLost : y_MO_firstLost.cls = R_MO ∧ y_MO_firstLost.cls ≠ "java/lang/invoke/MethodHandle" ∧ y_MO_firstLost.cls ≠ "java/lang/invoke/VarHandle" ∧ (parseMethodDescriptor y_MO_firstLost.desc).map (fun d => d.parameters.length) = some 0 := by decide +kernel
abbrev b_MO_firstFailing : ByteArray := prog_9_method_52_code
def y_MO_firstFailing : MethodName := ⟨R_MO, "firstFailing", "()I"⟩
theorem hd_MO_firstFailing : y_MO_firstFailing.cls = R_MO ∧ y_MO_firstFailing.cls ≠ "java/lang/invoke/MethodHandle" ∧ y_MO_firstFailing.cls ≠ "java/lang/invoke/VarHandle" ∧ (parseMethodDescriptor y_MO_firstFailing.desc).map (fun d => d.parameters.length) = some 0 := by decide +kernel
abbrev b_MO_step : ByteArray := prog_9_method_53_code
def y_MO_step : MethodName := ⟨R_MO, "step", "()I"⟩
theorem hd_MO_step : y_MO_step.cls = R_MO ∧ y_MO_step.cls ≠ "java/lang/invoke/MethodHandle" ∧ y_MO_step.cls ≠ "java/lang/invoke/VarHandle" ∧ (parseMethodDescriptor y_MO_step.desc).map (fun d => d.parameters.length) = some 0 := by decide +kernel
abbrev b_MO_isDone : ByteArray := prog_9_method_54_code
def y_MO_isDone : MethodName := ⟨R_MO, "isDone", "()Z"⟩
theorem hd_MO_isDone : y_MO_isDone.cls = R_MO ∧ y_MO_isDone.cls ≠ "java/lang/invoke/MethodHandle" ∧ y_MO_isDone.cls ≠ "java/lang/invoke/VarHandle" ∧ (parseMethodDescriptor y_MO_isDone.desc).map (fun d => d.parameters.length) = some 0 := by decide +kernel
abbrev b_MO_gradeNow : ByteArray := prog_9_method_55_code
def y_MO_gradeNow : MethodName := ⟨R_MO, "gradeNow", "()I"⟩
theorem hd_MO_gradeNow : y_MO_gradeNow.cls = R_MO ∧ y_MO_gradeNow.cls ≠ "java/lang/invoke/MethodHandle" ∧ y_MO_gradeNow.cls ≠ "java/lang/invoke/VarHandle" ∧ (parseMethodDescriptor y_MO_gradeNow.desc).map (fun d => d.parameters.length) = some 0 := by decide +kernel
abbrev b_MO_grade : ByteArray := prog_9_method_56_code
def y_MO_grade : MethodName := ⟨R_MO, "grade", "()I"⟩
theorem hd_MO_grade : y_MO_grade.cls = R_MO ∧ y_MO_grade.cls ≠ "java/lang/invoke/MethodHandle" ∧ y_MO_grade.cls ≠ "java/lang/invoke/VarHandle" ∧ (parseMethodDescriptor y_MO_grade.desc).map (fun d => d.parameters.length) = some 0 := by decide +kernel
abbrev b_MO_full : ByteArray := prog_9_method_57_code
def y_MO_full : MethodName := ⟨R_MO, "full", "()I"⟩
theorem hd_MO_full : y_MO_full.cls = R_MO ∧ y_MO_full.cls ≠ "java/lang/invoke/MethodHandle" ∧ y_MO_full.cls ≠ "java/lang/invoke/VarHandle" ∧ (parseMethodDescriptor y_MO_full.desc).map (fun d => d.parameters.length) = some 0 := by decide +kernel
abbrev b_MO_thin : ByteArray := prog_9_method_58_code
def y_MO_thin : MethodName := ⟨R_MO, "thin", "(I)I"⟩
theorem hd_MO_thin : y_MO_thin.cls = R_MO ∧ y_MO_thin.cls ≠ "java/lang/invoke/MethodHandle" ∧ y_MO_thin.cls ≠ "java/lang/invoke/VarHandle" ∧ (parseMethodDescriptor y_MO_thin.desc).map (fun d => d.parameters.length) = some 1 := by decide +kernel
abbrev b_KD_init : ByteArray := prog_2_method_1_code
def y_KD_init : MethodName := ⟨R_KD, "<init>", "(IIII)V"⟩
theorem hd_KD_init : y_KD_init.cls = R_KD ∧ y_KD_init.cls ≠ "java/lang/invoke/MethodHandle" ∧ y_KD_init.cls ≠ "java/lang/invoke/VarHandle" ∧ (parseMethodDescriptor y_KD_init.desc).map (fun d => d.parameters.length) = some 4 := by decide +kernel
abbrev b_KD_hasCell : ByteArray := prog_2_method_5_code
def y_KD_hasCell : MethodName := ⟨R_KD, "hasCell", "(I)Z"⟩
theorem hd_KD_hasCell : y_KD_hasCell.cls = R_KD ∧ y_KD_hasCell.cls ≠ "java/lang/invoke/MethodHandle" ∧ y_KD_hasCell.cls ≠ "java/lang/invoke/VarHandle" ∧ (parseMethodDescriptor y_KD_hasCell.desc).map (fun d => d.parameters.length) = some 1 := by decide +kernel
abbrev b_KD_hasValue : ByteArray := prog_2_method_6_code
def y_KD_hasValue : MethodName := ⟨R_KD, "hasValue", "(I)Z"⟩
theorem hd_KD_hasValue : y_KD_hasValue.cls = R_KD ∧ y_KD_hasValue.cls ≠ "java/lang/invoke/MethodHandle" ∧ y_KD_hasValue.cls ≠ "java/lang/invoke/VarHandle" ∧ (parseMethodDescriptor y_KD_hasValue.desc).map (fun d => d.parameters.length) = some 1 := by decide +kernel
abbrev b_KD_bit : ByteArray := prog_2_method_7_code
def y_KD_bit : MethodName := ⟨R_KD, "bit", "(II)J"⟩
theorem hd_KD_bit : y_KD_bit.cls = R_KD ∧ y_KD_bit.cls ≠ "java/lang/invoke/MethodHandle" ∧ y_KD_bit.cls ≠ "java/lang/invoke/VarHandle" ∧ (parseMethodDescriptor y_KD_bit.desc).map (fun d => d.parameters.length) = some 2 := by decide +kernel
abbrev b_KD_allOf : ByteArray := prog_2_method_8_code
def y_KD_allOf : MethodName := ⟨R_KD, "allOf", "(I)J"⟩
theorem hd_KD_allOf : y_KD_allOf.cls = R_KD ∧ y_KD_allOf.cls ≠ "java/lang/invoke/MethodHandle" ∧ y_KD_allOf.cls ≠ "java/lang/invoke/VarHandle" ∧ (parseMethodDescriptor y_KD_allOf.desc).map (fun d => d.parameters.length) = some 1 := by decide +kernel
abbrev b_KD_cellOf : ByteArray := prog_2_method_9_code
def y_KD_cellOf : MethodName := ⟨R_KD, "cellOf", "(J)I"⟩
theorem hd_KD_cellOf : y_KD_cellOf.cls = R_KD ∧ y_KD_cellOf.cls ≠ "java/lang/invoke/MethodHandle" ∧ y_KD_cellOf.cls ≠ "java/lang/invoke/VarHandle" ∧ (parseMethodDescriptor y_KD_cellOf.desc).map (fun d => d.parameters.length) = some 1 := by decide +kernel
abbrev b_KD_valuesIn : ByteArray := prog_2_method_10_code
def y_KD_valuesIn : MethodName := ⟨R_KD, "valuesIn", "(JI)I"⟩
theorem hd_KD_valuesIn : y_KD_valuesIn.cls = R_KD ∧ y_KD_valuesIn.cls ≠ "java/lang/invoke/MethodHandle" ∧ y_KD_valuesIn.cls ≠ "java/lang/invoke/VarHandle" ∧ (parseMethodDescriptor y_KD_valuesIn.desc).map (fun d => d.parameters.length) = some 2 := by decide +kernel
abbrev b_KD_valueIn : ByteArray := prog_2_method_11_code
def y_KD_valueIn : MethodName := ⟨R_KD, "valueIn", "(JI)I"⟩
theorem hd_KD_valueIn : y_KD_valueIn.cls = R_KD ∧ y_KD_valueIn.cls ≠ "java/lang/invoke/MethodHandle" ∧ y_KD_valueIn.cls ≠ "java/lang/invoke/VarHandle" ∧ (parseMethodDescriptor y_KD_valueIn.desc).map (fun d => d.parameters.length) = some 2 := by decide +kernel
abbrev b_KD_membersOf : ByteArray := prog_2_method_12_code
def y_KD_membersOf : MethodName := ⟨R_KD, "membersOf", "(I)I"⟩
theorem hd_KD_membersOf : y_KD_membersOf.cls = R_KD ∧ y_KD_membersOf.cls ≠ "java/lang/invoke/MethodHandle" ∧ y_KD_membersOf.cls ≠ "java/lang/invoke/VarHandle" ∧ (parseMethodDescriptor y_KD_membersOf.desc).map (fun d => d.parameters.length) = some 1 := by decide +kernel
abbrev b_KD_rowCells : ByteArray := prog_2_method_13_code
def y_KD_rowCells : MethodName := ⟨R_KD, "rowCells", "(I)I"⟩
theorem hd_KD_rowCells : y_KD_rowCells.cls = R_KD ∧ y_KD_rowCells.cls ≠ "java/lang/invoke/MethodHandle" ∧ y_KD_rowCells.cls ≠ "java/lang/invoke/VarHandle" ∧ (parseMethodDescriptor y_KD_rowCells.desc).map (fun d => d.parameters.length) = some 1 := by decide +kernel
abbrev b_KD_columnCells : ByteArray := prog_2_method_14_code
def y_KD_columnCells : MethodName := ⟨R_KD, "columnCells", "(I)I"⟩
theorem hd_KD_columnCells : y_KD_columnCells.cls = R_KD ∧ y_KD_columnCells.cls ≠ "java/lang/invoke/MethodHandle" ∧ y_KD_columnCells.cls ≠ "java/lang/invoke/VarHandle" ∧ (parseMethodDescriptor y_KD_columnCells.desc).map (fun d => d.parameters.length) = some 1 := by decide +kernel
abbrev b_KD_scopeOf : ByteArray := prog_2_method_15_code
def y_KD_scopeOf : MethodName := ⟨R_KD, "scopeOf", "(I)J"⟩
theorem hd_KD_scopeOf : y_KD_scopeOf.cls = R_KD ∧ y_KD_scopeOf.cls ≠ "java/lang/invoke/MethodHandle" ∧ y_KD_scopeOf.cls ≠ "java/lang/invoke/VarHandle" ∧ (parseMethodDescriptor y_KD_scopeOf.desc).map (fun d => d.parameters.length) = some 1 := by decide +kernel
abbrev b_KD_firstOf : ByteArray := prog_2_method_16_code
def y_KD_firstOf : MethodName := ⟨R_KD, "firstOf", "(I)I"⟩
theorem hd_KD_firstOf : y_KD_firstOf.cls = R_KD ∧ y_KD_firstOf.cls ≠ "java/lang/invoke/MethodHandle" ∧ y_KD_firstOf.cls ≠ "java/lang/invoke/VarHandle" ∧ (parseMethodDescriptor y_KD_firstOf.desc).map (fun d => d.parameters.length) = some 1 := by decide +kernel
abbrev b_PI_init : ByteArray := prog_3_method_1_code
def y_PI_init : MethodName := ⟨R_PI, "<init>", "()V"⟩
theorem hd_PI_init : y_PI_init.cls = R_PI ∧ y_PI_init.cls ≠ "java/lang/invoke/MethodHandle" ∧ y_PI_init.cls ≠ "java/lang/invoke/VarHandle" ∧ (parseMethodDescriptor y_PI_init.desc).map (fun d => d.parameters.length) = some 0 := by decide +kernel
abbrev b_PI_makeNew : ByteArray := prog_3_method_2_code
def y_PI_makeNew : MethodName := ⟨R_PI, "makeNew", "()V"⟩
theorem hd_PI_makeNew : y_PI_makeNew.cls = R_PI ∧ y_PI_makeNew.cls ≠ "java/lang/invoke/MethodHandle" ∧ y_PI_makeNew.cls ≠ "java/lang/invoke/VarHandle" ∧ (parseMethodDescriptor y_PI_makeNew.desc).map (fun d => d.parameters.length) = some 0 := by decide +kernel
abbrev b_PI_addFixedUnits : ByteArray := prog_3_method_3_code
def y_PI_addFixedUnits : MethodName := ⟨R_PI, "addFixedUnits", "(LPuzzlePress$Units;)V"⟩
theorem hd_PI_addFixedUnits : y_PI_addFixedUnits.cls = R_PI ∧ y_PI_addFixedUnits.cls ≠ "java/lang/invoke/MethodHandle" ∧ y_PI_addFixedUnits.cls ≠ "java/lang/invoke/VarHandle" ∧ (parseMethodDescriptor y_PI_addFixedUnits.desc).map (fun d => d.parameters.length) = some 1 := by decide +kernel
abbrev b_PI_addOtherUnits : ByteArray := prog_3_method_4_code
def y_PI_addOtherUnits : MethodName := ⟨R_PI, "addOtherUnits", "(LPuzzlePress$Units;)V"⟩
theorem hd_PI_addOtherUnits : y_PI_addOtherUnits.cls = R_PI ∧ y_PI_addOtherUnits.cls ≠ "java/lang/invoke/MethodHandle" ∧ y_PI_addOtherUnits.cls ≠ "java/lang/invoke/VarHandle" ∧ (parseMethodDescriptor y_PI_addOtherUnits.desc).map (fun d => d.parameters.length) = some 1 := by decide +kernel
abbrev b_PI_isClue : ByteArray := prog_3_method_5_code
def y_PI_isClue : MethodName := ⟨R_PI, "isClue", "(I)Z"⟩
theorem hd_PI_isClue : y_PI_isClue.cls = R_PI ∧ y_PI_isClue.cls ≠ "java/lang/invoke/MethodHandle" ∧ y_PI_isClue.cls ≠ "java/lang/invoke/VarHandle" ∧ (parseMethodDescriptor y_PI_isClue.desc).map (fun d => d.parameters.length) = some 1 := by decide +kernel
abbrev b_PI_readClue : ByteArray := prog_3_method_6_code
def y_PI_readClue : MethodName := ⟨R_PI, "readClue", "(I)I"⟩
theorem hd_PI_readClue : y_PI_readClue.cls = R_PI ∧ y_PI_readClue.cls ≠ "java/lang/invoke/MethodHandle" ∧ y_PI_readClue.cls ≠ "java/lang/invoke/VarHandle" ∧ (parseMethodDescriptor y_PI_readClue.desc).map (fun d => d.parameters.length) = some 1 := by decide +kernel
abbrev b_PI_wayOf : ByteArray := prog_3_method_7_code
def y_PI_wayOf : MethodName := ⟨R_PI, "wayOf", "(II)J"⟩
theorem hd_PI_wayOf : y_PI_wayOf.cls = R_PI ∧ y_PI_wayOf.cls ≠ "java/lang/invoke/MethodHandle" ∧ y_PI_wayOf.cls ≠ "java/lang/invoke/VarHandle" ∧ (parseMethodDescriptor y_PI_wayOf.desc).map (fun d => d.parameters.length) = some 2 := by decide +kernel
abbrev b_RE_init : ByteArray := prog_4_method_1_code
def y_RE_init : MethodName := ⟨R_RE, "<init>", "()V"⟩
theorem hd_RE_init : y_RE_init.cls = R_RE ∧ y_RE_init.cls ≠ "java/lang/invoke/MethodHandle" ∧ y_RE_init.cls ≠ "java/lang/invoke/VarHandle" ∧ (parseMethodDescriptor y_RE_init.desc).map (fun d => d.parameters.length) = some 0 := by decide +kernel
abbrev b_RE_byLines : ByteArray := prog_4_method_2_code
def y_RE_byLines : MethodName := ⟨R_RE, "byLines", "(J)J"⟩
theorem hd_RE_byLines : y_RE_byLines.cls = R_RE ∧ y_RE_byLines.cls ≠ "java/lang/invoke/MethodHandle" ∧ y_RE_byLines.cls ≠ "java/lang/invoke/VarHandle" ∧ (parseMethodDescriptor y_RE_byLines.desc).map (fun d => d.parameters.length) = some 1 := by decide +kernel
abbrev b_RE_byBoth : ByteArray := prog_4_method_3_code
def y_RE_byBoth : MethodName := ⟨R_RE, "byBoth", "(LPuzzlePress$Kind;J)J"⟩
theorem hd_RE_byBoth : y_RE_byBoth.cls = R_RE ∧ y_RE_byBoth.cls ≠ "java/lang/invoke/MethodHandle" ∧ y_RE_byBoth.cls ≠ "java/lang/invoke/VarHandle" ∧ (parseMethodDescriptor y_RE_byBoth.desc).map (fun d => d.parameters.length) = some 2 := by decide +kernel
abbrev b_RE_firstByLines : ByteArray := prog_4_method_4_code
def y_RE_firstByLines : MethodName := ⟨R_RE, "firstByLines", "(J)J"⟩
theorem hd_RE_firstByLines : y_RE_firstByLines.cls = R_RE ∧ y_RE_firstByLines.cls ≠ "java/lang/invoke/MethodHandle" ∧ y_RE_firstByLines.cls ≠ "java/lang/invoke/VarHandle" ∧ (parseMethodDescriptor y_RE_firstByLines.desc).map (fun d => d.parameters.length) = some 1 := by decide +kernel
abbrev b_RE_firstBySupposing : ByteArray := prog_4_method_5_code
def y_RE_firstBySupposing : MethodName := ⟨R_RE, "firstBySupposing", "(LPuzzlePress$Kind;J)J"⟩
theorem hd_RE_firstBySupposing : y_RE_firstBySupposing.cls = R_RE ∧ y_RE_firstBySupposing.cls ≠ "java/lang/invoke/MethodHandle" ∧ y_RE_firstBySupposing.cls ≠ "java/lang/invoke/VarHandle" ∧ (parseMethodDescriptor y_RE_firstBySupposing.desc).map (fun d => d.parameters.length) = some 2 := by decide +kernel
abbrev b_RE_countFillings : ByteArray := prog_4_method_6_code
def y_RE_countFillings : MethodName := ⟨R_RE, "countFillings", "(LPuzzlePress$Kind;JI)I"⟩
theorem hd_RE_countFillings : y_RE_countFillings.cls = R_RE ∧ y_RE_countFillings.cls ≠ "java/lang/invoke/MethodHandle" ∧ y_RE_countFillings.cls ≠ "java/lang/invoke/VarHandle" ∧ (parseMethodDescriptor y_RE_countFillings.desc).map (fun d => d.parameters.length) = some 3 := by decide +kernel
abbrev b_RE_supposeEach : ByteArray := prog_4_method_7_code
def y_RE_supposeEach : MethodName := ⟨R_RE, "supposeEach", "(LPuzzlePress$Kind;J)J"⟩
theorem hd_RE_supposeEach : y_RE_supposeEach.cls = R_RE ∧ y_RE_supposeEach.cls ≠ "java/lang/invoke/MethodHandle" ∧ y_RE_supposeEach.cls ≠ "java/lang/invoke/VarHandle" ∧ (parseMethodDescriptor y_RE_supposeEach.desc).map (fun d => d.parameters.length) = some 2 := by decide +kernel
abbrev b_RE_isRefuted : ByteArray := prog_4_method_8_code
def y_RE_isRefuted : MethodName := ⟨R_RE, "isRefuted", "(LPuzzlePress$Kind;JII)Z"⟩
theorem hd_RE_isRefuted : y_RE_isRefuted.cls = R_RE ∧ y_RE_isRefuted.cls ≠ "java/lang/invoke/MethodHandle" ∧ y_RE_isRefuted.cls ≠ "java/lang/invoke/VarHandle" ∧ (parseMethodDescriptor y_RE_isRefuted.desc).map (fun d => d.parameters.length) = some 4 := by decide +kernel
abbrev b_RE_search : ByteArray := prog_4_method_9_code
def y_RE_search : MethodName := ⟨R_RE, "search", "(LPuzzlePress$Kind;JJII)V"⟩
theorem hd_RE_search : y_RE_search.cls = R_RE ∧ y_RE_search.cls ≠ "java/lang/invoke/MethodHandle" ∧ y_RE_search.cls ≠ "java/lang/invoke/VarHandle" ∧ (parseMethodDescriptor y_RE_search.desc).map (fun d => d.parameters.length) = some 5 := by decide +kernel
abbrev b_RE_firstOpenCell : ByteArray := prog_4_method_10_code
def y_RE_firstOpenCell : MethodName := ⟨R_RE, "firstOpenCell", "(LPuzzlePress$Kind;J)I"⟩
theorem hd_RE_firstOpenCell : y_RE_firstOpenCell.cls = R_RE ∧ y_RE_firstOpenCell.cls ≠ "java/lang/invoke/MethodHandle" ∧ y_RE_firstOpenCell.cls ≠ "java/lang/invoke/VarHandle" ∧ (parseMethodDescriptor y_RE_firstOpenCell.desc).map (fun d => d.parameters.length) = some 2 := by decide +kernel
abbrev b_SQ_init : ByteArray := prog_5_method_1_code
def y_SQ_init : MethodName := ⟨R_SQ, "<init>", "()V"⟩
theorem hd_SQ_init : y_SQ_init.cls = R_SQ ∧ y_SQ_init.cls ≠ "java/lang/invoke/MethodHandle" ∧ y_SQ_init.cls ≠ "java/lang/invoke/VarHandle" ∧ (parseMethodDescriptor y_SQ_init.desc).map (fun d => d.parameters.length) = some 0 := by decide +kernel
abbrev b_SQ_isRule : ByteArray := prog_5_method_2_code
def y_SQ_isRule : MethodName := ⟨R_SQ, "isRule", "(I)Z"⟩
theorem hd_SQ_isRule : y_SQ_isRule.cls = R_SQ ∧ y_SQ_isRule.cls ≠ "java/lang/invoke/MethodHandle" ∧ y_SQ_isRule.cls ≠ "java/lang/invoke/VarHandle" ∧ (parseMethodDescriptor y_SQ_isRule.desc).map (fun d => d.parameters.length) = some 1 := by decide +kernel
abbrev b_SQ_makeNew : ByteArray := prog_5_method_3_code
def y_SQ_makeNew : MethodName := ⟨R_SQ, "makeNew", "()V"⟩
theorem hd_SQ_makeNew : y_SQ_makeNew.cls = R_SQ ∧ y_SQ_makeNew.cls ≠ "java/lang/invoke/MethodHandle" ∧ y_SQ_makeNew.cls ≠ "java/lang/invoke/VarHandle" ∧ (parseMethodDescriptor y_SQ_makeNew.desc).map (fun d => d.parameters.length) = some 0 := by decide +kernel
abbrev b_SQ_addFixedUnits : ByteArray := prog_5_method_4_code
def y_SQ_addFixedUnits : MethodName := ⟨R_SQ, "addFixedUnits", "(LPuzzlePress$Units;)V"⟩
theorem hd_SQ_addFixedUnits : y_SQ_addFixedUnits.cls = R_SQ ∧ y_SQ_addFixedUnits.cls ≠ "java/lang/invoke/MethodHandle" ∧ y_SQ_addFixedUnits.cls ≠ "java/lang/invoke/VarHandle" ∧ (parseMethodDescriptor y_SQ_addFixedUnits.desc).map (fun d => d.parameters.length) = some 1 := by decide +kernel
abbrev b_SQ_addOtherUnits : ByteArray := prog_5_method_5_code
def y_SQ_addOtherUnits : MethodName := ⟨R_SQ, "addOtherUnits", "(LPuzzlePress$Units;)V"⟩
theorem hd_SQ_addOtherUnits : y_SQ_addOtherUnits.cls = R_SQ ∧ y_SQ_addOtherUnits.cls ≠ "java/lang/invoke/MethodHandle" ∧ y_SQ_addOtherUnits.cls ≠ "java/lang/invoke/VarHandle" ∧ (parseMethodDescriptor y_SQ_addOtherUnits.desc).map (fun d => d.parameters.length) = some 1 := by decide +kernel
abbrev b_SQ_addUnlike : ByteArray := prog_5_method_6_code
def y_SQ_addUnlike : MethodName := ⟨R_SQ, "addUnlike", "(LPuzzlePress$Units;III)V"⟩
theorem hd_SQ_addUnlike : y_SQ_addUnlike.cls = R_SQ ∧ y_SQ_addUnlike.cls ≠ "java/lang/invoke/MethodHandle" ∧ y_SQ_addUnlike.cls ≠ "java/lang/invoke/VarHandle" ∧ (parseMethodDescriptor y_SQ_addUnlike.desc).map (fun d => d.parameters.length) = some 4 := by decide +kernel
abbrev b_SQ_addWays : ByteArray := prog_5_method_7_code
def y_SQ_addWays : MethodName := ⟨R_SQ, "addWays", "(LPuzzlePress$Units;IJIII)V"⟩
theorem hd_SQ_addWays : y_SQ_addWays.cls = R_SQ ∧ y_SQ_addWays.cls ≠ "java/lang/invoke/MethodHandle" ∧ y_SQ_addWays.cls ≠ "java/lang/invoke/VarHandle" ∧ (parseMethodDescriptor y_SQ_addWays.desc).map (fun d => d.parameters.length) = some 6 := by decide +kernel
abbrev b_SQ_obeys : ByteArray := prog_5_method_8_code
def y_SQ_obeys : MethodName := ⟨R_SQ, "obeys", "(III)Z"⟩
theorem hd_SQ_obeys : y_SQ_obeys.cls = R_SQ ∧ y_SQ_obeys.cls ≠ "java/lang/invoke/MethodHandle" ∧ y_SQ_obeys.cls ≠ "java/lang/invoke/VarHandle" ∧ (parseMethodDescriptor y_SQ_obeys.desc).map (fun d => d.parameters.length) = some 3 := by decide +kernel
abbrev b_ST_init : ByteArray := prog_6_method_1_code
def y_ST_init : MethodName := ⟨R_ST, "<init>", "()V"⟩
theorem hd_ST_init : y_ST_init.cls = R_ST ∧ y_ST_init.cls ≠ "java/lang/invoke/MethodHandle" ∧ y_ST_init.cls ≠ "java/lang/invoke/VarHandle" ∧ (parseMethodDescriptor y_ST_init.desc).map (fun d => d.parameters.length) = some 0 := by decide +kernel
abbrev b_ST_makeNew : ByteArray := prog_6_method_2_code
def y_ST_makeNew : MethodName := ⟨R_ST, "makeNew", "()V"⟩
theorem hd_ST_makeNew : y_ST_makeNew.cls = R_ST ∧ y_ST_makeNew.cls ≠ "java/lang/invoke/MethodHandle" ∧ y_ST_makeNew.cls ≠ "java/lang/invoke/VarHandle" ∧ (parseMethodDescriptor y_ST_makeNew.desc).map (fun d => d.parameters.length) = some 0 := by decide +kernel
abbrev b_ST_addFixedUnits : ByteArray := prog_6_method_3_code
def y_ST_addFixedUnits : MethodName := ⟨R_ST, "addFixedUnits", "(LPuzzlePress$Units;)V"⟩
theorem hd_ST_addFixedUnits : y_ST_addFixedUnits.cls = R_ST ∧ y_ST_addFixedUnits.cls ≠ "java/lang/invoke/MethodHandle" ∧ y_ST_addFixedUnits.cls ≠ "java/lang/invoke/VarHandle" ∧ (parseMethodDescriptor y_ST_addFixedUnits.desc).map (fun d => d.parameters.length) = some 1 := by decide +kernel
abbrev b_ST_addOtherUnits : ByteArray := prog_6_method_4_code
def y_ST_addOtherUnits : MethodName := ⟨R_ST, "addOtherUnits", "(LPuzzlePress$Units;)V"⟩
theorem hd_ST_addOtherUnits : y_ST_addOtherUnits.cls = R_ST ∧ y_ST_addOtherUnits.cls ≠ "java/lang/invoke/MethodHandle" ∧ y_ST_addOtherUnits.cls ≠ "java/lang/invoke/VarHandle" ∧ (parseMethodDescriptor y_ST_addOtherUnits.desc).map (fun d => d.parameters.length) = some 1 := by decide +kernel
abbrev b_ST_touch : ByteArray := prog_6_method_5_code
def y_ST_touch : MethodName := ⟨R_ST, "touch", "(II)Z"⟩
theorem hd_ST_touch : y_ST_touch.cls = R_ST ∧ y_ST_touch.cls ≠ "java/lang/invoke/MethodHandle" ∧ y_ST_touch.cls ≠ "java/lang/invoke/VarHandle" ∧ (parseMethodDescriptor y_ST_touch.desc).map (fun d => d.parameters.length) = some 2 := by decide +kernel
abbrev b_ST_addJustOne : ByteArray := prog_6_method_6_code
def y_ST_addJustOne : MethodName := ⟨R_ST, "addJustOne", "(LPuzzlePress$Units;I)V"⟩
theorem hd_ST_addJustOne : y_ST_addJustOne.cls = R_ST ∧ y_ST_addJustOne.cls ≠ "java/lang/invoke/MethodHandle" ∧ y_ST_addJustOne.cls ≠ "java/lang/invoke/VarHandle" ∧ (parseMethodDescriptor y_ST_addJustOne.desc).map (fun d => d.parameters.length) = some 2 := by decide +kernel
abbrev b_ST_wayWithStar : ByteArray := prog_6_method_7_code
def y_ST_wayWithStar : MethodName := ⟨R_ST, "wayWithStar", "(II)J"⟩
theorem hd_ST_wayWithStar : y_ST_wayWithStar.cls = R_ST ∧ y_ST_wayWithStar.cls ≠ "java/lang/invoke/MethodHandle" ∧ y_ST_wayWithStar.cls ≠ "java/lang/invoke/VarHandle" ∧ (parseMethodDescriptor y_ST_wayWithStar.desc).map (fun d => d.parameters.length) = some 2 := by decide +kernel
abbrev b_ST_addNotBoth : ByteArray := prog_6_method_8_code
def y_ST_addNotBoth : MethodName := ⟨R_ST, "addNotBoth", "(LPuzzlePress$Units;II)V"⟩
theorem hd_ST_addNotBoth : y_ST_addNotBoth.cls = R_ST ∧ y_ST_addNotBoth.cls ≠ "java/lang/invoke/MethodHandle" ∧ y_ST_addNotBoth.cls ≠ "java/lang/invoke/VarHandle" ∧ (parseMethodDescriptor y_ST_addNotBoth.desc).map (fun d => d.parameters.length) = some 3 := by decide +kernel
abbrev b_UN_init : ByteArray := prog_7_method_1_code
def y_UN_init : MethodName := ⟨R_UN, "<init>", "()V"⟩
theorem hd_UN_init : y_UN_init.cls = R_UN ∧ y_UN_init.cls ≠ "java/lang/invoke/MethodHandle" ∧ y_UN_init.cls ≠ "java/lang/invoke/VarHandle" ∧ (parseMethodDescriptor y_UN_init.desc).map (fun d => d.parameters.length) = some 0 := by decide +kernel
abbrev b_UN_dropAll : ByteArray := prog_7_method_2_code
def y_UN_dropAll : MethodName := ⟨R_UN, "dropAll", "()V"⟩
theorem hd_UN_dropAll : y_UN_dropAll.cls = R_UN ∧ y_UN_dropAll.cls ≠ "java/lang/invoke/MethodHandle" ∧ y_UN_dropAll.cls ≠ "java/lang/invoke/VarHandle" ∧ (parseMethodDescriptor y_UN_dropAll.desc).map (fun d => d.parameters.length) = some 0 := by decide +kernel
abbrev b_UN_fixAll : ByteArray := prog_7_method_3_code
def y_UN_fixAll : MethodName := ⟨R_UN, "fixAll", "()V"⟩
theorem hd_UN_fixAll : y_UN_fixAll.cls = R_UN ∧ y_UN_fixAll.cls ≠ "java/lang/invoke/MethodHandle" ∧ y_UN_fixAll.cls ≠ "java/lang/invoke/VarHandle" ∧ (parseMethodDescriptor y_UN_fixAll.desc).map (fun d => d.parameters.length) = some 0 := by decide +kernel
abbrev b_UN_dropUnfixed : ByteArray := prog_7_method_4_code
def y_UN_dropUnfixed : MethodName := ⟨R_UN, "dropUnfixed", "()V"⟩
theorem hd_UN_dropUnfixed : y_UN_dropUnfixed.cls = R_UN ∧ y_UN_dropUnfixed.cls ≠ "java/lang/invoke/MethodHandle" ∧ y_UN_dropUnfixed.cls ≠ "java/lang/invoke/VarHandle" ∧ (parseMethodDescriptor y_UN_dropUnfixed.desc).map (fun d => d.parameters.length) = some 0 := by decide +kernel
abbrev b_UN_begin : ByteArray := prog_7_method_5_code
def y_UN_begin : MethodName := ⟨R_UN, "begin", "(J)V"⟩
theorem hd_UN_begin : y_UN_begin.cls = R_UN ∧ y_UN_begin.cls ≠ "java/lang/invoke/MethodHandle" ∧ y_UN_begin.cls ≠ "java/lang/invoke/VarHandle" ∧ (parseMethodDescriptor y_UN_begin.desc).map (fun d => d.parameters.length) = some 1 := by decide +kernel
abbrev b_UN_addWay : ByteArray := prog_7_method_6_code
def y_UN_addWay : MethodName := ⟨R_UN, "addWay", "(J)V"⟩
theorem hd_UN_addWay : y_UN_addWay.cls = R_UN ∧ y_UN_addWay.cls ≠ "java/lang/invoke/MethodHandle" ∧ y_UN_addWay.cls ≠ "java/lang/invoke/VarHandle" ∧ (parseMethodDescriptor y_UN_addWay.desc).map (fun d => d.parameters.length) = some 1 := by decide +kernel
abbrev b_UN_haveWays : ByteArray := prog_7_method_7_code
def y_UN_haveWays : MethodName := ⟨R_UN, "haveWays", "()Z"⟩
theorem hd_UN_haveWays : y_UN_haveWays.cls = R_UN ∧ y_UN_haveWays.cls ≠ "java/lang/invoke/MethodHandle" ∧ y_UN_haveWays.cls ≠ "java/lang/invoke/VarHandle" ∧ (parseMethodDescriptor y_UN_haveWays.desc).map (fun d => d.parameters.length) = some 0 := by decide +kernel
abbrev b_UN_keptAtOnce : ByteArray := prog_7_method_8_code
def y_UN_keptAtOnce : MethodName := ⟨R_UN, "keptAtOnce", "(J)J"⟩
theorem hd_UN_keptAtOnce : y_UN_keptAtOnce.cls = R_UN ∧ y_UN_keptAtOnce.cls ≠ "java/lang/invoke/MethodHandle" ∧ y_UN_keptAtOnce.cls ≠ "java/lang/invoke/VarHandle" ∧ (parseMethodDescriptor y_UN_keptAtOnce.desc).map (fun d => d.parameters.length) = some 1 := by decide +kernel
abbrev b_UN_narrow : ByteArray := prog_7_method_9_code
def y_UN_narrow : MethodName := ⟨R_UN, "narrow", "(JJ)J"⟩
theorem hd_UN_narrow : y_UN_narrow.cls = R_UN ∧ y_UN_narrow.cls ≠ "java/lang/invoke/MethodHandle" ∧ y_UN_narrow.cls ≠ "java/lang/invoke/VarHandle" ∧ (parseMethodDescriptor y_UN_narrow.desc).map (fun d => d.parameters.length) = some 2 := by decide +kernel
abbrev b_UN_keptBy : ByteArray := prog_7_method_10_code
def y_UN_keptBy : MethodName := ⟨R_UN, "keptBy", "(IJ)J"⟩
theorem hd_UN_keptBy : y_UN_keptBy.cls = R_UN ∧ y_UN_keptBy.cls ≠ "java/lang/invoke/MethodHandle" ∧ y_UN_keptBy.cls ≠ "java/lang/invoke/VarHandle" ∧ (parseMethodDescriptor y_UN_keptBy.desc).map (fun d => d.parameters.length) = some 2 := by decide +kernel
abbrev b_LW_open : ByteArray := method_3_code
def y_LW_open : MethodName := ⟨R_LW, "open", "(LPuzzlePress;I[J)I"⟩
theorem hd_LW_open : y_LW_open.cls = R_LW ∧ y_LW_open.cls ≠ "java/lang/invoke/MethodHandle" ∧ y_LW_open.cls ≠ "java/lang/invoke/VarHandle" ∧ (parseMethodDescriptor y_LW_open.desc).map (fun d => d.parameters.length) = some 3 := by decide +kernel
abbrev b_LW_clue : ByteArray := method_4_code
def y_LW_clue : MethodName := ⟨R_LW, "clue", "(LPuzzlePress;II[J)I"⟩
theorem hd_LW_clue : y_LW_clue.cls = R_LW ∧ y_LW_clue.cls ≠ "java/lang/invoke/MethodHandle" ∧ y_LW_clue.cls ≠ "java/lang/invoke/VarHandle" ∧ (parseMethodDescriptor y_LW_clue.desc).map (fun d => d.parameters.length) = some 4 := by decide +kernel
abbrev b_LW_group : ByteArray := method_5_code
def y_LW_group : MethodName := ⟨R_LW, "group", "(LPuzzlePress;II[J)I"⟩
theorem hd_LW_group : y_LW_group.cls = R_LW ∧ y_LW_group.cls ≠ "java/lang/invoke/MethodHandle" ∧ y_LW_group.cls ≠ "java/lang/invoke/VarHandle" ∧ (parseMethodDescriptor y_LW_group.desc).map (fun d => d.parameters.length) = some 4 := by decide +kernel
abbrev b_LW_rule : ByteArray := method_6_code
def y_LW_rule : MethodName := ⟨R_LW, "rule", "(LPuzzlePress;III[J)I"⟩
theorem hd_LW_rule : y_LW_rule.cls = R_LW ∧ y_LW_rule.cls ≠ "java/lang/invoke/MethodHandle" ∧ y_LW_rule.cls ≠ "java/lang/invoke/VarHandle" ∧ (parseMethodDescriptor y_LW_rule.desc).map (fun d => d.parameters.length) = some 5 := by decide +kernel
abbrev b_LW_give : ByteArray := method_7_code
def y_LW_give : MethodName := ⟨R_LW, "give", "(LPuzzlePress;II[J)I"⟩
theorem hd_LW_give : y_LW_give.cls = R_LW ∧ y_LW_give.cls ≠ "java/lang/invoke/MethodHandle" ∧ y_LW_give.cls ≠ "java/lang/invoke/VarHandle" ∧ (parseMethodDescriptor y_LW_give.desc).map (fun d => d.parameters.length) = some 4 := by decide +kernel
abbrev b_LW_given : ByteArray := method_8_code
def y_LW_given : MethodName := ⟨R_LW, "given", "(LPuzzlePress;I[J)I"⟩
theorem hd_LW_given : y_LW_given.cls = R_LW ∧ y_LW_given.cls ≠ "java/lang/invoke/MethodHandle" ∧ y_LW_given.cls ≠ "java/lang/invoke/VarHandle" ∧ (parseMethodDescriptor y_LW_given.desc).map (fun d => d.parameters.length) = some 3 := by decide +kernel
abbrev b_LW_value : ByteArray := method_9_code
def y_LW_value : MethodName := ⟨R_LW, "value", "(LPuzzlePress;I[J)I"⟩
theorem hd_LW_value : y_LW_value.cls = R_LW ∧ y_LW_value.cls ≠ "java/lang/invoke/MethodHandle" ∧ y_LW_value.cls ≠ "java/lang/invoke/VarHandle" ∧ (parseMethodDescriptor y_LW_value.desc).map (fun d => d.parameters.length) = some 3 := by decide +kernel
abbrev b_LW_reason : ByteArray := method_10_code
def y_LW_reason : MethodName := ⟨R_LW, "reason", "(LPuzzlePress;I[J)I"⟩
theorem hd_LW_reason : y_LW_reason.cls = R_LW ∧ y_LW_reason.cls ≠ "java/lang/invoke/MethodHandle" ∧ y_LW_reason.cls ≠ "java/lang/invoke/VarHandle" ∧ (parseMethodDescriptor y_LW_reason.desc).map (fun d => d.parameters.length) = some 3 := by decide +kernel
abbrev b_LW_candidates : ByteArray := method_11_code
def y_LW_candidates : MethodName := ⟨R_LW, "candidates", "(LPuzzlePress;I[J)I"⟩
theorem hd_LW_candidates : y_LW_candidates.cls = R_LW ∧ y_LW_candidates.cls ≠ "java/lang/invoke/MethodHandle" ∧ y_LW_candidates.cls ≠ "java/lang/invoke/VarHandle" ∧ (parseMethodDescriptor y_LW_candidates.desc).map (fun d => d.parameters.length) = some 3 := by decide +kernel
abbrev b_LW_full : ByteArray := method_12_code
def y_LW_full : MethodName := ⟨R_LW, "full", "(LPuzzlePress;[J)I"⟩
theorem hd_LW_full : y_LW_full.cls = R_LW ∧ y_LW_full.cls ≠ "java/lang/invoke/MethodHandle" ∧ y_LW_full.cls ≠ "java/lang/invoke/VarHandle" ∧ (parseMethodDescriptor y_LW_full.desc).map (fun d => d.parameters.length) = some 2 := by decide +kernel
abbrev b_LW_thin : ByteArray := method_13_code
def y_LW_thin : MethodName := ⟨R_LW, "thin", "(LPuzzlePress;I[J)I"⟩
theorem hd_LW_thin : y_LW_thin.cls = R_LW ∧ y_LW_thin.cls ≠ "java/lang/invoke/MethodHandle" ∧ y_LW_thin.cls ≠ "java/lang/invoke/VarHandle" ∧ (parseMethodDescriptor y_LW_thin.desc).map (fun d => d.parameters.length) = some 3 := by decide +kernel
abbrev b_JI_bitCount : ByteArray := prog_14_method_49_code
def y_JI_bitCount : MethodName := ⟨R_JI, "bitCount", "(I)I"⟩
theorem hd_JI_bitCount : y_JI_bitCount.cls = R_JI ∧ y_JI_bitCount.cls ≠ "java/lang/invoke/MethodHandle" ∧ y_JI_bitCount.cls ≠ "java/lang/invoke/VarHandle" ∧ (parseMethodDescriptor y_JI_bitCount.desc).map (fun d => d.parameters.length) = some 1 := by decide +kernel
abbrev b_JL_bitCount : ByteArray := prog_15_method_50_code
def y_JL_bitCount : MethodName := ⟨R_JL, "bitCount", "(J)I"⟩
theorem hd_JL_bitCount : y_JL_bitCount.cls = R_JL ∧ y_JL_bitCount.cls ≠ "java/lang/invoke/MethodHandle" ∧ y_JL_bitCount.cls ≠ "java/lang/invoke/VarHandle" ∧ (parseMethodDescriptor y_JL_bitCount.desc).map (fun d => d.parameters.length) = some 1 := by decide +kernel
def y_KD_makeNew : MethodName := ⟨R_KD, "makeNew", "()V"⟩
theorem hd_KD_makeNew : y_KD_makeNew.cls = R_KD ∧ y_KD_makeNew.cls ≠ "java/lang/invoke/MethodHandle" ∧ y_KD_makeNew.cls ≠ "java/lang/invoke/VarHandle" ∧ (parseMethodDescriptor y_KD_makeNew.desc).map (fun d => d.parameters.length) = some 0 := by decide +kernel
def y_KD_addFixedUnits : MethodName := ⟨R_KD, "addFixedUnits", "(LPuzzlePress$Units;)V"⟩
theorem hd_KD_addFixedUnits : y_KD_addFixedUnits.cls = R_KD ∧ y_KD_addFixedUnits.cls ≠ "java/lang/invoke/MethodHandle" ∧ y_KD_addFixedUnits.cls ≠ "java/lang/invoke/VarHandle" ∧ (parseMethodDescriptor y_KD_addFixedUnits.desc).map (fun d => d.parameters.length) = some 1 := by decide +kernel
def y_KD_addOtherUnits : MethodName := ⟨R_KD, "addOtherUnits", "(LPuzzlePress$Units;)V"⟩
theorem hd_KD_addOtherUnits : y_KD_addOtherUnits.cls = R_KD ∧ y_KD_addOtherUnits.cls ≠ "java/lang/invoke/MethodHandle" ∧ y_KD_addOtherUnits.cls ≠ "java/lang/invoke/VarHandle" ∧ (parseMethodDescriptor y_KD_addOtherUnits.desc).map (fun d => d.parameters.length) = some 1 := by decide +kernel
/-- the words that every contract asks for: those of the tables that calls carry on -/
def Gw : List Cond := k2_sels lw_privs ++ tables_1.filter goodWord
theorem tg_1 {w : Cond} (h : w ∈ tables_1_1) : w ∈ tables_1 := List.mem_append_left _ h
theorem tg_2 {w : Cond} (h : w ∈ tables_1_2) : w ∈ tables_1 := List.mem_append_right _ (List.mem_append_left _ h)
theorem tg_3 {w : Cond} (h : w ∈ tables_1_3) : w ∈ tables_1 := List.mem_append_right _ (List.mem_append_right _ (List.mem_append_left _ h))
theorem tg_4 {w : Cond} (h : w ∈ tables_1_4) : w ∈ tables_1 := List.mem_append_right _ (List.mem_append_right _ (List.mem_append_right _ (List.mem_append_left _ h)))
theorem tg_5 {w : Cond} (h : w ∈ tables_1_5) : w ∈ tables_1 := List.mem_append_right _ (List.mem_append_right _ (List.mem_append_right _ (List.mem_append_right _ (h))))
theorem gq {w : Cond} (h : w ∈ tables_1) (hg : goodWord w = true) : w ∈ Gw := List.mem_append_right _ (List.mem_filter.mpr ⟨h, hg⟩)
theorem gs {w : Cond} (h : w ∈ k2_sels lw_privs) : w ∈ Gw := List.mem_append_left _ h
theorem Gw_good : ∀ w ∈ Gw, (w.onTables && w.keeps) = true ∨ ∃ ty, w = .arrayClass ty := by
  intro w hw
  rcases List.mem_append.mp hw with h | h
  · obtain ⟨q, -, rfl⟩ := List.mem_map.mp h
    exact good_of_word rfl
  · exact good_of_word (List.mem_filter.mp h).2
/-- words that no reader of steady words carries -/
def Nws : List Cond := [.declares ⟨R_KD, "makeNew", "()V"⟩, .declares ⟨R_KD, "addFixedUnits", "(LPuzzlePress$Units;)V"⟩, .declares ⟨R_KD, "addOtherUnits", "(LPuzzlePress$Units;)V"⟩]
theorem Nws_tab : ∀ w ∈ Nws, w.onTables = true := by
  intro w h
  simp only [Nws, List.mem_cons, List.not_mem_nil, or_false] at h
  rcases h with rfl | rfl | rfl <;> rfl
theorem Nws_warm : ∀ w ∈ Nws, ∀ {s U : State}, s.WarmedH U.vm → va_Nw w s → va_Nw w U := by
  intro w h s U hW hZ
  simp only [Nws, List.mem_cons, List.not_mem_nil, or_false] at h
  rcases h with rfl | rfl | rfl <;> exact va_Nw.warmD hW hZ
theorem dc_makeNew : Cond.declares ⟨R_KD, "makeNew", "()V"⟩ ∈ Nws := List.mem_of_getElem? (i := 0) rfl
theorem dc_addFixedUnits : Cond.declares ⟨R_KD, "addFixedUnits", "(LPuzzlePress$Units;)V"⟩ ∈ Nws := List.mem_of_getElem? (i := 1) rfl
theorem dc_addOtherUnits : Cond.declares ⟨R_KD, "addOtherUnits", "(LPuzzlePress$Units;)V"⟩ ∈ Nws := List.mem_of_getElem? (i := 2) rfl
end
section
/-! The words by their places in the tables: by wip/gen/names.py -/
theorem k_PP_init : Cond.code y_PP_init b_PP_init 1 none ∈ Gw := gq (tg_1 (List.mem_of_getElem? (i := 24) (by rfl))) rfl
theorem k_PP_open : Cond.code y_PP_open b_PP_open 2 (some .int) ∈ Gw := gq (tg_3 (List.mem_of_getElem? (i := 5) (by rfl))) rfl
theorem k_PP_kind : Cond.code y_PP_kind b_PP_kind 1 (some .int) ∈ Gw := gq (tg_2 (List.mem_of_getElem? (i := 135) (by rfl))) rfl
theorem k_PP_clue : Cond.code y_PP_clue b_PP_clue 4 (some .int) ∈ Gw := gq (tg_3 (List.mem_of_getElem? (i := 79) (by rfl))) rfl
theorem k_PP_group : Cond.code y_PP_group b_PP_group 5 (some .int) ∈ Gw := gq (tg_3 (List.mem_of_getElem? (i := 121) (by rfl))) rfl
theorem k_PP_rule : Cond.code y_PP_rule b_PP_rule 4 (some .int) ∈ Gw := gq (tg_3 (List.mem_of_getElem? (i := 152) (by rfl))) rfl
theorem k_PP_give : Cond.code y_PP_give b_PP_give 4 (some .int) ∈ Gw := gq (tg_3 (List.mem_of_getElem? (i := 163) (by rfl))) rfl
theorem k_PP_given : Cond.code y_PP_given b_PP_given 2 (some .int) ∈ Gw := gq (tg_3 (List.mem_of_getElem? (i := 181) (by rfl))) rfl
theorem k_PP_fillings : Cond.code y_PP_fillings b_PP_fillings 1 (some .int) ∈ Gw := gq (tg_2 (List.mem_of_getElem? (i := 139) (by rfl))) rfl
theorem k_PP_value : Cond.code y_PP_value b_PP_value 2 (some .int) ∈ Gw := gq (tg_3 (List.mem_of_getElem? (i := 189) (by rfl))) rfl
theorem k_PP_fresh : Cond.code y_PP_fresh b_PP_fresh 1 (some .int) ∈ Gw := gq (tg_2 (List.mem_of_getElem? (i := 176) (by rfl))) rfl
theorem k_PP_reason : Cond.code y_PP_reason b_PP_reason 2 (some .int) ∈ Gw := gq (tg_3 (List.mem_of_getElem? (i := 215) (by rfl))) rfl
theorem k_PP_candidates : Cond.code y_PP_candidates b_PP_candidates 2 (some .int) ∈ Gw := gq (tg_3 (List.mem_of_getElem? (i := 222) (by rfl))) rfl
theorem k_PP_step : Cond.code y_PP_step b_PP_step 5 (some .int) ∈ Gw := gq (tg_2 (List.mem_of_getElem? (i := 181) (by rfl))) rfl
theorem k_PP_grade : Cond.code y_PP_grade b_PP_grade 4 (some .int) ∈ Gw := gq (tg_2 (List.mem_of_getElem? (i := 224) (by rfl))) rfl
theorem k_PP_full : Cond.code y_PP_full b_PP_full 5 (some .int) ∈ Gw := gq (tg_3 (List.mem_of_getElem? (i := 230) (by rfl))) rfl
theorem k_PP_thin : Cond.code y_PP_thin b_PP_thin 5 (some .int) ∈ Gw := gq (tg_3 (List.mem_of_getElem? (i := 237) (by rfl))) rfl
theorem k_PP_checkCell : Cond.code y_PP_checkCell b_PP_checkCell 2 none ∈ Gw := gq (tg_3 (List.mem_of_getElem? (i := 167) (by rfl))) rfl
theorem k_PP_startNew : Cond.code y_PP_startNew b_PP_startNew 3 none ∈ Gw := gq (tg_1 (List.mem_of_getElem? (i := 163) (by rfl))) rfl
theorem k_PP_renewUnits : Cond.code y_PP_renewUnits b_PP_renewUnits 1 none ∈ Gw := gq (tg_2 (List.mem_of_getElem? (i := 57) (by rfl))) rfl
theorem k_PP_atFirst : Cond.code y_PP_atFirst b_PP_atFirst 4 (some .long) ∈ Gw := gq (tg_2 (List.mem_of_getElem? (i := 104) (by rfl))) rfl
theorem k_PP_firstFilling : Cond.code y_PP_firstFilling b_PP_firstFilling 1 (some .long) ∈ Gw := gq (tg_3 (List.mem_of_getElem? (i := 193) (by rfl))) rfl
theorem k_PP_isEasy : Cond.code y_PP_isEasy b_PP_isEasy 2 (some .boolean) ∈ Gw := gq (tg_4 (List.mem_of_getElem? (i := 1) (by rfl))) rfl
theorem k_MO_init : Cond.code y_MO_init b_MO_init 4 none ∈ Gw := gq (tg_4 (List.mem_of_getElem? (i := 6) (by rfl))) rfl
theorem k_MO_thrown : Cond.code y_MO_thrown b_MO_thrown 1 (some .int) ∈ Gw := gq (tg_4 (List.mem_of_getElem? (i := 105) (by rfl))) rfl
theorem k_MO_begin : Cond.code y_MO_begin b_MO_begin 3 none ∈ Gw := gq (tg_4 (List.mem_of_getElem? (i := 20) (by rfl))) rfl
theorem k_MO_allValues : Cond.code y_MO_allValues b_MO_allValues 1 (some .int) ∈ Gw := gq (tg_4 (List.mem_of_getElem? (i := 28) (by rfl))) rfl
theorem k_MO_refresh : Cond.code y_MO_refresh b_MO_refresh 2 none ∈ Gw := gq (tg_4 (List.mem_of_getElem? (i := 24) (by rfl))) rfl
theorem k_MO_open : Cond.code y_MO_open b_MO_open 2 (some .int) ∈ Gw := gq (tg_4 (List.mem_of_getElem? (i := 109) (by rfl))) rfl
theorem k_MO_kind : Cond.code y_MO_kind b_MO_kind 1 (some .int) ∈ Gw := gq (tg_4 (List.mem_of_getElem? (i := 113) (by rfl))) rfl
theorem k_MO_isClue : Cond.code y_MO_isClue b_MO_isClue 5 (some .boolean) ∈ Gw := gq (tg_4 (List.mem_of_getElem? (i := 120) (by rfl))) rfl
theorem k_MO_clue : Cond.code y_MO_clue b_MO_clue 4 (some .int) ∈ Gw := gq (tg_4 (List.mem_of_getElem? (i := 117) (by rfl))) rfl
theorem k_MO_noCell : Cond.code y_MO_noCell b_MO_noCell 2 (some .boolean) ∈ Gw := gq (tg_4 (List.mem_of_getElem? (i := 128) (by rfl))) rfl
theorem k_MO_sizeOf : Cond.code y_MO_sizeOf b_MO_sizeOf 4 (some .int) ∈ Gw := gq (tg_4 (List.mem_of_getElem? (i := 132) (by rfl))) rfl
theorem k_MO_group : Cond.code y_MO_group b_MO_group 5 (some .int) ∈ Gw := gq (tg_4 (List.mem_of_getElem? (i := 124) (by rfl))) rfl
theorem k_MO_rule : Cond.code y_MO_rule b_MO_rule 4 (some .int) ∈ Gw := gq (tg_4 (List.mem_of_getElem? (i := 136) (by rfl))) rfl
theorem k_MO_isValue : Cond.code y_MO_isValue b_MO_isValue 2 (some .boolean) ∈ Gw := gq (tg_4 (List.mem_of_getElem? (i := 144) (by rfl))) rfl
theorem k_MO_give : Cond.code y_MO_give b_MO_give 4 (some .int) ∈ Gw := gq (tg_4 (List.mem_of_getElem? (i := 140) (by rfl))) rfl
theorem k_MO_given : Cond.code y_MO_given b_MO_given 2 (some .int) ∈ Gw := gq (tg_4 (List.mem_of_getElem? (i := 148) (by rfl))) rfl
theorem k_MO_stretchesOf : Cond.code y_MO_stretchesOf b_MO_stretchesOf 5 (some .int) ∈ Gw := gq (tg_4 (List.mem_of_getElem? (i := 10) (by rfl))) rfl
theorem k_MO_valueOf : Cond.code y_MO_valueOf b_MO_valueOf 3 (some .int) ∈ Gw := gq (tg_4 (List.mem_of_getElem? (i := 167) (by rfl))) rfl
theorem k_MO_ones : Cond.code y_MO_ones b_MO_ones 3 (some .int) ∈ Gw := gq (tg_4 (List.mem_of_getElem? (i := 163) (by rfl))) rfl
theorem k_MO_lay : Cond.code y_MO_lay b_MO_lay 8 (some .boolean) ∈ Gw := gq (tg_4 (List.mem_of_getElem? (i := 160) (by rfl))) rfl
theorem k_MO_columnsFit : Cond.code y_MO_columnsFit b_MO_columnsFit 5 (some .boolean) ∈ Gw := gq (tg_4 (List.mem_of_getElem? (i := 179) (by rfl))) rfl
theorem k_MO_groupsFit : Cond.code y_MO_groupsFit b_MO_groupsFit 7 (some .boolean) ∈ Gw := gq (tg_4 (List.mem_of_getElem? (i := 175) (by rfl))) rfl
theorem k_MO_apart : Cond.code y_MO_apart b_MO_apart 2 (some .int) ∈ Gw := gq (tg_4 (List.mem_of_getElem? (i := 16) (by rfl))) rfl
theorem k_MO_touch : Cond.code y_MO_touch b_MO_touch 2 (some .boolean) ∈ Gw := gq (tg_4 (List.mem_of_getElem? (i := 13) (by rfl))) rfl
theorem k_MO_starsFit : Cond.code y_MO_starsFit b_MO_starsFit 5 (some .boolean) ∈ Gw := gq (tg_4 (List.mem_of_getElem? (i := 183) (by rfl))) rfl
theorem k_MO_isFilling : Cond.code y_MO_isFilling b_MO_isFilling 1 (some .boolean) ∈ Gw := gq (tg_4 (List.mem_of_getElem? (i := 171) (by rfl))) rfl
theorem k_MO_search : Cond.code y_MO_search b_MO_search 4 none ∈ Gw := gq (tg_4 (List.mem_of_getElem? (i := 156) (by rfl))) rfl
theorem k_MO_fillings : Cond.code y_MO_fillings b_MO_fillings 1 (some .int) ∈ Gw := gq (tg_4 (List.mem_of_getElem? (i := 152) (by rfl))) rfl
theorem k_MO_value : Cond.code y_MO_value b_MO_value 2 (some .int) ∈ Gw := gq (tg_4 (List.mem_of_getElem? (i := 187) (by rfl))) rfl
theorem k_MO_may : Cond.code y_MO_may b_MO_may 3 (some .boolean) ∈ Gw := gq (tg_4 (List.mem_of_getElem? (i := 227) (by rfl))) rfl
theorem k_MO_lose : Cond.code y_MO_lose b_MO_lose 2 none ∈ Gw := gq (tg_4 (List.mem_of_getElem? (i := 231) (by rfl))) rfl
theorem k_MO_beginUnit : Cond.code y_MO_beginUnit b_MO_beginUnit 2 none ∈ Gw := gq (tg_4 (List.mem_of_getElem? (i := 219) (by rfl))) rfl
theorem k_MO_addCell : Cond.code y_MO_addCell b_MO_addCell 2 none ∈ Gw := gq (tg_4 (List.mem_of_getElem? (i := 223) (by rfl))) rfl
theorem k_MO_addLine : Cond.code y_MO_addLine b_MO_addLine 3 none ∈ Gw := gq (tg_4 (List.mem_of_getElem? (i := 215) (by rfl))) rfl
theorem k_MO_tryPicture : Cond.code y_MO_tryPicture b_MO_tryPicture 5 none ∈ Gw := gq (tg_4 (List.mem_of_getElem? (i := 211) (by rfl))) rfl
theorem k_MO_goes : Cond.code y_MO_goes b_MO_goes 4 (some .boolean) ∈ Gw := gq (tg_4 (List.mem_of_getElem? (i := 239) (by rfl))) rfl
theorem k_MO_note : Cond.code y_MO_note b_MO_note 8 none ∈ Gw := gq (tg_5 (List.mem_of_getElem? (i := 3) (by rfl))) rfl
theorem k_MO_trySquare : Cond.code y_MO_trySquare b_MO_trySquare 7 none ∈ Gw := gq (tg_4 (List.mem_of_getElem? (i := 235) (by rfl))) rfl
theorem k_MO_tryStar : Cond.code y_MO_tryStar b_MO_tryStar 9 none ∈ Gw := gq (tg_5 (List.mem_of_getElem? (i := 7) (by rfl))) rfl
theorem k_MO_tryPairs : Cond.code y_MO_tryPairs b_MO_tryPairs 4 none ∈ Gw := gq (tg_5 (List.mem_of_getElem? (i := 15) (by rfl))) rfl
theorem k_MO_addGroup : Cond.code y_MO_addGroup b_MO_addGroup 3 none ∈ Gw := gq (tg_5 (List.mem_of_getElem? (i := 11) (by rfl))) rfl
theorem k_MO_look : Cond.code y_MO_look b_MO_look 3 (some .boolean) ∈ Gw := gq (tg_4 (List.mem_of_getElem? (i := 207) (by rfl))) rfl
theorem k_MO_reasonByOne : Cond.code y_MO_reasonByOne b_MO_reasonByOne 2 none ∈ Gw := gq (tg_4 (List.mem_of_getElem? (i := 203) (by rfl))) rfl
theorem k_MO_isEmpty : Cond.code y_MO_isEmpty b_MO_isEmpty 3 (some .boolean) ∈ Gw := gq (tg_5 (List.mem_of_getElem? (i := 27) (by rfl))) rfl
theorem k_MO_fails : Cond.code y_MO_fails b_MO_fails 5 (some .boolean) ∈ Gw := gq (tg_5 (List.mem_of_getElem? (i := 23) (by rfl))) rfl
theorem k_MO_reasonByBoth : Cond.code y_MO_reasonByBoth b_MO_reasonByBoth 4 none ∈ Gw := gq (tg_5 (List.mem_of_getElem? (i := 19) (by rfl))) rfl
theorem k_MO_countAll : Cond.code y_MO_countAll b_MO_countAll 3 (some .int) ∈ Gw := gq (tg_4 (List.mem_of_getElem? (i := 195) (by rfl))) rfl
theorem k_MO_fresh : Cond.code y_MO_fresh b_MO_fresh 1 (some .int) ∈ Gw := gq (tg_4 (List.mem_of_getElem? (i := 191) (by rfl))) rfl
theorem k_MO_reason : Cond.code y_MO_reason b_MO_reason 3 (some .int) ∈ Gw := gq (tg_4 (List.mem_of_getElem? (i := 199) (by rfl))) rfl
theorem k_MO_candidates : Cond.code y_MO_candidates b_MO_candidates 2 (some .int) ∈ Gw := gq (tg_5 (List.mem_of_getElem? (i := 31) (by rfl))) rfl
theorem k_MO_firstLost : Cond.code y_MO_firstLost b_MO_firstLost 3 (some .int) ∈ Gw := gq (tg_5 (List.mem_of_getElem? (i := 39) (by rfl))) rfl
theorem k_MO_firstFailing : Cond.code y_MO_firstFailing b_MO_firstFailing 3 (some .int) ∈ Gw := gq (tg_5 (List.mem_of_getElem? (i := 43) (by rfl))) rfl
theorem k_MO_step : Cond.code y_MO_step b_MO_step 3 (some .int) ∈ Gw := gq (tg_5 (List.mem_of_getElem? (i := 35) (by rfl))) rfl
theorem k_MO_isDone : Cond.code y_MO_isDone b_MO_isDone 3 (some .boolean) ∈ Gw := gq (tg_5 (List.mem_of_getElem? (i := 55) (by rfl))) rfl
theorem k_MO_gradeNow : Cond.code y_MO_gradeNow b_MO_gradeNow 2 (some .int) ∈ Gw := gq (tg_5 (List.mem_of_getElem? (i := 51) (by rfl))) rfl
theorem k_MO_grade : Cond.code y_MO_grade b_MO_grade 1 (some .int) ∈ Gw := gq (tg_5 (List.mem_of_getElem? (i := 47) (by rfl))) rfl
theorem k_MO_full : Cond.code y_MO_full b_MO_full 3 (some .int) ∈ Gw := gq (tg_5 (List.mem_of_getElem? (i := 59) (by rfl))) rfl
theorem k_MO_thin : Cond.code y_MO_thin b_MO_thin 8 (some .int) ∈ Gw := gq (tg_5 (List.mem_of_getElem? (i := 63) (by rfl))) rfl
theorem k_KD_init : Cond.code y_KD_init b_KD_init 5 none ∈ Gw := gq (tg_1 (List.mem_of_getElem? (i := 35) (by rfl))) rfl
theorem k_KD_hasCell : Cond.code y_KD_hasCell b_KD_hasCell 2 (some .boolean) ∈ Gw := gq (tg_3 (List.mem_of_getElem? (i := 128) (by rfl))) rfl
theorem k_KD_hasValue : Cond.code y_KD_hasValue b_KD_hasValue 2 (some .boolean) ∈ Gw := gq (tg_3 (List.mem_of_getElem? (i := 174) (by rfl))) rfl
theorem k_KD_bit : Cond.code y_KD_bit b_KD_bit 3 (some .long) ∈ Gw := gq (tg_2 (List.mem_of_getElem? (i := 4) (by rfl))) rfl
theorem k_KD_allOf : Cond.code y_KD_allOf b_KD_allOf 2 (some .long) ∈ Gw := gq (tg_1 (List.mem_of_getElem? (i := 211) (by rfl))) rfl
theorem k_KD_cellOf : Cond.code y_KD_cellOf b_KD_cellOf 4 (some .int) ∈ Gw := gq (tg_2 (List.mem_of_getElem? (i := 205) (by rfl))) rfl
theorem k_KD_valuesIn : Cond.code y_KD_valuesIn b_KD_valuesIn 4 (some .int) ∈ Gw := gq (tg_2 (List.mem_of_getElem? (i := 219) (by rfl))) rfl
theorem k_KD_valueIn : Cond.code y_KD_valueIn b_KD_valueIn 4 (some .int) ∈ Gw := gq (tg_2 (List.mem_of_getElem? (i := 212) (by rfl))) rfl
theorem k_KD_membersOf : Cond.code y_KD_membersOf b_KD_membersOf 4 (some .int) ∈ Gw := gq (tg_2 (List.mem_of_getElem? (i := 94) (by rfl))) rfl
theorem k_KD_rowCells : Cond.code y_KD_rowCells b_KD_rowCells 4 (some .int) ∈ Gw := gq (tg_1 (List.mem_of_getElem? (i := 194) (by rfl))) rfl
theorem k_KD_columnCells : Cond.code y_KD_columnCells b_KD_columnCells 4 (some .int) ∈ Gw := gq (tg_2 (List.mem_of_getElem? (i := 10) (by rfl))) rfl
theorem k_KD_scopeOf : Cond.code y_KD_scopeOf b_KD_scopeOf 5 (some .long) ∈ Gw := gq (tg_1 (List.mem_of_getElem? (i := 204) (by rfl))) rfl
theorem k_KD_firstOf : Cond.code y_KD_firstOf b_KD_firstOf 1 (some .int) ∈ Gw := gq (tg_1 (List.mem_of_getElem? (i := 232) (by rfl))) rfl
theorem k_PI_init : Cond.code y_PI_init b_PI_init 2 none ∈ Gw := gq (tg_1 (List.mem_of_getElem? (i := 32) (by rfl))) rfl
theorem k_PI_makeNew : Cond.code y_PI_makeNew b_PI_makeNew 2 none ∈ Gw := gq (tg_1 (List.mem_of_getElem? (i := 169) (by rfl))) rfl
theorem k_PI_addFixedUnits : Cond.code y_PI_addFixedUnits b_PI_addFixedUnits 2 none ∈ Gw := gq (tg_1 (List.mem_of_getElem? (i := 185) (by rfl))) rfl
theorem k_PI_addOtherUnits : Cond.code y_PI_addOtherUnits b_PI_addOtherUnits 4 none ∈ Gw := gq (tg_2 (List.mem_of_getElem? (i := 67) (by rfl))) rfl
theorem k_PI_isClue : Cond.code y_PI_isClue b_PI_isClue 3 (some .boolean) ∈ Gw := gq (tg_3 (List.mem_of_getElem? (i := 113) (by rfl))) rfl
theorem k_PI_readClue : Cond.code y_PI_readClue b_PI_readClue 4 (some .int) ∈ Gw := gq (tg_1 (List.mem_of_getElem? (i := 39) (by rfl))) rfl
theorem k_PI_wayOf : Cond.code y_PI_wayOf b_PI_wayOf 7 (some .long) ∈ Gw := gq (tg_2 (List.mem_of_getElem? (i := 81) (by rfl))) rfl
theorem k_RE_init : Cond.code y_RE_init b_RE_init 1 none ∈ Gw := gq (tg_1 (List.mem_of_getElem? (i := 123) (by rfl))) rfl
theorem k_RE_byLines : Cond.code y_RE_byLines b_RE_byLines 3 (some .long) ∈ Gw := gq (tg_2 (List.mem_of_getElem? (i := 228) (by rfl))) rfl
theorem k_RE_byBoth : Cond.code y_RE_byBoth b_RE_byBoth 11 (some .long) ∈ Gw := gq (tg_2 (List.mem_of_getElem? (i := 232) (by rfl))) rfl
theorem k_RE_firstByLines : Cond.code y_RE_firstByLines b_RE_firstByLines 5 (some .long) ∈ Gw := gq (tg_2 (List.mem_of_getElem? (i := 185) (by rfl))) rfl
theorem k_RE_firstBySupposing : Cond.code y_RE_firstBySupposing b_RE_firstBySupposing 6 (some .long) ∈ Gw := gq (tg_2 (List.mem_of_getElem? (i := 193) (by rfl))) rfl
theorem k_RE_countFillings : Cond.code y_RE_countFillings b_RE_countFillings 5 (some .int) ∈ Gw := gq (tg_2 (List.mem_of_getElem? (i := 143) (by rfl))) rfl
theorem k_RE_supposeEach : Cond.code y_RE_supposeEach b_RE_supposeEach 10 (some .long) ∈ Gw := gq (tg_2 (List.mem_of_getElem? (i := 237) (by rfl))) rfl
theorem k_RE_isRefuted : Cond.code y_RE_isRefuted b_RE_isRefuted 10 (some .boolean) ∈ Gw := gq (tg_2 (List.mem_of_getElem? (i := 197) (by rfl))) rfl
theorem k_RE_search : Cond.code y_RE_search b_RE_search 16 none ∈ Gw := gq (tg_2 (List.mem_of_getElem? (i := 152) (by rfl))) rfl
theorem k_RE_firstOpenCell : Cond.code y_RE_firstOpenCell b_RE_firstOpenCell 4 (some .int) ∈ Gw := gq (tg_2 (List.mem_of_getElem? (i := 164) (by rfl))) rfl
theorem k_SQ_init : Cond.code y_SQ_init b_SQ_init 1 none ∈ Gw := gq (tg_1 (List.mem_of_getElem? (i := 89) (by rfl))) rfl
theorem k_SQ_isRule : Cond.code y_SQ_isRule b_SQ_isRule 1 (some .boolean) ∈ Gw := gq (tg_3 (List.mem_of_getElem? (i := 155) (by rfl))) rfl
theorem k_SQ_makeNew : Cond.code y_SQ_makeNew b_SQ_makeNew 2 none ∈ Gw := gq (tg_1 (List.mem_of_getElem? (i := 172) (by rfl))) rfl
theorem k_SQ_addFixedUnits : Cond.code y_SQ_addFixedUnits b_SQ_addFixedUnits 3 none ∈ Gw := gq (tg_1 (List.mem_of_getElem? (i := 188) (by rfl))) rfl
theorem k_SQ_addOtherUnits : Cond.code y_SQ_addOtherUnits b_SQ_addOtherUnits 3 none ∈ Gw := gq (tg_2 (List.mem_of_getElem? (i := 88) (by rfl))) rfl
theorem k_SQ_addUnlike : Cond.code y_SQ_addUnlike b_SQ_addUnlike 5 none ∈ Gw := gq (tg_1 (List.mem_of_getElem? (i := 198) (by rfl))) rfl
theorem k_SQ_addWays : Cond.code y_SQ_addWays b_SQ_addWays 10 none ∈ Gw := gq (tg_1 (List.mem_of_getElem? (i := 219) (by rfl))) rfl
theorem k_SQ_obeys : Cond.code y_SQ_obeys b_SQ_obeys 7 (some .boolean) ∈ Gw := gq (tg_1 (List.mem_of_getElem? (i := 223) (by rfl))) rfl
theorem k_ST_init : Cond.code y_ST_init b_ST_init 1 none ∈ Gw := gq (tg_1 (List.mem_of_getElem? (i := 110) (by rfl))) rfl
theorem k_ST_makeNew : Cond.code y_ST_makeNew b_ST_makeNew 2 none ∈ Gw := gq (tg_1 (List.mem_of_getElem? (i := 175) (by rfl))) rfl
theorem k_ST_addFixedUnits : Cond.code y_ST_addFixedUnits b_ST_addFixedUnits 4 none ∈ Gw := gq (tg_2 (List.mem_of_getElem? (i := 13) (by rfl))) rfl
theorem k_ST_addOtherUnits : Cond.code y_ST_addOtherUnits b_ST_addOtherUnits 4 none ∈ Gw := gq (tg_2 (List.mem_of_getElem? (i := 97) (by rfl))) rfl
theorem k_ST_touch : Cond.code y_ST_touch b_ST_touch 2 (some .boolean) ∈ Gw := gq (tg_2 (List.mem_of_getElem? (i := 38) (by rfl))) rfl
theorem k_ST_addJustOne : Cond.code y_ST_addJustOne b_ST_addJustOne 4 none ∈ Gw := gq (tg_2 (List.mem_of_getElem? (i := 20) (by rfl))) rfl
theorem k_ST_wayWithStar : Cond.code y_ST_wayWithStar b_ST_wayWithStar 6 (some .long) ∈ Gw := gq (tg_2 (List.mem_of_getElem? (i := 28) (by rfl))) rfl
theorem k_ST_addNotBoth : Cond.code y_ST_addNotBoth b_ST_addNotBoth 4 none ∈ Gw := gq (tg_2 (List.mem_of_getElem? (i := 45) (by rfl))) rfl
theorem k_UN_init : Cond.code y_UN_init b_UN_init 1 none ∈ Gw := gq (tg_1 (List.mem_of_getElem? (i := 129) (by rfl))) rfl
theorem k_UN_dropAll : Cond.code y_UN_dropAll b_UN_dropAll 1 none ∈ Gw := gq (tg_1 (List.mem_of_getElem? (i := 179) (by rfl))) rfl
theorem k_UN_fixAll : Cond.code y_UN_fixAll b_UN_fixAll 1 none ∈ Gw := gq (tg_2 (List.mem_of_getElem? (i := 53) (by rfl))) rfl
theorem k_UN_dropUnfixed : Cond.code y_UN_dropUnfixed b_UN_dropUnfixed 1 none ∈ Gw := gq (tg_2 (List.mem_of_getElem? (i := 61) (by rfl))) rfl
theorem k_UN_begin : Cond.code y_UN_begin b_UN_begin 3 none ∈ Gw := gq (tg_1 (List.mem_of_getElem? (i := 215) (by rfl))) rfl
theorem k_UN_addWay : Cond.code y_UN_addWay b_UN_addWay 4 none ∈ Gw := gq (tg_1 (List.mem_of_getElem? (i := 227) (by rfl))) rfl
theorem k_UN_haveWays : Cond.code y_UN_haveWays b_UN_haveWays 2 (some .boolean) ∈ Gw := gq (tg_2 (List.mem_of_getElem? (i := 147) (by rfl))) rfl
theorem k_UN_keptAtOnce : Cond.code y_UN_keptAtOnce b_UN_keptAtOnce 6 (some .long) ∈ Gw := gq (tg_2 (List.mem_of_getElem? (i := 189) (by rfl))) rfl
theorem k_UN_narrow : Cond.code y_UN_narrow b_UN_narrow 13 (some .long) ∈ Gw := gq (tg_2 (List.mem_of_getElem? (i := 156) (by rfl))) rfl
theorem k_UN_keptBy : Cond.code y_UN_keptBy b_UN_keptBy 9 (some .long) ∈ Gw := gq (tg_2 (List.mem_of_getElem? (i := 160) (by rfl))) rfl
theorem k_JI_bitCount : Cond.code y_JI_bitCount b_JI_bitCount 1 (some .int) ∈ Gw := gq (tg_1 (List.mem_of_getElem? (i := 235) (by rfl))) rfl
theorem k_JL_bitCount : Cond.code y_JL_bitCount b_JL_bitCount 2 (some .int) ∈ Gw := gq (tg_2 (List.mem_of_getElem? (i := 168) (by rfl))) rfl
theorem in_PP_0 : u_lay R_PP F_PP 0 ∈ Gw := gq (tg_2 (List.mem_of_getElem? (i := 115) (by decide +kernel))) (by decide +kernel)
theorem in_PP_1 : u_lay R_PP F_PP 1 ∈ Gw := gq (tg_2 (List.mem_of_getElem? (i := 117) (by decide +kernel))) (by decide +kernel)
theorem in_PP_2 : u_lay R_PP F_PP 2 ∈ Gw := gq (tg_2 (List.mem_of_getElem? (i := 119) (by decide +kernel))) (by decide +kernel)
theorem in_PP_3 : u_lay R_PP F_PP 3 ∈ Gw := gq (tg_2 (List.mem_of_getElem? (i := 121) (by decide +kernel))) (by decide +kernel)
theorem in_PP_4 : u_lay R_PP F_PP 4 ∈ Gw := gq (tg_2 (List.mem_of_getElem? (i := 123) (by decide +kernel))) (by decide +kernel)
theorem in_PP_5 : u_lay R_PP F_PP 5 ∈ Gw := gq (tg_2 (List.mem_of_getElem? (i := 125) (by decide +kernel))) (by decide +kernel)
theorem in_PP_6 : u_lay R_PP F_PP 6 ∈ Gw := gq (tg_2 (List.mem_of_getElem? (i := 127) (by decide +kernel))) (by decide +kernel)
theorem in_PP_7 : u_lay R_PP F_PP 7 ∈ Gw := gq (tg_2 (List.mem_of_getElem? (i := 129) (by decide +kernel))) (by decide +kernel)
theorem in_PP : ∀ w ∈ u_ws R_PP F_PP 8, w ∈ Gw := by
  intro w h
  obtain ⟨j, hj, rfl⟩ := List.mem_map.mp h
  have hj := List.mem_range.mp hj
  match j, hj with
  | 0, _ => exact in_PP_0
  | 1, _ => exact in_PP_1
  | 2, _ => exact in_PP_2
  | 3, _ => exact in_PP_3
  | 4, _ => exact in_PP_4
  | 5, _ => exact in_PP_5
  | 6, _ => exact in_PP_6
  | 7, _ => exact in_PP_7
  | j + 8, hj => exact absurd hj (by omega)
theorem in_PI_0 : u_lay R_PI F_PI 0 ∈ Gw := gq (tg_1 (List.mem_of_getElem? (i := 71) (by decide +kernel))) (by decide +kernel)
theorem in_PI_1 : u_lay R_PI F_PI 1 ∈ Gw := gq (tg_1 (List.mem_of_getElem? (i := 73) (by decide +kernel))) (by decide +kernel)
theorem in_PI_2 : u_lay R_PI F_PI 2 ∈ Gw := gq (tg_1 (List.mem_of_getElem? (i := 75) (by decide +kernel))) (by decide +kernel)
theorem in_PI_3 : u_lay R_PI F_PI 3 ∈ Gw := gq (tg_1 (List.mem_of_getElem? (i := 77) (by decide +kernel))) (by decide +kernel)
theorem in_PI_4 : u_lay R_PI F_PI 4 ∈ Gw := gq (tg_1 (List.mem_of_getElem? (i := 79) (by decide +kernel))) (by decide +kernel)
theorem in_PI_5 : u_lay R_PI F_PI 5 ∈ Gw := gq (tg_1 (List.mem_of_getElem? (i := 81) (by decide +kernel))) (by decide +kernel)
theorem in_PI_6 : u_lay R_PI F_PI 6 ∈ Gw := gq (tg_1 (List.mem_of_getElem? (i := 67) (by decide +kernel))) (by decide +kernel)
theorem in_PI_7 : u_lay R_PI F_PI 7 ∈ Gw := gq (tg_1 (List.mem_of_getElem? (i := 69) (by decide +kernel))) (by decide +kernel)
theorem in_PI : ∀ w ∈ u_ws R_PI F_PI 8, w ∈ Gw := by
  intro w h
  obtain ⟨j, hj, rfl⟩ := List.mem_map.mp h
  have hj := List.mem_range.mp hj
  match j, hj with
  | 0, _ => exact in_PI_0
  | 1, _ => exact in_PI_1
  | 2, _ => exact in_PI_2
  | 3, _ => exact in_PI_3
  | 4, _ => exact in_PI_4
  | 5, _ => exact in_PI_5
  | 6, _ => exact in_PI_6
  | 7, _ => exact in_PI_7
  | j + 8, hj => exact absurd hj (by omega)
theorem in_SQ_0 : u_lay R_SQ F_SQ 0 ∈ Gw := gq (tg_1 (List.mem_of_getElem? (i := 99) (by decide +kernel))) (by decide +kernel)
theorem in_SQ_1 : u_lay R_SQ F_SQ 1 ∈ Gw := gq (tg_1 (List.mem_of_getElem? (i := 100) (by decide +kernel))) (by decide +kernel)
theorem in_SQ_2 : u_lay R_SQ F_SQ 2 ∈ Gw := gq (tg_1 (List.mem_of_getElem? (i := 101) (by decide +kernel))) (by decide +kernel)
theorem in_SQ_3 : u_lay R_SQ F_SQ 3 ∈ Gw := gq (tg_1 (List.mem_of_getElem? (i := 102) (by decide +kernel))) (by decide +kernel)
theorem in_SQ_4 : u_lay R_SQ F_SQ 4 ∈ Gw := gq (tg_1 (List.mem_of_getElem? (i := 103) (by decide +kernel))) (by decide +kernel)
theorem in_SQ_5 : u_lay R_SQ F_SQ 5 ∈ Gw := gq (tg_1 (List.mem_of_getElem? (i := 104) (by decide +kernel))) (by decide +kernel)
theorem in_SQ_6 : u_lay R_SQ F_SQ 6 ∈ Gw := gq (tg_1 (List.mem_of_getElem? (i := 95) (by decide +kernel))) (by decide +kernel)
theorem in_SQ_7 : u_lay R_SQ F_SQ 7 ∈ Gw := gq (tg_1 (List.mem_of_getElem? (i := 97) (by decide +kernel))) (by decide +kernel)
theorem in_SQ : ∀ w ∈ u_ws R_SQ F_SQ 8, w ∈ Gw := by
  intro w h
  obtain ⟨j, hj, rfl⟩ := List.mem_map.mp h
  have hj := List.mem_range.mp hj
  match j, hj with
  | 0, _ => exact in_SQ_0
  | 1, _ => exact in_SQ_1
  | 2, _ => exact in_SQ_2
  | 3, _ => exact in_SQ_3
  | 4, _ => exact in_SQ_4
  | 5, _ => exact in_SQ_5
  | 6, _ => exact in_SQ_6
  | 7, _ => exact in_SQ_7
  | j + 8, hj => exact absurd hj (by omega)
theorem in_ST_0 : u_lay R_ST F_ST 0 ∈ Gw := gq (tg_1 (List.mem_of_getElem? (i := 112) (by decide +kernel))) (by decide +kernel)
theorem in_ST_1 : u_lay R_ST F_ST 1 ∈ Gw := gq (tg_1 (List.mem_of_getElem? (i := 113) (by decide +kernel))) (by decide +kernel)
theorem in_ST_2 : u_lay R_ST F_ST 2 ∈ Gw := gq (tg_1 (List.mem_of_getElem? (i := 114) (by decide +kernel))) (by decide +kernel)
theorem in_ST_3 : u_lay R_ST F_ST 3 ∈ Gw := gq (tg_1 (List.mem_of_getElem? (i := 115) (by decide +kernel))) (by decide +kernel)
theorem in_ST_4 : u_lay R_ST F_ST 4 ∈ Gw := gq (tg_1 (List.mem_of_getElem? (i := 116) (by decide +kernel))) (by decide +kernel)
theorem in_ST_5 : u_lay R_ST F_ST 5 ∈ Gw := gq (tg_1 (List.mem_of_getElem? (i := 117) (by decide +kernel))) (by decide +kernel)
theorem in_ST : ∀ w ∈ u_ws R_ST F_ST 6, w ∈ Gw := by
  intro w h
  obtain ⟨j, hj, rfl⟩ := List.mem_map.mp h
  have hj := List.mem_range.mp hj
  match j, hj with
  | 0, _ => exact in_ST_0
  | 1, _ => exact in_ST_1
  | 2, _ => exact in_ST_2
  | 3, _ => exact in_ST_3
  | 4, _ => exact in_ST_4
  | 5, _ => exact in_ST_5
  | j + 6, hj => exact absurd hj (by omega)
theorem in_RE_0 : u_lay R_RE F_RE 0 ∈ Gw := gq (tg_1 (List.mem_of_getElem? (i := 153) (by decide +kernel))) (by decide +kernel)
theorem in_RE_1 : u_lay R_RE F_RE 1 ∈ Gw := gq (tg_1 (List.mem_of_getElem? (i := 155) (by decide +kernel))) (by decide +kernel)
theorem in_RE_2 : u_lay R_RE F_RE 2 ∈ Gw := gq (tg_1 (List.mem_of_getElem? (i := 157) (by decide +kernel))) (by decide +kernel)
theorem in_RE : ∀ w ∈ u_ws R_RE F_RE 3, w ∈ Gw := by
  intro w h
  obtain ⟨j, hj, rfl⟩ := List.mem_map.mp h
  have hj := List.mem_range.mp hj
  match j, hj with
  | 0, _ => exact in_RE_0
  | 1, _ => exact in_RE_1
  | 2, _ => exact in_RE_2
  | j + 3, hj => exact absurd hj (by omega)
theorem in_UN_0 : u_lay R_UN F_UN 0 ∈ Gw := gq (tg_1 (List.mem_of_getElem? (i := 136) (by decide +kernel))) (by decide +kernel)
theorem in_UN_1 : u_lay R_UN F_UN 1 ∈ Gw := gq (tg_1 (List.mem_of_getElem? (i := 138) (by decide +kernel))) (by decide +kernel)
theorem in_UN_2 : u_lay R_UN F_UN 2 ∈ Gw := gq (tg_1 (List.mem_of_getElem? (i := 140) (by decide +kernel))) (by decide +kernel)
theorem in_UN_3 : u_lay R_UN F_UN 3 ∈ Gw := gq (tg_1 (List.mem_of_getElem? (i := 142) (by decide +kernel))) (by decide +kernel)
theorem in_UN_4 : u_lay R_UN F_UN 4 ∈ Gw := gq (tg_1 (List.mem_of_getElem? (i := 144) (by decide +kernel))) (by decide +kernel)
theorem in_UN : ∀ w ∈ u_ws R_UN F_UN 5, w ∈ Gw := by
  intro w h
  obtain ⟨j, hj, rfl⟩ := List.mem_map.mp h
  have hj := List.mem_range.mp hj
  match j, hj with
  | 0, _ => exact in_UN_0
  | 1, _ => exact in_UN_1
  | 2, _ => exact in_UN_2
  | 3, _ => exact in_UN_3
  | 4, _ => exact in_UN_4
  | j + 5, hj => exact absurd hj (by omega)
theorem in_MO_0 : u_lay R_MO F_MO 0 ∈ Gw := gq (tg_4 (List.mem_of_getElem? (i := 53) (by decide +kernel))) (by decide +kernel)
theorem in_MO_1 : u_lay R_MO F_MO 1 ∈ Gw := gq (tg_4 (List.mem_of_getElem? (i := 55) (by decide +kernel))) (by decide +kernel)
theorem in_MO_2 : u_lay R_MO F_MO 2 ∈ Gw := gq (tg_4 (List.mem_of_getElem? (i := 57) (by decide +kernel))) (by decide +kernel)
theorem in_MO_3 : u_lay R_MO F_MO 3 ∈ Gw := gq (tg_4 (List.mem_of_getElem? (i := 59) (by decide +kernel))) (by decide +kernel)
theorem in_MO_4 : u_lay R_MO F_MO 4 ∈ Gw := gq (tg_4 (List.mem_of_getElem? (i := 61) (by decide +kernel))) (by decide +kernel)
theorem in_MO_5 : u_lay R_MO F_MO 5 ∈ Gw := gq (tg_4 (List.mem_of_getElem? (i := 63) (by decide +kernel))) (by decide +kernel)
theorem in_MO_6 : u_lay R_MO F_MO 6 ∈ Gw := gq (tg_4 (List.mem_of_getElem? (i := 65) (by decide +kernel))) (by decide +kernel)
theorem in_MO_7 : u_lay R_MO F_MO 7 ∈ Gw := gq (tg_4 (List.mem_of_getElem? (i := 67) (by decide +kernel))) (by decide +kernel)
theorem in_MO_8 : u_lay R_MO F_MO 8 ∈ Gw := gq (tg_4 (List.mem_of_getElem? (i := 69) (by decide +kernel))) (by decide +kernel)
theorem in_MO_9 : u_lay R_MO F_MO 9 ∈ Gw := gq (tg_4 (List.mem_of_getElem? (i := 71) (by decide +kernel))) (by decide +kernel)
theorem in_MO_10 : u_lay R_MO F_MO 10 ∈ Gw := gq (tg_4 (List.mem_of_getElem? (i := 73) (by decide +kernel))) (by decide +kernel)
theorem in_MO_11 : u_lay R_MO F_MO 11 ∈ Gw := gq (tg_4 (List.mem_of_getElem? (i := 75) (by decide +kernel))) (by decide +kernel)
theorem in_MO_12 : u_lay R_MO F_MO 12 ∈ Gw := gq (tg_4 (List.mem_of_getElem? (i := 77) (by decide +kernel))) (by decide +kernel)
theorem in_MO_13 : u_lay R_MO F_MO 13 ∈ Gw := gq (tg_4 (List.mem_of_getElem? (i := 79) (by decide +kernel))) (by decide +kernel)
theorem in_MO_14 : u_lay R_MO F_MO 14 ∈ Gw := gq (tg_4 (List.mem_of_getElem? (i := 81) (by decide +kernel))) (by decide +kernel)
theorem in_MO_15 : u_lay R_MO F_MO 15 ∈ Gw := gq (tg_4 (List.mem_of_getElem? (i := 83) (by decide +kernel))) (by decide +kernel)
theorem in_MO_16 : u_lay R_MO F_MO 16 ∈ Gw := gq (tg_4 (List.mem_of_getElem? (i := 85) (by decide +kernel))) (by decide +kernel)
theorem in_MO_17 : u_lay R_MO F_MO 17 ∈ Gw := gq (tg_4 (List.mem_of_getElem? (i := 87) (by decide +kernel))) (by decide +kernel)
theorem in_MO_18 : u_lay R_MO F_MO 18 ∈ Gw := gq (tg_4 (List.mem_of_getElem? (i := 89) (by decide +kernel))) (by decide +kernel)
theorem in_MO_19 : u_lay R_MO F_MO 19 ∈ Gw := gq (tg_4 (List.mem_of_getElem? (i := 91) (by decide +kernel))) (by decide +kernel)
theorem in_MO_20 : u_lay R_MO F_MO 20 ∈ Gw := gq (tg_4 (List.mem_of_getElem? (i := 93) (by decide +kernel))) (by decide +kernel)
theorem in_MO_21 : u_lay R_MO F_MO 21 ∈ Gw := gq (tg_4 (List.mem_of_getElem? (i := 95) (by decide +kernel))) (by decide +kernel)
theorem in_MO_22 : u_lay R_MO F_MO 22 ∈ Gw := gq (tg_4 (List.mem_of_getElem? (i := 97) (by decide +kernel))) (by decide +kernel)
theorem in_MO_23 : u_lay R_MO F_MO 23 ∈ Gw := gq (tg_4 (List.mem_of_getElem? (i := 99) (by decide +kernel))) (by decide +kernel)
theorem in_MO : ∀ w ∈ u_ws R_MO F_MO 24, w ∈ Gw := by
  intro w h
  obtain ⟨j, hj, rfl⟩ := List.mem_map.mp h
  have hj := List.mem_range.mp hj
  match j, hj with
  | 0, _ => exact in_MO_0
  | 1, _ => exact in_MO_1
  | 2, _ => exact in_MO_2
  | 3, _ => exact in_MO_3
  | 4, _ => exact in_MO_4
  | 5, _ => exact in_MO_5
  | 6, _ => exact in_MO_6
  | 7, _ => exact in_MO_7
  | 8, _ => exact in_MO_8
  | 9, _ => exact in_MO_9
  | 10, _ => exact in_MO_10
  | 11, _ => exact in_MO_11
  | 12, _ => exact in_MO_12
  | 13, _ => exact in_MO_13
  | 14, _ => exact in_MO_14
  | 15, _ => exact in_MO_15
  | 16, _ => exact in_MO_16
  | 17, _ => exact in_MO_17
  | 18, _ => exact in_MO_18
  | 19, _ => exact in_MO_19
  | 20, _ => exact in_MO_20
  | 21, _ => exact in_MO_21
  | 22, _ => exact in_MO_22
  | 23, _ => exact in_MO_23
  | j + 24, hj => exact absurd hj (by omega)
theorem q_1 : (Cond.initialized R_PP) ∈ Gw := gq (tg_1 (List.mem_of_getElem? (i := 1) (by decide +kernel))) rfl
theorem q_2 : (Cond.initialized R_KD) ∈ Gw := gq (tg_1 (List.mem_of_getElem? (i := 2) (by decide +kernel))) rfl
theorem q_3 : (Cond.initialized R_PI) ∈ Gw := gq (tg_1 (List.mem_of_getElem? (i := 3) (by decide +kernel))) rfl
theorem q_4 : (Cond.initialized R_SQ) ∈ Gw := gq (tg_1 (List.mem_of_getElem? (i := 4) (by decide +kernel))) rfl
theorem q_5 : (Cond.initialized R_ST) ∈ Gw := gq (tg_1 (List.mem_of_getElem? (i := 5) (by decide +kernel))) rfl
theorem q_6 : (Cond.initialized R_RE) ∈ Gw := gq (tg_1 (List.mem_of_getElem? (i := 6) (by decide +kernel))) rfl
theorem q_7 : (Cond.initialized R_UN) ∈ Gw := gq (tg_1 (List.mem_of_getElem? (i := 7) (by decide +kernel))) rfl
theorem q_8 : (Cond.initialized R_JI) ∈ Gw := gq (tg_1 (List.mem_of_getElem? (i := 8) (by decide +kernel))) rfl
theorem q_10 : (Cond.initialized R_MO) ∈ Gw := gq (tg_1 (List.mem_of_getElem? (i := 10) (by decide +kernel))) rfl
theorem q_18 : (Cond.initialized R_JL) ∈ Gw := gq (tg_1 (List.mem_of_getElem? (i := 18) (by decide +kernel))) rfl
theorem q_40 : (Cond.fieldLink R_PI 9 "PuzzlePress$Picture" "clues" "[I") ∈ Gw := gq (tg_1 (List.mem_of_getElem? (i := 40) (by decide +kernel))) rfl
theorem q_42 : (Cond.fieldLink R_PI 13 "PuzzlePress$Picture" "clueOf" "[I") ∈ Gw := gq (tg_1 (List.mem_of_getElem? (i := 42) (by decide +kernel))) rfl
theorem q_43 : (Cond.fieldLink R_KD 9 "PuzzlePress$Kind" "side" "I") ∈ Gw := gq (tg_1 (List.mem_of_getElem? (i := 43) (by decide +kernel))) rfl
theorem q_44 : (Cond.fieldLink R_KD 15 "PuzzlePress$Kind" "cells" "I") ∈ Gw := gq (tg_1 (List.mem_of_getElem? (i := 44) (by decide +kernel))) rfl
theorem q_45 : (Cond.fieldLink R_ST 9 "PuzzlePress$Stars" "cells" "I") ∈ Gw := gq (tg_1 (List.mem_of_getElem? (i := 45) (by decide +kernel))) rfl
theorem q_46 : (Cond.sameField "PuzzlePress$Stars" "PuzzlePress$Kind" "cells" "I") ∈ Gw := gq (tg_1 (List.mem_of_getElem? (i := 46) (by decide +kernel))) rfl
theorem q_47 : (Cond.fieldLink R_PP 56 "PuzzlePress$Kind" "cells" "I") ∈ Gw := gq (tg_1 (List.mem_of_getElem? (i := 47) (by decide +kernel))) rfl
theorem q_48 : (Cond.fieldLink R_RE 35 "PuzzlePress$Kind" "cells" "I") ∈ Gw := gq (tg_1 (List.mem_of_getElem? (i := 48) (by decide +kernel))) rfl
theorem q_49 : (Cond.fieldLink R_KD 18 "PuzzlePress$Kind" "least" "I") ∈ Gw := gq (tg_1 (List.mem_of_getElem? (i := 49) (by decide +kernel))) rfl
theorem q_50 : (Cond.fieldLink R_RE 41 "PuzzlePress$Kind" "least" "I") ∈ Gw := gq (tg_1 (List.mem_of_getElem? (i := 50) (by decide +kernel))) rfl
theorem q_51 : (Cond.fieldLink R_SQ 57 "PuzzlePress$Square" "least" "I") ∈ Gw := gq (tg_1 (List.mem_of_getElem? (i := 51) (by decide +kernel))) rfl
theorem q_52 : (Cond.sameField "PuzzlePress$Square" "PuzzlePress$Kind" "least" "I") ∈ Gw := gq (tg_1 (List.mem_of_getElem? (i := 52) (by decide +kernel))) rfl
theorem q_53 : (Cond.fieldLink R_KD 21 "PuzzlePress$Kind" "values" "I") ∈ Gw := gq (tg_1 (List.mem_of_getElem? (i := 53) (by decide +kernel))) rfl
theorem q_54 : (Cond.fieldLink R_RE 44 "PuzzlePress$Kind" "values" "I") ∈ Gw := gq (tg_1 (List.mem_of_getElem? (i := 54) (by decide +kernel))) rfl
theorem q_55 : (Cond.fieldLink R_SQ 61 "PuzzlePress$Square" "values" "I") ∈ Gw := gq (tg_1 (List.mem_of_getElem? (i := 55) (by decide +kernel))) rfl
theorem q_56 : (Cond.sameField "PuzzlePress$Square" "PuzzlePress$Kind" "values" "I") ∈ Gw := gq (tg_1 (List.mem_of_getElem? (i := 56) (by decide +kernel))) rfl
theorem q_61 : (Cond.fieldLink R_KD 27 "PuzzlePress$Kind" "groupOf" "[I") ∈ Gw := gq (tg_1 (List.mem_of_getElem? (i := 61) (by decide +kernel))) rfl
theorem q_62 : (Cond.fieldLink R_ST 13 "PuzzlePress$Stars" "groupOf" "[I") ∈ Gw := gq (tg_1 (List.mem_of_getElem? (i := 62) (by decide +kernel))) rfl
theorem q_63 : (Cond.sameField "PuzzlePress$Stars" "PuzzlePress$Kind" "groupOf" "[I") ∈ Gw := gq (tg_1 (List.mem_of_getElem? (i := 63) (by decide +kernel))) rfl
theorem q_64 : (Cond.fieldLink R_SQ 16 "PuzzlePress$Square" "groupOf" "[I") ∈ Gw := gq (tg_1 (List.mem_of_getElem? (i := 64) (by decide +kernel))) rfl
theorem q_65 : (Cond.sameField "PuzzlePress$Square" "PuzzlePress$Kind" "groupOf" "[I") ∈ Gw := gq (tg_1 (List.mem_of_getElem? (i := 65) (by decide +kernel))) rfl
theorem q_91 : (Cond.fieldLink R_SQ 9 "PuzzlePress$Square" "rules" "[I") ∈ Gw := gq (tg_1 (List.mem_of_getElem? (i := 91) (by decide +kernel))) rfl
theorem q_93 : (Cond.fieldLink R_SQ 13 "PuzzlePress$Square" "numbers" "[I") ∈ Gw := gq (tg_1 (List.mem_of_getElem? (i := 93) (by decide +kernel))) rfl
theorem q_131 : (Cond.fieldLink R_UN 11 "PuzzlePress$Units" "scopes" "[J") ∈ Gw := gq (tg_1 (List.mem_of_getElem? (i := 131) (by decide +kernel))) rfl
theorem q_132 : (Cond.fieldLink R_UN 15 "PuzzlePress$Units" "starts" "[I") ∈ Gw := gq (tg_1 (List.mem_of_getElem? (i := 132) (by decide +kernel))) rfl
theorem q_133 : (Cond.fieldLink R_UN 19 "PuzzlePress$Units" "ways" "[J") ∈ Gw := gq (tg_1 (List.mem_of_getElem? (i := 133) (by decide +kernel))) rfl
theorem q_134 : (Cond.fieldLink R_UN 22 "PuzzlePress$Units" "count" "I") ∈ Gw := gq (tg_1 (List.mem_of_getElem? (i := 134) (by decide +kernel))) rfl
theorem q_135 : (Cond.fieldLink R_UN 26 "PuzzlePress$Units" "fixed" "I") ∈ Gw := gq (tg_1 (List.mem_of_getElem? (i := 135) (by decide +kernel))) rfl
theorem q_148 : (Cond.fieldLink R_RE 12 "PuzzlePress$Reasoner" "units" "LPuzzlePress$Units;") ∈ Gw := gq (tg_1 (List.mem_of_getElem? (i := 148) (by decide +kernel))) rfl
theorem q_149 : (Cond.fieldLink R_PP 172 "PuzzlePress$Reasoner" "units" "LPuzzlePress$Units;") ∈ Gw := gq (tg_1 (List.mem_of_getElem? (i := 149) (by decide +kernel))) rfl
theorem q_150 : (Cond.fieldLink R_RE 58 "PuzzlePress$Reasoner" "firstFound" "J") ∈ Gw := gq (tg_1 (List.mem_of_getElem? (i := 150) (by decide +kernel))) rfl
theorem q_152 : (Cond.fieldLink R_RE 55 "PuzzlePress$Reasoner" "found" "I") ∈ Gw := gq (tg_1 (List.mem_of_getElem? (i := 152) (by decide +kernel))) rfl
theorem q_164 : (Cond.methodLink R_PP 169 ⟨"PuzzlePress$Kind", "makeNew", "()V"⟩) ∈ Gw := gq (tg_1 (List.mem_of_getElem? (i := 164) (by decide +kernel))) rfl
theorem q_166 : (Cond.sameMethod "PuzzlePress$Kind" "PuzzlePress$Kind" "makeNew" "()V") ∈ Gw := gq (tg_1 (List.mem_of_getElem? (i := 166) (by decide +kernel))) rfl
theorem q_167 : (Cond.selects R_PI ⟨"PuzzlePress$Kind", "makeNew", "()V"⟩ y_PI_makeNew) ∈ Gw := gq (tg_1 (List.mem_of_getElem? (i := 167) (by decide +kernel))) rfl
theorem q_168 : (Cond.instanceMethod y_PI_makeNew) ∈ Gw := gq (tg_1 (List.mem_of_getElem? (i := 168) (by decide +kernel))) rfl
theorem q_170 : (Cond.selects R_SQ ⟨"PuzzlePress$Kind", "makeNew", "()V"⟩ y_SQ_makeNew) ∈ Gw := gq (tg_1 (List.mem_of_getElem? (i := 170) (by decide +kernel))) rfl
theorem q_171 : (Cond.instanceMethod y_SQ_makeNew) ∈ Gw := gq (tg_1 (List.mem_of_getElem? (i := 171) (by decide +kernel))) rfl
theorem q_173 : (Cond.selects R_ST ⟨"PuzzlePress$Kind", "makeNew", "()V"⟩ y_ST_makeNew) ∈ Gw := gq (tg_1 (List.mem_of_getElem? (i := 173) (by decide +kernel))) rfl
theorem q_174 : (Cond.instanceMethod y_ST_makeNew) ∈ Gw := gq (tg_1 (List.mem_of_getElem? (i := 174) (by decide +kernel))) rfl
theorem q_176 : (Cond.methodLink R_PP 176 ⟨"PuzzlePress$Units", "dropAll", "()V"⟩) ∈ Gw := gq (tg_1 (List.mem_of_getElem? (i := 176) (by decide +kernel))) rfl
theorem q_177 : (Cond.instanceMethod y_UN_dropAll) ∈ Gw := gq (tg_1 (List.mem_of_getElem? (i := 177) (by decide +kernel))) rfl
theorem q_178 : (Cond.selects R_UN y_UN_dropAll y_UN_dropAll) ∈ Gw := gq (tg_1 (List.mem_of_getElem? (i := 178) (by decide +kernel))) rfl
theorem q_180 : (Cond.methodLink R_PP 181 ⟨"PuzzlePress$Kind", "addFixedUnits", "(LPuzzlePress$Units;)V"⟩) ∈ Gw := gq (tg_1 (List.mem_of_getElem? (i := 180) (by decide +kernel))) rfl
theorem q_182 : (Cond.sameMethod "PuzzlePress$Kind" "PuzzlePress$Kind" "addFixedUnits" "(LPuzzlePress$Units;)V") ∈ Gw := gq (tg_1 (List.mem_of_getElem? (i := 182) (by decide +kernel))) rfl
theorem q_183 : (Cond.selects R_PI ⟨"PuzzlePress$Kind", "addFixedUnits", "(LPuzzlePress$Units;)V"⟩ y_PI_addFixedUnits) ∈ Gw := gq (tg_1 (List.mem_of_getElem? (i := 183) (by decide +kernel))) rfl
theorem q_184 : (Cond.instanceMethod y_PI_addFixedUnits) ∈ Gw := gq (tg_1 (List.mem_of_getElem? (i := 184) (by decide +kernel))) rfl
theorem q_186 : (Cond.selects R_SQ ⟨"PuzzlePress$Kind", "addFixedUnits", "(LPuzzlePress$Units;)V"⟩ y_SQ_addFixedUnits) ∈ Gw := gq (tg_1 (List.mem_of_getElem? (i := 186) (by decide +kernel))) rfl
theorem q_187 : (Cond.instanceMethod y_SQ_addFixedUnits) ∈ Gw := gq (tg_1 (List.mem_of_getElem? (i := 187) (by decide +kernel))) rfl
theorem q_189 : (Cond.methodLink R_SQ 19 ⟨"PuzzlePress$Square", "rowCells", "(I)I"⟩) ∈ Gw := gq (tg_1 (List.mem_of_getElem? (i := 189) (by decide +kernel))) rfl
theorem q_190 : (Cond.sameMethod "PuzzlePress$Square" "PuzzlePress$Kind" "rowCells" "(I)I") ∈ Gw := gq (tg_1 (List.mem_of_getElem? (i := 190) (by decide +kernel))) rfl
theorem q_192 : (Cond.selects R_SQ ⟨"PuzzlePress$Square", "rowCells", "(I)I"⟩ y_KD_rowCells) ∈ Gw := gq (tg_1 (List.mem_of_getElem? (i := 192) (by decide +kernel))) rfl
theorem q_193 : (Cond.instanceMethod y_KD_rowCells) ∈ Gw := gq (tg_1 (List.mem_of_getElem? (i := 193) (by decide +kernel))) rfl
theorem q_195 : (Cond.methodLink R_SQ 23 ⟨"PuzzlePress$Square", "addUnlike", "(LPuzzlePress$Units;III)V"⟩) ∈ Gw := gq (tg_1 (List.mem_of_getElem? (i := 195) (by decide +kernel))) rfl
theorem q_197 : (Cond.instanceMethod y_SQ_addUnlike) ∈ Gw := gq (tg_1 (List.mem_of_getElem? (i := 197) (by decide +kernel))) rfl
theorem q_199 : (Cond.methodLink R_SQ 33 ⟨"PuzzlePress$Square", "scopeOf", "(I)J"⟩) ∈ Gw := gq (tg_1 (List.mem_of_getElem? (i := 199) (by decide +kernel))) rfl
theorem q_200 : (Cond.sameMethod "PuzzlePress$Square" "PuzzlePress$Kind" "scopeOf" "(I)J") ∈ Gw := gq (tg_1 (List.mem_of_getElem? (i := 200) (by decide +kernel))) rfl
theorem q_202 : (Cond.selects R_SQ ⟨"PuzzlePress$Square", "scopeOf", "(I)J"⟩ y_KD_scopeOf) ∈ Gw := gq (tg_1 (List.mem_of_getElem? (i := 202) (by decide +kernel))) rfl
theorem q_203 : (Cond.instanceMethod y_KD_scopeOf) ∈ Gw := gq (tg_1 (List.mem_of_getElem? (i := 203) (by decide +kernel))) rfl
theorem q_205 : (Cond.methodLink R_KD 31 ⟨"PuzzlePress$Kind", "allOf", "(I)J"⟩) ∈ Gw := gq (tg_1 (List.mem_of_getElem? (i := 205) (by decide +kernel))) rfl
theorem q_206 : (Cond.instanceMethod y_KD_allOf) ∈ Gw := gq (tg_1 (List.mem_of_getElem? (i := 206) (by decide +kernel))) rfl
theorem q_207 : (Cond.sameMethod "PuzzlePress$Kind" "PuzzlePress$Kind" "allOf" "(I)J") ∈ Gw := gq (tg_1 (List.mem_of_getElem? (i := 207) (by decide +kernel))) rfl
theorem q_208 : (Cond.selects R_PI ⟨"PuzzlePress$Kind", "allOf", "(I)J"⟩ y_KD_allOf) ∈ Gw := gq (tg_1 (List.mem_of_getElem? (i := 208) (by decide +kernel))) rfl
theorem q_209 : (Cond.selects R_SQ ⟨"PuzzlePress$Kind", "allOf", "(I)J"⟩ y_KD_allOf) ∈ Gw := gq (tg_1 (List.mem_of_getElem? (i := 209) (by decide +kernel))) rfl
theorem q_210 : (Cond.selects R_ST ⟨"PuzzlePress$Kind", "allOf", "(I)J"⟩ y_KD_allOf) ∈ Gw := gq (tg_1 (List.mem_of_getElem? (i := 210) (by decide +kernel))) rfl
theorem q_212 : (Cond.methodLink R_SQ 37 ⟨"PuzzlePress$Units", "begin", "(J)V"⟩) ∈ Gw := gq (tg_1 (List.mem_of_getElem? (i := 212) (by decide +kernel))) rfl
theorem q_213 : (Cond.instanceMethod y_UN_begin) ∈ Gw := gq (tg_1 (List.mem_of_getElem? (i := 213) (by decide +kernel))) rfl
theorem q_214 : (Cond.selects R_UN y_UN_begin y_UN_begin) ∈ Gw := gq (tg_1 (List.mem_of_getElem? (i := 214) (by decide +kernel))) rfl
theorem q_216 : (Cond.methodLink R_SQ 43 ⟨"PuzzlePress$Square", "addWays", "(LPuzzlePress$Units;IJIII)V"⟩) ∈ Gw := gq (tg_1 (List.mem_of_getElem? (i := 216) (by decide +kernel))) rfl
theorem q_218 : (Cond.instanceMethod y_SQ_addWays) ∈ Gw := gq (tg_1 (List.mem_of_getElem? (i := 218) (by decide +kernel))) rfl
theorem q_220 : (Cond.methodLink R_SQ 47 ⟨"PuzzlePress$Square", "obeys", "(III)Z"⟩) ∈ Gw := gq (tg_1 (List.mem_of_getElem? (i := 220) (by decide +kernel))) rfl
theorem q_222 : (Cond.instanceMethod y_SQ_obeys) ∈ Gw := gq (tg_1 (List.mem_of_getElem? (i := 222) (by decide +kernel))) rfl
theorem q_224 : (Cond.methodLink R_SQ 51 ⟨"PuzzlePress$Units", "addWay", "(J)V"⟩) ∈ Gw := gq (tg_1 (List.mem_of_getElem? (i := 224) (by decide +kernel))) rfl
theorem q_225 : (Cond.instanceMethod y_UN_addWay) ∈ Gw := gq (tg_1 (List.mem_of_getElem? (i := 225) (by decide +kernel))) rfl
theorem q_226 : (Cond.selects R_UN y_UN_addWay y_UN_addWay) ∈ Gw := gq (tg_1 (List.mem_of_getElem? (i := 226) (by decide +kernel))) rfl
theorem q_228 : (Cond.methodLink R_SQ 54 ⟨"PuzzlePress$Square", "firstOf", "(I)I"⟩) ∈ Gw := gq (tg_1 (List.mem_of_getElem? (i := 228) (by decide +kernel))) rfl
theorem q_229 : (Cond.sameMethod "PuzzlePress$Square" "PuzzlePress$Kind" "firstOf" "(I)I") ∈ Gw := gq (tg_1 (List.mem_of_getElem? (i := 229) (by decide +kernel))) rfl
theorem q_231 : (Cond.static y_KD_firstOf) ∈ Gw := gq (tg_1 (List.mem_of_getElem? (i := 231) (by decide +kernel))) rfl
theorem q_233 : (Cond.methodLink R_KD 43 ⟨"java/lang/Integer", "bitCount", "(I)I"⟩) ∈ Gw := gq (tg_1 (List.mem_of_getElem? (i := 233) (by decide +kernel))) rfl
theorem q_234 : (Cond.static y_JI_bitCount) ∈ Gw := gq (tg_1 (List.mem_of_getElem? (i := 234) (by decide +kernel))) rfl
theorem q_236 : (Cond.constant R_JI 265 (1431655765)) ∈ Gw := gq (tg_1 (List.mem_of_getElem? (i := 236) (by decide +kernel))) rfl
theorem q_237 : (Cond.constant R_JI 266 (858993459)) ∈ Gw := gq (tg_1 (List.mem_of_getElem? (i := 237) (by decide +kernel))) rfl
theorem q_238 : (Cond.constant R_JI 267 (252645135)) ∈ Gw := gq (tg_1 (List.mem_of_getElem? (i := 238) (by decide +kernel))) rfl
theorem q_239 : (Cond.methodLink R_SQ 64 ⟨"PuzzlePress$Square", "bit", "(II)J"⟩) ∈ Gw := gq (tg_1 (List.mem_of_getElem? (i := 239) (by decide +kernel))) rfl
theorem q_240 : (Cond.sameMethod "PuzzlePress$Square" "PuzzlePress$Kind" "bit" "(II)J") ∈ Gw := gq (tg_2 (List.mem_of_getElem? (i := 0) (by decide +kernel))) rfl
theorem q_242 : (Cond.selects R_SQ ⟨"PuzzlePress$Square", "bit", "(II)J"⟩ y_KD_bit) ∈ Gw := gq (tg_2 (List.mem_of_getElem? (i := 2) (by decide +kernel))) rfl
theorem q_243 : (Cond.instanceMethod y_KD_bit) ∈ Gw := gq (tg_2 (List.mem_of_getElem? (i := 3) (by decide +kernel))) rfl
theorem q_245 : (Cond.methodLink R_SQ 27 ⟨"PuzzlePress$Square", "columnCells", "(I)I"⟩) ∈ Gw := gq (tg_2 (List.mem_of_getElem? (i := 5) (by decide +kernel))) rfl
theorem q_246 : (Cond.sameMethod "PuzzlePress$Square" "PuzzlePress$Kind" "columnCells" "(I)I") ∈ Gw := gq (tg_2 (List.mem_of_getElem? (i := 6) (by decide +kernel))) rfl
theorem q_248 : (Cond.selects R_SQ ⟨"PuzzlePress$Square", "columnCells", "(I)I"⟩ y_KD_columnCells) ∈ Gw := gq (tg_2 (List.mem_of_getElem? (i := 8) (by decide +kernel))) rfl
theorem q_249 : (Cond.instanceMethod y_KD_columnCells) ∈ Gw := gq (tg_2 (List.mem_of_getElem? (i := 9) (by decide +kernel))) rfl
theorem q_251 : (Cond.selects R_ST ⟨"PuzzlePress$Kind", "addFixedUnits", "(LPuzzlePress$Units;)V"⟩ y_ST_addFixedUnits) ∈ Gw := gq (tg_2 (List.mem_of_getElem? (i := 11) (by decide +kernel))) rfl
theorem q_252 : (Cond.instanceMethod y_ST_addFixedUnits) ∈ Gw := gq (tg_2 (List.mem_of_getElem? (i := 12) (by decide +kernel))) rfl
theorem q_254 : (Cond.methodLink R_ST 17 ⟨"PuzzlePress$Stars", "rowCells", "(I)I"⟩) ∈ Gw := gq (tg_2 (List.mem_of_getElem? (i := 14) (by decide +kernel))) rfl
theorem q_255 : (Cond.sameMethod "PuzzlePress$Stars" "PuzzlePress$Kind" "rowCells" "(I)I") ∈ Gw := gq (tg_2 (List.mem_of_getElem? (i := 15) (by decide +kernel))) rfl
theorem q_256 : (Cond.selects R_ST ⟨"PuzzlePress$Stars", "rowCells", "(I)I"⟩ y_KD_rowCells) ∈ Gw := gq (tg_2 (List.mem_of_getElem? (i := 16) (by decide +kernel))) rfl
theorem q_257 : (Cond.methodLink R_ST 21 ⟨"PuzzlePress$Stars", "addJustOne", "(LPuzzlePress$Units;I)V"⟩) ∈ Gw := gq (tg_2 (List.mem_of_getElem? (i := 17) (by decide +kernel))) rfl
theorem q_259 : (Cond.instanceMethod y_ST_addJustOne) ∈ Gw := gq (tg_2 (List.mem_of_getElem? (i := 19) (by decide +kernel))) rfl
theorem q_261 : (Cond.methodLink R_ST 44 ⟨"PuzzlePress$Stars", "scopeOf", "(I)J"⟩) ∈ Gw := gq (tg_2 (List.mem_of_getElem? (i := 21) (by decide +kernel))) rfl
theorem q_262 : (Cond.sameMethod "PuzzlePress$Stars" "PuzzlePress$Kind" "scopeOf" "(I)J") ∈ Gw := gq (tg_2 (List.mem_of_getElem? (i := 22) (by decide +kernel))) rfl
theorem q_263 : (Cond.selects R_ST ⟨"PuzzlePress$Stars", "scopeOf", "(I)J"⟩ y_KD_scopeOf) ∈ Gw := gq (tg_2 (List.mem_of_getElem? (i := 23) (by decide +kernel))) rfl
theorem q_264 : (Cond.methodLink R_ST 48 ⟨"PuzzlePress$Units", "begin", "(J)V"⟩) ∈ Gw := gq (tg_2 (List.mem_of_getElem? (i := 24) (by decide +kernel))) rfl
theorem q_265 : (Cond.methodLink R_ST 54 ⟨"PuzzlePress$Stars", "wayWithStar", "(II)J"⟩) ∈ Gw := gq (tg_2 (List.mem_of_getElem? (i := 25) (by decide +kernel))) rfl
theorem q_267 : (Cond.instanceMethod y_ST_wayWithStar) ∈ Gw := gq (tg_2 (List.mem_of_getElem? (i := 27) (by decide +kernel))) rfl
theorem q_269 : (Cond.methodLink R_ST 61 ⟨"PuzzlePress$Stars", "bit", "(II)J"⟩) ∈ Gw := gq (tg_2 (List.mem_of_getElem? (i := 29) (by decide +kernel))) rfl
theorem q_270 : (Cond.sameMethod "PuzzlePress$Stars" "PuzzlePress$Kind" "bit" "(II)J") ∈ Gw := gq (tg_2 (List.mem_of_getElem? (i := 30) (by decide +kernel))) rfl
theorem q_271 : (Cond.selects R_ST ⟨"PuzzlePress$Stars", "bit", "(II)J"⟩ y_KD_bit) ∈ Gw := gq (tg_2 (List.mem_of_getElem? (i := 31) (by decide +kernel))) rfl
theorem q_272 : (Cond.methodLink R_ST 58 ⟨"PuzzlePress$Units", "addWay", "(J)V"⟩) ∈ Gw := gq (tg_2 (List.mem_of_getElem? (i := 32) (by decide +kernel))) rfl
theorem q_273 : (Cond.methodLink R_ST 25 ⟨"PuzzlePress$Stars", "columnCells", "(I)I"⟩) ∈ Gw := gq (tg_2 (List.mem_of_getElem? (i := 33) (by decide +kernel))) rfl
theorem q_274 : (Cond.sameMethod "PuzzlePress$Stars" "PuzzlePress$Kind" "columnCells" "(I)I") ∈ Gw := gq (tg_2 (List.mem_of_getElem? (i := 34) (by decide +kernel))) rfl
theorem q_275 : (Cond.selects R_ST ⟨"PuzzlePress$Stars", "columnCells", "(I)I"⟩ y_KD_columnCells) ∈ Gw := gq (tg_2 (List.mem_of_getElem? (i := 35) (by decide +kernel))) rfl
theorem q_276 : (Cond.methodLink R_ST 28 ⟨"PuzzlePress$Stars", "touch", "(II)Z"⟩) ∈ Gw := gq (tg_2 (List.mem_of_getElem? (i := 36) (by decide +kernel))) rfl
theorem q_277 : (Cond.static y_ST_touch) ∈ Gw := gq (tg_2 (List.mem_of_getElem? (i := 37) (by decide +kernel))) rfl
theorem q_282 : (Cond.methodLink R_ST 32 ⟨"PuzzlePress$Stars", "addNotBoth", "(LPuzzlePress$Units;II)V"⟩) ∈ Gw := gq (tg_2 (List.mem_of_getElem? (i := 42) (by decide +kernel))) rfl
theorem q_284 : (Cond.instanceMethod y_ST_addNotBoth) ∈ Gw := gq (tg_2 (List.mem_of_getElem? (i := 44) (by decide +kernel))) rfl
theorem q_286 : (Cond.methodLink R_ST 64 ⟨"PuzzlePress$Stars", "allOf", "(I)J"⟩) ∈ Gw := gq (tg_2 (List.mem_of_getElem? (i := 46) (by decide +kernel))) rfl
theorem q_287 : (Cond.sameMethod "PuzzlePress$Stars" "PuzzlePress$Kind" "allOf" "(I)J") ∈ Gw := gq (tg_2 (List.mem_of_getElem? (i := 47) (by decide +kernel))) rfl
theorem q_289 : (Cond.selects R_ST ⟨"PuzzlePress$Stars", "allOf", "(I)J"⟩ y_KD_allOf) ∈ Gw := gq (tg_2 (List.mem_of_getElem? (i := 49) (by decide +kernel))) rfl
theorem q_290 : (Cond.methodLink R_PP 185 ⟨"PuzzlePress$Units", "fixAll", "()V"⟩) ∈ Gw := gq (tg_2 (List.mem_of_getElem? (i := 50) (by decide +kernel))) rfl
theorem q_291 : (Cond.instanceMethod y_UN_fixAll) ∈ Gw := gq (tg_2 (List.mem_of_getElem? (i := 51) (by decide +kernel))) rfl
theorem q_292 : (Cond.selects R_UN y_UN_fixAll y_UN_fixAll) ∈ Gw := gq (tg_2 (List.mem_of_getElem? (i := 52) (by decide +kernel))) rfl
theorem q_294 : (Cond.methodLink R_PP 74 ⟨"PuzzlePress", "renewUnits", "()V"⟩) ∈ Gw := gq (tg_2 (List.mem_of_getElem? (i := 54) (by decide +kernel))) rfl
theorem q_296 : (Cond.instanceMethod y_PP_renewUnits) ∈ Gw := gq (tg_2 (List.mem_of_getElem? (i := 56) (by decide +kernel))) rfl
theorem q_298 : (Cond.methodLink R_PP 188 ⟨"PuzzlePress$Units", "dropUnfixed", "()V"⟩) ∈ Gw := gq (tg_2 (List.mem_of_getElem? (i := 58) (by decide +kernel))) rfl
theorem q_299 : (Cond.instanceMethod y_UN_dropUnfixed) ∈ Gw := gq (tg_2 (List.mem_of_getElem? (i := 59) (by decide +kernel))) rfl
theorem q_300 : (Cond.selects R_UN y_UN_dropUnfixed y_UN_dropUnfixed) ∈ Gw := gq (tg_2 (List.mem_of_getElem? (i := 60) (by decide +kernel))) rfl
theorem q_302 : (Cond.methodLink R_PP 191 ⟨"PuzzlePress$Kind", "addOtherUnits", "(LPuzzlePress$Units;)V"⟩) ∈ Gw := gq (tg_2 (List.mem_of_getElem? (i := 62) (by decide +kernel))) rfl
theorem q_304 : (Cond.sameMethod "PuzzlePress$Kind" "PuzzlePress$Kind" "addOtherUnits" "(LPuzzlePress$Units;)V") ∈ Gw := gq (tg_2 (List.mem_of_getElem? (i := 64) (by decide +kernel))) rfl
theorem q_305 : (Cond.selects R_PI ⟨"PuzzlePress$Kind", "addOtherUnits", "(LPuzzlePress$Units;)V"⟩ y_PI_addOtherUnits) ∈ Gw := gq (tg_2 (List.mem_of_getElem? (i := 65) (by decide +kernel))) rfl
theorem q_306 : (Cond.instanceMethod y_PI_addOtherUnits) ∈ Gw := gq (tg_2 (List.mem_of_getElem? (i := 66) (by decide +kernel))) rfl
theorem q_308 : (Cond.methodLink R_PI 20 ⟨"PuzzlePress$Picture", "rowCells", "(I)I"⟩) ∈ Gw := gq (tg_2 (List.mem_of_getElem? (i := 68) (by decide +kernel))) rfl
theorem q_309 : (Cond.sameMethod "PuzzlePress$Picture" "PuzzlePress$Kind" "rowCells" "(I)I") ∈ Gw := gq (tg_2 (List.mem_of_getElem? (i := 69) (by decide +kernel))) rfl
theorem q_310 : (Cond.selects R_PI ⟨"PuzzlePress$Picture", "rowCells", "(I)I"⟩ y_KD_rowCells) ∈ Gw := gq (tg_2 (List.mem_of_getElem? (i := 70) (by decide +kernel))) rfl
theorem q_311 : (Cond.methodLink R_PI 23 ⟨"PuzzlePress$Picture", "columnCells", "(I)I"⟩) ∈ Gw := gq (tg_2 (List.mem_of_getElem? (i := 71) (by decide +kernel))) rfl
theorem q_312 : (Cond.sameMethod "PuzzlePress$Picture" "PuzzlePress$Kind" "columnCells" "(I)I") ∈ Gw := gq (tg_2 (List.mem_of_getElem? (i := 72) (by decide +kernel))) rfl
theorem q_313 : (Cond.selects R_PI ⟨"PuzzlePress$Picture", "columnCells", "(I)I"⟩ y_KD_columnCells) ∈ Gw := gq (tg_2 (List.mem_of_getElem? (i := 73) (by decide +kernel))) rfl
theorem q_314 : (Cond.methodLink R_PI 26 ⟨"PuzzlePress$Picture", "scopeOf", "(I)J"⟩) ∈ Gw := gq (tg_2 (List.mem_of_getElem? (i := 74) (by decide +kernel))) rfl
theorem q_315 : (Cond.sameMethod "PuzzlePress$Picture" "PuzzlePress$Kind" "scopeOf" "(I)J") ∈ Gw := gq (tg_2 (List.mem_of_getElem? (i := 75) (by decide +kernel))) rfl
theorem q_316 : (Cond.selects R_PI ⟨"PuzzlePress$Picture", "scopeOf", "(I)J"⟩ y_KD_scopeOf) ∈ Gw := gq (tg_2 (List.mem_of_getElem? (i := 76) (by decide +kernel))) rfl
theorem q_317 : (Cond.methodLink R_PI 30 ⟨"PuzzlePress$Units", "begin", "(J)V"⟩) ∈ Gw := gq (tg_2 (List.mem_of_getElem? (i := 77) (by decide +kernel))) rfl
theorem q_318 : (Cond.methodLink R_PI 36 ⟨"PuzzlePress$Picture", "wayOf", "(II)J"⟩) ∈ Gw := gq (tg_2 (List.mem_of_getElem? (i := 78) (by decide +kernel))) rfl
theorem q_320 : (Cond.instanceMethod y_PI_wayOf) ∈ Gw := gq (tg_2 (List.mem_of_getElem? (i := 80) (by decide +kernel))) rfl
theorem q_322 : (Cond.methodLink R_PI 43 ⟨"PuzzlePress$Picture", "bit", "(II)J"⟩) ∈ Gw := gq (tg_2 (List.mem_of_getElem? (i := 82) (by decide +kernel))) rfl
theorem q_323 : (Cond.sameMethod "PuzzlePress$Picture" "PuzzlePress$Kind" "bit" "(II)J") ∈ Gw := gq (tg_2 (List.mem_of_getElem? (i := 83) (by decide +kernel))) rfl
theorem q_324 : (Cond.selects R_PI ⟨"PuzzlePress$Picture", "bit", "(II)J"⟩ y_KD_bit) ∈ Gw := gq (tg_2 (List.mem_of_getElem? (i := 84) (by decide +kernel))) rfl
theorem q_325 : (Cond.methodLink R_PI 40 ⟨"PuzzlePress$Units", "addWay", "(J)V"⟩) ∈ Gw := gq (tg_2 (List.mem_of_getElem? (i := 85) (by decide +kernel))) rfl
theorem q_326 : (Cond.selects R_SQ ⟨"PuzzlePress$Kind", "addOtherUnits", "(LPuzzlePress$Units;)V"⟩ y_SQ_addOtherUnits) ∈ Gw := gq (tg_2 (List.mem_of_getElem? (i := 86) (by decide +kernel))) rfl
theorem q_327 : (Cond.instanceMethod y_SQ_addOtherUnits) ∈ Gw := gq (tg_2 (List.mem_of_getElem? (i := 87) (by decide +kernel))) rfl
theorem q_329 : (Cond.methodLink R_SQ 30 ⟨"PuzzlePress$Square", "membersOf", "(I)I"⟩) ∈ Gw := gq (tg_2 (List.mem_of_getElem? (i := 89) (by decide +kernel))) rfl
theorem q_330 : (Cond.sameMethod "PuzzlePress$Square" "PuzzlePress$Kind" "membersOf" "(I)I") ∈ Gw := gq (tg_2 (List.mem_of_getElem? (i := 90) (by decide +kernel))) rfl
theorem q_332 : (Cond.selects R_SQ ⟨"PuzzlePress$Square", "membersOf", "(I)I"⟩ y_KD_membersOf) ∈ Gw := gq (tg_2 (List.mem_of_getElem? (i := 92) (by decide +kernel))) rfl
theorem q_333 : (Cond.instanceMethod y_KD_membersOf) ∈ Gw := gq (tg_2 (List.mem_of_getElem? (i := 93) (by decide +kernel))) rfl
theorem q_335 : (Cond.selects R_ST ⟨"PuzzlePress$Kind", "addOtherUnits", "(LPuzzlePress$Units;)V"⟩ y_ST_addOtherUnits) ∈ Gw := gq (tg_2 (List.mem_of_getElem? (i := 95) (by decide +kernel))) rfl
theorem q_336 : (Cond.instanceMethod y_ST_addOtherUnits) ∈ Gw := gq (tg_2 (List.mem_of_getElem? (i := 96) (by decide +kernel))) rfl
theorem q_338 : (Cond.methodLink R_ST 36 ⟨"PuzzlePress$Stars", "membersOf", "(I)I"⟩) ∈ Gw := gq (tg_2 (List.mem_of_getElem? (i := 98) (by decide +kernel))) rfl
theorem q_339 : (Cond.sameMethod "PuzzlePress$Stars" "PuzzlePress$Kind" "membersOf" "(I)I") ∈ Gw := gq (tg_2 (List.mem_of_getElem? (i := 99) (by decide +kernel))) rfl
theorem q_340 : (Cond.selects R_ST ⟨"PuzzlePress$Stars", "membersOf", "(I)I"⟩ y_KD_membersOf) ∈ Gw := gq (tg_2 (List.mem_of_getElem? (i := 100) (by decide +kernel))) rfl
theorem q_341 : (Cond.methodLink R_PP 115 ⟨"PuzzlePress", "atFirst", "()J"⟩) ∈ Gw := gq (tg_2 (List.mem_of_getElem? (i := 101) (by decide +kernel))) rfl
theorem q_343 : (Cond.instanceMethod y_PP_atFirst) ∈ Gw := gq (tg_2 (List.mem_of_getElem? (i := 103) (by decide +kernel))) rfl
theorem q_345 : (Cond.methodLink R_PP 194 ⟨"PuzzlePress$Kind", "allOf", "(I)J"⟩) ∈ Gw := gq (tg_2 (List.mem_of_getElem? (i := 105) (by decide +kernel))) rfl
theorem q_346 : (Cond.methodLink R_PP 198 ⟨"PuzzlePress$Kind", "bit", "(II)J"⟩) ∈ Gw := gq (tg_2 (List.mem_of_getElem? (i := 106) (by decide +kernel))) rfl
theorem q_347 : (Cond.fieldLink R_PP 10 "PuzzlePress" "picture" "LPuzzlePress$Picture;") ∈ Gw := gq (tg_2 (List.mem_of_getElem? (i := 107) (by decide +kernel))) rfl
theorem q_348 : (Cond.fieldLink R_PP 19 "PuzzlePress" "square" "LPuzzlePress$Square;") ∈ Gw := gq (tg_2 (List.mem_of_getElem? (i := 108) (by decide +kernel))) rfl
theorem q_349 : (Cond.fieldLink R_PP 26 "PuzzlePress" "stars" "LPuzzlePress$Stars;") ∈ Gw := gq (tg_2 (List.mem_of_getElem? (i := 109) (by decide +kernel))) rfl
theorem q_350 : (Cond.fieldLink R_PP 33 "PuzzlePress" "reasoner" "LPuzzlePress$Reasoner;") ∈ Gw := gq (tg_2 (List.mem_of_getElem? (i := 110) (by decide +kernel))) rfl
theorem q_351 : (Cond.fieldLink R_PP 37 "PuzzlePress" "givens" "[I") ∈ Gw := gq (tg_2 (List.mem_of_getElem? (i := 111) (by decide +kernel))) rfl
theorem q_352 : (Cond.fieldLink R_PP 41 "PuzzlePress" "now" "LPuzzlePress$Kind;") ∈ Gw := gq (tg_2 (List.mem_of_getElem? (i := 112) (by decide +kernel))) rfl
theorem q_353 : (Cond.fieldLink R_PP 45 "PuzzlePress" "kindNumber" "I") ∈ Gw := gq (tg_2 (List.mem_of_getElem? (i := 113) (by decide +kernel))) rfl
theorem q_354 : (Cond.fieldLink R_PP 119 "PuzzlePress" "left" "J") ∈ Gw := gq (tg_2 (List.mem_of_getElem? (i := 114) (by decide +kernel))) rfl
theorem q_380 : (Cond.methodLink R_PP 123 ⟨"PuzzlePress$Reasoner", "countFillings", "(LPuzzlePress$Kind;JI)I"⟩) ∈ Gw := gq (tg_2 (List.mem_of_getElem? (i := 140) (by decide +kernel))) rfl
theorem q_381 : (Cond.instanceMethod y_RE_countFillings) ∈ Gw := gq (tg_2 (List.mem_of_getElem? (i := 141) (by decide +kernel))) rfl
theorem q_382 : (Cond.selects R_RE y_RE_countFillings y_RE_countFillings) ∈ Gw := gq (tg_2 (List.mem_of_getElem? (i := 142) (by decide +kernel))) rfl
theorem q_384 : (Cond.methodLink R_RE 62 ⟨"PuzzlePress$Units", "haveWays", "()Z"⟩) ∈ Gw := gq (tg_2 (List.mem_of_getElem? (i := 144) (by decide +kernel))) rfl
theorem q_385 : (Cond.instanceMethod y_UN_haveWays) ∈ Gw := gq (tg_2 (List.mem_of_getElem? (i := 145) (by decide +kernel))) rfl
theorem q_386 : (Cond.selects R_UN y_UN_haveWays y_UN_haveWays) ∈ Gw := gq (tg_2 (List.mem_of_getElem? (i := 146) (by decide +kernel))) rfl
theorem q_388 : (Cond.constantLong R_RE 18 (-1)) ∈ Gw := gq (tg_2 (List.mem_of_getElem? (i := 148) (by decide +kernel))) rfl
theorem q_389 : (Cond.methodLink R_RE 66 ⟨"PuzzlePress$Reasoner", "search", "(LPuzzlePress$Kind;JJII)V"⟩) ∈ Gw := gq (tg_2 (List.mem_of_getElem? (i := 149) (by decide +kernel))) rfl
theorem q_391 : (Cond.instanceMethod y_RE_search) ∈ Gw := gq (tg_2 (List.mem_of_getElem? (i := 151) (by decide +kernel))) rfl
theorem q_393 : (Cond.methodLink R_RE 20 ⟨"PuzzlePress$Units", "narrow", "(JJ)J"⟩) ∈ Gw := gq (tg_2 (List.mem_of_getElem? (i := 153) (by decide +kernel))) rfl
theorem q_394 : (Cond.instanceMethod y_UN_narrow) ∈ Gw := gq (tg_2 (List.mem_of_getElem? (i := 154) (by decide +kernel))) rfl
theorem q_395 : (Cond.selects R_UN y_UN_narrow y_UN_narrow) ∈ Gw := gq (tg_2 (List.mem_of_getElem? (i := 155) (by decide +kernel))) rfl
theorem q_397 : (Cond.methodLink R_UN 29 ⟨"PuzzlePress$Units", "keptBy", "(IJ)J"⟩) ∈ Gw := gq (tg_2 (List.mem_of_getElem? (i := 157) (by decide +kernel))) rfl
theorem q_399 : (Cond.instanceMethod y_UN_keptBy) ∈ Gw := gq (tg_2 (List.mem_of_getElem? (i := 159) (by decide +kernel))) rfl
theorem q_401 : (Cond.constantLong R_UN 33 (-1)) ∈ Gw := gq (tg_2 (List.mem_of_getElem? (i := 161) (by decide +kernel))) rfl
theorem q_402 : (Cond.methodLink R_RE 74 ⟨"PuzzlePress$Reasoner", "firstOpenCell", "(LPuzzlePress$Kind;J)I"⟩) ∈ Gw := gq (tg_2 (List.mem_of_getElem? (i := 162) (by decide +kernel))) rfl
theorem q_403 : (Cond.static y_RE_firstOpenCell) ∈ Gw := gq (tg_2 (List.mem_of_getElem? (i := 163) (by decide +kernel))) rfl
theorem q_405 : (Cond.methodLink R_RE 70 ⟨"PuzzlePress$Kind", "allOf", "(I)J"⟩) ∈ Gw := gq (tg_2 (List.mem_of_getElem? (i := 165) (by decide +kernel))) rfl
theorem q_406 : (Cond.methodLink R_RE 78 ⟨"java/lang/Long", "bitCount", "(J)I"⟩) ∈ Gw := gq (tg_2 (List.mem_of_getElem? (i := 166) (by decide +kernel))) rfl
theorem q_407 : (Cond.static y_JL_bitCount) ∈ Gw := gq (tg_2 (List.mem_of_getElem? (i := 167) (by decide +kernel))) rfl
theorem q_409 : (Cond.constantLong R_JL 314 (6148914691236517205)) ∈ Gw := gq (tg_2 (List.mem_of_getElem? (i := 169) (by decide +kernel))) rfl
theorem q_410 : (Cond.constantLong R_JL 316 (3689348814741910323)) ∈ Gw := gq (tg_2 (List.mem_of_getElem? (i := 170) (by decide +kernel))) rfl
theorem q_411 : (Cond.constantLong R_JL 318 (1085102592571150095)) ∈ Gw := gq (tg_2 (List.mem_of_getElem? (i := 171) (by decide +kernel))) rfl
theorem q_412 : (Cond.methodLink R_RE 51 ⟨"PuzzlePress$Kind", "bit", "(II)J"⟩) ∈ Gw := gq (tg_2 (List.mem_of_getElem? (i := 172) (by decide +kernel))) rfl
theorem q_417 : (Cond.methodLink R_PP 134 ⟨"java/lang/Long", "bitCount", "(J)I"⟩) ∈ Gw := gq (tg_2 (List.mem_of_getElem? (i := 177) (by decide +kernel))) rfl
theorem q_422 : (Cond.methodLink R_PP 150 ⟨"PuzzlePress$Reasoner", "firstByLines", "(J)J"⟩) ∈ Gw := gq (tg_2 (List.mem_of_getElem? (i := 182) (by decide +kernel))) rfl
theorem q_423 : (Cond.instanceMethod y_RE_firstByLines) ∈ Gw := gq (tg_2 (List.mem_of_getElem? (i := 183) (by decide +kernel))) rfl
theorem q_424 : (Cond.selects R_RE y_RE_firstByLines y_RE_firstByLines) ∈ Gw := gq (tg_2 (List.mem_of_getElem? (i := 184) (by decide +kernel))) rfl
theorem q_426 : (Cond.methodLink R_RE 32 ⟨"PuzzlePress$Units", "keptAtOnce", "(J)J"⟩) ∈ Gw := gq (tg_2 (List.mem_of_getElem? (i := 186) (by decide +kernel))) rfl
theorem q_427 : (Cond.instanceMethod y_UN_keptAtOnce) ∈ Gw := gq (tg_2 (List.mem_of_getElem? (i := 187) (by decide +kernel))) rfl
theorem q_428 : (Cond.selects R_UN y_UN_keptAtOnce y_UN_keptAtOnce) ∈ Gw := gq (tg_2 (List.mem_of_getElem? (i := 188) (by decide +kernel))) rfl
theorem q_430 : (Cond.methodLink R_PP 153 ⟨"PuzzlePress$Reasoner", "firstBySupposing", "(LPuzzlePress$Kind;J)J"⟩) ∈ Gw := gq (tg_2 (List.mem_of_getElem? (i := 190) (by decide +kernel))) rfl
theorem q_431 : (Cond.instanceMethod y_RE_firstBySupposing) ∈ Gw := gq (tg_2 (List.mem_of_getElem? (i := 191) (by decide +kernel))) rfl
theorem q_432 : (Cond.selects R_RE y_RE_firstBySupposing y_RE_firstBySupposing) ∈ Gw := gq (tg_2 (List.mem_of_getElem? (i := 192) (by decide +kernel))) rfl
theorem q_434 : (Cond.methodLink R_RE 47 ⟨"PuzzlePress$Reasoner", "isRefuted", "(LPuzzlePress$Kind;JII)Z"⟩) ∈ Gw := gq (tg_2 (List.mem_of_getElem? (i := 194) (by decide +kernel))) rfl
theorem q_436 : (Cond.instanceMethod y_RE_isRefuted) ∈ Gw := gq (tg_2 (List.mem_of_getElem? (i := 196) (by decide +kernel))) rfl
theorem q_438 : (Cond.constantLong R_PP 156 (-1)) ∈ Gw := gq (tg_2 (List.mem_of_getElem? (i := 198) (by decide +kernel))) rfl
theorem q_439 : (Cond.methodLink R_PP 158 ⟨"PuzzlePress$Kind", "cellOf", "(J)I"⟩) ∈ Gw := gq (tg_2 (List.mem_of_getElem? (i := 199) (by decide +kernel))) rfl
theorem q_440 : (Cond.instanceMethod y_KD_cellOf) ∈ Gw := gq (tg_2 (List.mem_of_getElem? (i := 200) (by decide +kernel))) rfl
theorem q_441 : (Cond.sameMethod "PuzzlePress$Kind" "PuzzlePress$Kind" "cellOf" "(J)I") ∈ Gw := gq (tg_2 (List.mem_of_getElem? (i := 201) (by decide +kernel))) rfl
theorem q_442 : (Cond.selects R_PI ⟨"PuzzlePress$Kind", "cellOf", "(J)I"⟩ y_KD_cellOf) ∈ Gw := gq (tg_2 (List.mem_of_getElem? (i := 202) (by decide +kernel))) rfl
theorem q_443 : (Cond.selects R_SQ ⟨"PuzzlePress$Kind", "cellOf", "(J)I"⟩ y_KD_cellOf) ∈ Gw := gq (tg_2 (List.mem_of_getElem? (i := 203) (by decide +kernel))) rfl
theorem q_444 : (Cond.selects R_ST ⟨"PuzzlePress$Kind", "cellOf", "(J)I"⟩ y_KD_cellOf) ∈ Gw := gq (tg_2 (List.mem_of_getElem? (i := 204) (by decide +kernel))) rfl
theorem q_446 : (Cond.methodLink R_PP 130 ⟨"PuzzlePress$Kind", "valueIn", "(JI)I"⟩) ∈ Gw := gq (tg_2 (List.mem_of_getElem? (i := 206) (by decide +kernel))) rfl
theorem q_447 : (Cond.instanceMethod y_KD_valueIn) ∈ Gw := gq (tg_2 (List.mem_of_getElem? (i := 207) (by decide +kernel))) rfl
theorem q_448 : (Cond.sameMethod "PuzzlePress$Kind" "PuzzlePress$Kind" "valueIn" "(JI)I") ∈ Gw := gq (tg_2 (List.mem_of_getElem? (i := 208) (by decide +kernel))) rfl
theorem q_449 : (Cond.selects R_PI ⟨"PuzzlePress$Kind", "valueIn", "(JI)I"⟩ y_KD_valueIn) ∈ Gw := gq (tg_2 (List.mem_of_getElem? (i := 209) (by decide +kernel))) rfl
theorem q_450 : (Cond.selects R_SQ ⟨"PuzzlePress$Kind", "valueIn", "(JI)I"⟩ y_KD_valueIn) ∈ Gw := gq (tg_2 (List.mem_of_getElem? (i := 210) (by decide +kernel))) rfl
theorem q_451 : (Cond.selects R_ST ⟨"PuzzlePress$Kind", "valueIn", "(JI)I"⟩ y_KD_valueIn) ∈ Gw := gq (tg_2 (List.mem_of_getElem? (i := 211) (by decide +kernel))) rfl
theorem q_453 : (Cond.methodLink R_KD 35 ⟨"PuzzlePress$Kind", "valuesIn", "(JI)I"⟩) ∈ Gw := gq (tg_2 (List.mem_of_getElem? (i := 213) (by decide +kernel))) rfl
theorem q_454 : (Cond.instanceMethod y_KD_valuesIn) ∈ Gw := gq (tg_2 (List.mem_of_getElem? (i := 214) (by decide +kernel))) rfl
theorem q_455 : (Cond.sameMethod "PuzzlePress$Kind" "PuzzlePress$Kind" "valuesIn" "(JI)I") ∈ Gw := gq (tg_2 (List.mem_of_getElem? (i := 215) (by decide +kernel))) rfl
theorem q_456 : (Cond.selects R_PI ⟨"PuzzlePress$Kind", "valuesIn", "(JI)I"⟩ y_KD_valuesIn) ∈ Gw := gq (tg_2 (List.mem_of_getElem? (i := 216) (by decide +kernel))) rfl
theorem q_457 : (Cond.selects R_SQ ⟨"PuzzlePress$Kind", "valuesIn", "(JI)I"⟩ y_KD_valuesIn) ∈ Gw := gq (tg_2 (List.mem_of_getElem? (i := 217) (by decide +kernel))) rfl
theorem q_458 : (Cond.selects R_ST ⟨"PuzzlePress$Kind", "valuesIn", "(JI)I"⟩ y_KD_valuesIn) ∈ Gw := gq (tg_2 (List.mem_of_getElem? (i := 218) (by decide +kernel))) rfl
theorem q_460 : (Cond.methodLink R_KD 39 ⟨"PuzzlePress$Kind", "firstOf", "(I)I"⟩) ∈ Gw := gq (tg_2 (List.mem_of_getElem? (i := 220) (by decide +kernel))) rfl
theorem q_465 : (Cond.methodLink R_PP 139 ⟨"PuzzlePress$Reasoner", "byLines", "(J)J"⟩) ∈ Gw := gq (tg_2 (List.mem_of_getElem? (i := 225) (by decide +kernel))) rfl
theorem q_466 : (Cond.instanceMethod y_RE_byLines) ∈ Gw := gq (tg_2 (List.mem_of_getElem? (i := 226) (by decide +kernel))) rfl
theorem q_467 : (Cond.selects R_RE y_RE_byLines y_RE_byLines) ∈ Gw := gq (tg_2 (List.mem_of_getElem? (i := 227) (by decide +kernel))) rfl
theorem q_469 : (Cond.methodLink R_PP 143 ⟨"PuzzlePress$Reasoner", "byBoth", "(LPuzzlePress$Kind;J)J"⟩) ∈ Gw := gq (tg_2 (List.mem_of_getElem? (i := 229) (by decide +kernel))) rfl
theorem q_470 : (Cond.instanceMethod y_RE_byBoth) ∈ Gw := gq (tg_2 (List.mem_of_getElem? (i := 230) (by decide +kernel))) rfl
theorem q_471 : (Cond.selects R_RE y_RE_byBoth y_RE_byBoth) ∈ Gw := gq (tg_2 (List.mem_of_getElem? (i := 231) (by decide +kernel))) rfl
theorem q_473 : (Cond.methodLink R_RE 24 ⟨"PuzzlePress$Reasoner", "byLines", "(J)J"⟩) ∈ Gw := gq (tg_2 (List.mem_of_getElem? (i := 233) (by decide +kernel))) rfl
theorem q_474 : (Cond.methodLink R_RE 28 ⟨"PuzzlePress$Reasoner", "supposeEach", "(LPuzzlePress$Kind;J)J"⟩) ∈ Gw := gq (tg_2 (List.mem_of_getElem? (i := 234) (by decide +kernel))) rfl
theorem q_476 : (Cond.instanceMethod y_RE_supposeEach) ∈ Gw := gq (tg_2 (List.mem_of_getElem? (i := 236) (by decide +kernel))) rfl
theorem q_734 : (Cond.methodLink R_MO 116 ⟨"PuzzlePressModel", "apart", "(II)I"⟩) ∈ Gw := gq (tg_4 (List.mem_of_getElem? (i := 14) (by decide +kernel))) rfl
theorem q_735 : (Cond.static y_MO_apart) ∈ Gw := gq (tg_4 (List.mem_of_getElem? (i := 15) (by decide +kernel))) rfl
theorem q_737 : (Cond.methodLink R_MO 79 ⟨"PuzzlePressModel", "begin", "(I)V"⟩) ∈ Gw := gq (tg_4 (List.mem_of_getElem? (i := 17) (by decide +kernel))) rfl
theorem q_739 : (Cond.instanceMethod y_MO_begin) ∈ Gw := gq (tg_4 (List.mem_of_getElem? (i := 19) (by decide +kernel))) rfl
theorem q_741 : (Cond.methodLink R_MO 89 ⟨"PuzzlePressModel", "refresh", "()V"⟩) ∈ Gw := gq (tg_4 (List.mem_of_getElem? (i := 21) (by decide +kernel))) rfl
theorem q_743 : (Cond.instanceMethod y_MO_refresh) ∈ Gw := gq (tg_4 (List.mem_of_getElem? (i := 23) (by decide +kernel))) rfl
theorem q_745 : (Cond.methodLink R_MO 92 ⟨"PuzzlePressModel", "allValues", "()I"⟩) ∈ Gw := gq (tg_4 (List.mem_of_getElem? (i := 25) (by decide +kernel))) rfl
theorem q_747 : (Cond.instanceMethod y_MO_allValues) ∈ Gw := gq (tg_4 (List.mem_of_getElem? (i := 27) (by decide +kernel))) rfl
theorem q_749 : (Cond.fieldLink R_MO 83 "PuzzlePressModel" "thrown" "I") ∈ Gw := gq (tg_4 (List.mem_of_getElem? (i := 29) (by decide +kernel))) rfl
theorem q_750 : (Cond.fieldLink R_MO 86 "PuzzlePressModel" "kind" "I") ∈ Gw := gq (tg_4 (List.mem_of_getElem? (i := 30) (by decide +kernel))) rfl
theorem q_751 : (Cond.fieldLink R_MO 7 "PuzzlePressModel" "cells" "I") ∈ Gw := gq (tg_4 (List.mem_of_getElem? (i := 31) (by decide +kernel))) rfl
theorem q_752 : (Cond.fieldLink R_MO 13 "PuzzlePressModel" "wide" "I") ∈ Gw := gq (tg_4 (List.mem_of_getElem? (i := 32) (by decide +kernel))) rfl
theorem q_753 : (Cond.fieldLink R_MO 16 "PuzzlePressModel" "clues" "[I") ∈ Gw := gq (tg_4 (List.mem_of_getElem? (i := 33) (by decide +kernel))) rfl
theorem q_754 : (Cond.fieldLink R_MO 20 "PuzzlePressModel" "groups" "[I") ∈ Gw := gq (tg_4 (List.mem_of_getElem? (i := 34) (by decide +kernel))) rfl
theorem q_755 : (Cond.fieldLink R_MO 23 "PuzzlePressModel" "rules" "[I") ∈ Gw := gq (tg_4 (List.mem_of_getElem? (i := 35) (by decide +kernel))) rfl
theorem q_756 : (Cond.fieldLink R_MO 26 "PuzzlePressModel" "numbers" "[I") ∈ Gw := gq (tg_4 (List.mem_of_getElem? (i := 36) (by decide +kernel))) rfl
theorem q_757 : (Cond.fieldLink R_MO 29 "PuzzlePressModel" "givens" "[I") ∈ Gw := gq (tg_4 (List.mem_of_getElem? (i := 37) (by decide +kernel))) rfl
theorem q_758 : (Cond.fieldLink R_MO 32 "PuzzlePressModel" "candidates" "[I") ∈ Gw := gq (tg_4 (List.mem_of_getElem? (i := 38) (by decide +kernel))) rfl
theorem q_759 : (Cond.fieldLink R_MO 35 "PuzzlePressModel" "now" "[I") ∈ Gw := gq (tg_4 (List.mem_of_getElem? (i := 39) (by decide +kernel))) rfl
theorem q_760 : (Cond.fieldLink R_MO 38 "PuzzlePressModel" "lost" "[I") ∈ Gw := gq (tg_4 (List.mem_of_getElem? (i := 40) (by decide +kernel))) rfl
theorem q_761 : (Cond.fieldLink R_MO 41 "PuzzlePressModel" "kept" "[I") ∈ Gw := gq (tg_4 (List.mem_of_getElem? (i := 41) (by decide +kernel))) rfl
theorem q_762 : (Cond.fieldLink R_MO 141 "PuzzlePressModel" "many" "I") ∈ Gw := gq (tg_4 (List.mem_of_getElem? (i := 42) (by decide +kernel))) rfl
theorem q_763 : (Cond.fieldLink R_MO 44 "PuzzlePressModel" "unit" "[I") ∈ Gw := gq (tg_4 (List.mem_of_getElem? (i := 43) (by decide +kernel))) rfl
theorem q_764 : (Cond.fieldLink R_MO 47 "PuzzlePressModel" "can" "[I") ∈ Gw := gq (tg_4 (List.mem_of_getElem? (i := 44) (by decide +kernel))) rfl
theorem q_765 : (Cond.fieldLink R_MO 129 "PuzzlePressModel" "found" "I") ∈ Gw := gq (tg_4 (List.mem_of_getElem? (i := 45) (by decide +kernel))) rfl
theorem q_766 : (Cond.fieldLink R_MO 50 "PuzzlePressModel" "first" "[I") ∈ Gw := gq (tg_4 (List.mem_of_getElem? (i := 46) (by decide +kernel))) rfl
theorem q_767 : (Cond.fieldLink R_MO 53 "PuzzlePressModel" "fill" "[I") ∈ Gw := gq (tg_4 (List.mem_of_getElem? (i := 47) (by decide +kernel))) rfl
theorem q_768 : (Cond.fieldLink R_MO 56 "PuzzlePressModel" "pattern" "[I") ∈ Gw := gq (tg_4 (List.mem_of_getElem? (i := 48) (by decide +kernel))) rfl
theorem q_769 : (Cond.fieldLink R_MO 59 "PuzzlePressModel" "stretches" "[I") ∈ Gw := gq (tg_4 (List.mem_of_getElem? (i := 49) (by decide +kernel))) rfl
theorem q_770 : (Cond.fieldLink R_MO 62 "PuzzlePressModel" "orders" "[I") ∈ Gw := gq (tg_4 (List.mem_of_getElem? (i := 50) (by decide +kernel))) rfl
theorem q_771 : (Cond.fieldLink R_MO 65 "PuzzlePressModel" "besides" "[I") ∈ Gw := gq (tg_4 (List.mem_of_getElem? (i := 51) (by decide +kernel))) rfl
theorem q_772 : (Cond.fieldLink R_MO 68 "PuzzlePressModel" "beside" "[I") ∈ Gw := gq (tg_4 (List.mem_of_getElem? (i := 52) (by decide +kernel))) rfl
theorem q_838 : (Cond.methodLink R_MO 96 ⟨"PuzzlePressModel", "isClue", "(I)Z"⟩) ∈ Gw := gq (tg_4 (List.mem_of_getElem? (i := 118) (by decide +kernel))) rfl
theorem q_839 : (Cond.static y_MO_isClue) ∈ Gw := gq (tg_4 (List.mem_of_getElem? (i := 119) (by decide +kernel))) rfl
theorem q_845 : (Cond.methodLink R_MO 100 ⟨"PuzzlePressModel", "noCell", "(I)Z"⟩) ∈ Gw := gq (tg_4 (List.mem_of_getElem? (i := 125) (by decide +kernel))) rfl
theorem q_847 : (Cond.instanceMethod y_MO_noCell) ∈ Gw := gq (tg_4 (List.mem_of_getElem? (i := 127) (by decide +kernel))) rfl
theorem q_849 : (Cond.methodLink R_MO 103 ⟨"PuzzlePressModel", "sizeOf", "(I)I"⟩) ∈ Gw := gq (tg_4 (List.mem_of_getElem? (i := 129) (by decide +kernel))) rfl
theorem q_851 : (Cond.instanceMethod y_MO_sizeOf) ∈ Gw := gq (tg_4 (List.mem_of_getElem? (i := 131) (by decide +kernel))) rfl
theorem q_861 : (Cond.methodLink R_MO 106 ⟨"PuzzlePressModel", "isValue", "(I)Z"⟩) ∈ Gw := gq (tg_4 (List.mem_of_getElem? (i := 141) (by decide +kernel))) rfl
theorem q_863 : (Cond.instanceMethod y_MO_isValue) ∈ Gw := gq (tg_4 (List.mem_of_getElem? (i := 143) (by decide +kernel))) rfl
theorem q_873 : (Cond.methodLink R_MO 138 ⟨"PuzzlePressModel", "search", "()V"⟩) ∈ Gw := gq (tg_4 (List.mem_of_getElem? (i := 153) (by decide +kernel))) rfl
theorem q_875 : (Cond.instanceMethod y_MO_search) ∈ Gw := gq (tg_4 (List.mem_of_getElem? (i := 155) (by decide +kernel))) rfl
theorem q_877 : (Cond.methodLink R_MO 132 ⟨"PuzzlePressModel", "lay", "(II)Z"⟩) ∈ Gw := gq (tg_4 (List.mem_of_getElem? (i := 157) (by decide +kernel))) rfl
theorem q_879 : (Cond.instanceMethod y_MO_lay) ∈ Gw := gq (tg_4 (List.mem_of_getElem? (i := 159) (by decide +kernel))) rfl
theorem q_881 : (Cond.methodLink R_MO 109 ⟨"PuzzlePressModel", "ones", "(I)I"⟩) ∈ Gw := gq (tg_4 (List.mem_of_getElem? (i := 161) (by decide +kernel))) rfl
theorem q_882 : (Cond.static y_MO_ones) ∈ Gw := gq (tg_4 (List.mem_of_getElem? (i := 162) (by decide +kernel))) rfl
theorem q_884 : (Cond.methodLink R_MO 112 ⟨"PuzzlePressModel", "valueOf", "(II)I"⟩) ∈ Gw := gq (tg_4 (List.mem_of_getElem? (i := 164) (by decide +kernel))) rfl
theorem q_886 : (Cond.instanceMethod y_MO_valueOf) ∈ Gw := gq (tg_4 (List.mem_of_getElem? (i := 166) (by decide +kernel))) rfl
theorem q_888 : (Cond.methodLink R_MO 135 ⟨"PuzzlePressModel", "isFilling", "()Z"⟩) ∈ Gw := gq (tg_4 (List.mem_of_getElem? (i := 168) (by decide +kernel))) rfl
theorem q_890 : (Cond.instanceMethod y_MO_isFilling) ∈ Gw := gq (tg_4 (List.mem_of_getElem? (i := 170) (by decide +kernel))) rfl
theorem q_892 : (Cond.methodLink R_MO 119 ⟨"PuzzlePressModel", "groupsFit", "()Z"⟩) ∈ Gw := gq (tg_4 (List.mem_of_getElem? (i := 172) (by decide +kernel))) rfl
theorem q_894 : (Cond.instanceMethod y_MO_groupsFit) ∈ Gw := gq (tg_4 (List.mem_of_getElem? (i := 174) (by decide +kernel))) rfl
theorem q_896 : (Cond.methodLink R_MO 123 ⟨"PuzzlePressModel", "columnsFit", "()Z"⟩) ∈ Gw := gq (tg_4 (List.mem_of_getElem? (i := 176) (by decide +kernel))) rfl
theorem q_898 : (Cond.instanceMethod y_MO_columnsFit) ∈ Gw := gq (tg_4 (List.mem_of_getElem? (i := 178) (by decide +kernel))) rfl
theorem q_900 : (Cond.methodLink R_MO 126 ⟨"PuzzlePressModel", "starsFit", "()Z"⟩) ∈ Gw := gq (tg_4 (List.mem_of_getElem? (i := 180) (by decide +kernel))) rfl
theorem q_902 : (Cond.instanceMethod y_MO_starsFit) ∈ Gw := gq (tg_4 (List.mem_of_getElem? (i := 182) (by decide +kernel))) rfl
theorem q_912 : (Cond.methodLink R_MO 195 ⟨"PuzzlePressModel", "countAll", "()I"⟩) ∈ Gw := gq (tg_4 (List.mem_of_getElem? (i := 192) (by decide +kernel))) rfl
theorem q_914 : (Cond.instanceMethod y_MO_countAll) ∈ Gw := gq (tg_4 (List.mem_of_getElem? (i := 194) (by decide +kernel))) rfl
theorem q_920 : (Cond.methodLink R_MO 186 ⟨"PuzzlePressModel", "reasonByOne", "()V"⟩) ∈ Gw := gq (tg_4 (List.mem_of_getElem? (i := 200) (by decide +kernel))) rfl
theorem q_922 : (Cond.instanceMethod y_MO_reasonByOne) ∈ Gw := gq (tg_4 (List.mem_of_getElem? (i := 202) (by decide +kernel))) rfl
theorem q_924 : (Cond.methodLink R_MO 183 ⟨"PuzzlePressModel", "look", "()Z"⟩) ∈ Gw := gq (tg_4 (List.mem_of_getElem? (i := 204) (by decide +kernel))) rfl
theorem q_926 : (Cond.instanceMethod y_MO_look) ∈ Gw := gq (tg_4 (List.mem_of_getElem? (i := 206) (by decide +kernel))) rfl
theorem q_928 : (Cond.methodLink R_MO 167 ⟨"PuzzlePressModel", "tryPicture", "(I)V"⟩) ∈ Gw := gq (tg_4 (List.mem_of_getElem? (i := 208) (by decide +kernel))) rfl
theorem q_930 : (Cond.instanceMethod y_MO_tryPicture) ∈ Gw := gq (tg_4 (List.mem_of_getElem? (i := 210) (by decide +kernel))) rfl
theorem q_932 : (Cond.methodLink R_MO 150 ⟨"PuzzlePressModel", "addLine", "(I)V"⟩) ∈ Gw := gq (tg_4 (List.mem_of_getElem? (i := 212) (by decide +kernel))) rfl
theorem q_934 : (Cond.instanceMethod y_MO_addLine) ∈ Gw := gq (tg_4 (List.mem_of_getElem? (i := 214) (by decide +kernel))) rfl
theorem q_936 : (Cond.methodLink R_MO 144 ⟨"PuzzlePressModel", "beginUnit", "()V"⟩) ∈ Gw := gq (tg_4 (List.mem_of_getElem? (i := 216) (by decide +kernel))) rfl
theorem q_938 : (Cond.instanceMethod y_MO_beginUnit) ∈ Gw := gq (tg_4 (List.mem_of_getElem? (i := 218) (by decide +kernel))) rfl
theorem q_940 : (Cond.methodLink R_MO 147 ⟨"PuzzlePressModel", "addCell", "(I)V"⟩) ∈ Gw := gq (tg_4 (List.mem_of_getElem? (i := 220) (by decide +kernel))) rfl
theorem q_942 : (Cond.instanceMethod y_MO_addCell) ∈ Gw := gq (tg_4 (List.mem_of_getElem? (i := 222) (by decide +kernel))) rfl
theorem q_944 : (Cond.methodLink R_MO 153 ⟨"PuzzlePressModel", "may", "(II)Z"⟩) ∈ Gw := gq (tg_4 (List.mem_of_getElem? (i := 224) (by decide +kernel))) rfl
theorem q_946 : (Cond.instanceMethod y_MO_may) ∈ Gw := gq (tg_4 (List.mem_of_getElem? (i := 226) (by decide +kernel))) rfl
theorem q_948 : (Cond.methodLink R_MO 156 ⟨"PuzzlePressModel", "lose", "()V"⟩) ∈ Gw := gq (tg_4 (List.mem_of_getElem? (i := 228) (by decide +kernel))) rfl
theorem q_950 : (Cond.instanceMethod y_MO_lose) ∈ Gw := gq (tg_4 (List.mem_of_getElem? (i := 230) (by decide +kernel))) rfl
theorem q_952 : (Cond.methodLink R_MO 170 ⟨"PuzzlePressModel", "trySquare", "(II)V"⟩) ∈ Gw := gq (tg_4 (List.mem_of_getElem? (i := 232) (by decide +kernel))) rfl
theorem q_954 : (Cond.instanceMethod y_MO_trySquare) ∈ Gw := gq (tg_4 (List.mem_of_getElem? (i := 234) (by decide +kernel))) rfl
theorem q_956 : (Cond.methodLink R_MO 159 ⟨"PuzzlePressModel", "goes", "(III)Z"⟩) ∈ Gw := gq (tg_4 (List.mem_of_getElem? (i := 236) (by decide +kernel))) rfl
theorem q_958 : (Cond.instanceMethod y_MO_goes) ∈ Gw := gq (tg_4 (List.mem_of_getElem? (i := 238) (by decide +kernel))) rfl
theorem q_960 : (Cond.methodLink R_MO 163 ⟨"PuzzlePressModel", "note", "(IIIIII)V"⟩) ∈ Gw := gq (tg_5 (List.mem_of_getElem? (i := 0) (by decide +kernel))) rfl
theorem q_962 : (Cond.instanceMethod y_MO_note) ∈ Gw := gq (tg_5 (List.mem_of_getElem? (i := 2) (by decide +kernel))) rfl
theorem q_964 : (Cond.methodLink R_MO 174 ⟨"PuzzlePressModel", "tryStar", "()V"⟩) ∈ Gw := gq (tg_5 (List.mem_of_getElem? (i := 4) (by decide +kernel))) rfl
theorem q_966 : (Cond.instanceMethod y_MO_tryStar) ∈ Gw := gq (tg_5 (List.mem_of_getElem? (i := 6) (by decide +kernel))) rfl
theorem q_968 : (Cond.methodLink R_MO 177 ⟨"PuzzlePressModel", "addGroup", "(I)V"⟩) ∈ Gw := gq (tg_5 (List.mem_of_getElem? (i := 8) (by decide +kernel))) rfl
theorem q_970 : (Cond.instanceMethod y_MO_addGroup) ∈ Gw := gq (tg_5 (List.mem_of_getElem? (i := 10) (by decide +kernel))) rfl
theorem q_972 : (Cond.methodLink R_MO 180 ⟨"PuzzlePressModel", "tryPairs", "()V"⟩) ∈ Gw := gq (tg_5 (List.mem_of_getElem? (i := 12) (by decide +kernel))) rfl
theorem q_974 : (Cond.instanceMethod y_MO_tryPairs) ∈ Gw := gq (tg_5 (List.mem_of_getElem? (i := 14) (by decide +kernel))) rfl
theorem q_976 : (Cond.methodLink R_MO 198 ⟨"PuzzlePressModel", "reasonByBoth", "()V"⟩) ∈ Gw := gq (tg_5 (List.mem_of_getElem? (i := 16) (by decide +kernel))) rfl
theorem q_978 : (Cond.instanceMethod y_MO_reasonByBoth) ∈ Gw := gq (tg_5 (List.mem_of_getElem? (i := 18) (by decide +kernel))) rfl
theorem q_980 : (Cond.methodLink R_MO 192 ⟨"PuzzlePressModel", "fails", "(II)Z"⟩) ∈ Gw := gq (tg_5 (List.mem_of_getElem? (i := 20) (by decide +kernel))) rfl
theorem q_982 : (Cond.instanceMethod y_MO_fails) ∈ Gw := gq (tg_5 (List.mem_of_getElem? (i := 22) (by decide +kernel))) rfl
theorem q_984 : (Cond.methodLink R_MO 189 ⟨"PuzzlePressModel", "isEmpty", "()Z"⟩) ∈ Gw := gq (tg_5 (List.mem_of_getElem? (i := 24) (by decide +kernel))) rfl
theorem q_986 : (Cond.instanceMethod y_MO_isEmpty) ∈ Gw := gq (tg_5 (List.mem_of_getElem? (i := 26) (by decide +kernel))) rfl
theorem q_996 : (Cond.methodLink R_MO 201 ⟨"PuzzlePressModel", "firstLost", "()I"⟩) ∈ Gw := gq (tg_5 (List.mem_of_getElem? (i := 36) (by decide +kernel))) rfl
theorem q_998 : (Cond.instanceMethod y_MO_firstLost) ∈ Gw := gq (tg_5 (List.mem_of_getElem? (i := 38) (by decide +kernel))) rfl
theorem q_1000 : (Cond.methodLink R_MO 204 ⟨"PuzzlePressModel", "firstFailing", "()I"⟩) ∈ Gw := gq (tg_5 (List.mem_of_getElem? (i := 40) (by decide +kernel))) rfl
theorem q_1002 : (Cond.instanceMethod y_MO_firstFailing) ∈ Gw := gq (tg_5 (List.mem_of_getElem? (i := 42) (by decide +kernel))) rfl
theorem q_1008 : (Cond.methodLink R_MO 210 ⟨"PuzzlePressModel", "gradeNow", "()I"⟩) ∈ Gw := gq (tg_5 (List.mem_of_getElem? (i := 48) (by decide +kernel))) rfl
theorem q_1010 : (Cond.instanceMethod y_MO_gradeNow) ∈ Gw := gq (tg_5 (List.mem_of_getElem? (i := 50) (by decide +kernel))) rfl
theorem q_1012 : (Cond.methodLink R_MO 207 ⟨"PuzzlePressModel", "isDone", "()Z"⟩) ∈ Gw := gq (tg_5 (List.mem_of_getElem? (i := 52) (by decide +kernel))) rfl
theorem q_1014 : (Cond.instanceMethod y_MO_isDone) ∈ Gw := gq (tg_5 (List.mem_of_getElem? (i := 54) (by decide +kernel))) rfl
theorem q_1024 : (Cond.sameMethod "PuzzlePress$Kind" "PuzzlePress$Kind" "bit" "(II)J") ∈ Gw := gq (tg_5 (List.mem_of_getElem? (i := 64) (by decide +kernel))) rfl
theorem q_1025 : (Cond.selects R_PI ⟨"PuzzlePress$Kind", "bit", "(II)J"⟩ y_KD_bit) ∈ Gw := gq (tg_5 (List.mem_of_getElem? (i := 65) (by decide +kernel))) rfl
theorem q_1026 : (Cond.selects R_SQ ⟨"PuzzlePress$Kind", "bit", "(II)J"⟩ y_KD_bit) ∈ Gw := gq (tg_5 (List.mem_of_getElem? (i := 66) (by decide +kernel))) rfl
theorem q_1027 : (Cond.selects R_ST ⟨"PuzzlePress$Kind", "bit", "(II)J"⟩ y_KD_bit) ∈ Gw := gq (tg_5 (List.mem_of_getElem? (i := 67) (by decide +kernel))) rfl
theorem s_1 : (Cond.selects R_SQ y_SQ_addUnlike y_SQ_addUnlike) ∈ Gw := gs (List.mem_of_getElem? (i := 1) (by decide +kernel))
theorem s_2 : (Cond.selects R_SQ y_SQ_addWays y_SQ_addWays) ∈ Gw := gs (List.mem_of_getElem? (i := 2) (by decide +kernel))
theorem s_3 : (Cond.selects R_SQ y_SQ_obeys y_SQ_obeys) ∈ Gw := gs (List.mem_of_getElem? (i := 3) (by decide +kernel))
theorem s_4 : (Cond.selects R_ST y_ST_addJustOne y_ST_addJustOne) ∈ Gw := gs (List.mem_of_getElem? (i := 4) (by decide +kernel))
theorem s_5 : (Cond.selects R_ST y_ST_wayWithStar y_ST_wayWithStar) ∈ Gw := gs (List.mem_of_getElem? (i := 5) (by decide +kernel))
theorem s_6 : (Cond.selects R_ST y_ST_addNotBoth y_ST_addNotBoth) ∈ Gw := gs (List.mem_of_getElem? (i := 6) (by decide +kernel))
theorem s_7 : (Cond.selects R_PP y_PP_renewUnits y_PP_renewUnits) ∈ Gw := gs (List.mem_of_getElem? (i := 7) (by decide +kernel))
theorem s_8 : (Cond.selects R_PI y_PI_wayOf y_PI_wayOf) ∈ Gw := gs (List.mem_of_getElem? (i := 8) (by decide +kernel))
theorem s_9 : (Cond.selects R_PP y_PP_atFirst y_PP_atFirst) ∈ Gw := gs (List.mem_of_getElem? (i := 9) (by decide +kernel))
theorem s_10 : (Cond.selects R_RE y_RE_search y_RE_search) ∈ Gw := gs (List.mem_of_getElem? (i := 10) (by decide +kernel))
theorem s_11 : (Cond.selects R_UN y_UN_keptBy y_UN_keptBy) ∈ Gw := gs (List.mem_of_getElem? (i := 11) (by decide +kernel))
theorem s_12 : (Cond.selects R_RE y_RE_isRefuted y_RE_isRefuted) ∈ Gw := gs (List.mem_of_getElem? (i := 12) (by decide +kernel))
theorem s_13 : (Cond.selects R_RE y_RE_supposeEach y_RE_supposeEach) ∈ Gw := gs (List.mem_of_getElem? (i := 13) (by decide +kernel))
theorem s_17 : (Cond.selects R_MO y_MO_begin y_MO_begin) ∈ Gw := gs (List.mem_of_getElem? (i := 17) (by decide +kernel))
theorem s_18 : (Cond.selects R_MO y_MO_refresh y_MO_refresh) ∈ Gw := gs (List.mem_of_getElem? (i := 18) (by decide +kernel))
theorem s_19 : (Cond.selects R_MO y_MO_allValues y_MO_allValues) ∈ Gw := gs (List.mem_of_getElem? (i := 19) (by decide +kernel))
theorem s_20 : (Cond.selects R_MO y_MO_noCell y_MO_noCell) ∈ Gw := gs (List.mem_of_getElem? (i := 20) (by decide +kernel))
theorem s_21 : (Cond.selects R_MO y_MO_sizeOf y_MO_sizeOf) ∈ Gw := gs (List.mem_of_getElem? (i := 21) (by decide +kernel))
theorem s_22 : (Cond.selects R_MO y_MO_isValue y_MO_isValue) ∈ Gw := gs (List.mem_of_getElem? (i := 22) (by decide +kernel))
theorem s_23 : (Cond.selects R_MO y_MO_search y_MO_search) ∈ Gw := gs (List.mem_of_getElem? (i := 23) (by decide +kernel))
theorem s_24 : (Cond.selects R_MO y_MO_lay y_MO_lay) ∈ Gw := gs (List.mem_of_getElem? (i := 24) (by decide +kernel))
theorem s_25 : (Cond.selects R_MO y_MO_valueOf y_MO_valueOf) ∈ Gw := gs (List.mem_of_getElem? (i := 25) (by decide +kernel))
theorem s_26 : (Cond.selects R_MO y_MO_isFilling y_MO_isFilling) ∈ Gw := gs (List.mem_of_getElem? (i := 26) (by decide +kernel))
theorem s_27 : (Cond.selects R_MO y_MO_groupsFit y_MO_groupsFit) ∈ Gw := gs (List.mem_of_getElem? (i := 27) (by decide +kernel))
theorem s_28 : (Cond.selects R_MO y_MO_columnsFit y_MO_columnsFit) ∈ Gw := gs (List.mem_of_getElem? (i := 28) (by decide +kernel))
theorem s_29 : (Cond.selects R_MO y_MO_starsFit y_MO_starsFit) ∈ Gw := gs (List.mem_of_getElem? (i := 29) (by decide +kernel))
theorem s_30 : (Cond.selects R_MO y_MO_countAll y_MO_countAll) ∈ Gw := gs (List.mem_of_getElem? (i := 30) (by decide +kernel))
theorem s_31 : (Cond.selects R_MO y_MO_reasonByOne y_MO_reasonByOne) ∈ Gw := gs (List.mem_of_getElem? (i := 31) (by decide +kernel))
theorem s_32 : (Cond.selects R_MO y_MO_look y_MO_look) ∈ Gw := gs (List.mem_of_getElem? (i := 32) (by decide +kernel))
theorem s_33 : (Cond.selects R_MO y_MO_tryPicture y_MO_tryPicture) ∈ Gw := gs (List.mem_of_getElem? (i := 33) (by decide +kernel))
theorem s_34 : (Cond.selects R_MO y_MO_addLine y_MO_addLine) ∈ Gw := gs (List.mem_of_getElem? (i := 34) (by decide +kernel))
theorem s_35 : (Cond.selects R_MO y_MO_beginUnit y_MO_beginUnit) ∈ Gw := gs (List.mem_of_getElem? (i := 35) (by decide +kernel))
theorem s_36 : (Cond.selects R_MO y_MO_addCell y_MO_addCell) ∈ Gw := gs (List.mem_of_getElem? (i := 36) (by decide +kernel))
theorem s_37 : (Cond.selects R_MO y_MO_may y_MO_may) ∈ Gw := gs (List.mem_of_getElem? (i := 37) (by decide +kernel))
theorem s_38 : (Cond.selects R_MO y_MO_lose y_MO_lose) ∈ Gw := gs (List.mem_of_getElem? (i := 38) (by decide +kernel))
theorem s_39 : (Cond.selects R_MO y_MO_trySquare y_MO_trySquare) ∈ Gw := gs (List.mem_of_getElem? (i := 39) (by decide +kernel))
theorem s_40 : (Cond.selects R_MO y_MO_goes y_MO_goes) ∈ Gw := gs (List.mem_of_getElem? (i := 40) (by decide +kernel))
theorem s_41 : (Cond.selects R_MO y_MO_note y_MO_note) ∈ Gw := gs (List.mem_of_getElem? (i := 41) (by decide +kernel))
theorem s_42 : (Cond.selects R_MO y_MO_tryStar y_MO_tryStar) ∈ Gw := gs (List.mem_of_getElem? (i := 42) (by decide +kernel))
theorem s_43 : (Cond.selects R_MO y_MO_addGroup y_MO_addGroup) ∈ Gw := gs (List.mem_of_getElem? (i := 43) (by decide +kernel))
theorem s_44 : (Cond.selects R_MO y_MO_tryPairs y_MO_tryPairs) ∈ Gw := gs (List.mem_of_getElem? (i := 44) (by decide +kernel))
theorem s_45 : (Cond.selects R_MO y_MO_reasonByBoth y_MO_reasonByBoth) ∈ Gw := gs (List.mem_of_getElem? (i := 45) (by decide +kernel))
theorem s_46 : (Cond.selects R_MO y_MO_fails y_MO_fails) ∈ Gw := gs (List.mem_of_getElem? (i := 46) (by decide +kernel))
theorem s_47 : (Cond.selects R_MO y_MO_isEmpty y_MO_isEmpty) ∈ Gw := gs (List.mem_of_getElem? (i := 47) (by decide +kernel))
theorem s_48 : (Cond.selects R_MO y_MO_firstLost y_MO_firstLost) ∈ Gw := gs (List.mem_of_getElem? (i := 48) (by decide +kernel))
theorem s_49 : (Cond.selects R_MO y_MO_firstFailing y_MO_firstFailing) ∈ Gw := gs (List.mem_of_getElem? (i := 49) (by decide +kernel))
theorem s_50 : (Cond.selects R_MO y_MO_gradeNow y_MO_gradeNow) ∈ Gw := gs (List.mem_of_getElem? (i := 50) (by decide +kernel))
theorem s_51 : (Cond.selects R_MO y_MO_isDone y_MO_isDone) ∈ Gw := gs (List.mem_of_getElem? (i := 51) (by decide +kernel))
theorem ma_ST_39 : Cond.methodLink R_ST 39 Lib.Math.abs.name ∈ Gw ∧ Cond.static Lib.Math.abs.name ∈ Gw ∧ Cond.initialized "java/lang/Math" ∈ Gw ∧ Cond.code Lib.Math.abs.name Lib.Math.abs.code 1 (some .int) ∈ Gw := ⟨gq (tg_2 (List.mem_of_getElem? (i := 39) (by decide +kernel))) rfl, gq (tg_2 (List.mem_of_getElem? (i := 40) (by decide +kernel))) rfl, gq (tg_1 (List.mem_of_getElem? (i := 9) (by decide +kernel))) rfl, gq (tg_2 (List.mem_of_getElem? (i := 41) (by decide +kernel))) rfl⟩
end
section
/-! Rows of my own over the kit: mirrors (Option, loops with fuel), contracts over one whole world, calls in one line. -/
/-- a loop: f s = some (inl s') goes on, some (inr e) ends -/
def lp {σ ε : Type} (f : σ → Option (σ ⊕ ε)) : Nat → σ → Option ε
  | 0, _ => none
  | n + 1, s => (f s).bind (Sum.elim (lp f n) some)
theorem lp_0 {σ ε : Type} {f : σ → Option (σ ⊕ ε)} {s : σ} {e : ε} : ¬ lp f 0 s = some e := by
  intro h
  simp [lp] at h
theorem lp_s {σ ε : Type} (f : σ → Option (σ ⊕ ε)) (n : Nat) (s : σ) : lp f (n + 1) s = (f s).bind (Sum.elim (lp f n) some) := rfl
theorem ob {α β : Type} {x : Option α} {f : α → Option β} {b : β} {G : Prop} (h : x.bind f = some b) (k : ∀ a, x = some a → f a = some b → G) : G := by
  cases x with
  | none => exact absurd h (fun q => nomatch q)
  | some a => exact k a rfl h
theorem oi {β : Type} {c : Prop} [Decidable c] {A B : Option β} {b : β} (h : (if c then A else B) = some b) (hc : c) : A = some b := by rw [if_pos hc] at h; exact h
theorem oe {β : Type} {c : Prop} [Decidable c] {A B : Option β} {b : β} (h : (if c then A else B) = some b) (hc : ¬ c) : B = some b := by rw [if_neg hc] at h; exact h
theorem oc {β : Type} {c : Prop} [Decidable c] {B : Option β} {b : β} {G : Prop} (h : (if c then none else B) = some b) (k : ¬ c → B = some b → G) : G := by
  by_cases hc : c
  · rw [if_pos hc] at h; exact absurd h (fun q => nomatch q)
  · exact k hc (oe h hc)
theorem on {β : Type} {b : β} : ¬ (none : Option β) = some b := fun h => nomatch h
theorem fw_nz {v : Int32} (h : ¬ ¬ (v = 0 ∨ v = 1)) : narrow .boolean (.int v) = .int v := by
  rcases Decidable.not_not.mp h with h | h <;> subst h <;> rfl
abbrev fr (f n : Nat) : Room := { frames := f, cells := 0, slots := 0, locals := n }
def fw_H (D : va_G) (cl : List vw_C) (A : Nat → Prop) (H0 : Heap) (ws : va_W) (H : Heap) (locs : List Loc) : Prop := va_P D cl ws H ∧ va_D A ws ∧ va_S A H0 H locs
/-- the tables: classes and array classes, and the words that no reader of steady words carries -/
def Kx (D : va_G) (cl : List vw_C) (tys : List (ClassId × FieldType)) (U : State) : Prop := va_K D cl tys U ∧ ∀ w ∈ Nws, va_Nw w U
theorem Kx.warm {D : va_G} {cl : List vw_C} {tys : List (ClassId × FieldType)} {s U : State} (hW : s.WarmedH U.vm) (h : Kx D cl tys s) : Kx D cl tys U := ⟨va_K.moved hW.alike h.1, fun w hw => Nws_warm w hw hW (h.2 w hw)⟩
theorem Kx.same {D : va_G} {cl : List vw_C} {tys : List (ClassId × FieldType)} {s U : State} (hv : s.vm = U.vm) (h : Kx D cl tys s) : Kx D cl tys U := ⟨va_K.moved (by rw [hv]; exact Vm.Alike.refl _) h.1, fun w hw => va_Nw.same (Nws_tab w hw) hv (h.2 w hw)⟩
def fw_Q (D : va_G) (cl : List vw_C) (tys : List (ClassId × FieldType)) (A : Nat → Prop) (v : Option Value) (w1 : va_W) : Array Value → State → Outcome → State → Prop := fun _ st oc t => (oc = .returned v ∧ va_P D cl w1 t.heap ∧ Kx D cl tys t ∧ va_D A w1) ∧ va_F A st t
/-- a contract: from the world w0, with the arguments av, the method returns v, and the world is w1 -/
def fw_C (l : Launch) (y : MethodName) (ws : List Cond) (rm : Room) (D : va_G) (cl : List vw_C) (tys : List (ClassId × FieldType)) (av : List Value) (w0 : va_W) (v : Option Value) (w1 : va_W) : Prop := ∀ sz : Nat, Met l y ws rm (va_Pc av (fun U => U.heap.size = sz ∧ va_P D cl w0 U.heap ∧ Kx D cl tys U ∧ va_D (fun _ => True) w0)) (fw_Q D cl tys (va_A w0 sz) v w1) 0 0 (va_A w0 sz)
theorem fw_of {l : Launch} {y : MethodName} {ws' : List Cond} {rm : Room} {D : va_G} {cl : List vw_C} {tys : List (ClassId × FieldType)} {av : List Value} {w0 : va_W} {v : Option Value} {w1 : va_W} {cc : ByteArray} {maxL : Nat} {ret : Option FieldType}
    (hy : plainName y.cls = true) (hlen : (lg_sl av).length ≤ maxL)
    (body : ∀ (p : Program) (e : Env) (s : State) (m : MethodId) (args : Array Value) (below : List Frame) (meth : Method) (c : Code) (ls : Array Slot) (A : Nat → Prop) (R : Room) (Q : State → Prop), R = rm → Q = MQ below (fw_Q D cl tys A v w1) args s 0 0 A → CallFix p m c cc maxL s args ws' y.cls → meth.sig.returnType = ret → meth.locks = false → Kx D cl tys s → (∀ q : Nat, s.heap.size ≤ q → A q) → lv_has ls maxL (lv_args 0 av) → fw_H D cl A s.heap w0 s.heap [] →
      W p l e R s m args below meth c s.heap [] 0 0 Q (F0 m 0 ls [])) : fw_C l y (Cond.code y cc maxL ret :: ws') rm D cl tys av w0 v w1 := by
  intro sz
  refine Met.ofW (cc := cc) (maxL := maxL) (ret := ret) hy rfl ?_
  intro p e s m args below meth c s₁ B hml hv
  obtain ⟨rfl, hsz, hP, hK, hD0⟩ := hv
  have hts := atoms_spec (ws := Cond.code y cc maxL ret :: ws') B.pre
  subst hsz
  rw [lg_entry_eq]
  exact body p e s m _ below meth c _ _ _ _ rfl rfl ⟨B.exec, B.bytes, hml, findClass_of_methodNamed B.named, fun w h => hts w (List.mem_cons_of_mem _ h)⟩ B.returns B.notSynchronized hK (fun q h => Or.inr h) (lv_entry av hlen) ⟨hP, hD0.self, va_S.rf⟩
section FW
variable {p : Program} {l : Launch} {e : Env} {R : Room} {s : State} {m : MethodId} {args : Array Value} {below : List Frame} {meth : Method} {c : Code} {H : Heap} {locs : List Loc} {cells slots : Nat} {Q : State → Prop}
variable {cc : ByteArray} {pc nL : Nat} {ls : Array Slot} {rest st0 st1 : List Value} {D : va_G} {cl : List vw_C} {A : Nat → Prop} {tys : List (ClassId × FieldType)} {w0 w1 : va_W} {Ts : List Cond} {own : String}
theorem fw_iret {v : Int32} (hQ : Q = MQ below (fw_Q D cl tys A (some (.int v)) w1) args s cells slots A) (S : CallFix p m c cc nL s args Ts own) (hr : meth.sig.returnType = some .int) (hlk : meth.locks = false) (hX : Kx D cl tys s) (hw : fw_H D cl A s.heap w1 H locs) (hdg : decode cc pc = .ok (.ireturn, 1)) : W p l e R s m args below meth c H locs cells slots Q (F0 m pc ls [.int v]) := by
  subst hQ
  exact W.iret S.1 S.2.1 hr (fun t ht hW => ⟨⟨rfl, by rw [ht]; exact hw.1, Kx.warm hW hX, hw.2.1⟩, hw.2.2.F ht⟩) hw.2.2.2.2 hdg hlk
theorem fw_zret {v : Int32} (hQ : Q = MQ below (fw_Q D cl tys A (some (.int v)) w1) args s cells slots A) (S : CallFix p m c cc nL s args Ts own) (hr : meth.sig.returnType = some .boolean) (hn : narrow .boolean (.int v) = .int v) (hlk : meth.locks = false) (hX : Kx D cl tys s) (hw : fw_H D cl A s.heap w1 H locs) (hdg : decode cc pc = .ok (.ireturn, 1)) : W p l e R s m args below meth c H locs cells slots Q (F0 m pc ls [.int v]) := by
  subst hQ
  exact W.zret S.1 S.2.1 hr hn (fun t ht hW => ⟨⟨rfl, by rw [ht]; exact hw.1, Kx.warm hW hX, hw.2.1⟩, hw.2.2.F ht⟩) hw.2.2.2.2 hdg hlk
theorem fw_lret {v : Int64} (hQ : Q = MQ below (fw_Q D cl tys A (some (.long v)) w1) args s cells slots A) (S : CallFix p m c cc nL s args Ts own) (hr : meth.sig.returnType = some .long) (hlk : meth.locks = false) (hX : Kx D cl tys s) (hw : fw_H D cl A s.heap w1 H locs) (hdg : decode cc pc = .ok (.lreturn, 1)) : W p l e R s m args below meth c H locs cells slots Q (F0 m pc ls [.long v]) := by
  subst hQ
  exact W.lret S.1 S.2.1 hr (fun t ht hW => ⟨⟨rfl, by rw [ht]; exact hw.1, Kx.warm hW hX, hw.2.1⟩, hw.2.2.F ht⟩) hw.2.2.2.2 hdg hlk
theorem fw_vret (hQ : Q = MQ below (fw_Q D cl tys A none w1) args s cells slots A) (S : CallFix p m c cc nL s args Ts own) (hr : meth.sig.returnType = none) (hlk : meth.locks = false) (hX : Kx D cl tys s) (hw : fw_H D cl A s.heap w1 H locs) (hdg : decode cc pc = .ok (.return_, 1)) : W p l e R s m args below meth c H locs cells slots Q (F0 m pc ls []) := by
  subst hQ
  exact W.vret S.1 S.2.1 hr (fun t ht hW => ⟨⟨rfl, by rw [ht]; exact hw.1, Kx.warm hW hX, hw.2.1⟩, hw.2.2.F ht⟩) hw.2.2.2.2 hdg hlk
theorem fw_cmp0 (x y : Int64) : lg_cmp x y = 0 ↔ x = y := by
  unfold lg_cmp
  by_cases h : x = y
  · subst h
    rw [if_neg (by rw [gt_iff_lt, Int64.lt_iff_toInt_lt]; omega), if_pos rfl]
    exact ⟨fun _ => rfl, fun _ => rfl⟩
  · refine ⟨fun q => ?_, fun q => absurd q h⟩
    by_cases g : x > y
    · rw [if_pos g] at q; exact absurd q (by decide)
    · rw [if_neg g, if_neg h] at q; exact absurd q (by decide)
theorem fw_lcmpE (hx : p.tables.exec = Jvm.exec) (hb : c.code = cc) {x y : Int64} {off : Int} {tgt : Nat} (hd1 : decode cc pc = .ok (.lcmp, 1)) (hd2 : decode cc (pc + 1) = .ok (.ifCond .eq off, 3)) (ht : ((pc + 1 : Nat) : Int) + off = (tgt : Int))
    (kt : x = y → W p l e R s m args below meth c H locs cells slots Q (F0 m tgt ls rest)) (kf : ¬ x = y → W p l e R s m args below meth c H locs cells slots Q (F0 m (pc + 4) ls rest)) : W p l e R s m args below meth c H locs cells slots Q (F0 m pc ls (.long y :: .long x :: rest)) :=
  W.lcmp hx hb hd1 (lv_if_eq hx hb hd2 ht (fun h => kt ((fw_cmp0 x y).mp h)) (fun h => kf (fun q => h ((fw_cmp0 x y).mpr q))))
theorem fw_lcmpN (hx : p.tables.exec = Jvm.exec) (hb : c.code = cc) {x y : Int64} {off : Int} {tgt : Nat} (hd1 : decode cc pc = .ok (.lcmp, 1)) (hd2 : decode cc (pc + 1) = .ok (.ifCond .ne off, 3)) (ht : ((pc + 1 : Nat) : Int) + off = (tgt : Int))
    (kt : ¬ x = y → W p l e R s m args below meth c H locs cells slots Q (F0 m tgt ls rest)) (kf : x = y → W p l e R s m args below meth c H locs cells slots Q (F0 m (pc + 4) ls rest)) : W p l e R s m args below meth c H locs cells slots Q (F0 m pc ls (.long y :: .long x :: rest)) :=
  W.lcmp hx hb hd1 (lv_if_ne hx hb hd2 ht (fun h => kt (fun q => h ((fw_cmp0 x y).mpr q))) (fun h => kf ((fw_cmp0 x y).mp h)))
/-- behind a call over the whole world -/
theorem fw_go {v : Option Value} {a : Array Value} (hr : va_Run p l e R s m args below meth c H locs cells slots 0 0 (F0 m pc ls st0) rest (fw_Q D cl tys (va_A w0 H.size) v w1 a) (va_A w0 H.size)) (hw : fw_H D cl A s.heap w0 H locs) (hA : ∀ q : Nat, s.heap.size ≤ q → A q) (h1 : v.toList ++ rest = st1)
    (kk : ∀ (H : Heap) (locs : List Loc), fw_H D cl A s.heap w1 H locs → W p l e R s m args below meth c H locs cells slots Q (F0 m (pc + 3) ls st1)) : W p l e R s m args below meth c H locs cells slots Q (F0 m pc ls st0) := by
  intro T hT X
  have hF : ∀ q, va_A w0 H.size q → A q := by
    intro q h
    rcases h with ⟨k, x, h⟩ | h
    · exact hw.2.1.2 k _ h
    · exact hA q (Nat.le_trans hw.2.2.1 h)
  obtain ⟨v', st₀, t, T', L, h0, X', hL, e1, e2, ⟨⟨hv, hP1, hK1, hD1⟩, hz, hk⟩, st⟩ := hr T hT X
  cases hv
  rw [h0] at hz hk
  subst h1
  obtain ⟨t2, a1, b1⟩ := kk T'.heap (locs ++ L) ⟨by rw [e1]; exact hP1, hD1.weaken (fun _ q _ h => hF q.1 h), Nat.le_trans hw.2.2.1 (by rw [e1]; exact hz), fun q g1 g2 => by rw [e1, hk q (Nat.lt_of_lt_of_le g1 hw.2.2.1) (fun z => g2 (hF q z))]; exact hw.2.2.2.1 q g1 g2, fun q hq => by
      rcases List.mem_append.mp hq with h | h
      · exact hw.2.2.2.2 q h
      · exact hF _ (hL q h)⟩ T' rfl X'
  exact ⟨t2, st t2 a1, b1⟩
theorem fw_pre {av : List Value} (hX : Kx D cl tys s) (hw : fw_H D cl A s.heap w0 H locs) : PreS s H (va_Pc av (fun U => U.heap.size = H.size ∧ va_P D cl w0 U.heap ∧ Kx D cl tys U ∧ va_D (fun _ => True) w0)) av :=
  ⟨fun a U g mk q => by obtain ⟨q0, q1, qP, qK, qD⟩ := q; exact ⟨q0, q1, qP, Kx.same (s := U) (U := U.calling g mk a) rfl qK, qD⟩, fun U hU hW => ⟨rfl, by rw [hU], by rw [hU]; exact hw.1, Kx.warm hW hX, hw.2.1.weaken (fun _ _ _ _ => trivial)⟩⟩
end FW
abbrev wC (ad : Nat → Nat) (cI cL : ClassId) (kk : Nat) (kn : Int32) (le : Int64) (ff : Int64) (fo : Int32) (ct : Int32) (fx : Int32) (gv : Nat → Int32) (pg : Nat → Int32) (cu : Nat → Int32) (co : Nat → Int32) (sg : Nat → Int32) (ru : Nat → Int32) (nu : Nat → Int32) (tg : Nat → Int32) (sc : Nat → Int64) (sr : Nat → Int32) (wy : Nat → Int64) : va_W := [(ad 0, .inr (0, [.ref (ad 1), .ref (ad 2), .ref (ad 3), .ref (ad 4), .ref (ad 6), .ref (ad kk), .int kn, .long le])),
  (ad 1, .inr (1, [.int 5, .int 25, .int 0, .int 2, .int 0, .ref (ad 7), .ref (ad 8), .ref (ad 9)])),
  (ad 2, .inr (2, [.int 4, .int 16, .int 1, .int 4, .int 16, .ref (ad 10), .ref (ad 11), .ref (ad 12)])),
  (ad 3, .inr (3, [.int 5, .int 25, .int 0, .int 2, .int 5, .ref (ad 13)])),
  (ad 4, .inr (4, [.ref (ad 5), .long ff, .int fo])),
  (ad 5, .inr (5, [.ref (ad 14), .ref (ad 15), .ref (ad 16), .int ct, .int fx])),
  (ad 6, .inl (cI, 25, .inl gv)),
  (ad 7, .inl (cI, 25, .inl pg)),
  (ad 8, .inl (cI, 10, .inl cu)),
  (ad 9, .inl (cI, 32, .inl co)),
  (ad 10, .inl (cI, 16, .inl sg)),
  (ad 11, .inl (cI, 16, .inl ru)),
  (ad 12, .inl (cI, 16, .inl nu)),
  (ad 13, .inl (cI, 25, .inl tg)),
  (ad 14, .inl (cL, 87, .inr (.inl sc))),
  (ad 15, .inl (cI, 88, .inl sr)),
  (ad 16, .inl (cL, 326, .inr (.inl wy)))]
abbrev wM (ad : Nat → Nat) (cI cL : ClassId) (th : Int32) (ki : Int32) (ce : Int32) (wi : Int32) (ma : Int32) (fo : Int32) (cu : Nat → Int32) (gr : Nat → Int32) (ru : Nat → Int32) (nu : Nat → Int32) (gv : Nat → Int32) (ca : Nat → Int32) (nw : Nat → Int32) (lo : Nat → Int32) (ke : Nat → Int32) (un : Nat → Int32) (cn : Nat → Int32) (fi : Nat → Int32) (fl : Nat → Int32) (pa : Nat → Int32) (sh : Nat → Int32) (od : Nat → Int32) (bd : Nat → Int32) (bs : Nat → Int32) : va_W := [(ad 0, .inr (6, [.int th, .int ki, .int ce, .int wi, .ref (ad 1), .ref (ad 2), .ref (ad 3), .ref (ad 4), .ref (ad 5), .ref (ad 6), .ref (ad 7), .ref (ad 8), .ref (ad 9), .int ma, .ref (ad 10), .ref (ad 11), .int fo, .ref (ad 12), .ref (ad 13), .ref (ad 14), .ref (ad 15), .ref (ad 16), .ref (ad 17), .ref (ad 18)])),
  (ad 1, .inl (cI, 10, .inl cu)),
  (ad 2, .inl (cI, 25, .inl gr)),
  (ad 3, .inl (cI, 16, .inl ru)),
  (ad 4, .inl (cI, 16, .inl nu)),
  (ad 5, .inl (cI, 25, .inl gv)),
  (ad 6, .inl (cI, 25, .inl ca)),
  (ad 7, .inl (cI, 25, .inl nw)),
  (ad 8, .inl (cI, 25, .inl lo)),
  (ad 9, .inl (cI, 25, .inl ke)),
  (ad 10, .inl (cI, 25, .inl un)),
  (ad 11, .inl (cI, 25, .inl cn)),
  (ad 12, .inl (cI, 25, .inl fi)),
  (ad 13, .inl (cI, 25, .inl fl)),
  (ad 14, .inl (cI, 5, .inl pa)),
  (ad 15, .inl (cI, 32, .inl sh)),
  (ad 16, .inl (cI, 24, .inl od)),
  (ad 17, .inl (cI, 25, .inl bd)),
  (ad 18, .inl (cI, 200, .inl bs))]
/-! Calls over the whole world, in one line each; the kinds' fields -/
abbrev tyA (cI cL : ClassId) : List (ClassId × FieldType) := [(cI, .int), (cL, .long)]
abbrev K3 (k : Nat) : Prop := k = 1 ∨ k = 2 ∨ k = 3
theorem K3_1 : K3 1 := Or.inl rfl
theorem K3_2 : K3 2 := Or.inr (Or.inl rfl)
theorem K3_3 : K3 3 := Or.inr (Or.inr rfl)
def k_side (k : Nat) : Int32 := if k = 2 then 4 else 5
def k_cells (k : Nat) : Int32 := if k = 2 then 16 else 25
def k_least (k : Nat) : Int32 := if k = 2 then 1 else 0
def k_values (k : Nat) : Int32 := if k = 2 then 4 else 2
def k_groups (k : Nat) : Int32 := if k = 1 then 0 else if k = 2 then 16 else 5
theorem gw_in {pre : List Cond} {y : MethodName} {bytes : ByteArray} {maxL : Nat} {ret : Option FieldType} (hp : ∀ w ∈ pre, w ∈ Gw) (hc : Cond.code y bytes maxL ret ∈ Gw) : GoodIn Gw (pre ++ (Cond.code y bytes maxL ret :: Gw)) := by
  intro w hw
  have h : w ∈ Gw := by
    rcases List.mem_append.mp hw with h | h
    · exact hp w h
    · rcases List.mem_cons.mp h with h | h
      · rw [h]; exact hc
      · exact h
  exact ⟨h, Gw_good w h⟩
section FC
variable {p : Program} {l : Launch} {e : Env} {R : Room} {s : State} {m : MethodId} {args : Array Value} {below : List Frame} {meth : Method} {c : Code} {H : Heap} {locs : List Loc} {cells slots : Nat} {Q : State → Prop}
variable {cc : ByteArray} {pc nL : Nat} {ls : Array Slot} {rest st0 st1 : List Value} {D : va_G} {cl : List vw_C} {A : Nat → Prop} {tys : List (ClassId × FieldType)} {w0 w1 : va_W} {own : String}
variable {y x : MethodName} {bytes : ByteArray} {maxL index n : Nat} {ret : Option FieldType} {rm : Room} {v : Option Value} {b : Nat} {As : List Value} {C : String}
theorem fw_preV {ci q0 Nf : Nat} {fs : List Value} {T : u_T} (hX : Kx D cl tys s) (hw : fw_H D cl A s.heap w0 H locs) (he : w0[q0]? = some (b, .inr (ci, fs))) (hc : cl[ci]? = some (C, T, Nf)) : PreV s H C b (va_Pc (.ref b :: As) (fun U => U.heap.size = H.size ∧ va_P D cl w0 U.heap ∧ Kx D cl tys U ∧ va_D (fun _ => True) w0)) As := by
  have h := fw_pre (av := .ref b :: As) hX hw
  exact ⟨h.1, va_recv hX.1 hw.1 hc he, h.2⟩
theorem fw_callV (S : CallFix p m c cc nL s args Gw own) (hM : fw_C l y (Cond.code y bytes maxL ret :: Gw) rm D cl tys (.ref b :: As) w0 v w1)
    (q1 : Cond.methodLink own index y ∈ Gw) (q2 : Cond.instanceMethod y ∈ Gw) (q3 : Cond.selects C y y ∈ Gw) (q4 : Cond.initialized C ∈ Gw) (q5 : Cond.code y bytes maxL ret ∈ Gw)
    (hd : y.cls = C ∧ y.cls ≠ "java/lang/invoke/MethodHandle" ∧ y.cls ≠ "java/lang/invoke/VarHandle" ∧ (parseMethodDescriptor y.desc).map (fun d => d.parameters.length) = some n)
    (hR : rm.frames + 1 ≤ R.frames ∧ 8 + (maxL + 11) + rm.locals ≤ R.locals) (hrc : rm.cells = 0) (hrs : rm.slots = 0) (hX : Kx D cl tys s) (hw : fw_H D cl A s.heap w0 H locs) (hA : ∀ q : Nat, s.heap.size ≤ q → A q)
    (q0 : Nat) {ci Nf : Nat} {fs : List Value} {T : u_T} (he : w0[q0]? = some (b, .inr (ci, fs))) (hc : cl[ci]? = some (C, T, Nf)) (hsz : ls.size = nL) (hn : As.length = n) (hst : st0 = As.reverse ++ .ref b :: rest) (hrm : (rest.map fun v => v.category).sum ≤ 8) (hdg : decode cc pc = .ok (.invokevirtual index, 3)) (hf : cells ≤ R.cells ∧ slots ≤ R.slots) (h1 : v.toList ++ rest = st1)
    (kk : ∀ (H : Heap) (locs : List Loc), fw_H D cl A s.heap w1 H locs → W p l e R s m args below meth c H locs cells slots Q (F0 m (pc + 3) ls st1)) : W p l e R s m args below meth c H locs cells slots Q (F0 m pc ls st0) := by
  subst hst
  have hG : GoodIn Gw (wsV own index C y (Cond.code y bytes maxL ret :: Gw)) := gw_in (by intro w h; simp only [List.mem_cons, List.not_mem_nil, or_false] at h; rcases h with rfl | rfl | rfl | rfl <;> assumption) q5
  exact fw_go (va_runV S (hM H.size) (cwV n S.2.2.2.2 hG rfl hrc hrs hd hR) (fw_preV hX hw he hc) rfl hn hsz rfl (lv_room hrm) hdg hf) hw hA h1 kk
theorem fw_callS (S : CallFix p m c cc nL s args Gw own) (hM : fw_C l y (Cond.code y bytes maxL ret :: Gw) rm D cl tys As w0 v w1)
    (q1 : Cond.methodLink own index y ∈ Gw) (q2 : Cond.static y ∈ Gw) (q4 : Cond.initialized y.cls ∈ Gw) (q5 : Cond.code y bytes maxL ret ∈ Gw)
    (hd : y.cls = C ∧ y.cls ≠ "java/lang/invoke/MethodHandle" ∧ y.cls ≠ "java/lang/invoke/VarHandle" ∧ (parseMethodDescriptor y.desc).map (fun d => d.parameters.length) = some n)
    (hR : rm.frames + 1 ≤ R.frames ∧ 8 + (maxL + 11) + rm.locals ≤ R.locals) (hrc : rm.cells = 0) (hrs : rm.slots = 0) (hX : Kx D cl tys s) (hw : fw_H D cl A s.heap w0 H locs) (hA : ∀ q : Nat, s.heap.size ≤ q → A q)
    (hsz : ls.size = nL) (hn : As.length = n) (hst : st0 = As.reverse ++ rest) (hrm : (rest.map fun v => v.category).sum ≤ 8) (hdg : decode cc pc = .ok (.invokestatic index, 3)) (hf : cells ≤ R.cells ∧ slots ≤ R.slots) (h1 : v.toList ++ rest = st1)
    (kk : ∀ (H : Heap) (locs : List Loc), fw_H D cl A s.heap w1 H locs → W p l e R s m args below meth c H locs cells slots Q (F0 m (pc + 3) ls st1)) : W p l e R s m args below meth c H locs cells slots Q (F0 m pc ls st0) := by
  subst hst
  have hG : GoodIn Gw (va_wsS own index y (Cond.code y bytes maxL ret :: Gw)) := gw_in (by intro w h; simp only [List.mem_cons, List.not_mem_nil, or_false] at h; rcases h with rfl | rfl | rfl <;> assumption) q5
  exact fw_go (va_runS S (hM H.size) (va_cwS n S.2.2.2.2 hG rfl hrc hrs hd.2 hR) (fw_pre hX hw) rfl hn hsz rfl (lv_room hrm) hdg hf) hw hA h1 kk
theorem fw_callU (S : CallFix p m c cc nL s args Gw own) (hM : fw_C l y (Cond.code y bytes maxL ret :: Gw) rm D cl tys (.ref b :: As) w0 v w1)
    (q1 : Cond.methodLink own index x ∈ Gw) (q2 : Cond.sameMethod x.cls y.cls x.name x.desc ∈ Gw) (q3 : Cond.selects C x y ∈ Gw) (q6 : Cond.instanceMethod y ∈ Gw) (q4 : Cond.initialized y.cls ∈ Gw) (q5 : Cond.code y bytes maxL ret ∈ Gw)
    {C' : String} (hd : y.cls = C' ∧ y.cls ≠ "java/lang/invoke/MethodHandle" ∧ y.cls ≠ "java/lang/invoke/VarHandle" ∧ (parseMethodDescriptor x.desc).map (fun d => d.parameters.length) = some n) (hyx : y = ⟨y.cls, x.name, x.desc⟩)
    (hR : rm.frames + 1 ≤ R.frames ∧ 8 + (maxL + 11) + rm.locals ≤ R.locals) (hrc : rm.cells = 0) (hrs : rm.slots = 0) (hX : Kx D cl tys s) (hw : fw_H D cl A s.heap w0 H locs) (hA : ∀ q : Nat, s.heap.size ≤ q → A q)
    (q0 : Nat) {ci Nf : Nat} {fs : List Value} {T : u_T} (he : w0[q0]? = some (b, .inr (ci, fs))) (hc : cl[ci]? = some (C, T, Nf)) (hsz : ls.size = nL) (hn : As.length = n) (hst : st0 = As.reverse ++ .ref b :: rest) (hrm : (rest.map fun v => v.category).sum ≤ 8) (hdg : decode cc pc = .ok (.invokevirtual index, 3)) (hf : cells ≤ R.cells ∧ slots ≤ R.slots) (h1 : v.toList ++ rest = st1)
    (kk : ∀ (H : Heap) (locs : List Loc), fw_H D cl A s.heap w1 H locs → W p l e R s m args below meth c H locs cells slots Q (F0 m (pc + 3) ls st1)) : W p l e R s m args below meth c H locs cells slots Q (F0 m pc ls st0) := by
  subst hst
  have hG : GoodIn Gw (va_wsU own index C y.cls x y (Cond.code y bytes maxL ret :: Gw)) := gw_in (by intro w h; simp only [List.mem_cons, List.not_mem_nil, or_false] at h; rcases h with rfl | rfl | rfl | rfl | rfl <;> assumption) q5
  exact fw_go (va_runU S (hM H.size) (va_cwU n S.2.2.2.2 hG rfl hrc hrs hyx hd.2 hR) (fw_preV hX hw he hc) rfl hn hsz rfl (lv_room hrm) hdg hf) hw hA h1 kk
theorem fw_callA (S : CallFix p m c cc nL s args Gw own) (hM : fw_C l y (Cond.code y bytes maxL ret :: Gw) rm D cl tys (.ref b :: As) w0 v w1) (hz : Cond.declares ⟨x.cls, x.name, x.desc⟩ ∈ Nws)
    (q1 : Cond.methodLink own index x ∈ Gw) (q2 : Cond.sameMethod x.cls x.cls x.name x.desc ∈ Gw) (q3 : Cond.selects C x y ∈ Gw) (q6 : Cond.instanceMethod y ∈ Gw) (q4 : Cond.initialized y.cls ∈ Gw) (q5 : Cond.code y bytes maxL ret ∈ Gw)
    (hd : x.cls ≠ "java/lang/invoke/MethodHandle" ∧ x.cls ≠ "java/lang/invoke/VarHandle" ∧ (parseMethodDescriptor x.desc).map (fun d => d.parameters.length) = some n)
    (hR : rm.frames + 1 ≤ R.frames ∧ 8 + (maxL + 11) + rm.locals ≤ R.locals) (hrc : rm.cells = 0) (hrs : rm.slots = 0) (hX : Kx D cl tys s) (hw : fw_H D cl A s.heap w0 H locs) (hA : ∀ q : Nat, s.heap.size ≤ q → A q)
    (q0 : Nat) {ci Nf : Nat} {fs : List Value} {T : u_T} (he : w0[q0]? = some (b, .inr (ci, fs))) (hc : cl[ci]? = some (C, T, Nf)) (hsz : ls.size = nL) (hn : As.length = n) (hst : st0 = As.reverse ++ .ref b :: rest) (hrm : (rest.map fun v => v.category).sum ≤ 8) (hdg : decode cc pc = .ok (.invokevirtual index, 3)) (hf : cells ≤ R.cells ∧ slots ≤ R.slots) (h1 : v.toList ++ rest = st1)
    (kk : ∀ (H : Heap) (locs : List Loc), fw_H D cl A s.heap w1 H locs → W p l e R s m args below meth c H locs cells slots Q (F0 m (pc + 3) ls st1)) : W p l e R s m args below meth c H locs cells slots Q (F0 m pc ls st0) := by
  subst hst
  have hG : GoodIn Gw (va_wsU own index C x.cls x y (Cond.code y bytes maxL ret :: Gw)) := gw_in (by intro w h; simp only [List.mem_cons, List.not_mem_nil, or_false] at h; rcases h with rfl | rfl | rfl | rfl | rfl <;> assumption) q5
  exact fw_go (va_runU S (hM H.size) (va_cwA n S.2.2.2.2 hG rfl hrc hrs (hX.2 _ hz) hd hR) (fw_preV hX hw he hc) rfl hn hsz rfl (lv_room hrm) hdg hf) hw hA h1 kk
theorem fw_mabs {a : Int32} (S : CallFix p m c cc nL s args Gw own) (hsz : ls.size = nL) (q1 : Cond.methodLink own index Lib.Math.abs.name ∈ Gw ∧ Cond.static Lib.Math.abs.name ∈ Gw ∧ Cond.initialized "java/lang/Math" ∈ Gw ∧ Cond.code Lib.Math.abs.name Lib.Math.abs.code 1 (some .int) ∈ Gw)
    (hf : 1 ≤ R.frames) (hlo : (rest.map fun v => v.category).sum + 13 ≤ R.locals) (hdg : decode cc pc = .ok (.invokestatic index, 3)) (h0 : cells ≤ R.cells ∧ slots ≤ R.slots)
    (kk : W p l e R s m args below meth c H locs cells slots Q (F0 m (pc + 3) ls (.int (if 0 ≤ a then a else 0 - a) :: rest))) : W p l e R s m args below meth c H locs cells slots Q (F0 m pc ls (.int a :: rest)) :=
  va_mabs S.1 S.2.1 (S.2.2.1.trans hsz.symm) S.2.2.2.1 (S.2.2.2.2 _ q1.1) (S.2.2.2.2 _ q1.2.1) (S.2.2.2.2 _ q1.2.2.1) (S.2.2.2.2 _ q1.2.2.2) hf hlo h0.1 h0.2 hdg kk
theorem fw_callK {k : Nat} {ad : Nat → Nat} {f1 f2 f3 : List Value} (S : CallFix p m c cc nL s args Gw own) (hM : fw_C l y (Cond.code y bytes maxL ret :: Gw) rm D vwCl tys (.ref (ad k) :: As) w0 v w1) (hk : K3 k)
    (q1 : Cond.methodLink own index x ∈ Gw) (q2 : Cond.sameMethod x.cls y.cls x.name x.desc ∈ Gw) (q31 : Cond.selects R_PI x y ∈ Gw) (q32 : Cond.selects R_SQ x y ∈ Gw) (q33 : Cond.selects R_ST x y ∈ Gw) (q6 : Cond.instanceMethod y ∈ Gw) (q4 : Cond.initialized y.cls ∈ Gw) (q5 : Cond.code y bytes maxL ret ∈ Gw)
    {C' : String} (hd : y.cls = C' ∧ y.cls ≠ "java/lang/invoke/MethodHandle" ∧ y.cls ≠ "java/lang/invoke/VarHandle" ∧ (parseMethodDescriptor x.desc).map (fun d => d.parameters.length) = some n) (hyx : y = ⟨y.cls, x.name, x.desc⟩)
    (hR : rm.frames + 1 ≤ R.frames ∧ 8 + (maxL + 11) + rm.locals ≤ R.locals) (hrc : rm.cells = 0) (hrs : rm.slots = 0) (hX : Kx D vwCl tys s) (hw : fw_H D vwCl A s.heap w0 H locs) (hA : ∀ q : Nat, s.heap.size ≤ q → A q)
    (e1 : w0[1]? = some (ad 1, .inr (1, f1))) (e2 : w0[2]? = some (ad 2, .inr (2, f2))) (e3 : w0[3]? = some (ad 3, .inr (3, f3))) (hsz : ls.size = nL) (hn : As.length = n) (hst : st0 = As.reverse ++ .ref (ad k) :: rest) (hrm : (rest.map fun v => v.category).sum ≤ 8) (hdg : decode cc pc = .ok (.invokevirtual index, 3)) (hf : cells ≤ R.cells ∧ slots ≤ R.slots) (h1 : v.toList ++ rest = st1)
    (kk : ∀ (H : Heap) (locs : List Loc), fw_H D vwCl A s.heap w1 H locs → W p l e R s m args below meth c H locs cells slots Q (F0 m (pc + 3) ls st1)) : W p l e R s m args below meth c H locs cells slots Q (F0 m pc ls st0) := by
  rcases hk with rfl | rfl | rfl
  · exact fw_callU (C := R_PI) S hM q1 q2 q31 q6 q4 q5 hd hyx hR hrc hrs hX hw hA 1 e1 (rfl : vwCl[1]? = some (R_PI, F_PI, 8)) hsz hn hst hrm hdg hf h1 kk
  · exact fw_callU (C := R_SQ) S hM q1 q2 q32 q6 q4 q5 hd hyx hR hrc hrs hX hw hA 2 e2 (rfl : vwCl[2]? = some (R_SQ, F_SQ, 8)) hsz hn hst hrm hdg hf h1 kk
  · exact fw_callU (C := R_ST) S hM q1 q2 q33 q6 q4 q5 hd hyx hR hrc hrs hX hw hA 3 e3 (rfl : vwCl[3]? = some (R_ST, F_ST, 6)) hsz hn hst hrm hdg hf h1 kk
end FC
section FK
variable {p : Program} {l : Launch} {e : Env} {R : Room} {s : State} {m : MethodId} {args : Array Value} {below : List Frame} {meth : Method} {c : Code} {H : Heap} {locs : List Loc} {cells slots : Nat} {Q : State → Prop}
variable {cc : ByteArray} {pc nL : Nat} {ls : Array Slot} {rest : List Value} {D : va_G} {A : Nat → Prop} {tys : List (ClassId × FieldType)} {own : String} {index k : Nat} {ad : Nat → Nat} {cI cL : ClassId} {kk : Nat} {kn : Int32} {le : Int64} {ff : Int64} {fo : Int32} {ct : Int32} {fx : Int32} {gv : Nat → Int32} {pg : Nat → Int32} {cu : Nat → Int32} {co : Nat → Int32} {sg : Nat → Int32} {ru : Nat → Int32} {nu : Nat → Int32} {tg : Nat → Int32} {sc : Nat → Int64} {sr : Nat → Int32} {wy : Nat → Int64}
theorem fk_side (S : CallFix p m c cc nL s args Gw own) (hK : va_K D vwCl tys s) (hw : fw_H D vwCl A s.heap (wC ad cI cL kk kn le ff fo ct fx gv pg cu co sg ru nu tg sc sr wy) H locs) (hk : K3 k) (hln : (Cond.fieldLink own index "PuzzlePress$Kind" "side" "I").before args s = true) (hdg : decode cc pc = .ok (.getfield index, 3)) (kk1 : W p l e R s m args below meth c H locs cells slots Q (F0 m (pc + 3) ls (.int (k_side k) :: rest))) : W p l e R s m args below meth c H locs cells slots Q (F0 m pc ls (.ref (ad k) :: rest)) := by
  rcases hk with rfl | rfl | rfl
  · exact va_get (ci := 1) (v := .int 5) (C := R_PI) (T := F_PI) (N := 8) S.1 S.2.1 S.2.2.2.2 in_PI S.2.2.2.1 hK hw.1 1 rfl rfl 0 (by decide) hln (fun _ h9 => h9) rfl hdg kk1
  · exact va_get (ci := 2) (v := .int 4) (C := R_SQ) (T := F_SQ) (N := 8) S.1 S.2.1 S.2.2.2.2 in_SQ S.2.2.2.1 hK hw.1 2 rfl rfl 0 (by decide) hln (fun _ h9 => h9) rfl hdg kk1
  · exact va_get (ci := 3) (v := .int 5) (C := R_ST) (T := F_ST) (N := 6) S.1 S.2.1 S.2.2.2.2 in_ST S.2.2.2.1 hK hw.1 3 rfl rfl 0 (by decide) hln (fun _ h9 => h9) rfl hdg kk1
theorem fk_cells (S : CallFix p m c cc nL s args Gw own) (hK : va_K D vwCl tys s) (hw : fw_H D vwCl A s.heap (wC ad cI cL kk kn le ff fo ct fx gv pg cu co sg ru nu tg sc sr wy) H locs) (hk : K3 k) (hln : (Cond.fieldLink own index "PuzzlePress$Kind" "cells" "I").before args s = true) (hdg : decode cc pc = .ok (.getfield index, 3)) (kk1 : W p l e R s m args below meth c H locs cells slots Q (F0 m (pc + 3) ls (.int (k_cells k) :: rest))) : W p l e R s m args below meth c H locs cells slots Q (F0 m pc ls (.ref (ad k) :: rest)) := by
  rcases hk with rfl | rfl | rfl
  · exact va_get (ci := 1) (v := .int 25) (C := R_PI) (T := F_PI) (N := 8) S.1 S.2.1 S.2.2.2.2 in_PI S.2.2.2.1 hK hw.1 1 rfl rfl 1 (by decide) hln (fun _ h9 => h9) rfl hdg kk1
  · exact va_get (ci := 2) (v := .int 16) (C := R_SQ) (T := F_SQ) (N := 8) S.1 S.2.1 S.2.2.2.2 in_SQ S.2.2.2.1 hK hw.1 2 rfl rfl 1 (by decide) hln (fun _ h9 => h9) rfl hdg kk1
  · exact va_get (ci := 3) (v := .int 25) (C := R_ST) (T := F_ST) (N := 6) S.1 S.2.1 S.2.2.2.2 in_ST S.2.2.2.1 hK hw.1 3 rfl rfl 1 (by decide) hln (fun _ h9 => h9) rfl hdg kk1
theorem fk_least (S : CallFix p m c cc nL s args Gw own) (hK : va_K D vwCl tys s) (hw : fw_H D vwCl A s.heap (wC ad cI cL kk kn le ff fo ct fx gv pg cu co sg ru nu tg sc sr wy) H locs) (hk : K3 k) (hln : (Cond.fieldLink own index "PuzzlePress$Kind" "least" "I").before args s = true) (hdg : decode cc pc = .ok (.getfield index, 3)) (kk1 : W p l e R s m args below meth c H locs cells slots Q (F0 m (pc + 3) ls (.int (k_least k) :: rest))) : W p l e R s m args below meth c H locs cells slots Q (F0 m pc ls (.ref (ad k) :: rest)) := by
  rcases hk with rfl | rfl | rfl
  · exact va_get (ci := 1) (v := .int 0) (C := R_PI) (T := F_PI) (N := 8) S.1 S.2.1 S.2.2.2.2 in_PI S.2.2.2.1 hK hw.1 1 rfl rfl 2 (by decide) hln (fun _ h9 => h9) rfl hdg kk1
  · exact va_get (ci := 2) (v := .int 1) (C := R_SQ) (T := F_SQ) (N := 8) S.1 S.2.1 S.2.2.2.2 in_SQ S.2.2.2.1 hK hw.1 2 rfl rfl 2 (by decide) hln (fun _ h9 => h9) rfl hdg kk1
  · exact va_get (ci := 3) (v := .int 0) (C := R_ST) (T := F_ST) (N := 6) S.1 S.2.1 S.2.2.2.2 in_ST S.2.2.2.1 hK hw.1 3 rfl rfl 2 (by decide) hln (fun _ h9 => h9) rfl hdg kk1
theorem fk_values (S : CallFix p m c cc nL s args Gw own) (hK : va_K D vwCl tys s) (hw : fw_H D vwCl A s.heap (wC ad cI cL kk kn le ff fo ct fx gv pg cu co sg ru nu tg sc sr wy) H locs) (hk : K3 k) (hln : (Cond.fieldLink own index "PuzzlePress$Kind" "values" "I").before args s = true) (hdg : decode cc pc = .ok (.getfield index, 3)) (kk1 : W p l e R s m args below meth c H locs cells slots Q (F0 m (pc + 3) ls (.int (k_values k) :: rest))) : W p l e R s m args below meth c H locs cells slots Q (F0 m pc ls (.ref (ad k) :: rest)) := by
  rcases hk with rfl | rfl | rfl
  · exact va_get (ci := 1) (v := .int 2) (C := R_PI) (T := F_PI) (N := 8) S.1 S.2.1 S.2.2.2.2 in_PI S.2.2.2.1 hK hw.1 1 rfl rfl 3 (by decide) hln (fun _ h9 => h9) rfl hdg kk1
  · exact va_get (ci := 2) (v := .int 4) (C := R_SQ) (T := F_SQ) (N := 8) S.1 S.2.1 S.2.2.2.2 in_SQ S.2.2.2.1 hK hw.1 2 rfl rfl 3 (by decide) hln (fun _ h9 => h9) rfl hdg kk1
  · exact va_get (ci := 3) (v := .int 2) (C := R_ST) (T := F_ST) (N := 6) S.1 S.2.1 S.2.2.2.2 in_ST S.2.2.2.1 hK hw.1 3 rfl rfl 3 (by decide) hln (fun _ h9 => h9) rfl hdg kk1
theorem fk_groups (S : CallFix p m c cc nL s args Gw own) (hK : va_K D vwCl tys s) (hw : fw_H D vwCl A s.heap (wC ad cI cL kk kn le ff fo ct fx gv pg cu co sg ru nu tg sc sr wy) H locs) (hk : K3 k) (hln : (Cond.fieldLink own index "PuzzlePress$Kind" "groups" "I").before args s = true) (hdg : decode cc pc = .ok (.getfield index, 3)) (kk1 : W p l e R s m args below meth c H locs cells slots Q (F0 m (pc + 3) ls (.int (k_groups k) :: rest))) : W p l e R s m args below meth c H locs cells slots Q (F0 m pc ls (.ref (ad k) :: rest)) := by
  rcases hk with rfl | rfl | rfl
  · exact va_get (ci := 1) (v := .int 0) (C := R_PI) (T := F_PI) (N := 8) S.1 S.2.1 S.2.2.2.2 in_PI S.2.2.2.1 hK hw.1 1 rfl rfl 4 (by decide) hln (fun _ h9 => h9) rfl hdg kk1
  · exact va_get (ci := 2) (v := .int 16) (C := R_SQ) (T := F_SQ) (N := 8) S.1 S.2.1 S.2.2.2.2 in_SQ S.2.2.2.1 hK hw.1 2 rfl rfl 4 (by decide) hln (fun _ h9 => h9) rfl hdg kk1
  · exact va_get (ci := 3) (v := .int 5) (C := R_ST) (T := F_ST) (N := 6) S.1 S.2.1 S.2.2.2.2 in_ST S.2.2.2.1 hK hw.1 3 rfl rfl 4 (by decide) hln (fun _ h9 => h9) rfl hdg kk1
end FK
end
section
/-! The mirrors: what each method computes, as pure functions; by wip/gen/gen.py out of the listing -/
def mi_UN_dropAll (N : Nat) (ct : Int32) (fx : Int32) : Option (Int32 × Int32) :=
  some ((0 : Int32), (0 : Int32))
def mi_UN_fixAll (N : Nat) (ct : Int32) (fx : Int32) : Option (Int32) :=
  some ct
def mi_UN_dropUnfixed (N : Nat) (ct : Int32) (fx : Int32) : Option (Int32) :=
  some fx
def mi_UN_begin (N : Nat) (ct : Int32) (sc : Nat → Int64) (sr : Nat → Int32) (u1 : Int64) : Option (Int32 × (Nat → Int64) × (Nat → Int32)) :=
  if (87 : Int32) ≤ ct then some (ct, sc, sr) else if ct < 0 ∨ 87 ≤ ct.toNatClampNeg then none else if (ct + (1 : Int32)) - (1 : Int32) < 0 ∨ 88 ≤ ((ct + (1 : Int32)) - (1 : Int32)).toNatClampNeg then none else if ct + (1 : Int32) < 0 ∨ 88 ≤ (ct + (1 : Int32)).toNatClampNeg then none else some (ct + (1 : Int32), vp_updL sc ct.toNatClampNeg u1, upd sr (ct + (1 : Int32)).toNatClampNeg (sr ((ct + (1 : Int32)) - (1 : Int32)).toNatClampNeg))
def mi_UN_addWay (N : Nat) (ct : Int32) (sr : Nat → Int32) (wy : Nat → Int64) (u1 : Int64) : Option ((Nat → Int32) × (Nat → Int64)) :=
  if ct < 0 ∨ 88 ≤ ct.toNatClampNeg then none else if ct ≤ 0 then some (sr, wy) else if (326 : Int32) ≤ sr ct.toNatClampNeg then some (sr, wy) else if sr ct.toNatClampNeg < 0 ∨ 326 ≤ (sr ct.toNatClampNeg).toNatClampNeg then none else some (upd sr ct.toNatClampNeg ((sr ct.toNatClampNeg) + (1 : Int32)), vp_updL wy (sr ct.toNatClampNeg).toNatClampNeg u1)
def mr_UN_haveWays_2  (y2 : Int32) : Option (Int32) :=
  some (1 : Int32)
def mb_UN_haveWays_2 (ct : Int32) (sr : Nat → Int32) (x2 : Int32) : Option ((Int32) ⊕ ((Int32) ⊕ (Int32))) :=
  if ct ≤ x2 then some (.inr (.inl x2)) else if x2 < 0 ∨ 88 ≤ x2.toNatClampNeg then none else if x2 + (1 : Int32) < 0 ∨ 88 ≤ (x2 + (1 : Int32)).toNatClampNeg then none else if sr x2.toNatClampNeg = sr (x2 + (1 : Int32)).toNatClampNeg then some (.inr (.inr (0 : Int32))) else some (.inl (x2 + 1))
def mi_UN_haveWays (N : Nat) (ct : Int32) (sr : Nat → Int32) : Option (Int32) :=
  (lp (mb_UN_haveWays_2 ct sr) N (0 : Int32)).bind (Sum.elim (mr_UN_haveWays_2) (fun z => some z))
def mr_UN_keptBy_27  (y27 : Int64 × Int32) : Option (Int64) :=
  some y27.1
def mb_UN_keptBy_27 (sr : Nat → Int32) (wy : Nat → Int64) (u1 : Int32) (u2 : Int64) (x27 : Int64 × Int32) : Option ((Int64 × Int32) ⊕ (Int64 × Int32)) :=
  if u1 + (1 : Int32) < 0 ∨ 88 ≤ (u1 + (1 : Int32)).toNatClampNeg then none else if sr (u1 + (1 : Int32)).toNatClampNeg ≤ x27.2 then some (.inr (x27.1, x27.2)) else if x27.2 < 0 ∨ 326 ≤ x27.2.toNatClampNeg then none else if (wy x27.2.toNatClampNeg) &&& (u2 ^^^ (-1 : Int64)) = (0 : Int64) then some (.inl (x27.1 ||| (wy x27.2.toNatClampNeg), x27.2 + 1)) else some (.inl (x27.1, x27.2 + 1))
def mi_UN_keptBy (N : Nat) (sc : Nat → Int64) (sr : Nat → Int32) (wy : Nat → Int64) (u1 : Int32) (u2 : Int64) : Option (Int64) :=
  if u1 < 0 ∨ 87 ≤ u1.toNatClampNeg then none else if u1 < 0 ∨ 88 ≤ u1.toNatClampNeg then none else (lp (mb_UN_keptBy_27 sr wy u1 u2) N ((sc u1.toNatClampNeg) ^^^ (-1 : Int64), sr u1.toNatClampNeg)).bind (mr_UN_keptBy_27)
def mr_UN_keptAtOnce_5  (y5 : Int64 × Int32) : Option (Int64) :=
  some y5.1
def mb_UN_keptAtOnce_5 (N : Nat) (ct : Int32) (sc : Nat → Int64) (sr : Nat → Int32) (wy : Nat → Int64) (u1 : Int64) (x5 : Int64 × Int32) : Option ((Int64 × Int32) ⊕ (Int64 × Int32)) :=
  if ct ≤ x5.2 then some (.inr (x5.1, x5.2)) else (mi_UN_keptBy N sc sr wy x5.2 u1).bind fun r19 => some (.inl (x5.1 &&& r19, x5.2 + 1))
def mi_UN_keptAtOnce (N : Nat) (ct : Int32) (sc : Nat → Int64) (sr : Nat → Int32) (wy : Nat → Int64) (u1 : Int64) : Option (Int64) :=
  (lp (mb_UN_keptAtOnce_5 N ct sc sr wy u1) N (u1, (0 : Int32))).bind (mr_UN_keptAtOnce_5)
def mr_UN_narrow_9  (y9 : Int64 × Int64 × Int32) : Option (Int64) :=
  some y9.1
def mr_UN_narrow_30 (x9 : Int64 × Int64 × Int32) (y30 : Int64 × Int32) : Option ((Int64 × Int64 × Int32) ⊕ ((Int64 × Int64 × Int32) ⊕ (Int64))) :=
  some (.inl (y30.1, x9.1 &&& (y30.1 ^^^ (-1 : Int64)), x9.2.2 + 1))
def mb_UN_narrow_30 (N : Nat) (ct : Int32) (sc : Nat → Int64) (sr : Nat → Int32) (wy : Nat → Int64) (x9 : Int64 × Int64 × Int32) (x30 : Int64 × Int32) : Option ((Int64 × Int32) ⊕ ((Int64 × Int32) ⊕ (Int64))) :=
  if ct ≤ x30.2 then some (.inr (.inl (x30.1, x30.2))) else if x30.2 < 0 ∨ 87 ≤ x30.2.toNatClampNeg then none else if (sc x30.2.toNatClampNeg) &&& x9.2.1 = (0 : Int64) then some (.inl (x30.1, x30.2 + 1)) else (mi_UN_keptBy N sc sr wy x30.2 x30.1).bind fun r61 => if (x30.1 &&& r61) &&& (sc x30.2.toNatClampNeg) = (0 : Int64) then some (.inr (.inr (0 : Int64))) else some (.inl (x30.1 &&& r61, x30.2 + 1))
def mb_UN_narrow_9 (N : Nat) (ct : Int32) (sc : Nat → Int64) (sr : Nat → Int32) (wy : Nat → Int64) (x9 : Int64 × Int64 × Int32) : Option ((Int64 × Int64 × Int32) ⊕ ((Int64 × Int64 × Int32) ⊕ (Int64))) :=
  if (64 : Int32) < x9.2.2 then some (.inr (.inl (x9.1, x9.2.1, x9.2.2))) else if x9.2.1 = (0 : Int64) then some (.inr (.inl (x9.1, x9.2.1, x9.2.2))) else (lp (mb_UN_narrow_30 N ct sc sr wy x9) N (x9.1, (0 : Int32))).bind (Sum.elim (mr_UN_narrow_30 x9) (fun z => some (.inr (.inr z))))
def mi_UN_narrow (N : Nat) (ct : Int32) (sc : Nat → Int64) (sr : Nat → Int32) (wy : Nat → Int64) (u1 : Int64) (u3 : Int64) : Option (Int64) :=
  (lp (mb_UN_narrow_9 N ct sc sr wy) N (u1, u3, (0 : Int32))).bind (Sum.elim (mr_UN_narrow_9) (fun z => some z))
def mi_JI_bitCount (N : Nat) (u0 : Int32) : Option (Int32) :=
  some ((((((((u0 - (((u0.toUInt32 >>> ((1 : Int32).toUInt32 &&& Int32.toUInt32 31)).toInt32) &&& (1431655765 : Int32))) &&& (858993459 : Int32)) + ((((u0 - (((u0.toUInt32 >>> ((1 : Int32).toUInt32 &&& Int32.toUInt32 31)).toInt32) &&& (1431655765 : Int32))).toUInt32 >>> ((2 : Int32).toUInt32 &&& Int32.toUInt32 31)).toInt32) &&& (858993459 : Int32))) + (((((u0 - (((u0.toUInt32 >>> ((1 : Int32).toUInt32 &&& Int32.toUInt32 31)).toInt32) &&& (1431655765 : Int32))) &&& (858993459 : Int32)) + ((((u0 - (((u0.toUInt32 >>> ((1 : Int32).toUInt32 &&& Int32.toUInt32 31)).toInt32) &&& (1431655765 : Int32))).toUInt32 >>> ((2 : Int32).toUInt32 &&& Int32.toUInt32 31)).toInt32) &&& (858993459 : Int32))).toUInt32 >>> ((4 : Int32).toUInt32 &&& Int32.toUInt32 31)).toInt32)) &&& (252645135 : Int32)) + (((((((u0 - (((u0.toUInt32 >>> ((1 : Int32).toUInt32 &&& Int32.toUInt32 31)).toInt32) &&& (1431655765 : Int32))) &&& (858993459 : Int32)) + ((((u0 - (((u0.toUInt32 >>> ((1 : Int32).toUInt32 &&& Int32.toUInt32 31)).toInt32) &&& (1431655765 : Int32))).toUInt32 >>> ((2 : Int32).toUInt32 &&& Int32.toUInt32 31)).toInt32) &&& (858993459 : Int32))) + (((((u0 - (((u0.toUInt32 >>> ((1 : Int32).toUInt32 &&& Int32.toUInt32 31)).toInt32) &&& (1431655765 : Int32))) &&& (858993459 : Int32)) + ((((u0 - (((u0.toUInt32 >>> ((1 : Int32).toUInt32 &&& Int32.toUInt32 31)).toInt32) &&& (1431655765 : Int32))).toUInt32 >>> ((2 : Int32).toUInt32 &&& Int32.toUInt32 31)).toInt32) &&& (858993459 : Int32))).toUInt32 >>> ((4 : Int32).toUInt32 &&& Int32.toUInt32 31)).toInt32)) &&& (252645135 : Int32)).toUInt32 >>> ((8 : Int32).toUInt32 &&& Int32.toUInt32 31)).toInt32)) + ((((((((u0 - (((u0.toUInt32 >>> ((1 : Int32).toUInt32 &&& Int32.toUInt32 31)).toInt32) &&& (1431655765 : Int32))) &&& (858993459 : Int32)) + ((((u0 - (((u0.toUInt32 >>> ((1 : Int32).toUInt32 &&& Int32.toUInt32 31)).toInt32) &&& (1431655765 : Int32))).toUInt32 >>> ((2 : Int32).toUInt32 &&& Int32.toUInt32 31)).toInt32) &&& (858993459 : Int32))) + (((((u0 - (((u0.toUInt32 >>> ((1 : Int32).toUInt32 &&& Int32.toUInt32 31)).toInt32) &&& (1431655765 : Int32))) &&& (858993459 : Int32)) + ((((u0 - (((u0.toUInt32 >>> ((1 : Int32).toUInt32 &&& Int32.toUInt32 31)).toInt32) &&& (1431655765 : Int32))).toUInt32 >>> ((2 : Int32).toUInt32 &&& Int32.toUInt32 31)).toInt32) &&& (858993459 : Int32))).toUInt32 >>> ((4 : Int32).toUInt32 &&& Int32.toUInt32 31)).toInt32)) &&& (252645135 : Int32)) + (((((((u0 - (((u0.toUInt32 >>> ((1 : Int32).toUInt32 &&& Int32.toUInt32 31)).toInt32) &&& (1431655765 : Int32))) &&& (858993459 : Int32)) + ((((u0 - (((u0.toUInt32 >>> ((1 : Int32).toUInt32 &&& Int32.toUInt32 31)).toInt32) &&& (1431655765 : Int32))).toUInt32 >>> ((2 : Int32).toUInt32 &&& Int32.toUInt32 31)).toInt32) &&& (858993459 : Int32))) + (((((u0 - (((u0.toUInt32 >>> ((1 : Int32).toUInt32 &&& Int32.toUInt32 31)).toInt32) &&& (1431655765 : Int32))) &&& (858993459 : Int32)) + ((((u0 - (((u0.toUInt32 >>> ((1 : Int32).toUInt32 &&& Int32.toUInt32 31)).toInt32) &&& (1431655765 : Int32))).toUInt32 >>> ((2 : Int32).toUInt32 &&& Int32.toUInt32 31)).toInt32) &&& (858993459 : Int32))).toUInt32 >>> ((4 : Int32).toUInt32 &&& Int32.toUInt32 31)).toInt32)) &&& (252645135 : Int32)).toUInt32 >>> ((8 : Int32).toUInt32 &&& Int32.toUInt32 31)).toInt32)).toUInt32 >>> ((16 : Int32).toUInt32 &&& Int32.toUInt32 31)).toInt32)) &&& (63 : Int32))
def mi_JL_bitCount (N : Nat) (u0 : Int64) : Option (Int32) :=
  some ((((((((((u0 - (((u0.toUInt64 >>> ((1 : Int32).toInt64.toUInt64 &&& Int64.toUInt64 63)).toInt64) &&& (6148914691236517205 : Int64))) &&& (3689348814741910323 : Int64)) + ((((u0 - (((u0.toUInt64 >>> ((1 : Int32).toInt64.toUInt64 &&& Int64.toUInt64 63)).toInt64) &&& (6148914691236517205 : Int64))).toUInt64 >>> ((2 : Int32).toInt64.toUInt64 &&& Int64.toUInt64 63)).toInt64) &&& (3689348814741910323 : Int64))) + (((((u0 - (((u0.toUInt64 >>> ((1 : Int32).toInt64.toUInt64 &&& Int64.toUInt64 63)).toInt64) &&& (6148914691236517205 : Int64))) &&& (3689348814741910323 : Int64)) + ((((u0 - (((u0.toUInt64 >>> ((1 : Int32).toInt64.toUInt64 &&& Int64.toUInt64 63)).toInt64) &&& (6148914691236517205 : Int64))).toUInt64 >>> ((2 : Int32).toInt64.toUInt64 &&& Int64.toUInt64 63)).toInt64) &&& (3689348814741910323 : Int64))).toUInt64 >>> ((4 : Int32).toInt64.toUInt64 &&& Int64.toUInt64 63)).toInt64)) &&& (1085102592571150095 : Int64)) + (((((((u0 - (((u0.toUInt64 >>> ((1 : Int32).toInt64.toUInt64 &&& Int64.toUInt64 63)).toInt64) &&& (6148914691236517205 : Int64))) &&& (3689348814741910323 : Int64)) + ((((u0 - (((u0.toUInt64 >>> ((1 : Int32).toInt64.toUInt64 &&& Int64.toUInt64 63)).toInt64) &&& (6148914691236517205 : Int64))).toUInt64 >>> ((2 : Int32).toInt64.toUInt64 &&& Int64.toUInt64 63)).toInt64) &&& (3689348814741910323 : Int64))) + (((((u0 - (((u0.toUInt64 >>> ((1 : Int32).toInt64.toUInt64 &&& Int64.toUInt64 63)).toInt64) &&& (6148914691236517205 : Int64))) &&& (3689348814741910323 : Int64)) + ((((u0 - (((u0.toUInt64 >>> ((1 : Int32).toInt64.toUInt64 &&& Int64.toUInt64 63)).toInt64) &&& (6148914691236517205 : Int64))).toUInt64 >>> ((2 : Int32).toInt64.toUInt64 &&& Int64.toUInt64 63)).toInt64) &&& (3689348814741910323 : Int64))).toUInt64 >>> ((4 : Int32).toInt64.toUInt64 &&& Int64.toUInt64 63)).toInt64)) &&& (1085102592571150095 : Int64)).toUInt64 >>> ((8 : Int32).toInt64.toUInt64 &&& Int64.toUInt64 63)).toInt64)) + ((((((((u0 - (((u0.toUInt64 >>> ((1 : Int32).toInt64.toUInt64 &&& Int64.toUInt64 63)).toInt64) &&& (6148914691236517205 : Int64))) &&& (3689348814741910323 : Int64)) + ((((u0 - (((u0.toUInt64 >>> ((1 : Int32).toInt64.toUInt64 &&& Int64.toUInt64 63)).toInt64) &&& (6148914691236517205 : Int64))).toUInt64 >>> ((2 : Int32).toInt64.toUInt64 &&& Int64.toUInt64 63)).toInt64) &&& (3689348814741910323 : Int64))) + (((((u0 - (((u0.toUInt64 >>> ((1 : Int32).toInt64.toUInt64 &&& Int64.toUInt64 63)).toInt64) &&& (6148914691236517205 : Int64))) &&& (3689348814741910323 : Int64)) + ((((u0 - (((u0.toUInt64 >>> ((1 : Int32).toInt64.toUInt64 &&& Int64.toUInt64 63)).toInt64) &&& (6148914691236517205 : Int64))).toUInt64 >>> ((2 : Int32).toInt64.toUInt64 &&& Int64.toUInt64 63)).toInt64) &&& (3689348814741910323 : Int64))).toUInt64 >>> ((4 : Int32).toInt64.toUInt64 &&& Int64.toUInt64 63)).toInt64)) &&& (1085102592571150095 : Int64)) + (((((((u0 - (((u0.toUInt64 >>> ((1 : Int32).toInt64.toUInt64 &&& Int64.toUInt64 63)).toInt64) &&& (6148914691236517205 : Int64))) &&& (3689348814741910323 : Int64)) + ((((u0 - (((u0.toUInt64 >>> ((1 : Int32).toInt64.toUInt64 &&& Int64.toUInt64 63)).toInt64) &&& (6148914691236517205 : Int64))).toUInt64 >>> ((2 : Int32).toInt64.toUInt64 &&& Int64.toUInt64 63)).toInt64) &&& (3689348814741910323 : Int64))) + (((((u0 - (((u0.toUInt64 >>> ((1 : Int32).toInt64.toUInt64 &&& Int64.toUInt64 63)).toInt64) &&& (6148914691236517205 : Int64))) &&& (3689348814741910323 : Int64)) + ((((u0 - (((u0.toUInt64 >>> ((1 : Int32).toInt64.toUInt64 &&& Int64.toUInt64 63)).toInt64) &&& (6148914691236517205 : Int64))).toUInt64 >>> ((2 : Int32).toInt64.toUInt64 &&& Int64.toUInt64 63)).toInt64) &&& (3689348814741910323 : Int64))).toUInt64 >>> ((4 : Int32).toInt64.toUInt64 &&& Int64.toUInt64 63)).toInt64)) &&& (1085102592571150095 : Int64)).toUInt64 >>> ((8 : Int32).toInt64.toUInt64 &&& Int64.toUInt64 63)).toInt64)).toUInt64 >>> ((16 : Int32).toInt64.toUInt64 &&& Int64.toUInt64 63)).toInt64)) + (((((((((u0 - (((u0.toUInt64 >>> ((1 : Int32).toInt64.toUInt64 &&& Int64.toUInt64 63)).toInt64) &&& (6148914691236517205 : Int64))) &&& (3689348814741910323 : Int64)) + ((((u0 - (((u0.toUInt64 >>> ((1 : Int32).toInt64.toUInt64 &&& Int64.toUInt64 63)).toInt64) &&& (6148914691236517205 : Int64))).toUInt64 >>> ((2 : Int32).toInt64.toUInt64 &&& Int64.toUInt64 63)).toInt64) &&& (3689348814741910323 : Int64))) + (((((u0 - (((u0.toUInt64 >>> ((1 : Int32).toInt64.toUInt64 &&& Int64.toUInt64 63)).toInt64) &&& (6148914691236517205 : Int64))) &&& (3689348814741910323 : Int64)) + ((((u0 - (((u0.toUInt64 >>> ((1 : Int32).toInt64.toUInt64 &&& Int64.toUInt64 63)).toInt64) &&& (6148914691236517205 : Int64))).toUInt64 >>> ((2 : Int32).toInt64.toUInt64 &&& Int64.toUInt64 63)).toInt64) &&& (3689348814741910323 : Int64))).toUInt64 >>> ((4 : Int32).toInt64.toUInt64 &&& Int64.toUInt64 63)).toInt64)) &&& (1085102592571150095 : Int64)) + (((((((u0 - (((u0.toUInt64 >>> ((1 : Int32).toInt64.toUInt64 &&& Int64.toUInt64 63)).toInt64) &&& (6148914691236517205 : Int64))) &&& (3689348814741910323 : Int64)) + ((((u0 - (((u0.toUInt64 >>> ((1 : Int32).toInt64.toUInt64 &&& Int64.toUInt64 63)).toInt64) &&& (6148914691236517205 : Int64))).toUInt64 >>> ((2 : Int32).toInt64.toUInt64 &&& Int64.toUInt64 63)).toInt64) &&& (3689348814741910323 : Int64))) + (((((u0 - (((u0.toUInt64 >>> ((1 : Int32).toInt64.toUInt64 &&& Int64.toUInt64 63)).toInt64) &&& (6148914691236517205 : Int64))) &&& (3689348814741910323 : Int64)) + ((((u0 - (((u0.toUInt64 >>> ((1 : Int32).toInt64.toUInt64 &&& Int64.toUInt64 63)).toInt64) &&& (6148914691236517205 : Int64))).toUInt64 >>> ((2 : Int32).toInt64.toUInt64 &&& Int64.toUInt64 63)).toInt64) &&& (3689348814741910323 : Int64))).toUInt64 >>> ((4 : Int32).toInt64.toUInt64 &&& Int64.toUInt64 63)).toInt64)) &&& (1085102592571150095 : Int64)).toUInt64 >>> ((8 : Int32).toInt64.toUInt64 &&& Int64.toUInt64 63)).toInt64)) + ((((((((u0 - (((u0.toUInt64 >>> ((1 : Int32).toInt64.toUInt64 &&& Int64.toUInt64 63)).toInt64) &&& (6148914691236517205 : Int64))) &&& (3689348814741910323 : Int64)) + ((((u0 - (((u0.toUInt64 >>> ((1 : Int32).toInt64.toUInt64 &&& Int64.toUInt64 63)).toInt64) &&& (6148914691236517205 : Int64))).toUInt64 >>> ((2 : Int32).toInt64.toUInt64 &&& Int64.toUInt64 63)).toInt64) &&& (3689348814741910323 : Int64))) + (((((u0 - (((u0.toUInt64 >>> ((1 : Int32).toInt64.toUInt64 &&& Int64.toUInt64 63)).toInt64) &&& (6148914691236517205 : Int64))) &&& (3689348814741910323 : Int64)) + ((((u0 - (((u0.toUInt64 >>> ((1 : Int32).toInt64.toUInt64 &&& Int64.toUInt64 63)).toInt64) &&& (6148914691236517205 : Int64))).toUInt64 >>> ((2 : Int32).toInt64.toUInt64 &&& Int64.toUInt64 63)).toInt64) &&& (3689348814741910323 : Int64))).toUInt64 >>> ((4 : Int32).toInt64.toUInt64 &&& Int64.toUInt64 63)).toInt64)) &&& (1085102592571150095 : Int64)) + (((((((u0 - (((u0.toUInt64 >>> ((1 : Int32).toInt64.toUInt64 &&& Int64.toUInt64 63)).toInt64) &&& (6148914691236517205 : Int64))) &&& (3689348814741910323 : Int64)) + ((((u0 - (((u0.toUInt64 >>> ((1 : Int32).toInt64.toUInt64 &&& Int64.toUInt64 63)).toInt64) &&& (6148914691236517205 : Int64))).toUInt64 >>> ((2 : Int32).toInt64.toUInt64 &&& Int64.toUInt64 63)).toInt64) &&& (3689348814741910323 : Int64))) + (((((u0 - (((u0.toUInt64 >>> ((1 : Int32).toInt64.toUInt64 &&& Int64.toUInt64 63)).toInt64) &&& (6148914691236517205 : Int64))) &&& (3689348814741910323 : Int64)) + ((((u0 - (((u0.toUInt64 >>> ((1 : Int32).toInt64.toUInt64 &&& Int64.toUInt64 63)).toInt64) &&& (6148914691236517205 : Int64))).toUInt64 >>> ((2 : Int32).toInt64.toUInt64 &&& Int64.toUInt64 63)).toInt64) &&& (3689348814741910323 : Int64))).toUInt64 >>> ((4 : Int32).toInt64.toUInt64 &&& Int64.toUInt64 63)).toInt64)) &&& (1085102592571150095 : Int64)).toUInt64 >>> ((8 : Int32).toInt64.toUInt64 &&& Int64.toUInt64 63)).toInt64)).toUInt64 >>> ((16 : Int32).toInt64.toUInt64 &&& Int64.toUInt64 63)).toInt64)).toUInt64 >>> ((32 : Int32).toInt64.toUInt64 &&& Int64.toUInt64 63)).toInt64)).toInt32) &&& (127 : Int32))
def mi_KD_firstOf (N : Nat) (u0 : Int32) : Option (Int32) :=
  (mi_JI_bitCount N ((u0 &&& (-u0)) - (1 : Int32))).bind fun r6 => some r6
def mi_KD_hasCell (N : Nat) (kr : Nat) (u1 : Int32) : Option (Int32) :=
  if u1 < 0 then some (0 : Int32) else if k_cells kr ≤ u1 then some (0 : Int32) else some (1 : Int32)
def mi_KD_hasValue (N : Nat) (kr : Nat) (u1 : Int32) : Option (Int32) :=
  if u1 < k_least kr then some (0 : Int32) else if (k_least kr) + (k_values kr) ≤ u1 then some (0 : Int32) else some (1 : Int32)
def mi_KD_bit (N : Nat) (kr : Nat) (u1 : Int32) (u2 : Int32) : Option (Int64) :=
  some ((1 : Int64) <<< ((((u1 * (k_values kr)) + u2) - (k_least kr)).toInt64 &&& 63))
def mi_KD_allOf (N : Nat) (kr : Nat) (u1 : Int32) : Option (Int64) :=
  some ((((1 : Int64) <<< ((k_values kr).toInt64 &&& 63)) - (1 : Int64)) <<< ((u1 * (k_values kr)).toInt64 &&& 63))
def mr_KD_cellOf_2  (y2 : Int32) : Option (Int32) :=
  some (-1 : Int32)
def mb_KD_cellOf_2 (N : Nat) (kr : Nat) (u1 : Int64) (x2 : Int32) : Option ((Int32) ⊕ ((Int32) ⊕ (Int32))) :=
  if k_cells kr ≤ x2 then some (.inr (.inl x2)) else (mi_KD_allOf N kr x2).bind fun r13 => if u1 &&& r13 = (0 : Int64) then some (.inl (x2 + 1)) else some (.inr (.inr x2))
def mi_KD_cellOf (N : Nat) (kr : Nat) (u1 : Int64) : Option (Int32) :=
  (lp (mb_KD_cellOf_2 N kr u1) N (0 : Int32)).bind (Sum.elim (mr_KD_cellOf_2) (fun z => some z))
def mi_KD_valuesIn (N : Nat) (kr : Nat) (u1 : Int64) (u3 : Int32) : Option (Int32) :=
  (mi_KD_allOf N kr u3).bind fun r3 => some (((((u1 &&& r3).toUInt64 >>> ((u3 * (k_values kr)).toInt64.toUInt64 &&& Int64.toUInt64 63)).toInt64).toInt32) <<< ((k_least kr) &&& 31))
def mi_KD_valueIn (N : Nat) (kr : Nat) (u1 : Int64) (u3 : Int32) : Option (Int32) :=
  (mi_KD_valuesIn N kr u1 u3).bind fun r3 => (mi_KD_firstOf N r3).bind fun r6 => some r6
def mr_KD_rowCells_4  (y4 : Int32 × Int32) : Option (Int32) :=
  some y4.1
def mb_KD_rowCells_4 (kr : Nat) (u1 : Int32) (x4 : Int32 × Int32) : Option ((Int32 × Int32) ⊕ (Int32 × Int32)) :=
  if k_side kr ≤ x4.2 then some (.inr (x4.1, x4.2)) else some (.inl (x4.1 ||| ((1 : Int32) <<< (((u1 * (k_side kr)) + x4.2) &&& 31)), x4.2 + 1))
def mi_KD_rowCells (N : Nat) (kr : Nat) (u1 : Int32) : Option (Int32) :=
  (lp (mb_KD_rowCells_4 kr u1) N ((0 : Int32), (0 : Int32))).bind (mr_KD_rowCells_4)
def mr_KD_columnCells_4  (y4 : Int32 × Int32) : Option (Int32) :=
  some y4.1
def mb_KD_columnCells_4 (kr : Nat) (u1 : Int32) (x4 : Int32 × Int32) : Option ((Int32 × Int32) ⊕ (Int32 × Int32)) :=
  if k_side kr ≤ x4.2 then some (.inr (x4.1, x4.2)) else some (.inl (x4.1 ||| ((1 : Int32) <<< (((x4.2 * (k_side kr)) + u1) &&& 31)), x4.2 + 1))
def mi_KD_columnCells (N : Nat) (kr : Nat) (u1 : Int32) : Option (Int32) :=
  (lp (mb_KD_columnCells_4 kr u1) N ((0 : Int32), (0 : Int32))).bind (mr_KD_columnCells_4)
def mr_KD_scopeOf_5  (y5 : Int64 × Int32) : Option (Int64) :=
  some y5.1
def mb_KD_scopeOf_5 (N : Nat) (kr : Nat) (u1 : Int32) (x5 : Int64 × Int32) : Option ((Int64 × Int32) ⊕ (Int64 × Int32)) :=
  if k_cells kr ≤ x5.2 then some (.inr (x5.1, x5.2)) else if (u1 >>> (x5.2 &&& 31)) &&& (1 : Int32) = (1 : Int32) then (mi_KD_allOf N kr x5.2).bind fun r28 => some (.inl (x5.1 ||| r28, x5.2 + 1)) else some (.inl (x5.1, x5.2 + 1))
def mi_KD_scopeOf (N : Nat) (kr : Nat) (u1 : Int32) : Option (Int64) :=
  (lp (mb_KD_scopeOf_5 N kr u1) N ((0 : Int64), (0 : Int32))).bind (mr_KD_scopeOf_5)
def mr_KD_membersOf_SQ_4  (y4 : Int32 × Int32) : Option (Int32) :=
  some y4.1
def mb_KD_membersOf_SQ_4 (sg : Nat → Int32) (u1 : Int32) (x4 : Int32 × Int32) : Option ((Int32 × Int32) ⊕ (Int32 × Int32)) :=
  if (16 : Int32) ≤ x4.2 then some (.inr (x4.1, x4.2)) else if x4.2 < 0 ∨ 16 ≤ x4.2.toNatClampNeg then none else if sg x4.2.toNatClampNeg = u1 then some (.inl (x4.1 ||| ((1 : Int32) <<< (x4.2 &&& 31)), x4.2 + 1)) else some (.inl (x4.1, x4.2 + 1))
def mi_KD_membersOf_SQ (N : Nat) (sg : Nat → Int32) (u1 : Int32) : Option (Int32) :=
  (lp (mb_KD_membersOf_SQ_4 sg u1) N ((0 : Int32), (0 : Int32))).bind (mr_KD_membersOf_SQ_4)
def mr_KD_membersOf_ST_4  (y4 : Int32 × Int32) : Option (Int32) :=
  some y4.1
def mb_KD_membersOf_ST_4 (tg : Nat → Int32) (u1 : Int32) (x4 : Int32 × Int32) : Option ((Int32 × Int32) ⊕ (Int32 × Int32)) :=
  if (25 : Int32) ≤ x4.2 then some (.inr (x4.1, x4.2)) else if x4.2 < 0 ∨ 25 ≤ x4.2.toNatClampNeg then none else if tg x4.2.toNatClampNeg = u1 then some (.inl (x4.1 ||| ((1 : Int32) <<< (x4.2 &&& 31)), x4.2 + 1)) else some (.inl (x4.1, x4.2 + 1))
def mi_KD_membersOf_ST (N : Nat) (tg : Nat → Int32) (u1 : Int32) : Option (Int32) :=
  (lp (mb_KD_membersOf_ST_4 tg u1) N ((0 : Int32), (0 : Int32))).bind (mr_KD_membersOf_ST_4)
def mr_PI_readClue_6  (y6 : Int32 × Int32 × Int32) : Option (Int32) :=
  some y6.1
def mb_PI_readClue_6 (u0 : Int32) (x6 : Int32 × Int32 × Int32) : Option ((Int32 × Int32 × Int32) ⊕ (Int32 × Int32 × Int32)) :=
  if (5 : Int32) < x6.2.2 then some (.inr (x6.1, x6.2.1, x6.2.2)) else if (u0 >>> (x6.2.2 &&& 31)) &&& (1 : Int32) = (1 : Int32) then some (.inl (x6.1, x6.2.1 + 1, x6.2.2 + 1)) else if x6.2.1 ≤ 0 then some (.inl (x6.1, x6.2.1, x6.2.2 + 1)) else some (.inl (((10 : Int32) * x6.1) + x6.2.1, (0 : Int32), x6.2.2 + 1))
def mi_PI_readClue (N : Nat) (u0 : Int32) : Option (Int32) :=
  (lp (mb_PI_readClue_6 u0) N ((0 : Int32), (0 : Int32), (0 : Int32))).bind (mr_PI_readClue_6)
def mr_PI_makeNew_2  (y2 : Int32 × (Nat → Int32)) : Option ((Nat → Int32)) :=
  some y2.2
def mb_PI_makeNew_2  (x2 : Int32 × (Nat → Int32)) : Option ((Int32 × (Nat → Int32)) ⊕ (Int32 × (Nat → Int32))) :=
  if (10 : Int32) ≤ x2.1 then some (.inr (x2.1, x2.2)) else if x2.1 < 0 ∨ 10 ≤ x2.1.toNatClampNeg then none else some (.inl (x2.1 + 1, upd x2.2 x2.1.toNatClampNeg (0 : Int32)))
def mi_PI_makeNew (N : Nat) (cu : Nat → Int32) : Option ((Nat → Int32)) :=
  (lp (mb_PI_makeNew_2) N ((0 : Int32), cu)).bind (mr_PI_makeNew_2)
def mi_PI_addFixedUnits (N : Nat) : Option (Unit) :=
  some ()
def mr_PI_isClue_2  (y2 : Int32) : Option (Int32) :=
  some (0 : Int32)
def mb_PI_isClue_2 (co : Nat → Int32) (u1 : Int32) (x2 : Int32) : Option ((Int32) ⊕ ((Int32) ⊕ (Int32))) :=
  if (32 : Int32) ≤ x2 then some (.inr (.inl x2)) else if x2 < 0 ∨ 32 ≤ x2.toNatClampNeg then none else if co x2.toNatClampNeg = u1 then some (.inr (.inr (1 : Int32))) else some (.inl (x2 + 1))
def mi_PI_isClue (N : Nat) (co : Nat → Int32) (u1 : Int32) : Option (Int32) :=
  (lp (mb_PI_isClue_2 co u1) N (0 : Int32)).bind (Sum.elim (mr_PI_isClue_2) (fun z => some z))
def mr_PI_wayOf_5  (y5 : Int64 × Int32) : Option (Int64) :=
  some y5.1
def mj_PI_wayOf_33 (N : Nat) (u2 : Int32) (x5 : Int64 × Int32) (j33s0 : Int32) : Option ((Int64 × Int32) ⊕ (Int64 × Int32)) :=
  (mi_KD_bit N 1 j33s0 ((u2 >>> (x5.2 &&& 31)) &&& (1 : Int32))).bind fun r45 => some (.inl (x5.1 ||| r45, x5.2 + 1))
def mb_PI_wayOf_5 (N : Nat) (u1 : Int32) (u2 : Int32) (x5 : Int64 × Int32) : Option ((Int64 × Int32) ⊕ (Int64 × Int32)) :=
  if (5 : Int32) ≤ x5.2 then some (.inr (x5.1, x5.2)) else if (5 : Int32) ≤ u1 then mj_PI_wayOf_33 N u2 x5 (((x5.2 * (5 : Int32)) + u1) - (5 : Int32)) else mj_PI_wayOf_33 N u2 x5 ((u1 * (5 : Int32)) + x5.2)
def mi_PI_wayOf (N : Nat) (u1 : Int32) (u2 : Int32) : Option (Int64) :=
  (lp (mb_PI_wayOf_5 N u1 u2) N ((0 : Int64), (0 : Int32))).bind (mr_PI_wayOf_5)
def mr_PI_addOtherUnits_2  (y2 : Int32 × Int32 × (Nat → Int64) × (Nat → Int32) × (Nat → Int64)) : Option (Int32 × (Nat → Int64) × (Nat → Int32) × (Nat → Int64)) :=
  some (y2.2.1, y2.2.2.1, y2.2.2.2.1, y2.2.2.2.2)
def mr_PI_addOtherUnits_38 (x2 : Int32 × Int32 × (Nat → Int64) × (Nat → Int32) × (Nat → Int64)) (r33 : Int32 × (Nat → Int64) × (Nat → Int32)) (y38 : Int32 × (Nat → Int32) × (Nat → Int64)) : Option ((Int32 × Int32 × (Nat → Int64) × (Nat → Int32) × (Nat → Int64)) ⊕ (Int32 × Int32 × (Nat → Int64) × (Nat → Int32) × (Nat → Int64))) :=
  some (.inl (x2.1 + 1, r33.1, r33.2.1, y38.2.1, y38.2.2))
def mb_PI_addOtherUnits_38 (N : Nat) (cu : Nat → Int32) (co : Nat → Int32) (x2 : Int32 × Int32 × (Nat → Int64) × (Nat → Int32) × (Nat → Int64)) (r33 : Int32 × (Nat → Int64) × (Nat → Int32)) (x38 : Int32 × (Nat → Int32) × (Nat → Int64)) : Option ((Int32 × (Nat → Int32) × (Nat → Int64)) ⊕ (Int32 × (Nat → Int32) × (Nat → Int64))) :=
  if (32 : Int32) ≤ x38.1 then some (.inr (x38.1, x38.2.1, x38.2.2)) else if x38.1 < 0 ∨ 32 ≤ x38.1.toNatClampNeg then none else if x2.1 < 0 ∨ 10 ≤ x2.1.toNatClampNeg then none else if co x38.1.toNatClampNeg = cu x2.1.toNatClampNeg then (mi_PI_wayOf N x2.1 x38.1).bind fun r63 => (mi_UN_addWay N r33.1 x38.2.1 x38.2.2 r63).bind fun r66 => some (.inl (x38.1 + 1, r66.1, r66.2)) else some (.inl (x38.1 + 1, x38.2.1, x38.2.2))
def mj_PI_addOtherUnits_30 (N : Nat) (cu : Nat → Int32) (co : Nat → Int32) (x2 : Int32 × Int32 × (Nat → Int64) × (Nat → Int32) × (Nat → Int64)) (j30s2 : Int32) : Option ((Int32 × Int32 × (Nat → Int64) × (Nat → Int32) × (Nat → Int64)) ⊕ (Int32 × Int32 × (Nat → Int64) × (Nat → Int32) × (Nat → Int64))) :=
  (mi_KD_scopeOf N 1 j30s2).bind fun r30 => (mi_UN_begin N x2.2.1 x2.2.2.1 x2.2.2.2.1 r30).bind fun r33 => (lp (mb_PI_addOtherUnits_38 N cu co x2 r33) N ((0 : Int32), r33.2.2, x2.2.2.2.2)).bind (mr_PI_addOtherUnits_38 x2 r33)
def mb_PI_addOtherUnits_2 (N : Nat) (cu : Nat → Int32) (co : Nat → Int32) (x2 : Int32 × Int32 × (Nat → Int64) × (Nat → Int32) × (Nat → Int64)) : Option ((Int32 × Int32 × (Nat → Int64) × (Nat → Int32) × (Nat → Int64)) ⊕ (Int32 × Int32 × (Nat → Int64) × (Nat → Int32) × (Nat → Int64))) :=
  if (10 : Int32) ≤ x2.1 then some (.inr (x2.1, x2.2.1, x2.2.2.1, x2.2.2.2.1, x2.2.2.2.2)) else if (5 : Int32) ≤ x2.1 then (mi_KD_columnCells N 1 (x2.1 - (5 : Int32))).bind fun r27 => mj_PI_addOtherUnits_30 N cu co x2 r27 else (mi_KD_rowCells N 1 x2.1).bind fun r17 => mj_PI_addOtherUnits_30 N cu co x2 r17
def mi_PI_addOtherUnits (N : Nat) (ct : Int32) (cu : Nat → Int32) (co : Nat → Int32) (sc : Nat → Int64) (sr : Nat → Int32) (wy : Nat → Int64) : Option (Int32 × (Nat → Int64) × (Nat → Int32) × (Nat → Int64)) :=
  (lp (mb_PI_addOtherUnits_2 N cu co) N ((0 : Int32), ct, sc, sr, wy)).bind (mr_PI_addOtherUnits_2)
def mi_SQ_isRule (N : Nat) (u0 : Int32) : Option (Int32) :=
  if u0 = 0 then some (1 : Int32) else if u0 = (1 : Int32) then some (1 : Int32) else if u0 = (2 : Int32) then some (1 : Int32) else some (0 : Int32)
def mr_SQ_makeNew_2  (y2 : Int32 × (Nat → Int32) × (Nat → Int32) × (Nat → Int32)) : Option ((Nat → Int32) × (Nat → Int32) × (Nat → Int32)) :=
  some (y2.2.1, y2.2.2.1, y2.2.2.2)
def mb_SQ_makeNew_2  (x2 : Int32 × (Nat → Int32) × (Nat → Int32) × (Nat → Int32)) : Option ((Int32 × (Nat → Int32) × (Nat → Int32) × (Nat → Int32)) ⊕ (Int32 × (Nat → Int32) × (Nat → Int32) × (Nat → Int32))) :=
  if (16 : Int32) ≤ x2.1 then some (.inr (x2.1, x2.2.1, x2.2.2.1, x2.2.2.2)) else if x2.1 < 0 ∨ 16 ≤ x2.1.toNatClampNeg then none else some (.inl (x2.1 + 1, upd x2.2.1 x2.1.toNatClampNeg x2.1, upd x2.2.2.1 x2.1.toNatClampNeg (0 : Int32), upd x2.2.2.2 x2.1.toNatClampNeg (0 : Int32)))
def mi_SQ_makeNew (N : Nat) (sg : Nat → Int32) (ru : Nat → Int32) (nu : Nat → Int32) : Option ((Nat → Int32) × (Nat → Int32) × (Nat → Int32)) :=
  (lp (mb_SQ_makeNew_2) N ((0 : Int32), sg, ru, nu)).bind (mr_SQ_makeNew_2)
def mr_SQ_obeys_12 (u2 : Int32) (u3 : Int32) (y12 : Int32 × Int32 × Int32) : Option (Int32) :=
  if u2 = 0 then some (1 : Int32) else if u2 = (1 : Int32) then if y12.1 = u3 then some (1 : Int32) else some (0 : Int32) else if y12.2.1 = u3 then some (1 : Int32) else some (0 : Int32)
def mb_SQ_obeys_12 (u1 : Int32) (x12 : Int32 × Int32 × Int32) : Option ((Int32 × Int32 × Int32) ⊕ (Int32 × Int32 × Int32)) :=
  if (1 : Int32) + (4 : Int32) ≤ x12.2.2 then some (.inr (x12.1, x12.2.1, x12.2.2)) else if u1 &&& ((1 : Int32) <<< (x12.2.2 &&& 31)) = 0 then some (.inl (x12.1, x12.2.1, x12.2.2 + 1)) else some (.inl (x12.1 + x12.2.2, x12.2.1 * x12.2.2, x12.2.2 + 1))
def mi_SQ_obeys (N : Nat) (u1 : Int32) (u2 : Int32) (u3 : Int32) : Option (Int32) :=
  (lp (mb_SQ_obeys_12 u1) N ((0 : Int32), (1 : Int32), (1 : Int32))).bind (mr_SQ_obeys_12 u2 u3)
def mr_SQ_addWays_35  (y35 : Int32 × (Nat → Int32) × (Nat → Int64)) : Option ((Nat → Int32) × (Nat → Int64)) :=
  some (y35.2.1, y35.2.2)
def mb_SQ_addWays_35 (N : Nat) (rc : Int32 → (Nat → Int32) → (Nat → Int64) → Int32 → Int64 → Int32 → Int32 → Int32 → Option ((Nat → Int32) × (Nat → Int64))) (ct : Int32) (u2 : Int32) (u3 : Int64) (u5 : Int32) (u6 : Int32) (u7 : Int32) (r24 : Int32) (x35 : Int32 × (Nat → Int32) × (Nat → Int64)) : Option ((Int32 × (Nat → Int32) × (Nat → Int64)) ⊕ (Int32 × (Nat → Int32) × (Nat → Int64))) :=
  if (1 : Int32) + (4 : Int32) ≤ x35.1 then some (.inr (x35.1, x35.2.1, x35.2.2)) else if u5 &&& ((1 : Int32) <<< (x35.1 &&& 31)) = 0 then (mi_KD_bit N 2 r24 x35.1).bind fun r75 => (rc ct x35.2.1 x35.2.2 (u2 &&& (((1 : Int32) <<< (r24 &&& 31)) ^^^ (-1 : Int32))) (u3 ||| r75) (u5 ||| ((1 : Int32) <<< (x35.1 &&& 31))) u6 u7).bind fun r90 => some (.inl (x35.1 + 1, r90.1, r90.2)) else some (.inl (x35.1 + 1, x35.2.1, x35.2.2))
def mn_SQ_addWays (N : Nat) (rc : Int32 → (Nat → Int32) → (Nat → Int64) → Int32 → Int64 → Int32 → Int32 → Int32 → Option ((Nat → Int32) × (Nat → Int64))) (ct : Int32) (sr : Nat → Int32) (wy : Nat → Int64) (u2 : Int32) (u3 : Int64) (u5 : Int32) (u6 : Int32) (u7 : Int32) : Option ((Nat → Int32) × (Nat → Int64)) :=
  if u2 = 0 then (mi_SQ_obeys N u5 u6 u7).bind fun r11 => if r11 = 0 then some (sr, wy) else (mi_UN_addWay N ct sr wy u3).bind fun r19 => some (r19.1, r19.2) else (mi_KD_firstOf N u2).bind fun r24 => (lp (mb_SQ_addWays_35 N rc ct u2 u3 u5 u6 u7 r24) N ((1 : Int32), sr, wy)).bind (mr_SQ_addWays_35)
def mi_SQ_addWays (N : Nat) : Nat → Int32 → (Nat → Int32) → (Nat → Int64) → Int32 → Int64 → Int32 → Int32 → Int32 → Option ((Nat → Int32) × (Nat → Int64))
  | 0 => fun _ _ _ _ _ _ _ _ => none
  | dd + 1 => mn_SQ_addWays N (mi_SQ_addWays N dd)
def mi_SQ_addUnlike (N : Nat) (ct : Int32) (sc : Nat → Int64) (sr : Nat → Int32) (wy : Nat → Int64) (u2 : Int32) (u3 : Int32) (u4 : Int32) : Option (Int32 × (Nat → Int64) × (Nat → Int32) × (Nat → Int64)) :=
  (mi_KD_scopeOf N 2 u2).bind fun r3 => (mi_UN_begin N ct sc sr r3).bind fun r6 => (mi_SQ_addWays N 6 r6.1 r6.2.2 wy u2 (0 : Int64) (0 : Int32) u3 u4).bind fun r17 => some (r6.1, r6.2.1, r17.1, r17.2)
def mr_SQ_addFixedUnits_2  (y2 : Int32 × Int32 × (Nat → Int64) × (Nat → Int32) × (Nat → Int64)) : Option (Int32 × (Nat → Int64) × (Nat → Int32) × (Nat → Int64)) :=
  some (y2.2.1, y2.2.2.1, y2.2.2.2.1, y2.2.2.2.2)
def mb_SQ_addFixedUnits_2 (N : Nat) (x2 : Int32 × Int32 × (Nat → Int64) × (Nat → Int32) × (Nat → Int64)) : Option ((Int32 × Int32 × (Nat → Int64) × (Nat → Int32) × (Nat → Int64)) ⊕ (Int32 × Int32 × (Nat → Int64) × (Nat → Int32) × (Nat → Int64))) :=
  if (4 : Int32) ≤ x2.1 then some (.inr (x2.1, x2.2.1, x2.2.2.1, x2.2.2.2.1, x2.2.2.2.2)) else (mi_KD_rowCells N 2 x2.1).bind fun r11 => (mi_SQ_addUnlike N x2.2.1 x2.2.2.1 x2.2.2.2.1 x2.2.2.2.2 r11 (0 : Int32) (0 : Int32)).bind fun r16 => (mi_KD_columnCells N 2 x2.1).bind fun r23 => (mi_SQ_addUnlike N r16.1 r16.2.1 r16.2.2.1 r16.2.2.2 r23 (0 : Int32) (0 : Int32)).bind fun r28 => some (.inl (x2.1 + 1, r28.1, r28.2.1, r28.2.2.1, r28.2.2.2))
def mi_SQ_addFixedUnits (N : Nat) (ct : Int32) (sc : Nat → Int64) (sr : Nat → Int32) (wy : Nat → Int64) : Option (Int32 × (Nat → Int64) × (Nat → Int32) × (Nat → Int64)) :=
  (lp (mb_SQ_addFixedUnits_2 N) N ((0 : Int32), ct, sc, sr, wy)).bind (mr_SQ_addFixedUnits_2)
def mr_SQ_addOtherUnits_2  (y2 : Int32 × Int32 × (Nat → Int64) × (Nat → Int32) × (Nat → Int64)) : Option (Int32 × (Nat → Int64) × (Nat → Int32) × (Nat → Int64)) :=
  some (y2.2.1, y2.2.2.1, y2.2.2.2.1, y2.2.2.2.2)
def mb_SQ_addOtherUnits_2 (N : Nat) (sg : Nat → Int32) (ru : Nat → Int32) (nu : Nat → Int32) (x2 : Int32 × Int32 × (Nat → Int64) × (Nat → Int32) × (Nat → Int64)) : Option ((Int32 × Int32 × (Nat → Int64) × (Nat → Int32) × (Nat → Int64)) ⊕ (Int32 × Int32 × (Nat → Int64) × (Nat → Int32) × (Nat → Int64))) :=
  if (16 : Int32) ≤ x2.1 then some (.inr (x2.1, x2.2.1, x2.2.2.1, x2.2.2.2.1, x2.2.2.2.2)) else (mi_KD_membersOf_SQ N sg x2.1).bind fun r12 => if x2.1 < 0 ∨ 16 ≤ x2.1.toNatClampNeg then none else (mi_SQ_addUnlike N x2.2.1 x2.2.2.1 x2.2.2.2.1 x2.2.2.2.2 r12 (ru x2.1.toNatClampNeg) (nu x2.1.toNatClampNeg)).bind fun r27 => some (.inl (x2.1 + 1, r27.1, r27.2.1, r27.2.2.1, r27.2.2.2))
def mi_SQ_addOtherUnits (N : Nat) (ct : Int32) (sg : Nat → Int32) (ru : Nat → Int32) (nu : Nat → Int32) (sc : Nat → Int64) (sr : Nat → Int32) (wy : Nat → Int64) : Option (Int32 × (Nat → Int64) × (Nat → Int32) × (Nat → Int64)) :=
  (lp (mb_SQ_addOtherUnits_2 N sg ru nu) N ((0 : Int32), ct, sc, sr, wy)).bind (mr_SQ_addOtherUnits_2)
def mi_ST_touch (N : Nat) (u0 : Int32) (u1 : Int32) : Option (Int32) :=
  if (1 : Int32) < if 0 ≤ ((u0 / (5 : Int32)) - (u1 / (5 : Int32))) then ((u0 / (5 : Int32)) - (u1 / (5 : Int32))) else 0 - ((u0 / (5 : Int32)) - (u1 / (5 : Int32))) then some (0 : Int32) else if (1 : Int32) < if 0 ≤ ((u0 - u0 / (5 : Int32) * (5 : Int32)) - (u1 - u1 / (5 : Int32) * (5 : Int32))) then ((u0 - u0 / (5 : Int32) * (5 : Int32)) - (u1 - u1 / (5 : Int32) * (5 : Int32))) else 0 - ((u0 - u0 / (5 : Int32) * (5 : Int32)) - (u1 - u1 / (5 : Int32) * (5 : Int32))) then some (0 : Int32) else some (1 : Int32)
def mr_ST_makeNew_2  (y2 : Int32 × (Nat → Int32)) : Option ((Nat → Int32)) :=
  some y2.2
def mb_ST_makeNew_2  (x2 : Int32 × (Nat → Int32)) : Option ((Int32 × (Nat → Int32)) ⊕ (Int32 × (Nat → Int32))) :=
  if (25 : Int32) ≤ x2.1 then some (.inr (x2.1, x2.2)) else if x2.1 < 0 ∨ 25 ≤ x2.1.toNatClampNeg then none else some (.inl (x2.1 + 1, upd x2.2 x2.1.toNatClampNeg (x2.1 / (5 : Int32))))
def mi_ST_makeNew (N : Nat) (tg : Nat → Int32) : Option ((Nat → Int32)) :=
  (lp (mb_ST_makeNew_2) N ((0 : Int32), tg)).bind (mr_ST_makeNew_2)
def mr_ST_wayWithStar_5  (y5 : Int64 × Int32) : Option (Int64) :=
  some y5.1
def mj_ST_wayWithStar_39 (N : Nat) (x5 : Int64 × Int32) (j39s3 : Int32) : Option ((Int64 × Int32) ⊕ (Int64 × Int32)) :=
  (mi_KD_bit N 3 x5.2 j39s3).bind fun r39 => some (.inl (x5.1 ||| r39, x5.2 + 1))
def mb_ST_wayWithStar_5 (N : Nat) (u1 : Int32) (u2 : Int32) (x5 : Int64 × Int32) : Option ((Int64 × Int32) ⊕ (Int64 × Int32)) :=
  if (25 : Int32) ≤ x5.2 then some (.inr (x5.1, x5.2)) else if (u1 >>> (x5.2 &&& 31)) &&& (1 : Int32) = (1 : Int32) then if x5.2 = u2 then mj_ST_wayWithStar_39 N x5 (1 : Int32) else mj_ST_wayWithStar_39 N x5 (0 : Int32) else some (.inl (x5.1, x5.2 + 1))
def mi_ST_wayWithStar (N : Nat) (u1 : Int32) (u2 : Int32) : Option (Int64) :=
  (lp (mb_ST_wayWithStar_5 N u1 u2) N ((0 : Int64), (0 : Int32))).bind (mr_ST_wayWithStar_5)
def mr_ST_addJustOne_11 (r6 : Int32 × (Nat → Int64) × (Nat → Int32)) (y11 : Int32 × (Nat → Int32) × (Nat → Int64)) : Option (Int32 × (Nat → Int64) × (Nat → Int32) × (Nat → Int64)) :=
  some (r6.1, r6.2.1, y11.2.1, y11.2.2)
def mb_ST_addJustOne_11 (N : Nat) (u2 : Int32) (r6 : Int32 × (Nat → Int64) × (Nat → Int32)) (x11 : Int32 × (Nat → Int32) × (Nat → Int64)) : Option ((Int32 × (Nat → Int32) × (Nat → Int64)) ⊕ (Int32 × (Nat → Int32) × (Nat → Int64))) :=
  if (25 : Int32) ≤ x11.1 then some (.inr (x11.1, x11.2.1, x11.2.2)) else if (u2 >>> (x11.1 &&& 31)) &&& (1 : Int32) = (1 : Int32) then (mi_ST_wayWithStar N u2 x11.1).bind fun r32 => (mi_UN_addWay N r6.1 x11.2.1 x11.2.2 r32).bind fun r35 => some (.inl (x11.1 + 1, r35.1, r35.2)) else some (.inl (x11.1 + 1, x11.2.1, x11.2.2))
def mi_ST_addJustOne (N : Nat) (ct : Int32) (sc : Nat → Int64) (sr : Nat → Int32) (wy : Nat → Int64) (u2 : Int32) : Option (Int32 × (Nat → Int64) × (Nat → Int32) × (Nat → Int64)) :=
  (mi_KD_scopeOf N 3 u2).bind fun r3 => (mi_UN_begin N ct sc sr r3).bind fun r6 => (lp (mb_ST_addJustOne_11 N u2 r6) N ((0 : Int32), r6.2.2, wy)).bind (mr_ST_addJustOne_11 r6)
def mi_ST_addNotBoth (N : Nat) (ct : Int32) (sc : Nat → Int64) (sr : Nat → Int32) (wy : Nat → Int64) (u2 : Int32) (u3 : Int32) : Option (Int32 × (Nat → Int64) × (Nat → Int32) × (Nat → Int64)) :=
  (mi_KD_allOf N 3 u2).bind fun r3 => (mi_KD_allOf N 3 u3).bind fun r8 => (mi_UN_begin N ct sc sr (r3 ||| r8)).bind fun r12 => (mi_KD_bit N 3 u2 (0 : Int32)).bind fun r19 => (mi_KD_bit N 3 u3 (0 : Int32)).bind fun r25 => (mi_UN_addWay N r12.1 r12.2.2 wy (r19 ||| r25)).bind fun r29 => (mi_KD_bit N 3 u2 (0 : Int32)).bind fun r36 => (mi_KD_bit N 3 u3 (1 : Int32)).bind fun r42 => (mi_UN_addWay N r12.1 r29.1 r29.2 (r36 ||| r42)).bind fun r46 => (mi_KD_bit N 3 u2 (1 : Int32)).bind fun r53 => (mi_KD_bit N 3 u3 (0 : Int32)).bind fun r59 => (mi_UN_addWay N r12.1 r46.1 r46.2 (r53 ||| r59)).bind fun r63 => some (r12.1, r12.2.1, r63.1, r63.2)
def mr_ST_addFixedUnits_35  (y35 : Int32 × Int32 × (Nat → Int64) × (Nat → Int32) × (Nat → Int64)) : Option (Int32 × (Nat → Int64) × (Nat → Int32) × (Nat → Int64)) :=
  some (y35.2.1, y35.2.2.1, y35.2.2.2.1, y35.2.2.2.2)
def mr_ST_addFixedUnits_47 (x35 : Int32 × Int32 × (Nat → Int64) × (Nat → Int32) × (Nat → Int64)) (y47 : Int32 × Int32 × (Nat → Int64) × (Nat → Int32) × (Nat → Int64)) : Option ((Int32 × Int32 × (Nat → Int64) × (Nat → Int32) × (Nat → Int64)) ⊕ (Int32 × Int32 × (Nat → Int64) × (Nat → Int32) × (Nat → Int64))) :=
  some (.inl (x35.1 + 1, y47.2.1, y47.2.2.1, y47.2.2.2.1, y47.2.2.2.2))
def mb_ST_addFixedUnits_47 (N : Nat) (x35 : Int32 × Int32 × (Nat → Int64) × (Nat → Int32) × (Nat → Int64)) (x47 : Int32 × Int32 × (Nat → Int64) × (Nat → Int32) × (Nat → Int64)) : Option ((Int32 × Int32 × (Nat → Int64) × (Nat → Int32) × (Nat → Int64)) ⊕ (Int32 × Int32 × (Nat → Int64) × (Nat → Int32) × (Nat → Int64))) :=
  if (25 : Int32) ≤ x47.1 then some (.inr (x47.1, x47.2.1, x47.2.2.1, x47.2.2.2.1, x47.2.2.2.2)) else (mi_ST_touch N x35.1 x47.1).bind fun r57 => if r57 = 0 then some (.inl (x47.1 + 1, x47.2.1, x47.2.2.1, x47.2.2.2.1, x47.2.2.2.2)) else (mi_ST_addNotBoth N x47.2.1 x47.2.2.1 x47.2.2.2.1 x47.2.2.2.2 x35.1 x47.1).bind fun r67 => some (.inl (x47.1 + 1, r67.1, r67.2.1, r67.2.2.1, r67.2.2.2))
def mb_ST_addFixedUnits_35 (N : Nat) (x35 : Int32 × Int32 × (Nat → Int64) × (Nat → Int32) × (Nat → Int64)) : Option ((Int32 × Int32 × (Nat → Int64) × (Nat → Int32) × (Nat → Int64)) ⊕ (Int32 × Int32 × (Nat → Int64) × (Nat → Int32) × (Nat → Int64))) :=
  if (25 : Int32) ≤ x35.1 then some (.inr (x35.1, x35.2.1, x35.2.2.1, x35.2.2.2.1, x35.2.2.2.2)) else (lp (mb_ST_addFixedUnits_47 N x35) N (x35.1 + (1 : Int32), x35.2.1, x35.2.2.1, x35.2.2.2.1, x35.2.2.2.2)).bind (mr_ST_addFixedUnits_47 x35)
def mr_ST_addFixedUnits_2 (N : Nat) (y2 : Int32 × Int32 × (Nat → Int64) × (Nat → Int32) × (Nat → Int64)) : Option (Int32 × (Nat → Int64) × (Nat → Int32) × (Nat → Int64)) :=
  (lp (mb_ST_addFixedUnits_35 N) N ((0 : Int32), y2.2.1, y2.2.2.1, y2.2.2.2.1, y2.2.2.2.2)).bind (mr_ST_addFixedUnits_35)
def mb_ST_addFixedUnits_2 (N : Nat) (x2 : Int32 × Int32 × (Nat → Int64) × (Nat → Int32) × (Nat → Int64)) : Option ((Int32 × Int32 × (Nat → Int64) × (Nat → Int32) × (Nat → Int64)) ⊕ (Int32 × Int32 × (Nat → Int64) × (Nat → Int32) × (Nat → Int64))) :=
  if (5 : Int32) ≤ x2.1 then some (.inr (x2.1, x2.2.1, x2.2.2.1, x2.2.2.2.1, x2.2.2.2.2)) else (mi_KD_rowCells N 3 x2.1).bind fun r11 => (mi_ST_addJustOne N x2.2.1 x2.2.2.1 x2.2.2.2.1 x2.2.2.2.2 r11).bind fun r14 => (mi_KD_columnCells N 3 x2.1).bind fun r21 => (mi_ST_addJustOne N r14.1 r14.2.1 r14.2.2.1 r14.2.2.2 r21).bind fun r24 => some (.inl (x2.1 + 1, r24.1, r24.2.1, r24.2.2.1, r24.2.2.2))
def mi_ST_addFixedUnits (N : Nat) (ct : Int32) (sc : Nat → Int64) (sr : Nat → Int32) (wy : Nat → Int64) : Option (Int32 × (Nat → Int64) × (Nat → Int32) × (Nat → Int64)) :=
  (lp (mb_ST_addFixedUnits_2 N) N ((0 : Int32), ct, sc, sr, wy)).bind (mr_ST_addFixedUnits_2 N)
def mr_ST_addOtherUnits_2  (y2 : Int32 × Int32 × (Nat → Int64) × (Nat → Int32) × (Nat → Int64)) : Option (Int32 × (Nat → Int64) × (Nat → Int32) × (Nat → Int64)) :=
  some (y2.2.1, y2.2.2.1, y2.2.2.2.1, y2.2.2.2.2)
def mb_ST_addOtherUnits_2 (N : Nat) (tg : Nat → Int32) (x2 : Int32 × Int32 × (Nat → Int64) × (Nat → Int32) × (Nat → Int64)) : Option ((Int32 × Int32 × (Nat → Int64) × (Nat → Int32) × (Nat → Int64)) ⊕ (Int32 × Int32 × (Nat → Int64) × (Nat → Int32) × (Nat → Int64))) :=
  if (5 : Int32) ≤ x2.1 then some (.inr (x2.1, x2.2.1, x2.2.2.1, x2.2.2.2.1, x2.2.2.2.2)) else (mi_KD_membersOf_ST N tg x2.1).bind fun r9 => if r9 = 0 then some (.inl (x2.1 + 1, x2.2.1, x2.2.2.1, x2.2.2.2.1, x2.2.2.2.2)) else (mi_ST_addJustOne N x2.2.1 x2.2.2.1 x2.2.2.2.1 x2.2.2.2.2 r9).bind fun r20 => some (.inl (x2.1 + 1, r20.1, r20.2.1, r20.2.2.1, r20.2.2.2))
def mi_ST_addOtherUnits (N : Nat) (ct : Int32) (tg : Nat → Int32) (sc : Nat → Int64) (sr : Nat → Int32) (wy : Nat → Int64) : Option (Int32 × (Nat → Int64) × (Nat → Int32) × (Nat → Int64)) :=
  (lp (mb_ST_addOtherUnits_2 N tg) N ((0 : Int32), ct, sc, sr, wy)).bind (mr_ST_addOtherUnits_2)
def mi_RE_byLines (N : Nat) (ct : Int32) (sc : Nat → Int64) (sr : Nat → Int32) (wy : Nat → Int64) (u1 : Int64) : Option (Int64) :=
  (mi_UN_narrow N ct sc sr wy u1 (-1 : Int64)).bind fun r8 => some r8
def mi_RE_firstByLines (N : Nat) (ct : Int32) (sc : Nat → Int64) (sr : Nat → Int32) (wy : Nat → Int64) (u1 : Int64) : Option (Int64) :=
  (mi_UN_keptAtOnce N ct sc sr wy u1).bind fun r6 => some ((u1 &&& (r6 ^^^ (-1 : Int64))) &&& (-(u1 &&& (r6 ^^^ (-1 : Int64)))))
def mr_RE_firstOpenCell_2  (y2 : Int32) : Option (Int32) :=
  some (-1 : Int32)
def mb_RE_firstOpenCell_2 (N : Nat) (kr : Nat) (u1 : Int64) (x2 : Int32) : Option ((Int32) ⊕ ((Int32) ⊕ (Int32))) :=
  if k_cells kr ≤ x2 then some (.inr (.inl x2)) else (mi_KD_allOf N kr x2).bind fun r13 => (mi_JL_bitCount N (u1 &&& r13)).bind fun r17 => if r17 ≤ (1 : Int32) then some (.inl (x2 + 1)) else some (.inr (.inr x2))
def mi_RE_firstOpenCell (N : Nat) (kr : Nat) (u1 : Int64) : Option (Int32) :=
  (lp (mb_RE_firstOpenCell_2 N kr u1) N (0 : Int32)).bind (Sum.elim (mr_RE_firstOpenCell_2) (fun z => some z))
def mi_RE_isRefuted (N : Nat) (kr : Nat) (ct : Int32) (sc : Nat → Int64) (sr : Nat → Int32) (wy : Nat → Int64) (u2 : Int64) (u4 : Int32) (u5 : Int32) : Option (Int32) :=
  (mi_KD_bit N kr u4 u5).bind fun r5 => (mi_KD_allOf N kr u4).bind fun r14 => if u2 &&& r5 = (0 : Int64) then some (0 : Int32) else (mi_UN_narrow N ct sc sr wy (u2 &&& (((u2 &&& r14) &&& (r5 ^^^ (-1 : Int64))) ^^^ (-1 : Int64))) ((u2 &&& r14) &&& (r5 ^^^ (-1 : Int64)))).bind fun r50 => if r50 = (0 : Int64) then some (1 : Int32) else some (0 : Int32)
def mr_RE_firstBySupposing_3  (y3 : Int32) : Option (Int64) :=
  some (0 : Int64)
def mr_RE_firstBySupposing_18 (x3 : Int32) (y18 : Int32) : Option ((Int32) ⊕ ((Int32) ⊕ (Int64))) :=
  some (.inl (x3 + 1))
def mb_RE_firstBySupposing_18 (N : Nat) (kr : Nat) (ct : Int32) (sc : Nat → Int64) (sr : Nat → Int32) (wy : Nat → Int64) (u2 : Int64) (x3 : Int32) (x18 : Int32) : Option ((Int32) ⊕ ((Int32) ⊕ (Int64))) :=
  if (k_least kr) + (k_values kr) ≤ x18 then some (.inr (.inl x18)) else (mi_RE_isRefuted N kr ct sc sr wy u2 x3 x18).bind fun r39 => if r39 = 0 then some (.inl (x18 + 1)) else (mi_KD_bit N kr x3 x18).bind fun r50 => some (.inr (.inr r50))
def mb_RE_firstBySupposing_3 (N : Nat) (kr : Nat) (ct : Int32) (sc : Nat → Int64) (sr : Nat → Int32) (wy : Nat → Int64) (u2 : Int64) (x3 : Int32) : Option ((Int32) ⊕ ((Int32) ⊕ (Int64))) :=
  if k_cells kr ≤ x3 then some (.inr (.inl x3)) else (lp (mb_RE_firstBySupposing_18 N kr ct sc sr wy u2 x3) N (k_least kr)).bind (Sum.elim (mr_RE_firstBySupposing_18 x3) (fun z => some (.inr (.inr z))))
def mi_RE_firstBySupposing (N : Nat) (kr : Nat) (ct : Int32) (sc : Nat → Int64) (sr : Nat → Int32) (wy : Nat → Int64) (u2 : Int64) : Option (Int64) :=
  (lp (mb_RE_firstBySupposing_3 N kr ct sc sr wy u2) N (0 : Int32)).bind (Sum.elim (mr_RE_firstBySupposing_3) (fun z => some z))
def mr_RE_supposeEach_6  (y6 : Int64 × Int32) : Option (Int64) :=
  some y6.1
def mr_RE_supposeEach_21 (x6 : Int64 × Int32) (y21 : Int64 × Int32) : Option ((Int64 × Int32) ⊕ (Int64 × Int32)) :=
  some (.inl (y21.1, x6.2 + 1))
def mb_RE_supposeEach_21 (N : Nat) (kr : Nat) (ct : Int32) (sc : Nat → Int64) (sr : Nat → Int32) (wy : Nat → Int64) (x6 : Int64 × Int32) (x21 : Int64 × Int32) : Option ((Int64 × Int32) ⊕ (Int64 × Int32)) :=
  if (k_least kr) + (k_values kr) ≤ x21.2 then some (.inr (x21.1, x21.2)) else (mi_RE_isRefuted N kr ct sc sr wy x21.1 x6.2 x21.2).bind fun r43 => if r43 = 0 then some (.inl (x21.1, x21.2 + 1)) else (mi_KD_bit N kr x6.2 x21.2).bind fun r54 => (mi_UN_narrow N ct sc sr wy (x21.1 &&& (r54 ^^^ (-1 : Int64))) r54).bind fun r74 => some (.inl (r74, x21.2 + 1))
def mb_RE_supposeEach_6 (N : Nat) (kr : Nat) (ct : Int32) (sc : Nat → Int64) (sr : Nat → Int32) (wy : Nat → Int64) (x6 : Int64 × Int32) : Option ((Int64 × Int32) ⊕ (Int64 × Int32)) :=
  if k_cells kr ≤ x6.2 then some (.inr (x6.1, x6.2)) else (lp (mb_RE_supposeEach_21 N kr ct sc sr wy x6) N (x6.1, k_least kr)).bind (mr_RE_supposeEach_21 x6)
def mi_RE_supposeEach (N : Nat) (kr : Nat) (ct : Int32) (sc : Nat → Int64) (sr : Nat → Int32) (wy : Nat → Int64) (u2 : Int64) : Option (Int64) :=
  (lp (mb_RE_supposeEach_6 N kr ct sc sr wy) N (u2, (0 : Int32))).bind (mr_RE_supposeEach_6)
def mr_RE_byBoth_15  (y15 : Int64 × Int64 × Int32) : Option (Int64) :=
  some y15.1
def mb_RE_byBoth_15 (N : Nat) (kr : Nat) (ct : Int32) (sc : Nat → Int64) (sr : Nat → Int32) (wy : Nat → Int64) (x15 : Int64 × Int64 × Int32) : Option ((Int64 × Int64 × Int32) ⊕ (Int64 × Int64 × Int32)) :=
  if (64 : Int32) < x15.2.2 then some (.inr (x15.1, x15.2.1, x15.2.2)) else if x15.2.1 = (0 : Int64) then some (.inr (x15.1, x15.2.1, x15.2.2)) else (mi_RE_supposeEach N kr ct sc sr wy x15.1).bind fun r37 => some (.inl (r37, x15.1 &&& (r37 ^^^ (-1 : Int64)), x15.2.2 + 1))
def mi_RE_byBoth (N : Nat) (kr : Nat) (ct : Int32) (sc : Nat → Int64) (sr : Nat → Int32) (wy : Nat → Int64) (u2 : Int64) : Option (Int64) :=
  (mi_RE_byLines N ct sc sr wy u2).bind fun r2 => (lp (mb_RE_byBoth_15 N kr ct sc sr wy) N (r2, (-1 : Int64), (0 : Int32))).bind (mr_RE_byBoth_15)
def mr_RE_search_71  (y71 : Int32 × Int64 × Int32) : Option (Int64 × Int32) :=
  some (y71.2.1, y71.2.2)
def mb_RE_search_71 (N : Nat) (rc : Nat → Int64 → Int32 → Int32 → (Nat → Int64) → (Nat → Int32) → (Nat → Int64) → Int64 → Int64 → Int32 → Int32 → Option (Int64 × Int32)) (kr : Nat) (ct : Int32) (sc : Nat → Int64) (sr : Nat → Int32) (wy : Nat → Int64) (u6 : Int32) (u7 : Int32) (r7 : Int64) (r23 : Int32) (x71 : Int32 × Int64 × Int32) : Option ((Int32 × Int64 × Int32) ⊕ (Int32 × Int64 × Int32)) :=
  if (k_least kr) + (k_values kr) ≤ x71.1 then some (.inr (x71.1, x71.2.1, x71.2.2)) else if k_cells kr ≤ u7 then some (.inr (x71.1, x71.2.1, x71.2.2)) else (mi_KD_bit N kr r23 x71.1).bind fun r99 => (mi_KD_allOf N kr r23).bind fun r109 => if r7 &&& r99 = (0 : Int64) then some (.inl (x71.1 + 1, x71.2.1, x71.2.2)) else if u6 ≤ x71.2.2 then some (.inl (x71.1 + 1, x71.2.1, x71.2.2)) else (rc kr x71.2.1 x71.2.2 ct sc sr wy (r7 &&& (((r7 &&& r109) &&& (r99 ^^^ (-1 : Int64))) ^^^ (-1 : Int64))) ((r7 &&& r109) &&& (r99 ^^^ (-1 : Int64))) u6 (u7 + (1 : Int32))).bind fun r160 => some (.inl (x71.1 + 1, r160.1, r160.2))
def mj_RE_search_51 (fo : Int32) (j51s1 : Int64) : Option (Int64 × Int32) :=
  some (j51s1, fo + (1 : Int32))
def mn_RE_search (N : Nat) (rc : Nat → Int64 → Int32 → Int32 → (Nat → Int64) → (Nat → Int32) → (Nat → Int64) → Int64 → Int64 → Int32 → Int32 → Option (Int64 × Int32)) (kr : Nat) (ff : Int64) (fo : Int32) (ct : Int32) (sc : Nat → Int64) (sr : Nat → Int32) (wy : Nat → Int64) (u2 : Int64) (u4 : Int64) (u6 : Int32) (u7 : Int32) : Option (Int64 × Int32) :=
  (mi_UN_narrow N ct sc sr wy u2 u4).bind fun r7 => if r7 = (0 : Int64) then some (ff, fo) else (mi_RE_firstOpenCell N kr r7).bind fun r23 => if r23 = (-1 : Int32) then if fo = 0 then mj_RE_search_51 fo r7 else mj_RE_search_51 fo ff else (lp (mb_RE_search_71 N rc kr ct sc sr wy u6 u7 r7 r23) N (k_least kr, ff, fo)).bind (mr_RE_search_71)
def mi_RE_search (N : Nat) : Nat → Nat → Int64 → Int32 → Int32 → (Nat → Int64) → (Nat → Int32) → (Nat → Int64) → Int64 → Int64 → Int32 → Int32 → Option (Int64 × Int32)
  | 0 => fun _ _ _ _ _ _ _ _ _ _ _ => none
  | dd + 1 => mn_RE_search N (mi_RE_search N dd)
def mi_RE_countFillings (N : Nat) (kr : Nat) (ff : Int64) (fo : Int32) (ct : Int32) (sc : Nat → Int64) (sr : Nat → Int32) (wy : Nat → Int64) (u2 : Int64) (u4 : Int32) : Option (Int32 × Int64 × Int32) :=
  (mi_UN_haveWays N ct sr).bind fun r14 => if r14 = 0 then some ((0 : Int32), (0 : Int64), (0 : Int32)) else (mi_RE_search N 27 kr (0 : Int64) (0 : Int32) ct sc sr wy u2 (-1 : Int64) u4 (0 : Int32)).bind fun r29 => some (r29.2, r29.1, r29.2)
def mi_PP_isEasy (N : Nat) (u0 : Int32) (u1 : Int32) : Option (Int32) :=
  if u0 = 0 then some (0 : Int32) else if u1 < u0 then some (0 : Int32) else some (1 : Int32)
def mr_PP_atFirst_4  (y4 : Int64 × Int32) : Option (Int64) :=
  some y4.1
def mb_PP_atFirst_4 (N : Nat) (kk : Nat) (gv : Nat → Int32) (x4 : Int64 × Int32) : Option ((Int64 × Int32) ⊕ (Int64 × Int32)) :=
  if ¬ K3 kk then none else if k_cells kk ≤ x4.2 then some (.inr (x4.1, x4.2)) else if x4.2 < 0 ∨ 25 ≤ x4.2.toNatClampNeg then none else if gv x4.2.toNatClampNeg = (-1 : Int32) then (mi_KD_allOf N kk x4.2).bind fun r31 => some (.inl (x4.1 ||| r31, x4.2 + 1)) else (mi_KD_bit N kk x4.2 (gv x4.2.toNatClampNeg)).bind fun r48 => some (.inl (x4.1 ||| r48, x4.2 + 1))
def mi_PP_atFirst (N : Nat) (kk : Nat) (gv : Nat → Int32) : Option (Int64) :=
  (lp (mb_PP_atFirst_4 N kk gv) N ((0 : Int64), (0 : Int32))).bind (mr_PP_atFirst_4)
def mi_PP_renewUnits (N : Nat) (kk : Nat) (le : Int64) (ct : Int32) (fx : Int32) (gv : Nat → Int32) (cu : Nat → Int32) (co : Nat → Int32) (sg : Nat → Int32) (ru : Nat → Int32) (nu : Nat → Int32) (tg : Nat → Int32) (sc : Nat → Int64) (sr : Nat → Int32) (wy : Nat → Int64) : Option (Int64 × Int32 × (Nat → Int64) × (Nat → Int32) × (Nat → Int64)) :=
  (mi_UN_dropUnfixed N ct fx).bind fun r7 => if kk = 1 then (mi_PI_addOtherUnits N r7 cu co sc sr wy).bind fun r21 => (mi_PP_atFirst N 1 gv).bind fun r26 => some (r26, r21.1, r21.2.1, r21.2.2.1, r21.2.2.2) else if kk = 2 then (mi_SQ_addOtherUnits N r7 sg ru nu sc sr wy).bind fun r21' => (mi_PP_atFirst N 2 gv).bind fun r26' => some (r26', r21'.1, r21'.2.1, r21'.2.2.1, r21'.2.2.2) else if kk = 3 then (mi_ST_addOtherUnits N r7 tg sc sr wy).bind fun r21'' => (mi_PP_atFirst N 3 gv).bind fun r26'' => some (r26'', r21''.1, r21''.2.1, r21''.2.2.1, r21''.2.2.2) else none
def mr_PP_startNew_45 (N : Nat) (le : Int64) (ct : Int32) (fx : Int32) (cu : Nat → Int32) (co : Nat → Int32) (sg : Nat → Int32) (ru : Nat → Int32) (nu : Nat → Int32) (sc : Nat → Int64) (sr : Nat → Int32) (wy : Nat → Int64) (u1 : Int32) (r40 : (Nat → Int32)) (y45 : Int32 × (Nat → Int32)) : Option (Nat × Int32 × Int64 × Int32 × Int32 × (Nat → Int32) × (Nat → Int32) × (Nat → Int32) × (Nat → Int32) × (Nat → Int32) × (Nat → Int32) × (Nat → Int64) × (Nat → Int32) × (Nat → Int64)) :=
  (mi_UN_dropAll N ct fx).bind fun r71 => (mi_ST_addFixedUnits N r71.1 sc sr wy).bind fun r85 => (mi_UN_fixAll N r85.1 r71.2).bind fun r95 => (mi_PP_renewUnits N 3 le r85.1 r95 y45.2 cu co sg ru nu r40 r85.2.1 r85.2.2.1 r85.2.2.2).bind fun r99 => some (3, u1, r99.1, r99.2.1, r95, y45.2, cu, sg, ru, nu, r40, r99.2.2.1, r99.2.2.2.1, r99.2.2.2.2)
def mb_PP_startNew_45  (x45 : Int32 × (Nat → Int32)) : Option ((Int32 × (Nat → Int32)) ⊕ (Int32 × (Nat → Int32))) :=
  if (25 : Int32) ≤ x45.1 then some (.inr (x45.1, x45.2)) else if x45.1 < 0 ∨ 25 ≤ x45.1.toNatClampNeg then none else some (.inl (x45.1 + 1, upd x45.2 x45.1.toNatClampNeg (-1 : Int32)))
def mr_PP_startNew_45' (N : Nat) (le : Int64) (ct : Int32) (fx : Int32) (cu : Nat → Int32) (co : Nat → Int32) (tg : Nat → Int32) (sc : Nat → Int64) (sr : Nat → Int32) (wy : Nat → Int64) (u1 : Int32) (r40' : (Nat → Int32) × (Nat → Int32) × (Nat → Int32)) (y45 : Int32 × (Nat → Int32)) : Option (Nat × Int32 × Int64 × Int32 × Int32 × (Nat → Int32) × (Nat → Int32) × (Nat → Int32) × (Nat → Int32) × (Nat → Int32) × (Nat → Int32) × (Nat → Int64) × (Nat → Int32) × (Nat → Int64)) :=
  (mi_UN_dropAll N ct fx).bind fun r71' => (mi_SQ_addFixedUnits N r71'.1 sc sr wy).bind fun r85' => (mi_UN_fixAll N r85'.1 r71'.2).bind fun r95' => (mi_PP_renewUnits N 2 le r85'.1 r95' y45.2 cu co r40'.1 r40'.2.1 r40'.2.2 tg r85'.2.1 r85'.2.2.1 r85'.2.2.2).bind fun r99' => some (2, u1, r99'.1, r99'.2.1, r95', y45.2, cu, r40'.1, r40'.2.1, r40'.2.2, tg, r99'.2.2.1, r99'.2.2.2.1, r99'.2.2.2.2)
def mb_PP_startNew_45'  (x45 : Int32 × (Nat → Int32)) : Option ((Int32 × (Nat → Int32)) ⊕ (Int32 × (Nat → Int32))) :=
  if (25 : Int32) ≤ x45.1 then some (.inr (x45.1, x45.2)) else if x45.1 < 0 ∨ 25 ≤ x45.1.toNatClampNeg then none else some (.inl (x45.1 + 1, upd x45.2 x45.1.toNatClampNeg (-1 : Int32)))
def mr_PP_startNew_45'' (N : Nat) (le : Int64) (ct : Int32) (fx : Int32) (co : Nat → Int32) (sg : Nat → Int32) (ru : Nat → Int32) (nu : Nat → Int32) (tg : Nat → Int32) (sc : Nat → Int64) (sr : Nat → Int32) (wy : Nat → Int64) (u1 : Int32) (r40'' : (Nat → Int32)) (y45 : Int32 × (Nat → Int32)) : Option (Nat × Int32 × Int64 × Int32 × Int32 × (Nat → Int32) × (Nat → Int32) × (Nat → Int32) × (Nat → Int32) × (Nat → Int32) × (Nat → Int32) × (Nat → Int64) × (Nat → Int32) × (Nat → Int64)) :=
  (mi_UN_dropAll N ct fx).bind fun r71'' => (mi_PI_addFixedUnits N).bind fun r85'' => (mi_UN_fixAll N r71''.1 r71''.2).bind fun r95'' => (mi_PP_renewUnits N 1 le r71''.1 r95'' y45.2 r40'' co sg ru nu tg sc sr wy).bind fun r99'' => some (1, u1, r99''.1, r99''.2.1, r95'', y45.2, r40'', sg, ru, nu, tg, r99''.2.2.1, r99''.2.2.2.1, r99''.2.2.2.2)
def mb_PP_startNew_45''  (x45 : Int32 × (Nat → Int32)) : Option ((Int32 × (Nat → Int32)) ⊕ (Int32 × (Nat → Int32))) :=
  if (25 : Int32) ≤ x45.1 then some (.inr (x45.1, x45.2)) else if x45.1 < 0 ∨ 25 ≤ x45.1.toNatClampNeg then none else some (.inl (x45.1 + 1, upd x45.2 x45.1.toNatClampNeg (-1 : Int32)))
def mi_PP_startNew (N : Nat) (kk : Nat) (kn : Int32) (le : Int64) (ct : Int32) (fx : Int32) (gv : Nat → Int32) (cu : Nat → Int32) (co : Nat → Int32) (sg : Nat → Int32) (ru : Nat → Int32) (nu : Nat → Int32) (tg : Nat → Int32) (sc : Nat → Int64) (sr : Nat → Int32) (wy : Nat → Int64) (u1 : Int32) : Option (Nat × Int32 × Int64 × Int32 × Int32 × (Nat → Int32) × (Nat → Int32) × (Nat → Int32) × (Nat → Int32) × (Nat → Int32) × (Nat → Int32) × (Nat → Int64) × (Nat → Int32) × (Nat → Int64)) :=
  if u1 = 0 then (mi_PI_makeNew N cu).bind fun r40'' => (lp (mb_PP_startNew_45'') N ((0 : Int32), gv)).bind (mr_PP_startNew_45'' N le ct fx co sg ru nu tg sc sr wy u1 r40'') else if u1 = (1 : Int32) then (mi_SQ_makeNew N sg ru nu).bind fun r40' => (lp (mb_PP_startNew_45') N ((0 : Int32), gv)).bind (mr_PP_startNew_45' N le ct fx cu co tg sc sr wy u1 r40') else (mi_ST_makeNew N tg).bind fun r40 => (lp (mb_PP_startNew_45) N ((0 : Int32), gv)).bind (mr_PP_startNew_45 N le ct fx cu co sg ru nu sc sr wy u1 r40)
def mi_PP_kind (N : Nat) (kn : Int32) : Option (Int32) :=
  some kn
def mi_PP_fillings (N : Nat) (kk : Nat) (ff : Int64) (fo : Int32) (ct : Int32) (gv : Nat → Int32) (sc : Nat → Int64) (sr : Nat → Int32) (wy : Nat → Int64) : Option (Int32 × Int64 × Int32) :=
  if ¬ K3 kk then none else (mi_PP_atFirst N kk gv).bind fun r9 => (mi_RE_countFillings N kk ff fo ct sc sr wy r9 (2 : Int32)).bind fun r13 => some (r13.1, r13.2.1, r13.2.2)
def mi_PP_fresh (N : Nat) (kk : Nat) (le : Int64) (gv : Nat → Int32) : Option (Int32 × Int64) :=
  (mi_PP_atFirst N kk gv).bind fun r2 => (mi_JL_bitCount N r2).bind fun r12 => some (r12, r2)
def mj_PP_step_38 (N : Nat) (kk : Nat) (le : Int64) (j38l1 : Int32) (j38l2 : Int64) : Option (Int32 × Int64) :=
  if j38l2 = (0 : Int64) then some ((0 : Int32), le) else if ¬ K3 kk then none else (mi_KD_cellOf N kk j38l2).bind fun r65 => (mi_KD_valueIn N kk j38l2 r65).bind fun r88 => some ((((1000 : Int32) * j38l1) + ((10 : Int32) * r65)) + r88, le &&& (j38l2 ^^^ (-1 : Int64)))
def mi_PP_step (N : Nat) (kk : Nat) (le : Int64) (ct : Int32) (sc : Nat → Int64) (sr : Nat → Int32) (wy : Nat → Int64) : Option (Int32 × Int64) :=
  (mi_RE_firstByLines N ct sc sr wy le).bind fun r10 => if r10 = (0 : Int64) then if ¬ K3 kk then none else (mi_RE_firstBySupposing N kk ct sc sr wy le).bind fun r34 => mj_PP_step_38 N kk le (2 : Int32) r34 else mj_PP_step_38 N kk le (1 : Int32) r10
def mi_PP_grade (N : Nat) (kk : Nat) (ff : Int64) (fo : Int32) (ct : Int32) (gv : Nat → Int32) (sc : Nat → Int64) (sr : Nat → Int32) (wy : Nat → Int64) : Option (Int32 × Int64 × Int32) :=
  (mi_PP_atFirst N kk gv).bind fun r1 => if ¬ K3 kk then none else (mi_RE_countFillings N kk ff fo ct sc sr wy r1 (2 : Int32)).bind fun r15 => if r15.1 = (1 : Int32) then (mi_RE_byLines N ct sc sr wy r1).bind fun r39 => (mi_JL_bitCount N r39).bind fun r42 => if r42 = k_cells kk then some ((1 : Int32), r15.2.1, r15.2.2) else (mi_RE_byBoth N kk ct sc sr wy r1).bind fun r66 => (mi_JL_bitCount N r66).bind fun r69 => if r69 = k_cells kk then some ((2 : Int32), r15.2.1, r15.2.2) else some ((3 : Int32), r15.2.1, r15.2.2) else if r15.1 = 0 then some ((0 : Int32), r15.2.1, r15.2.2) else some ((4 : Int32), r15.2.1, r15.2.2)
def mr_MO_isClue_21  (y21 : Int32 × Int32 × Int32) : Option (Int32) :=
  if y21.2.2 = 0 then some (0 : Int32) else if (5 : Int32) < y21.2.1 then some (0 : Int32) else some (1 : Int32)
def mj_MO_isClue_52 (x21 : Int32 × Int32 × Int32) (j52s0 : Int32) : Option ((Int32 × Int32 × Int32) ⊕ (Int32 × Int32 × Int32)) :=
  some (.inl (x21.1 / (10 : Int32), x21.2.1 + ((x21.1 - x21.1 / (10 : Int32) * (10 : Int32)) + (1 : Int32)), j52s0))
def mb_MO_isClue_21  (x21 : Int32 × Int32 × Int32) : Option ((Int32 × Int32 × Int32) ⊕ (Int32 × Int32 × Int32)) :=
  if x21.2.2 = 0 then some (.inr (x21.1, x21.2.1, x21.2.2)) else if x21.1 ≤ 0 then some (.inr (x21.1, x21.2.1, x21.2.2)) else if x21.1 - x21.1 / (10 : Int32) * (10 : Int32) < (1 : Int32) then mj_MO_isClue_52 x21 (0 : Int32) else if (5 : Int32) < x21.1 - x21.1 / (10 : Int32) * (10 : Int32) then mj_MO_isClue_52 x21 (0 : Int32) else mj_MO_isClue_52 x21 (1 : Int32)
def mj_MO_isClue_20 (N : Nat) (u0 : Int32) (j20s0 : Int32) : Option (Int32) :=
  (lp (mb_MO_isClue_21) N (u0, (-1 : Int32), j20s0)).bind (mr_MO_isClue_21)
def mi_MO_isClue (N : Nat) (u0 : Int32) : Option (Int32) :=
  if u0 < 0 then mj_MO_isClue_20 N u0 (0 : Int32) else if (1000 : Int32) ≤ u0 then mj_MO_isClue_20 N u0 (0 : Int32) else mj_MO_isClue_20 N u0 (1 : Int32)
def mr_MO_stretchesOf_6  (y6 : Int32 × Int32 × Int32) : Option (Int32) :=
  some y6.1
def mj_MO_stretchesOf_50 (x6 : Int32 × Int32 × Int32) (j29s0 : Int32) (j50s0 : Int32) : Option ((Int32 × Int32 × Int32) ⊕ (Int32 × Int32 × Int32)) :=
  if j29s0 = 0 then some (.inl (j50s0, (0 : Int32), x6.2.2 + (-1))) else some (.inl (j50s0, x6.2.1 + (1 : Int32), x6.2.2 + (-1)))
def mj_MO_stretchesOf_29 (x6 : Int32 × Int32 × Int32) (j29s0 : Int32) : Option ((Int32 × Int32 × Int32) ⊕ (Int32 × Int32 × Int32)) :=
  if j29s0 = 0 then if x6.2.1 ≤ 0 then mj_MO_stretchesOf_50 x6 j29s0 x6.1 else mj_MO_stretchesOf_50 x6 j29s0 (((10 : Int32) * x6.1) + x6.2.1) else mj_MO_stretchesOf_50 x6 j29s0 x6.1
def mb_MO_stretchesOf_6 (u0 : Int32) (x6 : Int32 × Int32 × Int32) : Option ((Int32 × Int32 × Int32) ⊕ (Int32 × Int32 × Int32)) :=
  if x6.2.2 < (-1 : Int32) then some (.inr (x6.1, x6.2.1, x6.2.2)) else if x6.2.2 < 0 then mj_MO_stretchesOf_29 x6 (0 : Int32) else if (u0 >>> (x6.2.2 &&& 31)) &&& (1 : Int32) = (1 : Int32) then mj_MO_stretchesOf_29 x6 (1 : Int32) else mj_MO_stretchesOf_29 x6 (0 : Int32)
def mi_MO_stretchesOf (N : Nat) (u0 : Int32) : Option (Int32) :=
  (lp (mb_MO_stretchesOf_6 u0) N ((0 : Int32), (0 : Int32), (4 : Int32))).bind (mr_MO_stretchesOf_6)
def mr_MO_ones_4  (y4 : Int32 × Int32) : Option (Int32) :=
  some y4.1
def mb_MO_ones_4 (u0 : Int32) (x4 : Int32 × Int32) : Option ((Int32 × Int32) ⊕ (Int32 × Int32)) :=
  if (5 : Int32) ≤ x4.2 then some (.inr (x4.1, x4.2)) else some (.inl (x4.1 + ((u0 >>> (x4.2 &&& 31)) &&& (1 : Int32)), x4.2 + 1))
def mi_MO_ones (N : Nat) (u0 : Int32) : Option (Int32) :=
  (lp (mb_MO_ones_4 u0) N ((0 : Int32), (0 : Int32))).bind (mr_MO_ones_4)
def mi_MO_apart (N : Nat) (u0 : Int32) (u1 : Int32) : Option (Int32) :=
  if u1 ≤ u0 then some (u0 - u1) else some (u1 - u0)
def mi_MO_touch (N : Nat) (u0 : Int32) (u1 : Int32) : Option (Int32) :=
  if u0 = u1 then some (0 : Int32) else (mi_MO_apart N (u0 / (5 : Int32)) (u1 / (5 : Int32))).bind fun r11 => if (2 : Int32) ≤ r11 then some (0 : Int32) else (mi_MO_apart N (u0 - u0 / (5 : Int32) * (5 : Int32)) (u1 - u1 / (5 : Int32) * (5 : Int32))).bind fun r24 => if (2 : Int32) ≤ r24 then some (0 : Int32) else some (1 : Int32)
def mi_MO_thrown (N : Nat) (th : Int32) : Option (Int32) :=
  some th
def mi_MO_allValues (N : Nat) (ki : Int32) : Option (Int32) :=
  if ki = (1 : Int32) then some (30 : Int32) else some (3 : Int32)
def mr_MO_refresh_2  (y2 : Int32 × (Nat → Int32)) : Option ((Nat → Int32)) :=
  some y2.2
def mb_MO_refresh_2 (N : Nat) (ki : Int32) (ce : Int32) (gv : Nat → Int32) (x2 : Int32 × (Nat → Int32)) : Option ((Int32 × (Nat → Int32)) ⊕ (Int32 × (Nat → Int32))) :=
  if ce ≤ x2.1 then some (.inr (x2.1, x2.2)) else if x2.1 < 0 ∨ 25 ≤ x2.1.toNatClampNeg then none else if gv x2.1.toNatClampNeg = (-1 : Int32) then (mi_MO_allValues N ki).bind fun r26 => some (.inl (x2.1 + 1, upd x2.2 x2.1.toNatClampNeg r26)) else some (.inl (x2.1 + 1, upd x2.2 x2.1.toNatClampNeg ((1 : Int32) <<< ((gv x2.1.toNatClampNeg) &&& 31))))
def mi_MO_refresh (N : Nat) (ki : Int32) (ce : Int32) (gv : Nat → Int32) (ca : Nat → Int32) : Option ((Nat → Int32)) :=
  (lp (mb_MO_refresh_2 N ki ce gv) N ((0 : Int32), ca)).bind (mr_MO_refresh_2)
def mr_MO_begin_86 (N : Nat) (ca : Nat → Int32) (u1 : Int32) (j19s1 : Int32) (y37 : Int32 × (Nat → Int32)) (y58 : Int32 × (Nat → Int32) × (Nat → Int32)) (y86 : Int32 × (Nat → Int32) × (Nat → Int32)) : Option (Int32 × Int32 × Int32 × (Nat → Int32) × (Nat → Int32) × (Nat → Int32) × (Nat → Int32) × (Nat → Int32) × (Nat → Int32)) :=
  (mi_MO_refresh N u1 (j19s1 * j19s1) y86.2.2 ca).bind fun r127 => some (u1, j19s1 * j19s1, j19s1, y37.2, y86.2.1, y58.2.1, y58.2.2, y86.2.2, r127)
def mj_MO_begin_112 (x86 : Int32 × (Nat → Int32) × (Nat → Int32)) (j112s2 : Int32) : Option ((Int32 × (Nat → Int32) × (Nat → Int32)) ⊕ (Int32 × (Nat → Int32) × (Nat → Int32))) :=
  if x86.1 < 0 ∨ 25 ≤ x86.1.toNatClampNeg then none else some (.inl (x86.1 + 1, upd x86.2.1 x86.1.toNatClampNeg j112s2, upd x86.2.2 x86.1.toNatClampNeg (-1 : Int32)))
def mb_MO_begin_86 (u1 : Int32) (x86 : Int32 × (Nat → Int32) × (Nat → Int32)) : Option ((Int32 × (Nat → Int32) × (Nat → Int32)) ⊕ (Int32 × (Nat → Int32) × (Nat → Int32))) :=
  if (25 : Int32) ≤ x86.1 then some (.inr (x86.1, x86.2.1, x86.2.2)) else if u1 = (1 : Int32) then mj_MO_begin_112 x86 x86.1 else mj_MO_begin_112 x86 (x86.1 / (5 : Int32))
def mr_MO_begin_58 (N : Nat) (gr : Nat → Int32) (gv : Nat → Int32) (ca : Nat → Int32) (u1 : Int32) (j19s1 : Int32) (y37 : Int32 × (Nat → Int32)) (y58 : Int32 × (Nat → Int32) × (Nat → Int32)) : Option (Int32 × Int32 × Int32 × (Nat → Int32) × (Nat → Int32) × (Nat → Int32) × (Nat → Int32) × (Nat → Int32) × (Nat → Int32)) :=
  (lp (mb_MO_begin_86 u1) N ((0 : Int32), gr, gv)).bind (mr_MO_begin_86 N ca u1 j19s1 y37 y58)
def mb_MO_begin_58  (x58 : Int32 × (Nat → Int32) × (Nat → Int32)) : Option ((Int32 × (Nat → Int32) × (Nat → Int32)) ⊕ (Int32 × (Nat → Int32) × (Nat → Int32))) :=
  if (16 : Int32) ≤ x58.1 then some (.inr (x58.1, x58.2.1, x58.2.2)) else if x58.1 < 0 ∨ 16 ≤ x58.1.toNatClampNeg then none else some (.inl (x58.1 + 1, upd x58.2.1 x58.1.toNatClampNeg (0 : Int32), upd x58.2.2 x58.1.toNatClampNeg (0 : Int32)))
def mr_MO_begin_37 (N : Nat) (gr : Nat → Int32) (ru : Nat → Int32) (nu : Nat → Int32) (gv : Nat → Int32) (ca : Nat → Int32) (u1 : Int32) (j19s1 : Int32) (y37 : Int32 × (Nat → Int32)) : Option (Int32 × Int32 × Int32 × (Nat → Int32) × (Nat → Int32) × (Nat → Int32) × (Nat → Int32) × (Nat → Int32) × (Nat → Int32)) :=
  (lp (mb_MO_begin_58) N ((0 : Int32), ru, nu)).bind (mr_MO_begin_58 N gr gv ca u1 j19s1 y37)
def mb_MO_begin_37  (x37 : Int32 × (Nat → Int32)) : Option ((Int32 × (Nat → Int32)) ⊕ (Int32 × (Nat → Int32))) :=
  if (10 : Int32) ≤ x37.1 then some (.inr (x37.1, x37.2)) else if x37.1 < 0 ∨ 10 ≤ x37.1.toNatClampNeg then none else some (.inl (x37.1 + 1, upd x37.2 x37.1.toNatClampNeg (0 : Int32)))
def mj_MO_begin_19 (N : Nat) (cu : Nat → Int32) (gr : Nat → Int32) (ru : Nat → Int32) (nu : Nat → Int32) (gv : Nat → Int32) (ca : Nat → Int32) (u1 : Int32) (j19s1 : Int32) : Option (Int32 × Int32 × Int32 × (Nat → Int32) × (Nat → Int32) × (Nat → Int32) × (Nat → Int32) × (Nat → Int32) × (Nat → Int32)) :=
  (lp (mb_MO_begin_37) N ((0 : Int32), cu)).bind (mr_MO_begin_37 N gr ru nu gv ca u1 j19s1)
def mi_MO_begin (N : Nat) (ki : Int32) (ce : Int32) (wi : Int32) (cu : Nat → Int32) (gr : Nat → Int32) (ru : Nat → Int32) (nu : Nat → Int32) (gv : Nat → Int32) (ca : Nat → Int32) (u1 : Int32) : Option (Int32 × Int32 × Int32 × (Nat → Int32) × (Nat → Int32) × (Nat → Int32) × (Nat → Int32) × (Nat → Int32) × (Nat → Int32)) :=
  if u1 = (1 : Int32) then mj_MO_begin_19 N cu gr ru nu gv ca u1 (4 : Int32) else mj_MO_begin_19 N cu gr ru nu gv ca u1 (5 : Int32)
def mj_MO_open_15 (N : Nat) (ki : Int32) (ce : Int32) (wi : Int32) (cu : Nat → Int32) (gr : Nat → Int32) (ru : Nat → Int32) (nu : Nat → Int32) (gv : Nat → Int32) (ca : Nat → Int32) (u1 : Int32) (j15s1 : Int32) : Option (Int32 × Int32 × Int32 × Int32 × Int32 × (Nat → Int32) × (Nat → Int32) × (Nat → Int32) × (Nat → Int32) × (Nat → Int32) × (Nat → Int32)) :=
  if j15s1 = 0 then (mi_MO_begin N ki ce wi cu gr ru nu gv ca u1).bind fun r29 => some (r29.2.1, j15s1, r29.1, r29.2.1, r29.2.2.1, r29.2.2.2.1, r29.2.2.2.2.1, r29.2.2.2.2.2.1, r29.2.2.2.2.2.2.1, r29.2.2.2.2.2.2.2.1, r29.2.2.2.2.2.2.2.2) else some ((0 : Int32), j15s1, ki, ce, wi, cu, gr, ru, nu, gv, ca)
def mi_MO_open (N : Nat) (th : Int32) (ki : Int32) (ce : Int32) (wi : Int32) (cu : Nat → Int32) (gr : Nat → Int32) (ru : Nat → Int32) (nu : Nat → Int32) (gv : Nat → Int32) (ca : Nat → Int32) (u1 : Int32) : Option (Int32 × Int32 × Int32 × Int32 × Int32 × (Nat → Int32) × (Nat → Int32) × (Nat → Int32) × (Nat → Int32) × (Nat → Int32) × (Nat → Int32)) :=
  if u1 < 0 then mj_MO_open_15 N ki ce wi cu gr ru nu gv ca u1 (1 : Int32) else if u1 ≤ (2 : Int32) then mj_MO_open_15 N ki ce wi cu gr ru nu gv ca u1 (0 : Int32) else mj_MO_open_15 N ki ce wi cu gr ru nu gv ca u1 (1 : Int32)
def mi_MO_kind (N : Nat) (th : Int32) (ki : Int32) : Option (Int32 × Int32) :=
  some (ki, (0 : Int32))
def mj_MO_clue_38 (N : Nat) (ki : Int32) (ce : Int32) (cu : Nat → Int32) (gv : Nat → Int32) (ca : Nat → Int32) (u1 : Int32) (u2 : Int32) (j38s1 : Int32) : Option (Int32 × Int32 × (Nat → Int32) × (Nat → Int32)) :=
  if j38s1 = 0 then if u1 < 0 ∨ 10 ≤ u1.toNatClampNeg then none else (mi_MO_refresh N ki ce gv ca).bind fun r65 => some (cu u1.toNatClampNeg, j38s1, upd cu u1.toNatClampNeg u2, r65) else some ((0 : Int32), j38s1, cu, ca)
def mi_MO_clue (N : Nat) (th : Int32) (ki : Int32) (ce : Int32) (cu : Nat → Int32) (gv : Nat → Int32) (ca : Nat → Int32) (u1 : Int32) (u2 : Int32) : Option (Int32 × Int32 × (Nat → Int32) × (Nat → Int32)) :=
  if ki = 0 then if u1 < 0 then mj_MO_clue_38 N ki ce cu gv ca u1 u2 (2 : Int32) else if u1 ≤ (9 : Int32) then (mi_MO_isClue N u2).bind fun r27 => if r27 = 0 then mj_MO_clue_38 N ki ce cu gv ca u1 u2 (3 : Int32) else mj_MO_clue_38 N ki ce cu gv ca u1 u2 (0 : Int32) else mj_MO_clue_38 N ki ce cu gv ca u1 u2 (2 : Int32) else mj_MO_clue_38 N ki ce cu gv ca u1 u2 (1 : Int32)
def mi_MO_noCell (N : Nat) (ce : Int32) (u1 : Int32) : Option (Int32) :=
  if u1 < 0 then some (1 : Int32) else if u1 < ce then some (0 : Int32) else some (1 : Int32)
def mr_MO_sizeOf_4  (y4 : Int32 × Int32) : Option (Int32) :=
  some y4.1
def mb_MO_sizeOf_4 (ce : Int32) (gr : Nat → Int32) (u1 : Int32) (x4 : Int32 × Int32) : Option ((Int32 × Int32) ⊕ (Int32 × Int32)) :=
  if ce ≤ x4.2 then some (.inr (x4.1, x4.2)) else if x4.2 < 0 ∨ 25 ≤ x4.2.toNatClampNeg then none else if gr x4.2.toNatClampNeg = u1 then some (.inl (x4.1 + (1 : Int32), x4.2 + 1)) else some (.inl (x4.1 + (0 : Int32), x4.2 + 1))
def mi_MO_sizeOf (N : Nat) (ce : Int32) (gr : Nat → Int32) (u1 : Int32) : Option (Int32) :=
  (lp (mb_MO_sizeOf_4 ce gr u1) N ((0 : Int32), (0 : Int32))).bind (mr_MO_sizeOf_4)
def mj_MO_group_102 (N : Nat) (ki : Int32) (ce : Int32) (gr : Nat → Int32) (gv : Nat → Int32) (ca : Nat → Int32) (u1 : Int32) (u2 : Int32) (j102s1 : Int32) : Option (Int32 × Int32 × (Nat → Int32) × (Nat → Int32)) :=
  if j102s1 = 0 then if u1 < 0 ∨ 25 ≤ u1.toNatClampNeg then none else (mi_MO_refresh N ki ce gv ca).bind fun r130 => some (gr u1.toNatClampNeg, j102s1, upd gr u1.toNatClampNeg u2, r130) else some ((0 : Int32), j102s1, gr, ca)
def mj_MO_group_57 (N : Nat) (ki : Int32) (ce : Int32) (gr : Nat → Int32) (gv : Nat → Int32) (ca : Nat → Int32) (u1 : Int32) (u2 : Int32) (j57s1 : Int32) : Option (Int32 × Int32 × (Nat → Int32) × (Nat → Int32)) :=
  if j57s1 = 0 then if ki = (1 : Int32) then if u1 < 0 ∨ 25 ≤ u1.toNatClampNeg then none else if gr u1.toNatClampNeg = u2 then mj_MO_group_102 N ki ce gr gv ca u1 u2 (0 : Int32) else (mi_MO_sizeOf N ce gr u2).bind fun r90 => if r90 = (4 : Int32) then mj_MO_group_102 N ki ce gr gv ca u1 u2 (3 : Int32) else mj_MO_group_102 N ki ce gr gv ca u1 u2 (0 : Int32) else mj_MO_group_102 N ki ce gr gv ca u1 u2 (0 : Int32) else some ((0 : Int32), j57s1, gr, ca)
def mj_MO_group_35 (N : Nat) (ki : Int32) (ce : Int32) (gr : Nat → Int32) (gv : Nat → Int32) (ca : Nat → Int32) (u1 : Int32) (u2 : Int32) (j35s0 : Int32) : Option (Int32 × Int32 × (Nat → Int32) × (Nat → Int32)) :=
  if ki = 0 then mj_MO_group_57 N ki ce gr gv ca u1 u2 (1 : Int32) else if j35s0 = 0 then mj_MO_group_57 N ki ce gr gv ca u1 u2 (0 : Int32) else mj_MO_group_57 N ki ce gr gv ca u1 u2 (2 : Int32)
def mi_MO_group (N : Nat) (th : Int32) (ki : Int32) (ce : Int32) (gr : Nat → Int32) (gv : Nat → Int32) (ca : Nat → Int32) (u1 : Int32) (u2 : Int32) : Option (Int32 × Int32 × (Nat → Int32) × (Nat → Int32)) :=
  (mi_MO_noCell N ce u1).bind fun r2 => if r2 = 0 then if u2 < 0 then mj_MO_group_35 N ki ce gr gv ca u1 u2 (1 : Int32) else if ki = (1 : Int32) then if u2 < (16 : Int32) then mj_MO_group_35 N ki ce gr gv ca u1 u2 (0 : Int32) else mj_MO_group_35 N ki ce gr gv ca u1 u2 (1 : Int32) else if u2 < (5 : Int32) then mj_MO_group_35 N ki ce gr gv ca u1 u2 (0 : Int32) else mj_MO_group_35 N ki ce gr gv ca u1 u2 (1 : Int32) else mj_MO_group_35 N ki ce gr gv ca u1 u2 (1 : Int32)
def mj_MO_rule_51 (N : Nat) (ki : Int32) (ce : Int32) (gr : Nat → Int32) (ru : Nat → Int32) (nu : Nat → Int32) (gv : Nat → Int32) (ca : Nat → Int32) (u1 : Int32) (u2 : Int32) (u3 : Int32) (j51s1 : Int32) : Option (Int32 × Int32 × (Nat → Int32) × (Nat → Int32) × (Nat → Int32)) :=
  if j51s1 = 0 then if u1 < 0 ∨ 16 ≤ u1.toNatClampNeg then none else (mi_MO_refresh N ki ce gv ca).bind fun r78 => (mi_MO_sizeOf N ce gr u1).bind fun r83 => some (r83, j51s1, upd ru u1.toNatClampNeg u2, upd nu u1.toNatClampNeg u3, r78) else some ((0 : Int32), j51s1, ru, nu, ca)
def mi_MO_rule (N : Nat) (th : Int32) (ki : Int32) (ce : Int32) (gr : Nat → Int32) (ru : Nat → Int32) (nu : Nat → Int32) (gv : Nat → Int32) (ca : Nat → Int32) (u1 : Int32) (u2 : Int32) (u3 : Int32) : Option (Int32 × Int32 × (Nat → Int32) × (Nat → Int32) × (Nat → Int32)) :=
  if ki = (1 : Int32) then if u1 < 0 then mj_MO_rule_51 N ki ce gr ru nu gv ca u1 u2 u3 (2 : Int32) else if u1 ≤ (15 : Int32) then if u2 < 0 then mj_MO_rule_51 N ki ce gr ru nu gv ca u1 u2 u3 (3 : Int32) else if (2 : Int32) < u2 then mj_MO_rule_51 N ki ce gr ru nu gv ca u1 u2 u3 (3 : Int32) else if u3 < 0 then mj_MO_rule_51 N ki ce gr ru nu gv ca u1 u2 u3 (3 : Int32) else if u3 ≤ (99 : Int32) then mj_MO_rule_51 N ki ce gr ru nu gv ca u1 u2 u3 (0 : Int32) else mj_MO_rule_51 N ki ce gr ru nu gv ca u1 u2 u3 (3 : Int32) else mj_MO_rule_51 N ki ce gr ru nu gv ca u1 u2 u3 (2 : Int32) else mj_MO_rule_51 N ki ce gr ru nu gv ca u1 u2 u3 (1 : Int32)
def mi_MO_isValue (N : Nat) (ki : Int32) (u1 : Int32) : Option (Int32) :=
  if u1 < 0 then some (0 : Int32) else if (5 : Int32) ≤ u1 then some (0 : Int32) else (mi_MO_allValues N ki).bind fun r10 => if (r10 >>> (u1 &&& 31)) &&& (1 : Int32) = (1 : Int32) then some (1 : Int32) else some (0 : Int32)
def mj_MO_give_31 (N : Nat) (ki : Int32) (ce : Int32) (gv : Nat → Int32) (ca : Nat → Int32) (u1 : Int32) (u2 : Int32) (j31s1 : Int32) : Option (Int32 × Int32 × (Nat → Int32) × (Nat → Int32)) :=
  if j31s1 = 0 then if u1 < 0 ∨ 25 ≤ u1.toNatClampNeg then none else (mi_MO_refresh N ki ce (upd gv u1.toNatClampNeg u2) ca).bind fun r58 => some (gv u1.toNatClampNeg, j31s1, upd gv u1.toNatClampNeg u2, r58) else some ((0 : Int32), j31s1, gv, ca)
def mi_MO_give (N : Nat) (th : Int32) (ki : Int32) (ce : Int32) (gv : Nat → Int32) (ca : Nat → Int32) (u1 : Int32) (u2 : Int32) : Option (Int32 × Int32 × (Nat → Int32) × (Nat → Int32)) :=
  (mi_MO_noCell N ce u1).bind fun r3 => if r3 = 0 then if u2 = (-1 : Int32) then mj_MO_give_31 N ki ce gv ca u1 u2 (0 : Int32) else (mi_MO_isValue N ki u2).bind fun r20 => if r20 = 0 then mj_MO_give_31 N ki ce gv ca u1 u2 (2 : Int32) else mj_MO_give_31 N ki ce gv ca u1 u2 (0 : Int32) else mj_MO_give_31 N ki ce gv ca u1 u2 (1 : Int32)
def mj_MO_given_14 (gv : Nat → Int32) (u1 : Int32) (j14s1 : Int32) : Option (Int32 × Int32) :=
  if j14s1 = 0 then if u1 < 0 ∨ 25 ≤ u1.toNatClampNeg then none else some (gv u1.toNatClampNeg, j14s1) else some ((0 : Int32), j14s1)
def mi_MO_given (N : Nat) (th : Int32) (ce : Int32) (gv : Nat → Int32) (u1 : Int32) : Option (Int32 × Int32) :=
  (mi_MO_noCell N ce u1).bind fun r3 => if r3 = 0 then mj_MO_given_14 gv u1 (0 : Int32) else mj_MO_given_14 gv u1 (1 : Int32)
def mi_MO_valueOf (N : Nat) (ki : Int32) (u1 : Int32) (u2 : Int32) : Option (Int32) :=
  if ki = (1 : Int32) then some ((1 : Int32) + ((u1 >>> (((2 : Int32) * ((3 : Int32) - u2)) &&& 31)) &&& (3 : Int32))) else some ((u1 >>> (((4 : Int32) - u2) &&& 31)) &&& (1 : Int32))
def mr_MO_lay_51  (y51 : Int32 × Int32 × (Nat → Int32)) : Option (Int32 × (Nat → Int32)) :=
  if ¬ (y51.1 = 0 ∨ y51.1 = 1) then none else some (y51.1, y51.2.2)
def mr_MO_lay_178 (wi : Int32) (u1 : Int32) (x51 : Int32 × Int32 × (Nat → Int32)) (r68 : Int32) (y178 : Int32 × Int32) : Option ((Int32 × Int32 × (Nat → Int32)) ⊕ (Int32 × Int32 × (Nat → Int32))) :=
  some (.inl (y178.1, x51.2.1 + 1, upd x51.2.2 ((wi * u1) + x51.2.1).toNatClampNeg r68))
def mb_MO_lay_178 (ki : Int32) (wi : Int32) (u1 : Int32) (x51 : Int32 × Int32 × (Nat → Int32)) (r68 : Int32) (x178 : Int32 × Int32) : Option ((Int32 × Int32) ⊕ (Int32 × Int32)) :=
  if u1 ≤ x178.2 then some (.inr (x178.1, x178.2)) else if ki = (2 : Int32) then if r68 = (1 : Int32) then if x178.1 = 0 then some (.inl ((0 : Int32), x178.2 + 1)) else if (wi * x178.2) + x51.2.1 < 0 ∨ 25 ≤ ((wi * x178.2) + x51.2.1).toNatClampNeg then none else if (upd x51.2.2 ((wi * u1) + x51.2.1).toNatClampNeg r68) ((wi * x178.2) + x51.2.1).toNatClampNeg = 0 then some (.inl ((1 : Int32), x178.2 + 1)) else some (.inl ((0 : Int32), x178.2 + 1)) else some (.inr (x178.1, x178.2)) else some (.inr (x178.1, x178.2))
def mr_MO_lay_125 (N : Nat) (ki : Int32) (wi : Int32) (u1 : Int32) (x51 : Int32 × Int32 × (Nat → Int32)) (r68 : Int32) (y125 : Int32 × Int32) : Option ((Int32 × Int32 × (Nat → Int32)) ⊕ (Int32 × Int32 × (Nat → Int32))) :=
  (lp (mb_MO_lay_178 ki wi u1 x51 r68) N (y125.1, (0 : Int32))).bind (mr_MO_lay_178 wi u1 x51 r68)
def mb_MO_lay_125 (ki : Int32) (wi : Int32) (u1 : Int32) (x51 : Int32 × Int32 × (Nat → Int32)) (r68 : Int32) (x125 : Int32 × Int32) : Option ((Int32 × Int32) ⊕ (Int32 × Int32)) :=
  if u1 ≤ x125.2 then some (.inr (x125.1, x125.2)) else if ki = (1 : Int32) then if x125.1 = 0 then some (.inl ((0 : Int32), x125.2 + 1)) else if (wi * x125.2) + x51.2.1 < 0 ∨ 25 ≤ ((wi * x125.2) + x51.2.1).toNatClampNeg then none else if (upd x51.2.2 ((wi * u1) + x51.2.1).toNatClampNeg r68) ((wi * x125.2) + x51.2.1).toNatClampNeg = r68 then some (.inl ((0 : Int32), x125.2 + 1)) else some (.inl ((1 : Int32), x125.2 + 1)) else some (.inr (x125.1, x125.2))
def mj_MO_lay_121 (N : Nat) (ki : Int32) (wi : Int32) (u1 : Int32) (x51 : Int32 × Int32 × (Nat → Int32)) (r68 : Int32) (j121s0 : Int32) : Option ((Int32 × Int32 × (Nat → Int32)) ⊕ (Int32 × Int32 × (Nat → Int32))) :=
  (lp (mb_MO_lay_125 ki wi u1 x51 r68) N (j121s0, (0 : Int32))).bind (mr_MO_lay_125 N ki wi u1 x51 r68)
def mb_MO_lay_51 (N : Nat) (ki : Int32) (wi : Int32) (gv : Nat → Int32) (u1 : Int32) (u2 : Int32) (x51 : Int32 × Int32 × (Nat → Int32)) : Option ((Int32 × Int32 × (Nat → Int32)) ⊕ (Int32 × Int32 × (Nat → Int32))) :=
  if wi ≤ x51.2.1 then some (.inr (x51.1, x51.2.1, x51.2.2)) else if x51.1 = 0 then some (.inr (x51.1, x51.2.1, x51.2.2)) else (mi_MO_valueOf N ki u2 x51.2.1).bind fun r68 => if (wi * u1) + x51.2.1 < 0 ∨ 25 ≤ ((wi * u1) + x51.2.1).toNatClampNeg then none else if gv ((wi * u1) + x51.2.1).toNatClampNeg = (-1 : Int32) then mj_MO_lay_121 N ki wi u1 x51 r68 (1 : Int32) else if gv ((wi * u1) + x51.2.1).toNatClampNeg = r68 then mj_MO_lay_121 N ki wi u1 x51 r68 (1 : Int32) else mj_MO_lay_121 N ki wi u1 x51 r68 (0 : Int32)
def mj_MO_lay_47 (N : Nat) (ki : Int32) (wi : Int32) (gv : Nat → Int32) (fl : Nat → Int32) (u1 : Int32) (u2 : Int32) (j47s0 : Int32) : Option (Int32 × (Nat → Int32)) :=
  (lp (mb_MO_lay_51 N ki wi gv u1 u2) N (j47s0, (0 : Int32), fl)).bind (mr_MO_lay_51)
def mi_MO_lay (N : Nat) (ki : Int32) (wi : Int32) (cu : Nat → Int32) (gv : Nat → Int32) (fl : Nat → Int32) (sh : Nat → Int32) (u1 : Int32) (u2 : Int32) : Option (Int32 × (Nat → Int32)) :=
  if ki = (1 : Int32) then mj_MO_lay_47 N ki wi gv fl u1 u2 (1 : Int32) else if ki = (2 : Int32) then (mi_MO_ones N u2).bind fun r17 => if r17 = (1 : Int32) then mj_MO_lay_47 N ki wi gv fl u1 u2 (1 : Int32) else mj_MO_lay_47 N ki wi gv fl u1 u2 (0 : Int32) else if u2 < 0 ∨ 32 ≤ u2.toNatClampNeg then none else if u1 < 0 ∨ 10 ≤ u1.toNatClampNeg then none else if sh u2.toNatClampNeg = cu u1.toNatClampNeg then mj_MO_lay_47 N ki wi gv fl u1 u2 (1 : Int32) else mj_MO_lay_47 N ki wi gv fl u1 u2 (0 : Int32)
def mr_MO_columnsFit_4  (y4 : Int32 × Int32) : Option (Int32) :=
  if ¬ (y4.1 = 0 ∨ y4.1 = 1) then none else some y4.1
def mr_MO_columnsFit_14 (N : Nat) (ki : Int32) (cu : Nat → Int32) (sh : Nat → Int32) (x4 : Int32 × Int32) (y14 : Int32 × Int32) : Option ((Int32 × Int32) ⊕ (Int32 × Int32)) :=
  if x4.1 = 0 then some (.inl ((0 : Int32), x4.2 + 1)) else if ki = (2 : Int32) then (mi_MO_ones N y14.1).bind fun r55 => if r55 = (1 : Int32) then some (.inl ((1 : Int32), x4.2 + 1)) else some (.inl ((0 : Int32), x4.2 + 1)) else if y14.1 < 0 ∨ 32 ≤ y14.1.toNatClampNeg then none else if (5 : Int32) + x4.2 < 0 ∨ 10 ≤ ((5 : Int32) + x4.2).toNatClampNeg then none else if sh y14.1.toNatClampNeg = cu ((5 : Int32) + x4.2).toNatClampNeg then some (.inl ((1 : Int32), x4.2 + 1)) else some (.inl ((0 : Int32), x4.2 + 1))
def mb_MO_columnsFit_14 (fl : Nat → Int32) (x4 : Int32 × Int32) (x14 : Int32 × Int32) : Option ((Int32 × Int32) ⊕ (Int32 × Int32)) :=
  if (5 : Int32) ≤ x14.2 then some (.inr (x14.1, x14.2)) else if ((5 : Int32) * x14.2) + x4.2 < 0 ∨ 25 ≤ (((5 : Int32) * x14.2) + x4.2).toNatClampNeg then none else some (.inl (((2 : Int32) * x14.1) + (fl (((5 : Int32) * x14.2) + x4.2).toNatClampNeg), x14.2 + 1))
def mb_MO_columnsFit_4 (N : Nat) (ki : Int32) (cu : Nat → Int32) (fl : Nat → Int32) (sh : Nat → Int32) (x4 : Int32 × Int32) : Option ((Int32 × Int32) ⊕ (Int32 × Int32)) :=
  if (5 : Int32) ≤ x4.2 then some (.inr (x4.1, x4.2)) else (lp (mb_MO_columnsFit_14 fl x4) N ((0 : Int32), (0 : Int32))).bind (mr_MO_columnsFit_14 N ki cu sh x4)
def mi_MO_columnsFit (N : Nat) (ki : Int32) (cu : Nat → Int32) (fl : Nat → Int32) (sh : Nat → Int32) : Option (Int32) :=
  (lp (mb_MO_columnsFit_4 N ki cu fl sh) N ((1 : Int32), (0 : Int32))).bind (mr_MO_columnsFit_4)
def mr_MO_groupsFit_4  (y4 : Int32 × Int32) : Option (Int32) :=
  if ¬ (y4.1 = 0 ∨ y4.1 = 1) then none else some y4.1
def mj_MO_groupsFit_144 (nu : Nat → Int32) (x4 : Int32 × Int32) (j144s1 : Int32) : Option ((Int32 × Int32) ⊕ (Int32 × Int32)) :=
  if nu x4.2.toNatClampNeg = j144s1 then some (.inl ((1 : Int32), x4.2 + 1)) else some (.inl ((0 : Int32), x4.2 + 1))
def mr_MO_groupsFit_21 (ru : Nat → Int32) (nu : Nat → Int32) (x4 : Int32 × Int32) (y21 : Int32 × Int32 × Int32 × Int32 × Int32) : Option ((Int32 × Int32) ⊕ (Int32 × Int32)) :=
  if y21.1 = 0 then some (.inl ((0 : Int32), x4.2 + 1)) else if x4.2 < 0 ∨ 16 ≤ x4.2.toNatClampNeg then none else if ru x4.2.toNatClampNeg = 0 then some (.inl ((1 : Int32), x4.2 + 1)) else if ru x4.2.toNatClampNeg = (1 : Int32) then mj_MO_groupsFit_144 nu x4 y21.2.1 else mj_MO_groupsFit_144 nu x4 y21.2.2.1
def mj_MO_groupsFit_66 (fl : Nat → Int32) (x21 : Int32 × Int32 × Int32 × Int32 × Int32) (j66s0 : Int32) : Option ((Int32 × Int32 × Int32 × Int32 × Int32) ⊕ (Int32 × Int32 × Int32 × Int32 × Int32)) :=
  some (.inl (j66s0, x21.2.1 + (fl x21.2.2.2.2.toNatClampNeg), x21.2.2.1 * (fl x21.2.2.2.2.toNatClampNeg), x21.2.2.2.1 ||| ((1 : Int32) <<< ((fl x21.2.2.2.2.toNatClampNeg) &&& 31)), x21.2.2.2.2 + 1))
def mb_MO_groupsFit_21 (gr : Nat → Int32) (fl : Nat → Int32) (x4 : Int32 × Int32) (x21 : Int32 × Int32 × Int32 × Int32 × Int32) : Option ((Int32 × Int32 × Int32 × Int32 × Int32) ⊕ (Int32 × Int32 × Int32 × Int32 × Int32)) :=
  if (16 : Int32) ≤ x21.2.2.2.2 then some (.inr (x21.1, x21.2.1, x21.2.2.1, x21.2.2.2.1, x21.2.2.2.2)) else if x21.2.2.2.2 < 0 ∨ 25 ≤ x21.2.2.2.2.toNatClampNeg then none else if gr x21.2.2.2.2.toNatClampNeg = x4.2 then if x21.1 = 0 then mj_MO_groupsFit_66 fl x21 (0 : Int32) else if (x21.2.2.2.1 >>> ((fl x21.2.2.2.2.toNatClampNeg) &&& 31)) &&& (1 : Int32) = 0 then mj_MO_groupsFit_66 fl x21 (1 : Int32) else mj_MO_groupsFit_66 fl x21 (0 : Int32) else some (.inl (x21.1, x21.2.1, x21.2.2.1, x21.2.2.2.1, x21.2.2.2.2 + 1))
def mb_MO_groupsFit_4 (N : Nat) (gr : Nat → Int32) (ru : Nat → Int32) (nu : Nat → Int32) (fl : Nat → Int32) (x4 : Int32 × Int32) : Option ((Int32 × Int32) ⊕ (Int32 × Int32)) :=
  if (16 : Int32) ≤ x4.2 then some (.inr (x4.1, x4.2)) else (lp (mb_MO_groupsFit_21 gr fl x4) N (x4.1, (0 : Int32), (1 : Int32), (0 : Int32), (0 : Int32))).bind (mr_MO_groupsFit_21 ru nu x4)
def mi_MO_groupsFit (N : Nat) (gr : Nat → Int32) (ru : Nat → Int32) (nu : Nat → Int32) (fl : Nat → Int32) : Option (Int32) :=
  (lp (mb_MO_groupsFit_4 N gr ru nu fl) N ((1 : Int32), (0 : Int32))).bind (mr_MO_groupsFit_4)
def mr_MO_starsFit_83  (y83 : Int32 × Int32) : Option (Int32) :=
  if ¬ (y83.1 = 0 ∨ y83.1 = 1) then none else some y83.1
def mr_MO_starsFit_98 (x83 : Int32 × Int32) (y98 : Int32 × Int32) : Option ((Int32 × Int32) ⊕ (Int32 × Int32)) :=
  some (.inl (y98.1, x83.2 + 1))
def mb_MO_starsFit_98 (fl : Nat → Int32) (bd : Nat → Int32) (bs : Nat → Int32) (x83 : Int32 × Int32) (x98 : Int32 × Int32) : Option ((Int32 × Int32) ⊕ (Int32 × Int32)) :=
  if x83.2 < 0 ∨ 25 ≤ x83.2.toNatClampNeg then none else if ((8 : Int32) * x83.2) + (bd x83.2.toNatClampNeg) ≤ x98.2 then some (.inr (x98.1, x98.2)) else if fl x83.2.toNatClampNeg = (1 : Int32) then if x98.1 = 0 then some (.inl ((0 : Int32), x98.2 + 1)) else if x98.2 < 0 ∨ 200 ≤ x98.2.toNatClampNeg then none else if bs x98.2.toNatClampNeg < 0 ∨ 25 ≤ (bs x98.2.toNatClampNeg).toNatClampNeg then none else if fl (bs x98.2.toNatClampNeg).toNatClampNeg = 0 then some (.inl ((1 : Int32), x98.2 + 1)) else some (.inl ((0 : Int32), x98.2 + 1)) else some (.inr (x98.1, x98.2))
def mb_MO_starsFit_83 (N : Nat) (fl : Nat → Int32) (bd : Nat → Int32) (bs : Nat → Int32) (x83 : Int32 × Int32) : Option ((Int32 × Int32) ⊕ (Int32 × Int32)) :=
  if (25 : Int32) ≤ x83.2 then some (.inr (x83.1, x83.2)) else if x83.1 = 0 then some (.inr (x83.1, x83.2)) else (lp (mb_MO_starsFit_98 fl bd bs x83) N (x83.1, (8 : Int32) * x83.2)).bind (mr_MO_starsFit_98 x83)
def mr_MO_starsFit_4 (N : Nat) (fl : Nat → Int32) (bd : Nat → Int32) (bs : Nat → Int32) (y4 : Int32 × Int32) : Option (Int32) :=
  (lp (mb_MO_starsFit_83 N fl bd bs) N (y4.1, (0 : Int32))).bind (mr_MO_starsFit_83)
def mr_MO_starsFit_14 (N : Nat) (ce : Int32) (gr : Nat → Int32) (x4 : Int32 × Int32) (y14 : Int32 × Int32) : Option ((Int32 × Int32) ⊕ (Int32 × Int32)) :=
  if x4.1 = 0 then some (.inl ((0 : Int32), x4.2 + 1)) else if y14.1 = (1 : Int32) then some (.inl ((1 : Int32), x4.2 + 1)) else (mi_MO_sizeOf N ce gr x4.2).bind fun r63 => if r63 = 0 then some (.inl ((1 : Int32), x4.2 + 1)) else some (.inl ((0 : Int32), x4.2 + 1))
def mb_MO_starsFit_14 (gr : Nat → Int32) (fl : Nat → Int32) (x4 : Int32 × Int32) (x14 : Int32 × Int32) : Option ((Int32 × Int32) ⊕ (Int32 × Int32)) :=
  if (25 : Int32) ≤ x14.2 then some (.inr (x14.1, x14.2)) else if x14.2 < 0 ∨ 25 ≤ x14.2.toNatClampNeg then none else if gr x14.2.toNatClampNeg = x4.2 then some (.inl (x14.1 + (fl x14.2.toNatClampNeg), x14.2 + 1)) else some (.inl (x14.1 + (0 : Int32), x14.2 + 1))
def mb_MO_starsFit_4 (N : Nat) (ce : Int32) (gr : Nat → Int32) (fl : Nat → Int32) (x4 : Int32 × Int32) : Option ((Int32 × Int32) ⊕ (Int32 × Int32)) :=
  if (5 : Int32) ≤ x4.2 then some (.inr (x4.1, x4.2)) else (lp (mb_MO_starsFit_14 gr fl x4) N ((0 : Int32), (0 : Int32))).bind (mr_MO_starsFit_14 N ce gr x4)
def mi_MO_starsFit (N : Nat) (ce : Int32) (gr : Nat → Int32) (fl : Nat → Int32) (bd : Nat → Int32) (bs : Nat → Int32) : Option (Int32) :=
  (lp (mb_MO_starsFit_4 N ce gr fl) N ((1 : Int32), (0 : Int32))).bind (mr_MO_starsFit_4 N fl bd bs)
def mi_MO_isFilling (N : Nat) (ki : Int32) (ce : Int32) (cu : Nat → Int32) (gr : Nat → Int32) (ru : Nat → Int32) (nu : Nat → Int32) (fl : Nat → Int32) (sh : Nat → Int32) (bd : Nat → Int32) (bs : Nat → Int32) : Option (Int32) :=
  if ki = (1 : Int32) then (mi_MO_groupsFit N gr ru nu fl).bind fun r9 => if ¬ (r9 = 0 ∨ r9 = 1) then none else some r9 else (mi_MO_columnsFit N ki cu fl sh).bind fun r16 => if r16 = 0 then some (0 : Int32) else if ki = 0 then some (1 : Int32) else (mi_MO_starsFit N ce gr fl bd bs).bind fun r30 => if r30 = 0 then some (0 : Int32) else some (1 : Int32)
def mr_MO_search_30  (y30 : Int32 × Int32 × (Nat → Int32) × (Nat → Int32) × (Nat → Int32)) : Option (Int32 × (Nat → Int32) × (Nat → Int32) × (Nat → Int32)) :=
  some (y30.2.1, y30.2.2.1, y30.2.2.2.1, y30.2.2.2.2)
def mr_MO_search_136 (x30 : Int32 × Int32 × (Nat → Int32) × (Nat → Int32) × (Nat → Int32)) (r98 : Int32 × (Nat → Int32)) (y136 : Int32 × (Nat → Int32)) : Option ((Int32 × Int32 × (Nat → Int32) × (Nat → Int32) × (Nat → Int32)) ⊕ (Int32 × Int32 × (Nat → Int32) × (Nat → Int32) × (Nat → Int32))) :=
  some (.inl (x30.1, x30.2.1 + (1 : Int32), y136.2, r98.2, upd x30.2.2.2.2 x30.1.toNatClampNeg ((x30.2.2.2.2 x30.1.toNatClampNeg) + (1 : Int32))))
def mb_MO_search_136 (ce : Int32) (x30 : Int32 × Int32 × (Nat → Int32) × (Nat → Int32) × (Nat → Int32)) (r98 : Int32 × (Nat → Int32)) (x136 : Int32 × (Nat → Int32)) : Option ((Int32 × (Nat → Int32)) ⊕ (Int32 × (Nat → Int32))) :=
  if ce ≤ x136.1 then some (.inr (x136.1, x136.2)) else if x30.2.1 = 0 then if x136.1 < 0 ∨ 25 ≤ x136.1.toNatClampNeg then none else some (.inl (x136.1 + 1, upd x136.2 x136.1.toNatClampNeg (r98.2 x136.1.toNatClampNeg))) else some (.inr (x136.1, x136.2))
def mj_MO_search_98 (N : Nat) (ki : Int32) (ce : Int32) (wi : Int32) (cu : Nat → Int32) (gr : Nat → Int32) (ru : Nat → Int32) (nu : Nat → Int32) (gv : Nat → Int32) (sh : Nat → Int32) (bd : Nat → Int32) (bs : Nat → Int32) (x30 : Int32 × Int32 × (Nat → Int32) × (Nat → Int32) × (Nat → Int32)) (j98s2 : Int32) : Option ((Int32 × Int32 × (Nat → Int32) × (Nat → Int32) × (Nat → Int32)) ⊕ (Int32 × Int32 × (Nat → Int32) × (Nat → Int32) × (Nat → Int32))) :=
  (mi_MO_lay N ki wi cu gv x30.2.2.2.1 sh x30.1 j98s2).bind fun r98 => if r98.1 = 0 then some (.inl (x30.1, x30.2.1, x30.2.2.1, r98.2, upd x30.2.2.2.2 x30.1.toNatClampNeg ((x30.2.2.2.2 x30.1.toNatClampNeg) + (1 : Int32)))) else if wi - (1 : Int32) ≤ x30.1 then (mi_MO_isFilling N ki ce cu gr ru nu r98.2 sh bd bs).bind fun r128 => if r128 = 0 then some (.inl (x30.1, x30.2.1, x30.2.2.1, r98.2, upd x30.2.2.2.2 x30.1.toNatClampNeg ((x30.2.2.2.2 x30.1.toNatClampNeg) + (1 : Int32)))) else (lp (mb_MO_search_136 ce x30 r98) N ((0 : Int32), x30.2.2.1)).bind (mr_MO_search_136 x30 r98) else if x30.1 + 1 < 0 ∨ 5 ≤ (x30.1 + 1).toNatClampNeg then none else some (.inl (x30.1 + 1, x30.2.1, x30.2.2.1, r98.2, upd (upd x30.2.2.2.2 x30.1.toNatClampNeg ((x30.2.2.2.2 x30.1.toNatClampNeg) + (1 : Int32))) (x30.1 + 1).toNatClampNeg (-1 : Int32)))
def mb_MO_search_30 (N : Nat) (ki : Int32) (ce : Int32) (wi : Int32) (cu : Nat → Int32) (gr : Nat → Int32) (ru : Nat → Int32) (nu : Nat → Int32) (gv : Nat → Int32) (sh : Nat → Int32) (od : Nat → Int32) (bd : Nat → Int32) (bs : Nat → Int32) (j20s0 : Int32) (x30 : Int32 × Int32 × (Nat → Int32) × (Nat → Int32) × (Nat → Int32)) : Option ((Int32 × Int32 × (Nat → Int32) × (Nat → Int32) × (Nat → Int32)) ⊕ (Int32 × Int32 × (Nat → Int32) × (Nat → Int32) × (Nat → Int32))) :=
  if x30.1 < 0 then some (.inr (x30.1, x30.2.1, x30.2.2.1, x30.2.2.2.1, x30.2.2.2.2)) else if (2 : Int32) ≤ x30.2.1 then some (.inr (x30.1, x30.2.1, x30.2.2.1, x30.2.2.2.1, x30.2.2.2.2)) else if x30.1 < 0 ∨ 5 ≤ x30.1.toNatClampNeg then none else if (upd x30.2.2.2.2 x30.1.toNatClampNeg ((x30.2.2.2.2 x30.1.toNatClampNeg) + (1 : Int32))) x30.1.toNatClampNeg = j20s0 then some (.inl (x30.1 + (-1), x30.2.1, x30.2.2.1, x30.2.2.2.1, upd x30.2.2.2.2 x30.1.toNatClampNeg ((x30.2.2.2.2 x30.1.toNatClampNeg) + (1 : Int32)))) else if ki = (1 : Int32) then if (upd x30.2.2.2.2 x30.1.toNatClampNeg ((x30.2.2.2.2 x30.1.toNatClampNeg) + (1 : Int32))) x30.1.toNatClampNeg < 0 ∨ 24 ≤ ((upd x30.2.2.2.2 x30.1.toNatClampNeg ((x30.2.2.2.2 x30.1.toNatClampNeg) + (1 : Int32))) x30.1.toNatClampNeg).toNatClampNeg then none else mj_MO_search_98 N ki ce wi cu gr ru nu gv sh bd bs x30 (od ((upd x30.2.2.2.2 x30.1.toNatClampNeg ((x30.2.2.2.2 x30.1.toNatClampNeg) + (1 : Int32))) x30.1.toNatClampNeg).toNatClampNeg) else mj_MO_search_98 N ki ce wi cu gr ru nu gv sh bd bs x30 ((upd x30.2.2.2.2 x30.1.toNatClampNeg ((x30.2.2.2.2 x30.1.toNatClampNeg) + (1 : Int32))) x30.1.toNatClampNeg)
def mj_MO_search_20 (N : Nat) (ki : Int32) (ce : Int32) (wi : Int32) (cu : Nat → Int32) (gr : Nat → Int32) (ru : Nat → Int32) (nu : Nat → Int32) (gv : Nat → Int32) (fi : Nat → Int32) (fl : Nat → Int32) (pa : Nat → Int32) (sh : Nat → Int32) (od : Nat → Int32) (bd : Nat → Int32) (bs : Nat → Int32) (j20s0 : Int32) : Option (Int32 × (Nat → Int32) × (Nat → Int32) × (Nat → Int32)) :=
  if (0 : Int32) < 0 ∨ 5 ≤ (0 : Int32).toNatClampNeg then none else (lp (mb_MO_search_30 N ki ce wi cu gr ru nu gv sh od bd bs j20s0) N ((0 : Int32), (0 : Int32), fi, fl, upd pa (0 : Int32).toNatClampNeg (-1 : Int32))).bind (mr_MO_search_30)
def mi_MO_search (N : Nat) (ki : Int32) (ce : Int32) (wi : Int32) (fo : Int32) (cu : Nat → Int32) (gr : Nat → Int32) (ru : Nat → Int32) (nu : Nat → Int32) (gv : Nat → Int32) (fi : Nat → Int32) (fl : Nat → Int32) (pa : Nat → Int32) (sh : Nat → Int32) (od : Nat → Int32) (bd : Nat → Int32) (bs : Nat → Int32) : Option (Int32 × (Nat → Int32) × (Nat → Int32) × (Nat → Int32)) :=
  if ki = (1 : Int32) then mj_MO_search_20 N ki ce wi cu gr ru nu gv fi fl pa sh od bd bs (24 : Int32) else mj_MO_search_20 N ki ce wi cu gr ru nu gv fi fl pa sh od bd bs (32 : Int32)
def mi_MO_fillings (N : Nat) (th : Int32) (ki : Int32) (ce : Int32) (wi : Int32) (fo : Int32) (cu : Nat → Int32) (gr : Nat → Int32) (ru : Nat → Int32) (nu : Nat → Int32) (gv : Nat → Int32) (fi : Nat → Int32) (fl : Nat → Int32) (pa : Nat → Int32) (sh : Nat → Int32) (od : Nat → Int32) (bd : Nat → Int32) (bs : Nat → Int32) : Option (Int32 × Int32 × Int32 × (Nat → Int32) × (Nat → Int32) × (Nat → Int32)) :=
  (mi_MO_search N ki ce wi fo cu gr ru nu gv fi fl pa sh od bd bs).bind fun r6 => some (r6.1, (0 : Int32), r6.1, r6.2.1, r6.2.2.1, r6.2.2.2)
def mj_MO_value_43 (u1 : Int32) (r27 : Int32 × (Nat → Int32) × (Nat → Int32) × (Nat → Int32)) (j43s1 : Int32) : Option (Int32 × Int32 × Int32 × (Nat → Int32) × (Nat → Int32) × (Nat → Int32)) :=
  if j43s1 = 0 then if u1 < 0 ∨ 25 ≤ u1.toNatClampNeg then none else some (r27.2.1 u1.toNatClampNeg, j43s1, r27.1, r27.2.1, r27.2.2.1, r27.2.2.2) else some ((0 : Int32), j43s1, r27.1, r27.2.1, r27.2.2.1, r27.2.2.2)
def mj_MO_value_14 (N : Nat) (ki : Int32) (ce : Int32) (wi : Int32) (fo : Int32) (cu : Nat → Int32) (gr : Nat → Int32) (ru : Nat → Int32) (nu : Nat → Int32) (gv : Nat → Int32) (fi : Nat → Int32) (fl : Nat → Int32) (pa : Nat → Int32) (sh : Nat → Int32) (od : Nat → Int32) (bd : Nat → Int32) (bs : Nat → Int32) (u1 : Int32) (j14s1 : Int32) : Option (Int32 × Int32 × Int32 × (Nat → Int32) × (Nat → Int32) × (Nat → Int32)) :=
  if j14s1 = 0 then (mi_MO_search N ki ce wi fo cu gr ru nu gv fi fl pa sh od bd bs).bind fun r27 => if r27.1 = 0 then mj_MO_value_43 u1 r27 (2 : Int32) else mj_MO_value_43 u1 r27 (0 : Int32) else some ((0 : Int32), j14s1, fo, fi, fl, pa)
def mi_MO_value (N : Nat) (th : Int32) (ki : Int32) (ce : Int32) (wi : Int32) (fo : Int32) (cu : Nat → Int32) (gr : Nat → Int32) (ru : Nat → Int32) (nu : Nat → Int32) (gv : Nat → Int32) (fi : Nat → Int32) (fl : Nat → Int32) (pa : Nat → Int32) (sh : Nat → Int32) (od : Nat → Int32) (bd : Nat → Int32) (bs : Nat → Int32) (u1 : Int32) : Option (Int32 × Int32 × Int32 × (Nat → Int32) × (Nat → Int32) × (Nat → Int32)) :=
  (mi_MO_noCell N ce u1).bind fun r3 => if r3 = 0 then mj_MO_value_14 N ki ce wi fo cu gr ru nu gv fi fl pa sh od bd bs u1 (0 : Int32) else mj_MO_value_14 N ki ce wi fo cu gr ru nu gv fi fl pa sh od bd bs u1 (1 : Int32)
def mi_MO_may (N : Nat) (nw : Nat → Int32) (un : Nat → Int32) (u1 : Int32) (u2 : Int32) : Option (Int32) :=
  if u1 < 0 ∨ 25 ≤ u1.toNatClampNeg then none else if un u1.toNatClampNeg < 0 ∨ 25 ≤ (un u1.toNatClampNeg).toNatClampNeg then none else if ((nw (un u1.toNatClampNeg).toNatClampNeg) >>> (u2 &&& 31)) &&& (1 : Int32) = (1 : Int32) then some (1 : Int32) else some (0 : Int32)
def mr_MO_lose_2  (y2 : Int32 × (Nat → Int32)) : Option ((Nat → Int32)) :=
  some y2.2
def mb_MO_lose_2 (ma : Int32) (nw : Nat → Int32) (un : Nat → Int32) (cn : Nat → Int32) (x2 : Int32 × (Nat → Int32)) : Option ((Int32 × (Nat → Int32)) ⊕ (Int32 × (Nat → Int32))) :=
  if ma ≤ x2.1 then some (.inr (x2.1, x2.2)) else if x2.1 < 0 ∨ 25 ≤ x2.1.toNatClampNeg then none else if un x2.1.toNatClampNeg < 0 ∨ 25 ≤ (un x2.1.toNatClampNeg).toNatClampNeg then none else some (.inl (x2.1 + 1, upd x2.2 (un x2.1.toNatClampNeg).toNatClampNeg ((x2.2 (un x2.1.toNatClampNeg).toNatClampNeg) ||| ((nw (un x2.1.toNatClampNeg).toNatClampNeg) &&& ((cn x2.1.toNatClampNeg) ^^^ (-1 : Int32))))))
def mi_MO_lose (N : Nat) (ma : Int32) (nw : Nat → Int32) (lo : Nat → Int32) (un : Nat → Int32) (cn : Nat → Int32) : Option ((Nat → Int32)) :=
  (lp (mb_MO_lose_2 ma nw un cn) N ((0 : Int32), lo)).bind (mr_MO_lose_2)
def mr_MO_beginUnit_7  (y7 : Int32 × (Nat → Int32)) : Option (Int32 × (Nat → Int32)) :=
  some ((0 : Int32), y7.2)
def mb_MO_beginUnit_7  (x7 : Int32 × (Nat → Int32)) : Option ((Int32 × (Nat → Int32)) ⊕ (Int32 × (Nat → Int32))) :=
  if (25 : Int32) ≤ x7.1 then some (.inr (x7.1, x7.2)) else if x7.1 < 0 ∨ 25 ≤ x7.1.toNatClampNeg then none else some (.inl (x7.1 + 1, upd x7.2 x7.1.toNatClampNeg (0 : Int32)))
def mi_MO_beginUnit (N : Nat) (ma : Int32) (cn : Nat → Int32) : Option (Int32 × (Nat → Int32)) :=
  (lp (mb_MO_beginUnit_7) N ((0 : Int32), cn)).bind (mr_MO_beginUnit_7)
def mi_MO_addCell (N : Nat) (ma : Int32) (un : Nat → Int32) (u1 : Int32) : Option (Int32 × (Nat → Int32)) :=
  if ma < 0 ∨ 25 ≤ ma.toNatClampNeg then none else some (ma + (1 : Int32), upd un ma.toNatClampNeg u1)
def mr_MO_addLine_6 (r1 : Int32 × (Nat → Int32)) (y6 : Int32 × Int32 × (Nat → Int32)) : Option (Int32 × (Nat → Int32) × (Nat → Int32)) :=
  some (y6.2.1, y6.2.2, r1.2)
def mj_MO_addLine_47 (N : Nat) (x6 : Int32 × Int32 × (Nat → Int32)) (j47s1 : Int32) : Option ((Int32 × Int32 × (Nat → Int32)) ⊕ (Int32 × Int32 × (Nat → Int32))) :=
  (mi_MO_addCell N x6.2.1 x6.2.2 j47s1).bind fun r47 => some (.inl (x6.1 + 1, r47.1, r47.2))
def mb_MO_addLine_6 (N : Nat) (wi : Int32) (u1 : Int32) (x6 : Int32 × Int32 × (Nat → Int32)) : Option ((Int32 × Int32 × (Nat → Int32)) ⊕ (Int32 × Int32 × (Nat → Int32))) :=
  if wi ≤ x6.1 then some (.inr (x6.1, x6.2.1, x6.2.2)) else if wi ≤ u1 then mj_MO_addLine_47 N x6 (((wi * x6.1) + u1) - wi) else mj_MO_addLine_47 N x6 ((wi * u1) + x6.1)
def mi_MO_addLine (N : Nat) (wi : Int32) (ma : Int32) (un : Nat → Int32) (cn : Nat → Int32) (u1 : Int32) : Option (Int32 × (Nat → Int32) × (Nat → Int32)) :=
  (mi_MO_beginUnit N ma cn).bind fun r1 => (lp (mb_MO_addLine_6 N wi u1) N ((0 : Int32), r1.1, un)).bind (mr_MO_addLine_6 r1)
def mr_MO_tryPicture_7 (N : Nat) (nw : Nat → Int32) (lo : Nat → Int32) (r2 : Int32 × (Nat → Int32) × (Nat → Int32)) (y7 : Int32 × (Nat → Int32)) : Option (Int32 × (Nat → Int32) × (Nat → Int32) × (Nat → Int32)) :=
  (mi_MO_lose N r2.1 nw lo r2.2.1 y7.2).bind fun r114 => some (r2.1, r114, r2.2.1, y7.2)
def mr_MO_tryPicture_71 (x7 : Int32 × (Nat → Int32)) (y71 : Int32 × (Nat → Int32)) : Option ((Int32 × (Nat → Int32)) ⊕ (Int32 × (Nat → Int32))) :=
  some (.inl (x7.1 + 1, y71.2))
def mb_MO_tryPicture_71 (x7 : Int32 × (Nat → Int32)) (y37 : Int32 × Int32) (x71 : Int32 × (Nat → Int32)) : Option ((Int32 × (Nat → Int32)) ⊕ (Int32 × (Nat → Int32))) :=
  if (5 : Int32) ≤ x71.1 then some (.inr (x71.1, x71.2)) else if y37.1 = 0 then some (.inr (x71.1, x71.2)) else if x71.1 < 0 ∨ 25 ≤ x71.1.toNatClampNeg then none else some (.inl (x71.1 + 1, upd x71.2 x71.1.toNatClampNeg ((x71.2 x71.1.toNatClampNeg) ||| ((1 : Int32) <<< (((x7.1 >>> (((4 : Int32) - x71.1) &&& 31)) &&& (1 : Int32)) &&& 31)))))
def mr_MO_tryPicture_37 (N : Nat) (x7 : Int32 × (Nat → Int32)) (y37 : Int32 × Int32) : Option ((Int32 × (Nat → Int32)) ⊕ (Int32 × (Nat → Int32))) :=
  (lp (mb_MO_tryPicture_71 x7 y37) N ((0 : Int32), x7.2)).bind (mr_MO_tryPicture_71 x7)
def mb_MO_tryPicture_37 (N : Nat) (nw : Nat → Int32) (r2 : Int32 × (Nat → Int32) × (Nat → Int32)) (x7 : Int32 × (Nat → Int32)) (x37 : Int32 × Int32) : Option ((Int32 × Int32) ⊕ (Int32 × Int32)) :=
  if (5 : Int32) ≤ x37.2 then some (.inr (x37.1, x37.2)) else if x37.1 = 0 then some (.inr (x37.1, x37.2)) else (mi_MO_may N nw r2.2.1 x37.2 ((x7.1 >>> (((4 : Int32) - x37.2) &&& 31)) &&& (1 : Int32))).bind fun r58 => some (.inl (r58, x37.2 + 1))
def mj_MO_tryPicture_33 (N : Nat) (nw : Nat → Int32) (r2 : Int32 × (Nat → Int32) × (Nat → Int32)) (x7 : Int32 × (Nat → Int32)) (j33s0 : Int32) : Option ((Int32 × (Nat → Int32)) ⊕ (Int32 × (Nat → Int32))) :=
  (lp (mb_MO_tryPicture_37 N nw r2 x7) N (j33s0, (0 : Int32))).bind (mr_MO_tryPicture_37 N x7)
def mb_MO_tryPicture_7 (N : Nat) (cu : Nat → Int32) (nw : Nat → Int32) (sh : Nat → Int32) (u1 : Int32) (r2 : Int32 × (Nat → Int32) × (Nat → Int32)) (x7 : Int32 × (Nat → Int32)) : Option ((Int32 × (Nat → Int32)) ⊕ (Int32 × (Nat → Int32))) :=
  if (32 : Int32) ≤ x7.1 then some (.inr (x7.1, x7.2)) else if x7.1 < 0 ∨ 32 ≤ x7.1.toNatClampNeg then none else if u1 < 0 ∨ 10 ≤ u1.toNatClampNeg then none else if sh x7.1.toNatClampNeg = cu u1.toNatClampNeg then mj_MO_tryPicture_33 N nw r2 x7 (1 : Int32) else mj_MO_tryPicture_33 N nw r2 x7 (0 : Int32)
def mi_MO_tryPicture (N : Nat) (wi : Int32) (ma : Int32) (cu : Nat → Int32) (nw : Nat → Int32) (lo : Nat → Int32) (un : Nat → Int32) (cn : Nat → Int32) (sh : Nat → Int32) (u1 : Int32) : Option (Int32 × (Nat → Int32) × (Nat → Int32) × (Nat → Int32)) :=
  (mi_MO_addLine N wi ma un cn u1).bind fun r2 => (lp (mb_MO_tryPicture_7 N cu nw sh u1 r2) N ((0 : Int32), r2.2.2)).bind (mr_MO_tryPicture_7 N nw lo r2)
def mi_MO_goes (N : Nat) (ma : Int32) (nw : Nat → Int32) (un : Nat → Int32) (u1 : Int32) (u2 : Int32) (u3 : Int32) : Option (Int32) :=
  if ma ≤ u1 then if u2 = 0 then some (1 : Int32) else some (0 : Int32) else if u2 ≤ 0 then some (0 : Int32) else (mi_MO_may N nw un u1 u2).bind fun r15 => if r15 = 0 then some (0 : Int32) else if (u3 >>> (u2 &&& 31)) &&& (1 : Int32) = 0 then some (1 : Int32) else some (0 : Int32)
def mj_MO_note_68 (cn : Nat → Int32) (u1 : Int32) (u2 : Int32) (u3 : Int32) (u4 : Int32)  : Option ((Nat → Int32)) :=
  if (0 : Int32) < 0 ∨ 25 ≤ (0 : Int32).toNatClampNeg then none else if (1 : Int32) < 0 ∨ 25 ≤ (1 : Int32).toNatClampNeg then none else if (2 : Int32) < 0 ∨ 25 ≤ (2 : Int32).toNatClampNeg then none else if (3 : Int32) < 0 ∨ 25 ≤ (3 : Int32).toNatClampNeg then none else some (upd (upd (upd (upd cn (0 : Int32).toNatClampNeg ((cn (0 : Int32).toNatClampNeg) ||| ((1 : Int32) <<< (u1 &&& 31)))) (1 : Int32).toNatClampNeg (((upd cn (0 : Int32).toNatClampNeg ((cn (0 : Int32).toNatClampNeg) ||| ((1 : Int32) <<< (u1 &&& 31)))) (1 : Int32).toNatClampNeg) ||| ((1 : Int32) <<< (u2 &&& 31)))) (2 : Int32).toNatClampNeg (((upd (upd cn (0 : Int32).toNatClampNeg ((cn (0 : Int32).toNatClampNeg) ||| ((1 : Int32) <<< (u1 &&& 31)))) (1 : Int32).toNatClampNeg (((upd cn (0 : Int32).toNatClampNeg ((cn (0 : Int32).toNatClampNeg) ||| ((1 : Int32) <<< (u1 &&& 31)))) (1 : Int32).toNatClampNeg) ||| ((1 : Int32) <<< (u2 &&& 31)))) (2 : Int32).toNatClampNeg) ||| ((1 : Int32) <<< (u3 &&& 31)))) (3 : Int32).toNatClampNeg (((upd (upd (upd cn (0 : Int32).toNatClampNeg ((cn (0 : Int32).toNatClampNeg) ||| ((1 : Int32) <<< (u1 &&& 31)))) (1 : Int32).toNatClampNeg (((upd cn (0 : Int32).toNatClampNeg ((cn (0 : Int32).toNatClampNeg) ||| ((1 : Int32) <<< (u1 &&& 31)))) (1 : Int32).toNatClampNeg) ||| ((1 : Int32) <<< (u2 &&& 31)))) (2 : Int32).toNatClampNeg (((upd (upd cn (0 : Int32).toNatClampNeg ((cn (0 : Int32).toNatClampNeg) ||| ((1 : Int32) <<< (u1 &&& 31)))) (1 : Int32).toNatClampNeg (((upd cn (0 : Int32).toNatClampNeg ((cn (0 : Int32).toNatClampNeg) ||| ((1 : Int32) <<< (u1 &&& 31)))) (1 : Int32).toNatClampNeg) ||| ((1 : Int32) <<< (u2 &&& 31)))) (2 : Int32).toNatClampNeg) ||| ((1 : Int32) <<< (u3 &&& 31)))) (3 : Int32).toNatClampNeg) ||| ((1 : Int32) <<< (u4 &&& 31))))
def mj_MO_note_54 (cn : Nat → Int32) (u1 : Int32) (u2 : Int32) (u3 : Int32) (u4 : Int32) (u5 : Int32) (u6 : Int32) (j10s1 : Int32) (j32s1 : Int32)  : Option ((Nat → Int32)) :=
  if u5 = (2 : Int32) then if ((u1 * j10s1) * (1 : Int32)) * j32s1 = u6 then mj_MO_note_68 cn u1 u2 u3 u4 else some cn else mj_MO_note_68 cn u1 u2 u3 u4
def mj_MO_note_32 (cn : Nat → Int32) (u1 : Int32) (u2 : Int32) (u3 : Int32) (u4 : Int32) (u5 : Int32) (u6 : Int32) (j10s1 : Int32) (j32s1 : Int32) : Option ((Nat → Int32)) :=
  if u5 = (1 : Int32) then if ((u1 + u2) + u3) + u4 = u6 then mj_MO_note_54 cn u1 u2 u3 u4 u5 u6 j10s1 j32s1 else some cn else mj_MO_note_54 cn u1 u2 u3 u4 u5 u6 j10s1 j32s1
def mj_MO_note_68' (cn : Nat → Int32) (u1 : Int32) (u2 : Int32) (u3 : Int32) (u4 : Int32)  : Option ((Nat → Int32)) :=
  if (0 : Int32) < 0 ∨ 25 ≤ (0 : Int32).toNatClampNeg then none else if (1 : Int32) < 0 ∨ 25 ≤ (1 : Int32).toNatClampNeg then none else if (2 : Int32) < 0 ∨ 25 ≤ (2 : Int32).toNatClampNeg then none else if (3 : Int32) < 0 ∨ 25 ≤ (3 : Int32).toNatClampNeg then none else some (upd (upd (upd (upd cn (0 : Int32).toNatClampNeg ((cn (0 : Int32).toNatClampNeg) ||| ((1 : Int32) <<< (u1 &&& 31)))) (1 : Int32).toNatClampNeg (((upd cn (0 : Int32).toNatClampNeg ((cn (0 : Int32).toNatClampNeg) ||| ((1 : Int32) <<< (u1 &&& 31)))) (1 : Int32).toNatClampNeg) ||| ((1 : Int32) <<< (u2 &&& 31)))) (2 : Int32).toNatClampNeg (((upd (upd cn (0 : Int32).toNatClampNeg ((cn (0 : Int32).toNatClampNeg) ||| ((1 : Int32) <<< (u1 &&& 31)))) (1 : Int32).toNatClampNeg (((upd cn (0 : Int32).toNatClampNeg ((cn (0 : Int32).toNatClampNeg) ||| ((1 : Int32) <<< (u1 &&& 31)))) (1 : Int32).toNatClampNeg) ||| ((1 : Int32) <<< (u2 &&& 31)))) (2 : Int32).toNatClampNeg) ||| ((1 : Int32) <<< (u3 &&& 31)))) (3 : Int32).toNatClampNeg (((upd (upd (upd cn (0 : Int32).toNatClampNeg ((cn (0 : Int32).toNatClampNeg) ||| ((1 : Int32) <<< (u1 &&& 31)))) (1 : Int32).toNatClampNeg (((upd cn (0 : Int32).toNatClampNeg ((cn (0 : Int32).toNatClampNeg) ||| ((1 : Int32) <<< (u1 &&& 31)))) (1 : Int32).toNatClampNeg) ||| ((1 : Int32) <<< (u2 &&& 31)))) (2 : Int32).toNatClampNeg (((upd (upd cn (0 : Int32).toNatClampNeg ((cn (0 : Int32).toNatClampNeg) ||| ((1 : Int32) <<< (u1 &&& 31)))) (1 : Int32).toNatClampNeg (((upd cn (0 : Int32).toNatClampNeg ((cn (0 : Int32).toNatClampNeg) ||| ((1 : Int32) <<< (u1 &&& 31)))) (1 : Int32).toNatClampNeg) ||| ((1 : Int32) <<< (u2 &&& 31)))) (2 : Int32).toNatClampNeg) ||| ((1 : Int32) <<< (u3 &&& 31)))) (3 : Int32).toNatClampNeg) ||| ((1 : Int32) <<< (u4 &&& 31))))
def mj_MO_note_54' (cn : Nat → Int32) (u1 : Int32) (u2 : Int32) (u3 : Int32) (u4 : Int32) (u5 : Int32) (u6 : Int32) (j10s1 : Int32) (j32s1 : Int32)  : Option ((Nat → Int32)) :=
  if u5 = (2 : Int32) then if ((u1 * j10s1) * u3) * j32s1 = u6 then mj_MO_note_68' cn u1 u2 u3 u4 else some cn else mj_MO_note_68' cn u1 u2 u3 u4
def mj_MO_note_32' (cn : Nat → Int32) (u1 : Int32) (u2 : Int32) (u3 : Int32) (u4 : Int32) (u5 : Int32) (u6 : Int32) (j10s1 : Int32) (j32s1 : Int32) : Option ((Nat → Int32)) :=
  if u5 = (1 : Int32) then if ((u1 + u2) + u3) + u4 = u6 then mj_MO_note_54' cn u1 u2 u3 u4 u5 u6 j10s1 j32s1 else some cn else mj_MO_note_54' cn u1 u2 u3 u4 u5 u6 j10s1 j32s1
def mj_MO_note_10 (cn : Nat → Int32) (u1 : Int32) (u2 : Int32) (u3 : Int32) (u4 : Int32) (u5 : Int32) (u6 : Int32) (j10s1 : Int32) : Option ((Nat → Int32)) :=
  if u3 ≤ 0 then if u4 ≤ 0 then mj_MO_note_32 cn u1 u2 u3 u4 u5 u6 j10s1 (1 : Int32) else mj_MO_note_32 cn u1 u2 u3 u4 u5 u6 j10s1 u4 else if u4 ≤ 0 then mj_MO_note_32' cn u1 u2 u3 u4 u5 u6 j10s1 (1 : Int32) else mj_MO_note_32' cn u1 u2 u3 u4 u5 u6 j10s1 u4
def mi_MO_note (N : Nat) (cn : Nat → Int32) (u1 : Int32) (u2 : Int32) (u3 : Int32) (u4 : Int32) (u5 : Int32) (u6 : Int32) : Option ((Nat → Int32)) :=
  if u2 ≤ 0 then mj_MO_note_10 cn u1 u2 u3 u4 u5 u6 (1 : Int32) else mj_MO_note_10 cn u1 u2 u3 u4 u5 u6 u2
def mr_MO_trySquare_2 (N : Nat) (ma : Int32) (nw : Nat → Int32) (lo : Nat → Int32) (un : Nat → Int32) (y2 : Int32 × (Nat → Int32)) : Option ((Nat → Int32) × (Nat → Int32)) :=
  (mi_MO_lose N ma nw lo un y2.2).bind fun r144 => some (r144, y2.2)
def mr_MO_trySquare_22 (x2 : Int32 × (Nat → Int32)) (y22 : Int32 × (Nat → Int32)) : Option ((Int32 × (Nat → Int32)) ⊕ (Int32 × (Nat → Int32))) :=
  some (.inl (x2.1 + 1, y22.2))
def mr_MO_trySquare_47 (x22 : Int32 × (Nat → Int32)) (y47 : Int32 × (Nat → Int32)) : Option ((Int32 × (Nat → Int32)) ⊕ (Int32 × (Nat → Int32))) :=
  some (.inl (x22.1 + 1, y47.2))
def mr_MO_trySquare_77 (x47 : Int32 × (Nat → Int32)) (y77 : Int32 × (Nat → Int32)) : Option ((Int32 × (Nat → Int32)) ⊕ (Int32 × (Nat → Int32))) :=
  some (.inl (x47.1 + 1, y77.2))
def mb_MO_trySquare_77 (N : Nat) (ma : Int32) (nw : Nat → Int32) (un : Nat → Int32) (u1 : Int32) (u2 : Int32) (x2 : Int32 × (Nat → Int32)) (x22 : Int32 × (Nat → Int32)) (x47 : Int32 × (Nat → Int32)) (x77 : Int32 × (Nat → Int32)) : Option ((Int32 × (Nat → Int32)) ⊕ (Int32 × (Nat → Int32))) :=
  if (5 : Int32) ≤ x77.1 then some (.inr (x77.1, x77.2)) else (mi_MO_goes N ma nw un (3 : Int32) x77.1 ((((1 : Int32) <<< (x2.1 &&& 31)) ||| ((1 : Int32) <<< (x22.1 &&& 31))) ||| ((1 : Int32) <<< (x47.1 &&& 31)))).bind fun r100 => if r100 = 0 then some (.inl (x77.1 + 1, x77.2)) else (mi_MO_note N x77.2 x2.1 x22.1 x47.1 x77.1 u1 u2).bind fun r116 => some (.inl (x77.1 + 1, r116))
def mb_MO_trySquare_47 (N : Nat) (ma : Int32) (nw : Nat → Int32) (un : Nat → Int32) (u1 : Int32) (u2 : Int32) (x2 : Int32 × (Nat → Int32)) (x22 : Int32 × (Nat → Int32)) (x47 : Int32 × (Nat → Int32)) : Option ((Int32 × (Nat → Int32)) ⊕ (Int32 × (Nat → Int32))) :=
  if (5 : Int32) ≤ x47.1 then some (.inr (x47.1, x47.2)) else (mi_MO_goes N ma nw un (2 : Int32) x47.1 (((1 : Int32) <<< (x2.1 &&& 31)) ||| ((1 : Int32) <<< (x22.1 &&& 31)))).bind fun r65 => if r65 = 0 then some (.inl (x47.1 + 1, x47.2)) else (lp (mb_MO_trySquare_77 N ma nw un u1 u2 x2 x22 x47) N ((0 : Int32), x47.2)).bind (mr_MO_trySquare_77 x47)
def mb_MO_trySquare_22 (N : Nat) (ma : Int32) (nw : Nat → Int32) (un : Nat → Int32) (u1 : Int32) (u2 : Int32) (x2 : Int32 × (Nat → Int32)) (x22 : Int32 × (Nat → Int32)) : Option ((Int32 × (Nat → Int32)) ⊕ (Int32 × (Nat → Int32))) :=
  if (5 : Int32) ≤ x22.1 then some (.inr (x22.1, x22.2)) else (mi_MO_goes N ma nw un (1 : Int32) x22.1 ((1 : Int32) <<< (x2.1 &&& 31))).bind fun r35 => if r35 = 0 then some (.inl (x22.1 + 1, x22.2)) else (lp (mb_MO_trySquare_47 N ma nw un u1 u2 x2 x22) N ((0 : Int32), x22.2)).bind (mr_MO_trySquare_47 x22)
def mb_MO_trySquare_2 (N : Nat) (ma : Int32) (nw : Nat → Int32) (un : Nat → Int32) (u1 : Int32) (u2 : Int32) (x2 : Int32 × (Nat → Int32)) : Option ((Int32 × (Nat → Int32)) ⊕ (Int32 × (Nat → Int32))) :=
  if (5 : Int32) ≤ x2.1 then some (.inr (x2.1, x2.2)) else (mi_MO_may N nw un (0 : Int32) x2.1).bind fun r10 => if r10 = 0 then some (.inl (x2.1 + 1, x2.2)) else (lp (mb_MO_trySquare_22 N ma nw un u1 u2 x2) N ((0 : Int32), x2.2)).bind (mr_MO_trySquare_22 x2)
def mi_MO_trySquare (N : Nat) (ma : Int32) (nw : Nat → Int32) (lo : Nat → Int32) (un : Nat → Int32) (cn : Nat → Int32) (u1 : Int32) (u2 : Int32) : Option ((Nat → Int32) × (Nat → Int32)) :=
  (lp (mb_MO_trySquare_2 N ma nw un u1 u2) N ((1 : Int32), cn)).bind (mr_MO_trySquare_2 N ma nw lo un)
def mr_MO_tryStar_79 (N : Nat) (ma : Int32) (nw : Nat → Int32) (lo : Nat → Int32) (un : Nat → Int32) (y79 : Int32 × (Nat → Int32)) : Option ((Nat → Int32) × (Nat → Int32)) :=
  (mi_MO_lose N ma nw lo un y79.2).bind fun r210 => some (r210, y79.2)
def mj_MO_tryStar_185 (x79 : Int32 × (Nat → Int32)) (j175s2 : Int32) (j185l5 : Int32) (j185l6 : Int32) (j185l8 : Int32) (j185cn : Nat → Int32) : Option ((Int32 × (Nat → Int32)) ⊕ (Int32 × (Nat → Int32))) :=
  if j185l6 = (1 : Int32) then if j185l8 = 0 then if x79.1 < 0 ∨ 25 ≤ x79.1.toNatClampNeg then none else some (.inl (j185l5 + 1, upd j185cn x79.1.toNatClampNeg (j175s2 ||| (0 : Int32)))) else if x79.1 < 0 ∨ 25 ≤ x79.1.toNatClampNeg then none else some (.inl (j185l5 + 1, upd j185cn x79.1.toNatClampNeg (j175s2 ||| (1 : Int32)))) else if x79.1 < 0 ∨ 25 ≤ x79.1.toNatClampNeg then none else some (.inl (j185l5 + 1, upd j185cn x79.1.toNatClampNeg (j175s2 ||| (0 : Int32))))
def mj_MO_tryStar_175 (y12 : Int32 × Int32 × Int32 × Int32 × Int32) (x79 : Int32 × (Nat → Int32)) (j104s1 : Int32) (j123s1 : Int32) (j157s0 : Int32) (j175s2 : Int32) : Option ((Int32 × (Nat → Int32)) ⊕ (Int32 × (Nat → Int32))) :=
  if y12.1 - j104s1 = 0 then if 0 < y12.2.1 - j123s1 then if x79.1 < 0 ∨ 25 ≤ x79.1.toNatClampNeg then none else some (.inl (x79.1 + 1, upd x79.2 x79.1.toNatClampNeg (j175s2 ||| (1 : Int32)))) else mj_MO_tryStar_185 x79 j175s2 x79.1 (y12.1 - j104s1) j157s0 x79.2 else mj_MO_tryStar_185 x79 j175s2 x79.1 (y12.1 - j104s1) j157s0 x79.2
def mj_MO_tryStar_157 (y12 : Int32 × Int32 × Int32 × Int32 × Int32) (x79 : Int32 × (Nat → Int32)) (j104s1 : Int32) (j123s1 : Int32) (j157s0 : Int32) : Option ((Int32 × (Nat → Int32)) ⊕ (Int32 × (Nat → Int32))) :=
  if y12.1 - j104s1 = 0 then mj_MO_tryStar_175 y12 x79 j104s1 j123s1 j157s0 (2 : Int32) else mj_MO_tryStar_175 y12 x79 j104s1 j123s1 j157s0 (0 : Int32)
def mj_MO_tryStar_145 (N : Nat) (nw : Nat → Int32) (un : Nat → Int32) (y12 : Int32 × Int32 × Int32 × Int32 × Int32) (x79 : Int32 × (Nat → Int32)) (j104s1 : Int32) (j123s1 : Int32) (j145s1 : Int32) : Option ((Int32 × (Nat → Int32)) ⊕ (Int32 × (Nat → Int32))) :=
  (mi_MO_may N nw un j145s1 (1 : Int32)).bind fun r146 => if r146 = 0 then mj_MO_tryStar_157 y12 x79 j104s1 j123s1 (0 : Int32) else mj_MO_tryStar_157 y12 x79 j104s1 j123s1 (1 : Int32)
def mj_MO_tryStar_123 (N : Nat) (nw : Nat → Int32) (un : Nat → Int32) (y12 : Int32 × Int32 × Int32 × Int32 × Int32) (x79 : Int32 × (Nat → Int32)) (j104s1 : Int32) (j123s1 : Int32) : Option ((Int32 × (Nat → Int32)) ⊕ (Int32 × (Nat → Int32))) :=
  if y12.1 - j104s1 = (1 : Int32) then if x79.1 = y12.2.2.1 then mj_MO_tryStar_145 N nw un y12 x79 j104s1 j123s1 y12.2.2.2.1 else mj_MO_tryStar_145 N nw un y12 x79 j104s1 j123s1 y12.2.2.1 else mj_MO_tryStar_157 y12 x79 j104s1 j123s1 (0 : Int32)
def mj_MO_tryStar_104 (N : Nat) (nw : Nat → Int32) (un : Nat → Int32) (y12 : Int32 × Int32 × Int32 × Int32 × Int32) (x79 : Int32 × (Nat → Int32)) (j104s1 : Int32) : Option ((Int32 × (Nat → Int32)) ⊕ (Int32 × (Nat → Int32))) :=
  (mi_MO_may N nw un x79.1 (1 : Int32)).bind fun r112 => if r112 = 0 then mj_MO_tryStar_123 N nw un y12 x79 j104s1 (0 : Int32) else mj_MO_tryStar_123 N nw un y12 x79 j104s1 (1 : Int32)
def mb_MO_tryStar_79 (N : Nat) (ma : Int32) (nw : Nat → Int32) (un : Nat → Int32) (y12 : Int32 × Int32 × Int32 × Int32 × Int32) (x79 : Int32 × (Nat → Int32)) : Option ((Int32 × (Nat → Int32)) ⊕ (Int32 × (Nat → Int32))) :=
  if ma ≤ x79.1 then some (.inr (x79.1, x79.2)) else (mi_MO_may N nw un x79.1 (0 : Int32)).bind fun r93 => if r93 = 0 then mj_MO_tryStar_104 N nw un y12 x79 (1 : Int32) else mj_MO_tryStar_104 N nw un y12 x79 (0 : Int32)
def mr_MO_tryStar_12 (N : Nat) (ma : Int32) (nw : Nat → Int32) (lo : Nat → Int32) (un : Nat → Int32) (cn : Nat → Int32) (y12 : Int32 × Int32 × Int32 × Int32 × Int32) : Option ((Nat → Int32) × (Nat → Int32)) :=
  (lp (mb_MO_tryStar_79 N ma nw un y12) N ((0 : Int32), cn)).bind (mr_MO_tryStar_79 N ma nw lo un)
def mj_MO_tryStar_37 (N : Nat) (nw : Nat → Int32) (un : Nat → Int32) (x12 : Int32 × Int32 × Int32 × Int32 × Int32) (j37s1 : Int32) : Option ((Int32 × Int32 × Int32 × Int32 × Int32) ⊕ (Int32 × Int32 × Int32 × Int32 × Int32)) :=
  (mi_MO_may N nw un x12.2.2.2.2 (0 : Int32)).bind fun r43 => if r43 = 0 then if 0 ≤ x12.2.2.1 then some (.inl (x12.1 + 1, x12.2.1 + j37s1, x12.2.2.1, x12.2.2.2.2, x12.2.2.2.2 + 1)) else some (.inl (x12.1 + 1, x12.2.1 + j37s1, x12.2.2.2.2, x12.2.2.2.2, x12.2.2.2.2 + 1)) else some (.inl (x12.1, x12.2.1 + j37s1, x12.2.2.1, x12.2.2.2.1, x12.2.2.2.2 + 1))
def mb_MO_tryStar_12 (N : Nat) (ma : Int32) (nw : Nat → Int32) (un : Nat → Int32) (x12 : Int32 × Int32 × Int32 × Int32 × Int32) : Option ((Int32 × Int32 × Int32 × Int32 × Int32) ⊕ (Int32 × Int32 × Int32 × Int32 × Int32)) :=
  if ma ≤ x12.2.2.2.2 then some (.inr (x12.1, x12.2.1, x12.2.2.1, x12.2.2.2.1, x12.2.2.2.2)) else (mi_MO_may N nw un x12.2.2.2.2 (1 : Int32)).bind fun r26 => if r26 = 0 then mj_MO_tryStar_37 N nw un x12 (0 : Int32) else mj_MO_tryStar_37 N nw un x12 (1 : Int32)
def mi_MO_tryStar (N : Nat) (ma : Int32) (nw : Nat → Int32) (lo : Nat → Int32) (un : Nat → Int32) (cn : Nat → Int32) : Option ((Nat → Int32) × (Nat → Int32)) :=
  (lp (mb_MO_tryStar_12 N ma nw un) N ((0 : Int32), (0 : Int32), (-1 : Int32), (-1 : Int32), (0 : Int32))).bind (mr_MO_tryStar_12 N ma nw lo un cn)
def mr_MO_tryPairs_2  (y2 : Int32 × (Nat → Int32)) : Option ((Nat → Int32)) :=
  some y2.2
def mr_MO_tryPairs_13 (x2 : Int32 × (Nat → Int32)) (y13 : Int32 × (Nat → Int32)) : Option ((Int32 × (Nat → Int32)) ⊕ (Int32 × (Nat → Int32))) :=
  some (.inl (x2.1 + 1, y13.2))
def mb_MO_tryPairs_13 (nw : Nat → Int32) (bd : Nat → Int32) (bs : Nat → Int32) (x2 : Int32 × (Nat → Int32)) (x13 : Int32 × (Nat → Int32)) : Option ((Int32 × (Nat → Int32)) ⊕ (Int32 × (Nat → Int32))) :=
  if x2.1 < 0 ∨ 25 ≤ x2.1.toNatClampNeg then none else if ((8 : Int32) * x2.1) + (bd x2.1.toNatClampNeg) ≤ x13.1 then some (.inr (x13.1, x13.2)) else if x13.1 < 0 ∨ 200 ≤ x13.1.toNatClampNeg then none else if bs x13.1.toNatClampNeg < 0 ∨ 25 ≤ (bs x13.1.toNatClampNeg).toNatClampNeg then none else if (nw (bs x13.1.toNatClampNeg).toNatClampNeg) &&& (1 : Int32) = (1 : Int32) then some (.inl (x13.1 + 1, upd x13.2 x2.1.toNatClampNeg ((x13.2 x2.1.toNatClampNeg) ||| ((nw x2.1.toNatClampNeg) &&& ((3 : Int32) ^^^ (-1 : Int32)))))) else if nw (bs x13.1.toNatClampNeg).toNatClampNeg = 0 then some (.inl (x13.1 + 1, upd x13.2 x2.1.toNatClampNeg ((x13.2 x2.1.toNatClampNeg) ||| ((nw x2.1.toNatClampNeg) &&& ((0 : Int32) ^^^ (-1 : Int32)))))) else some (.inl (x13.1 + 1, upd x13.2 x2.1.toNatClampNeg ((x13.2 x2.1.toNatClampNeg) ||| ((nw x2.1.toNatClampNeg) &&& ((1 : Int32) ^^^ (-1 : Int32))))))
def mb_MO_tryPairs_2 (N : Nat) (nw : Nat → Int32) (bd : Nat → Int32) (bs : Nat → Int32) (x2 : Int32 × (Nat → Int32)) : Option ((Int32 × (Nat → Int32)) ⊕ (Int32 × (Nat → Int32))) :=
  if (25 : Int32) ≤ x2.1 then some (.inr (x2.1, x2.2)) else (lp (mb_MO_tryPairs_13 nw bd bs x2) N ((8 : Int32) * x2.1, x2.2)).bind (mr_MO_tryPairs_13 x2)
def mi_MO_tryPairs (N : Nat) (nw : Nat → Int32) (lo : Nat → Int32) (bd : Nat → Int32) (bs : Nat → Int32) : Option ((Nat → Int32)) :=
  (lp (mb_MO_tryPairs_2 N nw bd bs) N ((0 : Int32), lo)).bind (mr_MO_tryPairs_2)
def mr_MO_addGroup_6 (r1 : Int32 × (Nat → Int32)) (y6 : Int32 × Int32 × (Nat → Int32)) : Option (Int32 × (Nat → Int32) × (Nat → Int32)) :=
  some (y6.2.1, y6.2.2, r1.2)
def mb_MO_addGroup_6 (N : Nat) (ce : Int32) (gr : Nat → Int32) (u1 : Int32) (x6 : Int32 × Int32 × (Nat → Int32)) : Option ((Int32 × Int32 × (Nat → Int32)) ⊕ (Int32 × Int32 × (Nat → Int32))) :=
  if ce ≤ x6.1 then some (.inr (x6.1, x6.2.1, x6.2.2)) else if x6.1 < 0 ∨ 25 ≤ x6.1.toNatClampNeg then none else if gr x6.1.toNatClampNeg = u1 then (mi_MO_addCell N x6.2.1 x6.2.2 x6.1).bind fun r26 => some (.inl (x6.1 + 1, r26.1, r26.2)) else some (.inl (x6.1 + 1, x6.2.1, x6.2.2))
def mi_MO_addGroup (N : Nat) (ce : Int32) (ma : Int32) (gr : Nat → Int32) (un : Nat → Int32) (cn : Nat → Int32) (u1 : Int32) : Option (Int32 × (Nat → Int32) × (Nat → Int32)) :=
  (mi_MO_beginUnit N ma cn).bind fun r1 => (lp (mb_MO_addGroup_6 N ce gr u1) N ((0 : Int32), r1.1, un)).bind (mr_MO_addGroup_6 r1)
def mr_MO_look_163 (y82 : Int32 × Int32 × (Nat → Int32) × (Nat → Int32) × (Nat → Int32)) (j159lo : Nat → Int32) (y163 : Int32 × Int32) : Option (Int32 × Int32 × (Nat → Int32) × (Nat → Int32) × (Nat → Int32)) :=
  if ¬ (y163.1 = 0 ∨ y163.1 = 1) then none else some (y163.1, y82.2.1, j159lo, y82.2.2.2.1, y82.2.2.2.2)
def mb_MO_look_163 (ce : Int32) (j159lo : Nat → Int32) (x163 : Int32 × Int32) : Option ((Int32 × Int32) ⊕ (Int32 × Int32)) :=
  if ce ≤ x163.2 then some (.inr (x163.1, x163.2)) else if x163.1 = 0 then if x163.2 < 0 ∨ 25 ≤ x163.2.toNatClampNeg then none else if j159lo x163.2.toNatClampNeg = 0 then some (.inl ((0 : Int32), x163.2 + 1)) else some (.inl ((1 : Int32), x163.2 + 1)) else some (.inl ((1 : Int32), x163.2 + 1))
def mj_MO_look_159 (N : Nat) (ce : Int32) (y82 : Int32 × Int32 × (Nat → Int32) × (Nat → Int32) × (Nat → Int32)) (j159lo : Nat → Int32) : Option (Int32 × Int32 × (Nat → Int32) × (Nat → Int32) × (Nat → Int32)) :=
  (lp (mb_MO_look_163 ce j159lo) N ((0 : Int32), (0 : Int32))).bind (mr_MO_look_163 y82 j159lo)
def mr_MO_look_82 (N : Nat) (ki : Int32) (ce : Int32) (nw : Nat → Int32) (bd : Nat → Int32) (bs : Nat → Int32) (y82 : Int32 × Int32 × (Nat → Int32) × (Nat → Int32) × (Nat → Int32)) : Option (Int32 × Int32 × (Nat → Int32) × (Nat → Int32) × (Nat → Int32)) :=
  if ki = (2 : Int32) then (mi_MO_tryPairs N nw y82.2.2.1 bd bs).bind fun r156 => mj_MO_look_159 N ce y82 r156 else mj_MO_look_159 N ce y82 y82.2.2.1
def mb_MO_look_82 (N : Nat) (ki : Int32) (ce : Int32) (gr : Nat → Int32) (ru : Nat → Int32) (nu : Nat → Int32) (nw : Nat → Int32) (x82 : Int32 × Int32 × (Nat → Int32) × (Nat → Int32) × (Nat → Int32)) : Option ((Int32 × Int32 × (Nat → Int32) × (Nat → Int32) × (Nat → Int32)) ⊕ (Int32 × Int32 × (Nat → Int32) × (Nat → Int32) × (Nat → Int32))) :=
  if (16 : Int32) ≤ x82.1 then some (.inr (x82.1, x82.2.1, x82.2.2.1, x82.2.2.2.1, x82.2.2.2.2)) else if ki = 0 then some (.inr (x82.1, x82.2.1, x82.2.2.1, x82.2.2.2.1, x82.2.2.2.2)) else (mi_MO_addGroup N ce x82.2.1 gr x82.2.2.2.1 x82.2.2.2.2 x82.1).bind fun r97 => if r97.1 = 0 then some (.inl (x82.1 + 1, r97.1, x82.2.2.1, r97.2.1, r97.2.2)) else if ki = (1 : Int32) then if x82.1 < 0 ∨ 16 ≤ x82.1.toNatClampNeg then none else (mi_MO_trySquare N r97.1 nw x82.2.2.1 r97.2.1 r97.2.2 (ru x82.1.toNatClampNeg) (nu x82.1.toNatClampNeg)).bind fun r131 => some (.inl (x82.1 + 1, r97.1, r131.1, r97.2.1, r131.2)) else (mi_MO_tryStar N r97.1 nw x82.2.2.1 r97.2.1 r97.2.2).bind fun r138 => some (.inl (x82.1 + 1, r97.1, r138.1, r97.2.1, r138.2))
def mr_MO_look_23 (N : Nat) (ki : Int32) (ce : Int32) (gr : Nat → Int32) (ru : Nat → Int32) (nu : Nat → Int32) (nw : Nat → Int32) (bd : Nat → Int32) (bs : Nat → Int32) (y23 : Int32 × Int32 × (Nat → Int32) × (Nat → Int32) × (Nat → Int32)) : Option (Int32 × Int32 × (Nat → Int32) × (Nat → Int32) × (Nat → Int32)) :=
  (lp (mb_MO_look_82 N ki ce gr ru nu nw) N ((0 : Int32), y23.2.1, y23.2.2.1, y23.2.2.2.1, y23.2.2.2.2)).bind (mr_MO_look_82 N ki ce nw bd bs)
def mb_MO_look_23 (N : Nat) (ki : Int32) (wi : Int32) (cu : Nat → Int32) (nw : Nat → Int32) (sh : Nat → Int32) (x23 : Int32 × Int32 × (Nat → Int32) × (Nat → Int32) × (Nat → Int32)) : Option ((Int32 × Int32 × (Nat → Int32) × (Nat → Int32) × (Nat → Int32)) ⊕ (Int32 × Int32 × (Nat → Int32) × (Nat → Int32) × (Nat → Int32))) :=
  if (2 : Int32) * wi ≤ x23.1 then some (.inr (x23.1, x23.2.1, x23.2.2.1, x23.2.2.2.1, x23.2.2.2.2)) else if ki = 0 then (mi_MO_tryPicture N wi x23.2.1 cu nw x23.2.2.1 x23.2.2.2.1 x23.2.2.2.2 sh x23.1).bind fun r42 => some (.inl (x23.1 + 1, r42.1, r42.2.1, r42.2.2.1, r42.2.2.2)) else (mi_MO_addLine N wi x23.2.1 x23.2.2.2.1 x23.2.2.2.2 x23.1).bind fun r50 => if ki = (1 : Int32) then (mi_MO_trySquare N r50.1 nw x23.2.2.1 r50.2.1 r50.2.2 (0 : Int32) (0 : Int32)).bind fun r64 => some (.inl (x23.1 + 1, r50.1, r64.1, r50.2.1, r64.2)) else (mi_MO_tryStar N r50.1 nw x23.2.2.1 r50.2.1 r50.2.2).bind fun r71 => some (.inl (x23.1 + 1, r50.1, r71.1, r50.2.1, r71.2))
def mr_MO_look_2 (N : Nat) (ki : Int32) (ce : Int32) (wi : Int32) (ma : Int32) (cu : Nat → Int32) (gr : Nat → Int32) (ru : Nat → Int32) (nu : Nat → Int32) (nw : Nat → Int32) (un : Nat → Int32) (cn : Nat → Int32) (sh : Nat → Int32) (bd : Nat → Int32) (bs : Nat → Int32) (y2 : Int32 × (Nat → Int32)) : Option (Int32 × Int32 × (Nat → Int32) × (Nat → Int32) × (Nat → Int32)) :=
  (lp (mb_MO_look_23 N ki wi cu nw sh) N ((0 : Int32), ma, y2.2, un, cn)).bind (mr_MO_look_23 N ki ce gr ru nu nw bd bs)
def mb_MO_look_2  (x2 : Int32 × (Nat → Int32)) : Option ((Int32 × (Nat → Int32)) ⊕ (Int32 × (Nat → Int32))) :=
  if (25 : Int32) ≤ x2.1 then some (.inr (x2.1, x2.2)) else if x2.1 < 0 ∨ 25 ≤ x2.1.toNatClampNeg then none else some (.inl (x2.1 + 1, upd x2.2 x2.1.toNatClampNeg (0 : Int32)))
def mi_MO_look (N : Nat) (ki : Int32) (ce : Int32) (wi : Int32) (ma : Int32) (cu : Nat → Int32) (gr : Nat → Int32) (ru : Nat → Int32) (nu : Nat → Int32) (nw : Nat → Int32) (lo : Nat → Int32) (un : Nat → Int32) (cn : Nat → Int32) (sh : Nat → Int32) (bd : Nat → Int32) (bs : Nat → Int32) : Option (Int32 × Int32 × (Nat → Int32) × (Nat → Int32) × (Nat → Int32)) :=
  (lp (mb_MO_look_2) N ((0 : Int32), lo)).bind (mr_MO_look_2 N ki ce wi ma cu gr ru nu nw un cn sh bd bs)
def mr_MO_reasonByOne_0  (y0 : Int32 × (Nat → Int32) × (Nat → Int32) × (Nat → Int32) × (Nat → Int32)) : Option (Int32 × (Nat → Int32) × (Nat → Int32) × (Nat → Int32) × (Nat → Int32)) :=
  some (y0.1, y0.2.1, y0.2.2.1, y0.2.2.2.1, y0.2.2.2.2)
def mr_MO_reasonByOne_9 (r1 : Int32 × Int32 × (Nat → Int32) × (Nat → Int32) × (Nat → Int32)) (y9 : Int32 × (Nat → Int32)) : Option ((Int32 × (Nat → Int32) × (Nat → Int32) × (Nat → Int32) × (Nat → Int32)) ⊕ (Int32 × (Nat → Int32) × (Nat → Int32) × (Nat → Int32) × (Nat → Int32))) :=
  some (.inl (r1.2.1, y9.2, r1.2.2.1, r1.2.2.2.1, r1.2.2.2.2))
def mb_MO_reasonByOne_9 (ce : Int32) (r1 : Int32 × Int32 × (Nat → Int32) × (Nat → Int32) × (Nat → Int32)) (x9 : Int32 × (Nat → Int32)) : Option ((Int32 × (Nat → Int32)) ⊕ (Int32 × (Nat → Int32))) :=
  if ce ≤ x9.1 then some (.inr (x9.1, x9.2)) else if x9.1 < 0 ∨ 25 ≤ x9.1.toNatClampNeg then none else some (.inl (x9.1 + 1, upd x9.2 x9.1.toNatClampNeg ((x9.2 x9.1.toNatClampNeg) &&& ((r1.2.2.1 x9.1.toNatClampNeg) ^^^ (-1 : Int32)))))
def mb_MO_reasonByOne_0 (N : Nat) (ki : Int32) (ce : Int32) (wi : Int32) (cu : Nat → Int32) (gr : Nat → Int32) (ru : Nat → Int32) (nu : Nat → Int32) (sh : Nat → Int32) (bd : Nat → Int32) (bs : Nat → Int32) (x0 : Int32 × (Nat → Int32) × (Nat → Int32) × (Nat → Int32) × (Nat → Int32)) : Option ((Int32 × (Nat → Int32) × (Nat → Int32) × (Nat → Int32) × (Nat → Int32)) ⊕ (Int32 × (Nat → Int32) × (Nat → Int32) × (Nat → Int32) × (Nat → Int32))) :=
  (mi_MO_look N ki ce wi x0.1 cu gr ru nu x0.2.1 x0.2.2.1 x0.2.2.2.1 x0.2.2.2.2 sh bd bs).bind fun r1 => if r1.1 = 0 then some (.inr (r1.2.1, x0.2.1, r1.2.2.1, r1.2.2.2.1, r1.2.2.2.2)) else (lp (mb_MO_reasonByOne_9 ce r1) N ((0 : Int32), x0.2.1)).bind (mr_MO_reasonByOne_9 r1)
def mi_MO_reasonByOne (N : Nat) (ki : Int32) (ce : Int32) (wi : Int32) (ma : Int32) (cu : Nat → Int32) (gr : Nat → Int32) (ru : Nat → Int32) (nu : Nat → Int32) (nw : Nat → Int32) (lo : Nat → Int32) (un : Nat → Int32) (cn : Nat → Int32) (sh : Nat → Int32) (bd : Nat → Int32) (bs : Nat → Int32) : Option (Int32 × (Nat → Int32) × (Nat → Int32) × (Nat → Int32) × (Nat → Int32)) :=
  (lp (mb_MO_reasonByOne_0 N ki ce wi cu gr ru nu sh bd bs) N (ma, nw, lo, un, cn)).bind (mr_MO_reasonByOne_0)
def mr_MO_isEmpty_4  (y4 : Int32 × Int32) : Option (Int32) :=
  if ¬ (y4.1 = 0 ∨ y4.1 = 1) then none else some y4.1
def mb_MO_isEmpty_4 (ce : Int32) (nw : Nat → Int32) (x4 : Int32 × Int32) : Option ((Int32 × Int32) ⊕ (Int32 × Int32)) :=
  if ce ≤ x4.2 then some (.inr (x4.1, x4.2)) else if x4.1 = 0 then if x4.2 < 0 ∨ 25 ≤ x4.2.toNatClampNeg then none else if nw x4.2.toNatClampNeg = 0 then some (.inl ((1 : Int32), x4.2 + 1)) else some (.inl ((0 : Int32), x4.2 + 1)) else some (.inl ((1 : Int32), x4.2 + 1))
def mi_MO_isEmpty (N : Nat) (ce : Int32) (nw : Nat → Int32) : Option (Int32) :=
  (lp (mb_MO_isEmpty_4 ce nw) N ((0 : Int32), (0 : Int32))).bind (mr_MO_isEmpty_4)
def mr_MO_fails_49 (y2 : Int32 × (Nat → Int32)) (r38 : Int32 × (Nat → Int32) × (Nat → Int32) × (Nat → Int32) × (Nat → Int32)) (r42 : Int32) (y49 : Int32 × (Nat → Int32)) : Option (Int32 × Int32 × (Nat → Int32) × (Nat → Int32) × (Nat → Int32) × (Nat → Int32) × (Nat → Int32)) :=
  if ¬ (r42 = 0 ∨ r42 = 1) then none else some (r42, r38.1, y49.2, r38.2.2.1, y2.2, r38.2.2.2.1, r38.2.2.2.2)
def mb_MO_fails_49 (ce : Int32) (y2 : Int32 × (Nat → Int32)) (x49 : Int32 × (Nat → Int32)) : Option ((Int32 × (Nat → Int32)) ⊕ (Int32 × (Nat → Int32))) :=
  if ce ≤ x49.1 then some (.inr (x49.1, x49.2)) else if x49.1 < 0 ∨ 25 ≤ x49.1.toNatClampNeg then none else some (.inl (x49.1 + 1, upd x49.2 x49.1.toNatClampNeg (y2.2 x49.1.toNatClampNeg)))
def mr_MO_fails_2 (N : Nat) (ki : Int32) (ce : Int32) (wi : Int32) (ma : Int32) (cu : Nat → Int32) (gr : Nat → Int32) (ru : Nat → Int32) (nu : Nat → Int32) (nw : Nat → Int32) (lo : Nat → Int32) (un : Nat → Int32) (cn : Nat → Int32) (sh : Nat → Int32) (bd : Nat → Int32) (bs : Nat → Int32) (u1 : Int32) (u2 : Int32) (y2 : Int32 × (Nat → Int32)) : Option (Int32 × Int32 × (Nat → Int32) × (Nat → Int32) × (Nat → Int32) × (Nat → Int32) × (Nat → Int32)) :=
  if u1 < 0 ∨ 25 ≤ u1.toNatClampNeg then none else (mi_MO_reasonByOne N ki ce wi ma cu gr ru nu (upd nw u1.toNatClampNeg ((1 : Int32) <<< (u2 &&& 31))) lo un cn sh bd bs).bind fun r38 => (mi_MO_isEmpty N ce r38.2.1).bind fun r42 => (lp (mb_MO_fails_49 ce y2) N ((0 : Int32), r38.2.1)).bind (mr_MO_fails_49 y2 r38 r42)
def mb_MO_fails_2 (ce : Int32) (nw : Nat → Int32) (x2 : Int32 × (Nat → Int32)) : Option ((Int32 × (Nat → Int32)) ⊕ (Int32 × (Nat → Int32))) :=
  if ce ≤ x2.1 then some (.inr (x2.1, x2.2)) else if x2.1 < 0 ∨ 25 ≤ x2.1.toNatClampNeg then none else some (.inl (x2.1 + 1, upd x2.2 x2.1.toNatClampNeg (nw x2.1.toNatClampNeg)))
def mi_MO_fails (N : Nat) (ki : Int32) (ce : Int32) (wi : Int32) (ma : Int32) (cu : Nat → Int32) (gr : Nat → Int32) (ru : Nat → Int32) (nu : Nat → Int32) (nw : Nat → Int32) (lo : Nat → Int32) (ke : Nat → Int32) (un : Nat → Int32) (cn : Nat → Int32) (sh : Nat → Int32) (bd : Nat → Int32) (bs : Nat → Int32) (u1 : Int32) (u2 : Int32) : Option (Int32 × Int32 × (Nat → Int32) × (Nat → Int32) × (Nat → Int32) × (Nat → Int32) × (Nat → Int32)) :=
  (lp (mb_MO_fails_2 ce nw) N ((0 : Int32), ke)).bind (mr_MO_fails_2 N ki ce wi ma cu gr ru nu nw lo un cn sh bd bs u1 u2)
def mr_MO_reasonByBoth_6  (y6 : Int32 × Int32 × (Nat → Int32) × (Nat → Int32) × (Nat → Int32) × (Nat → Int32) × (Nat → Int32)) : Option (Int32 × (Nat → Int32) × (Nat → Int32) × (Nat → Int32) × (Nat → Int32) × (Nat → Int32)) :=
  some (y6.2.1, y6.2.2.1, y6.2.2.2.1, y6.2.2.2.2.1, y6.2.2.2.2.2.1, y6.2.2.2.2.2.2)
def mr_MO_reasonByBoth_14  (y14 : Int32 × Int32 × Int32 × (Nat → Int32) × (Nat → Int32) × (Nat → Int32) × (Nat → Int32) × (Nat → Int32)) : Option ((Int32 × Int32 × (Nat → Int32) × (Nat → Int32) × (Nat → Int32) × (Nat → Int32) × (Nat → Int32)) ⊕ (Int32 × Int32 × (Nat → Int32) × (Nat → Int32) × (Nat → Int32) × (Nat → Int32) × (Nat → Int32))) :=
  some (.inl (y14.1, y14.2.2.1, y14.2.2.2.1, y14.2.2.2.2.1, y14.2.2.2.2.2.1, y14.2.2.2.2.2.2.1, y14.2.2.2.2.2.2.2))
def mr_MO_reasonByBoth_24 (x14 : Int32 × Int32 × Int32 × (Nat → Int32) × (Nat → Int32) × (Nat → Int32) × (Nat → Int32) × (Nat → Int32)) (y24 : Int32 × Int32 × Int32 × (Nat → Int32) × (Nat → Int32) × (Nat → Int32) × (Nat → Int32) × (Nat → Int32)) : Option ((Int32 × Int32 × Int32 × (Nat → Int32) × (Nat → Int32) × (Nat → Int32) × (Nat → Int32) × (Nat → Int32)) ⊕ (Int32 × Int32 × Int32 × (Nat → Int32) × (Nat → Int32) × (Nat → Int32) × (Nat → Int32) × (Nat → Int32))) :=
  some (.inl (y24.1, x14.2.1 + 1, y24.2.2.1, y24.2.2.2.1, y24.2.2.2.2.1, y24.2.2.2.2.2.1, y24.2.2.2.2.2.2.1, y24.2.2.2.2.2.2.2))
def mb_MO_reasonByBoth_24 (N : Nat) (ki : Int32) (ce : Int32) (wi : Int32) (cu : Nat → Int32) (gr : Nat → Int32) (ru : Nat → Int32) (nu : Nat → Int32) (sh : Nat → Int32) (bd : Nat → Int32) (bs : Nat → Int32) (x14 : Int32 × Int32 × Int32 × (Nat → Int32) × (Nat → Int32) × (Nat → Int32) × (Nat → Int32) × (Nat → Int32)) (x24 : Int32 × Int32 × Int32 × (Nat → Int32) × (Nat → Int32) × (Nat → Int32) × (Nat → Int32) × (Nat → Int32)) : Option ((Int32 × Int32 × Int32 × (Nat → Int32) × (Nat → Int32) × (Nat → Int32) × (Nat → Int32) × (Nat → Int32)) ⊕ (Int32 × Int32 × Int32 × (Nat → Int32) × (Nat → Int32) × (Nat → Int32) × (Nat → Int32) × (Nat → Int32))) :=
  if (5 : Int32) ≤ x24.2.1 then some (.inr (x24.1, x24.2.1, x24.2.2.1, x24.2.2.2.1, x24.2.2.2.2.1, x24.2.2.2.2.2.1, x24.2.2.2.2.2.2.1, x24.2.2.2.2.2.2.2)) else if x14.2.1 < 0 ∨ 25 ≤ x14.2.1.toNatClampNeg then none else if ((x24.2.2.2.1 x14.2.1.toNatClampNeg) >>> (x24.2.1 &&& 31)) &&& (1 : Int32) = (1 : Int32) then (mi_MO_fails N ki ce wi x24.2.2.1 cu gr ru nu x24.2.2.2.1 x24.2.2.2.2.1 x24.2.2.2.2.2.1 x24.2.2.2.2.2.2.1 x24.2.2.2.2.2.2.2 sh bd bs x14.2.1 x24.2.1).bind fun r46 => if r46.1 = 0 then some (.inl (x24.1, x24.2.1 + 1, r46.2.1, r46.2.2.1, r46.2.2.2.1, r46.2.2.2.2.1, r46.2.2.2.2.2.1, r46.2.2.2.2.2.2)) else (mi_MO_reasonByOne N ki ce wi r46.2.1 cu gr ru nu (upd r46.2.2.1 x14.2.1.toNatClampNeg ((r46.2.2.1 x14.2.1.toNatClampNeg) &&& (((1 : Int32) <<< (x24.2.1 &&& 31)) ^^^ (-1 : Int32)))) r46.2.2.2.1 r46.2.2.2.2.2.1 r46.2.2.2.2.2.2 sh bd bs).bind fun r67 => some (.inl ((1 : Int32), x24.2.1 + 1, r67.1, r67.2.1, r67.2.2.1, r46.2.2.2.2.1, r67.2.2.2.1, r67.2.2.2.2)) else some (.inl (x24.1, x24.2.1 + 1, x24.2.2.1, x24.2.2.2.1, x24.2.2.2.2.1, x24.2.2.2.2.2.1, x24.2.2.2.2.2.2.1, x24.2.2.2.2.2.2.2))
def mb_MO_reasonByBoth_14 (N : Nat) (ki : Int32) (ce : Int32) (wi : Int32) (cu : Nat → Int32) (gr : Nat → Int32) (ru : Nat → Int32) (nu : Nat → Int32) (sh : Nat → Int32) (bd : Nat → Int32) (bs : Nat → Int32) (x14 : Int32 × Int32 × Int32 × (Nat → Int32) × (Nat → Int32) × (Nat → Int32) × (Nat → Int32) × (Nat → Int32)) : Option ((Int32 × Int32 × Int32 × (Nat → Int32) × (Nat → Int32) × (Nat → Int32) × (Nat → Int32) × (Nat → Int32)) ⊕ (Int32 × Int32 × Int32 × (Nat → Int32) × (Nat → Int32) × (Nat → Int32) × (Nat → Int32) × (Nat → Int32))) :=
  if ce ≤ x14.2.1 then some (.inr (x14.1, x14.2.1, x14.2.2.1, x14.2.2.2.1, x14.2.2.2.2.1, x14.2.2.2.2.2.1, x14.2.2.2.2.2.2.1, x14.2.2.2.2.2.2.2)) else (lp (mb_MO_reasonByBoth_24 N ki ce wi cu gr ru nu sh bd bs x14) N (x14.1, (0 : Int32), x14.2.2.1, x14.2.2.2.1, x14.2.2.2.2.1, x14.2.2.2.2.2.1, x14.2.2.2.2.2.2.1, x14.2.2.2.2.2.2.2)).bind (mr_MO_reasonByBoth_24 x14)
def mb_MO_reasonByBoth_6 (N : Nat) (ki : Int32) (ce : Int32) (wi : Int32) (cu : Nat → Int32) (gr : Nat → Int32) (ru : Nat → Int32) (nu : Nat → Int32) (sh : Nat → Int32) (bd : Nat → Int32) (bs : Nat → Int32) (x6 : Int32 × Int32 × (Nat → Int32) × (Nat → Int32) × (Nat → Int32) × (Nat → Int32) × (Nat → Int32)) : Option ((Int32 × Int32 × (Nat → Int32) × (Nat → Int32) × (Nat → Int32) × (Nat → Int32) × (Nat → Int32)) ⊕ (Int32 × Int32 × (Nat → Int32) × (Nat → Int32) × (Nat → Int32) × (Nat → Int32) × (Nat → Int32))) :=
  if x6.1 = 0 then some (.inr (x6.1, x6.2.1, x6.2.2.1, x6.2.2.2.1, x6.2.2.2.2.1, x6.2.2.2.2.2.1, x6.2.2.2.2.2.2)) else (lp (mb_MO_reasonByBoth_14 N ki ce wi cu gr ru nu sh bd bs) N ((0 : Int32), (0 : Int32), x6.2.1, x6.2.2.1, x6.2.2.2.1, x6.2.2.2.2.1, x6.2.2.2.2.2.1, x6.2.2.2.2.2.2)).bind (mr_MO_reasonByBoth_14)
def mi_MO_reasonByBoth (N : Nat) (ki : Int32) (ce : Int32) (wi : Int32) (ma : Int32) (cu : Nat → Int32) (gr : Nat → Int32) (ru : Nat → Int32) (nu : Nat → Int32) (nw : Nat → Int32) (lo : Nat → Int32) (ke : Nat → Int32) (un : Nat → Int32) (cn : Nat → Int32) (sh : Nat → Int32) (bd : Nat → Int32) (bs : Nat → Int32) : Option (Int32 × (Nat → Int32) × (Nat → Int32) × (Nat → Int32) × (Nat → Int32) × (Nat → Int32)) :=
  (mi_MO_reasonByOne N ki ce wi ma cu gr ru nu nw lo un cn sh bd bs).bind fun r3 => (lp (mb_MO_reasonByBoth_6 N ki ce wi cu gr ru nu sh bd bs) N ((1 : Int32), r3.1, r3.2.1, r3.2.2.1, ke, r3.2.2.2.1, r3.2.2.2.2)).bind (mr_MO_reasonByBoth_6)
def mr_MO_countAll_4  (y4 : Int32 × Int32) : Option (Int32) :=
  some y4.1
def mb_MO_countAll_4 (N : Nat) (ce : Int32) (ca : Nat → Int32) (x4 : Int32 × Int32) : Option ((Int32 × Int32) ⊕ (Int32 × Int32)) :=
  if ce ≤ x4.2 then some (.inr (x4.1, x4.2)) else if x4.2 < 0 ∨ 25 ≤ x4.2.toNatClampNeg then none else (mi_MO_ones N ((ca x4.2.toNatClampNeg) >>> ((1 : Int32) &&& 31))).bind fun r21 => some (.inl (x4.1 + (r21 + ((ca x4.2.toNatClampNeg) &&& (1 : Int32))), x4.2 + 1))
def mi_MO_countAll (N : Nat) (ce : Int32) (ca : Nat → Int32) : Option (Int32) :=
  (lp (mb_MO_countAll_4 N ce ca) N ((0 : Int32), (0 : Int32))).bind (mr_MO_countAll_4)
def mi_MO_fresh (N : Nat) (th : Int32) (ki : Int32) (ce : Int32) (gv : Nat → Int32) (ca : Nat → Int32) : Option (Int32 × Int32 × (Nat → Int32)) :=
  (mi_MO_refresh N ki ce gv ca).bind fun r6 => (mi_MO_countAll N ce r6).bind fun r10 => some (r10, (0 : Int32), r6)
def mr_MO_reason_74 (N : Nat) (ce : Int32) (j16s1 : Int32) (j72ma : Int32) (j72nw : Nat → Int32) (j72lo : Nat → Int32) (j72ke : Nat → Int32) (j72un : Nat → Int32) (j72cn : Nat → Int32) (y74 : Int32 × (Nat → Int32)) : Option (Int32 × Int32 × Int32 × (Nat → Int32) × (Nat → Int32) × (Nat → Int32) × (Nat → Int32) × (Nat → Int32) × (Nat → Int32)) :=
  (mi_MO_countAll N ce y74.2).bind fun r101 => some (r101, j16s1, j72ma, y74.2, j72nw, j72lo, j72ke, j72un, j72cn)
def mb_MO_reason_74 (ce : Int32) (j72nw : Nat → Int32) (x74 : Int32 × (Nat → Int32)) : Option ((Int32 × (Nat → Int32)) ⊕ (Int32 × (Nat → Int32))) :=
  if ce ≤ x74.1 then some (.inr (x74.1, x74.2)) else if x74.1 < 0 ∨ 25 ≤ x74.1.toNatClampNeg then none else some (.inl (x74.1 + 1, upd x74.2 x74.1.toNatClampNeg (j72nw x74.1.toNatClampNeg)))
def mj_MO_reason_72 (N : Nat) (ce : Int32) (ca : Nat → Int32) (j16s1 : Int32) (j72ma : Int32) (j72nw : Nat → Int32) (j72lo : Nat → Int32) (j72ke : Nat → Int32) (j72un : Nat → Int32) (j72cn : Nat → Int32) : Option (Int32 × Int32 × Int32 × (Nat → Int32) × (Nat → Int32) × (Nat → Int32) × (Nat → Int32) × (Nat → Int32) × (Nat → Int32)) :=
  (lp (mb_MO_reason_74 ce j72nw) N ((0 : Int32), ca)).bind (mr_MO_reason_74 N ce j16s1 j72ma j72nw j72lo j72ke j72un j72cn)
def mr_MO_reason_30 (N : Nat) (ki : Int32) (ce : Int32) (wi : Int32) (ma : Int32) (cu : Nat → Int32) (gr : Nat → Int32) (ru : Nat → Int32) (nu : Nat → Int32) (ca : Nat → Int32) (lo : Nat → Int32) (ke : Nat → Int32) (un : Nat → Int32) (cn : Nat → Int32) (sh : Nat → Int32) (bd : Nat → Int32) (bs : Nat → Int32) (u1 : Int32) (j16s1 : Int32) (y30 : Int32 × (Nat → Int32)) : Option (Int32 × Int32 × Int32 × (Nat → Int32) × (Nat → Int32) × (Nat → Int32) × (Nat → Int32) × (Nat → Int32) × (Nat → Int32)) :=
  if u1 = (1 : Int32) then (mi_MO_reasonByOne N ki ce wi ma cu gr ru nu y30.2 lo un cn sh bd bs).bind fun r62 => mj_MO_reason_72 N ce ca j16s1 r62.1 r62.2.1 r62.2.2.1 ke r62.2.2.2.1 r62.2.2.2.2 else (mi_MO_reasonByBoth N ki ce wi ma cu gr ru nu y30.2 lo ke un cn sh bd bs).bind fun r69 => mj_MO_reason_72 N ce ca j16s1 r69.1 r69.2.1 r69.2.2.1 r69.2.2.2.1 r69.2.2.2.2.1 r69.2.2.2.2.2
def mb_MO_reason_30 (ce : Int32) (ca : Nat → Int32) (x30 : Int32 × (Nat → Int32)) : Option ((Int32 × (Nat → Int32)) ⊕ (Int32 × (Nat → Int32))) :=
  if ce ≤ x30.1 then some (.inr (x30.1, x30.2)) else if x30.1 < 0 ∨ 25 ≤ x30.1.toNatClampNeg then none else some (.inl (x30.1 + 1, upd x30.2 x30.1.toNatClampNeg (ca x30.1.toNatClampNeg)))
def mj_MO_reason_16 (N : Nat) (ki : Int32) (ce : Int32) (wi : Int32) (ma : Int32) (cu : Nat → Int32) (gr : Nat → Int32) (ru : Nat → Int32) (nu : Nat → Int32) (ca : Nat → Int32) (nw : Nat → Int32) (lo : Nat → Int32) (ke : Nat → Int32) (un : Nat → Int32) (cn : Nat → Int32) (sh : Nat → Int32) (bd : Nat → Int32) (bs : Nat → Int32) (u1 : Int32) (j16s1 : Int32) : Option (Int32 × Int32 × Int32 × (Nat → Int32) × (Nat → Int32) × (Nat → Int32) × (Nat → Int32) × (Nat → Int32) × (Nat → Int32)) :=
  if j16s1 = 0 then (lp (mb_MO_reason_30 ce ca) N ((0 : Int32), nw)).bind (mr_MO_reason_30 N ki ce wi ma cu gr ru nu ca lo ke un cn sh bd bs u1 j16s1) else some ((0 : Int32), j16s1, ma, ca, nw, lo, ke, un, cn)
def mi_MO_reason (N : Nat) (th : Int32) (ki : Int32) (ce : Int32) (wi : Int32) (ma : Int32) (cu : Nat → Int32) (gr : Nat → Int32) (ru : Nat → Int32) (nu : Nat → Int32) (ca : Nat → Int32) (nw : Nat → Int32) (lo : Nat → Int32) (ke : Nat → Int32) (un : Nat → Int32) (cn : Nat → Int32) (sh : Nat → Int32) (bd : Nat → Int32) (bs : Nat → Int32) (u1 : Int32) : Option (Int32 × Int32 × Int32 × (Nat → Int32) × (Nat → Int32) × (Nat → Int32) × (Nat → Int32) × (Nat → Int32) × (Nat → Int32)) :=
  if u1 < (1 : Int32) then mj_MO_reason_16 N ki ce wi ma cu gr ru nu ca nw lo ke un cn sh bd bs u1 (1 : Int32) else if u1 ≤ (2 : Int32) then mj_MO_reason_16 N ki ce wi ma cu gr ru nu ca nw lo ke un cn sh bd bs u1 (0 : Int32) else mj_MO_reason_16 N ki ce wi ma cu gr ru nu ca nw lo ke un cn sh bd bs u1 (1 : Int32)
def mj_MO_candidates_14 (ca : Nat → Int32) (u1 : Int32) (j14s1 : Int32) : Option (Int32 × Int32) :=
  if j14s1 = 0 then if u1 < 0 ∨ 25 ≤ u1.toNatClampNeg then none else some (ca u1.toNatClampNeg, j14s1) else some ((0 : Int32), j14s1)
def mi_MO_candidates (N : Nat) (th : Int32) (ce : Int32) (ca : Nat → Int32) (u1 : Int32) : Option (Int32 × Int32) :=
  (mi_MO_noCell N ce u1).bind fun r3 => if r3 = 0 then mj_MO_candidates_14 ca u1 (0 : Int32) else mj_MO_candidates_14 ca u1 (1 : Int32)
def mr_MO_firstLost_2  (y2 : Int32) : Option (Int32) :=
  some (-1 : Int32)
def mr_MO_firstLost_12 (x2 : Int32) (y12 : Int32) : Option ((Int32) ⊕ ((Int32) ⊕ (Int32))) :=
  some (.inl (x2 + 1))
def mb_MO_firstLost_12 (lo : Nat → Int32) (x2 : Int32) (x12 : Int32) : Option ((Int32) ⊕ ((Int32) ⊕ (Int32))) :=
  if (5 : Int32) ≤ x12 then some (.inr (.inl x12)) else if x2 < 0 ∨ 25 ≤ x2.toNatClampNeg then none else if ((lo x2.toNatClampNeg) >>> (x12 &&& 31)) &&& (1 : Int32) = (1 : Int32) then some (.inr (.inr (((10 : Int32) * x2) + x12))) else some (.inl (x12 + 1))
def mb_MO_firstLost_2 (N : Nat) (ce : Int32) (lo : Nat → Int32) (x2 : Int32) : Option ((Int32) ⊕ ((Int32) ⊕ (Int32))) :=
  if ce ≤ x2 then some (.inr (.inl x2)) else (lp (mb_MO_firstLost_12 lo x2) N (0 : Int32)).bind (Sum.elim (mr_MO_firstLost_12 x2) (fun z => some (.inr (.inr z))))
def mi_MO_firstLost (N : Nat) (ce : Int32) (lo : Nat → Int32) : Option (Int32) :=
  (lp (mb_MO_firstLost_2 N ce lo) N (0 : Int32)).bind (Sum.elim (mr_MO_firstLost_2) (fun z => some z))
def mr_MO_firstFailing_2  (y2 : Int32 × Int32 × (Nat → Int32) × (Nat → Int32) × (Nat → Int32) × (Nat → Int32) × (Nat → Int32)) : Option (Int32 × Int32 × (Nat → Int32) × (Nat → Int32) × (Nat → Int32) × (Nat → Int32) × (Nat → Int32)) :=
  some ((-1 : Int32), y2.2.1, y2.2.2.1, y2.2.2.2.1, y2.2.2.2.2.1, y2.2.2.2.2.2.1, y2.2.2.2.2.2.2)
def mr_MO_firstFailing_12 (x2 : Int32 × Int32 × (Nat → Int32) × (Nat → Int32) × (Nat → Int32) × (Nat → Int32) × (Nat → Int32)) (y12 : Int32 × Int32 × (Nat → Int32) × (Nat → Int32) × (Nat → Int32) × (Nat → Int32) × (Nat → Int32)) : Option ((Int32 × Int32 × (Nat → Int32) × (Nat → Int32) × (Nat → Int32) × (Nat → Int32) × (Nat → Int32)) ⊕ ((Int32 × Int32 × (Nat → Int32) × (Nat → Int32) × (Nat → Int32) × (Nat → Int32) × (Nat → Int32)) ⊕ (Int32 × Int32 × (Nat → Int32) × (Nat → Int32) × (Nat → Int32) × (Nat → Int32) × (Nat → Int32)))) :=
  some (.inl (x2.1 + 1, y12.2.1, y12.2.2.1, y12.2.2.2.1, y12.2.2.2.2.1, y12.2.2.2.2.2.1, y12.2.2.2.2.2.2))
def mb_MO_firstFailing_12 (N : Nat) (ki : Int32) (ce : Int32) (wi : Int32) (cu : Nat → Int32) (gr : Nat → Int32) (ru : Nat → Int32) (nu : Nat → Int32) (sh : Nat → Int32) (bd : Nat → Int32) (bs : Nat → Int32) (x2 : Int32 × Int32 × (Nat → Int32) × (Nat → Int32) × (Nat → Int32) × (Nat → Int32) × (Nat → Int32)) (x12 : Int32 × Int32 × (Nat → Int32) × (Nat → Int32) × (Nat → Int32) × (Nat → Int32) × (Nat → Int32)) : Option ((Int32 × Int32 × (Nat → Int32) × (Nat → Int32) × (Nat → Int32) × (Nat → Int32) × (Nat → Int32)) ⊕ ((Int32 × Int32 × (Nat → Int32) × (Nat → Int32) × (Nat → Int32) × (Nat → Int32) × (Nat → Int32)) ⊕ (Int32 × Int32 × (Nat → Int32) × (Nat → Int32) × (Nat → Int32) × (Nat → Int32) × (Nat → Int32)))) :=
  if (5 : Int32) ≤ x12.1 then some (.inr (.inl (x12.1, x12.2.1, x12.2.2.1, x12.2.2.2.1, x12.2.2.2.2.1, x12.2.2.2.2.2.1, x12.2.2.2.2.2.2))) else if x2.1 < 0 ∨ 25 ≤ x2.1.toNatClampNeg then none else if ((x12.2.2.1 x2.1.toNatClampNeg) >>> (x12.1 &&& 31)) &&& (1 : Int32) = (1 : Int32) then (mi_MO_fails N ki ce wi x12.2.1 cu gr ru nu x12.2.2.1 x12.2.2.2.1 x12.2.2.2.2.1 x12.2.2.2.2.2.1 x12.2.2.2.2.2.2 sh bd bs x2.1 x12.1).bind fun r34 => if r34.1 = 0 then some (.inl (x12.1 + 1, r34.2.1, r34.2.2.1, r34.2.2.2.1, r34.2.2.2.2.1, r34.2.2.2.2.2.1, r34.2.2.2.2.2.2)) else some (.inr (.inr (((10 : Int32) * x2.1) + x12.1, r34.2.1, r34.2.2.1, r34.2.2.2.1, r34.2.2.2.2.1, r34.2.2.2.2.2.1, r34.2.2.2.2.2.2))) else some (.inl (x12.1 + 1, x12.2.1, x12.2.2.1, x12.2.2.2.1, x12.2.2.2.2.1, x12.2.2.2.2.2.1, x12.2.2.2.2.2.2))
def mb_MO_firstFailing_2 (N : Nat) (ki : Int32) (ce : Int32) (wi : Int32) (cu : Nat → Int32) (gr : Nat → Int32) (ru : Nat → Int32) (nu : Nat → Int32) (sh : Nat → Int32) (bd : Nat → Int32) (bs : Nat → Int32) (x2 : Int32 × Int32 × (Nat → Int32) × (Nat → Int32) × (Nat → Int32) × (Nat → Int32) × (Nat → Int32)) : Option ((Int32 × Int32 × (Nat → Int32) × (Nat → Int32) × (Nat → Int32) × (Nat → Int32) × (Nat → Int32)) ⊕ ((Int32 × Int32 × (Nat → Int32) × (Nat → Int32) × (Nat → Int32) × (Nat → Int32) × (Nat → Int32)) ⊕ (Int32 × Int32 × (Nat → Int32) × (Nat → Int32) × (Nat → Int32) × (Nat → Int32) × (Nat → Int32)))) :=
  if ce ≤ x2.1 then some (.inr (.inl (x2.1, x2.2.1, x2.2.2.1, x2.2.2.2.1, x2.2.2.2.2.1, x2.2.2.2.2.2.1, x2.2.2.2.2.2.2))) else (lp (mb_MO_firstFailing_12 N ki ce wi cu gr ru nu sh bd bs x2) N ((0 : Int32), x2.2.1, x2.2.2.1, x2.2.2.2.1, x2.2.2.2.2.1, x2.2.2.2.2.2.1, x2.2.2.2.2.2.2)).bind (Sum.elim (mr_MO_firstFailing_12 x2) (fun z => some (.inr (.inr z))))
def mi_MO_firstFailing (N : Nat) (ki : Int32) (ce : Int32) (wi : Int32) (ma : Int32) (cu : Nat → Int32) (gr : Nat → Int32) (ru : Nat → Int32) (nu : Nat → Int32) (nw : Nat → Int32) (lo : Nat → Int32) (ke : Nat → Int32) (un : Nat → Int32) (cn : Nat → Int32) (sh : Nat → Int32) (bd : Nat → Int32) (bs : Nat → Int32) : Option (Int32 × Int32 × (Nat → Int32) × (Nat → Int32) × (Nat → Int32) × (Nat → Int32) × (Nat → Int32)) :=
  (lp (mb_MO_firstFailing_2 N ki ce wi cu gr ru nu sh bd bs) N ((0 : Int32), ma, nw, lo, ke, un, cn)).bind (Sum.elim (mr_MO_firstFailing_2) (fun z => some z))
def mj_MO_step_62 (ca : Nat → Int32) (j45s0 : Int32) (j62s0 : Int32) (j62ma : Int32) (j62nw : Nat → Int32) (j62lo : Nat → Int32) (j62ke : Nat → Int32) (j62un : Nat → Int32) (j62cn : Nat → Int32) : Option (Int32 × Int32 × Int32 × (Nat → Int32) × (Nat → Int32) × (Nat → Int32) × (Nat → Int32) × (Nat → Int32) × (Nat → Int32)) :=
  if 0 ≤ j62s0 then if j62s0 / (10 : Int32) < 0 ∨ 25 ≤ (j62s0 / (10 : Int32)).toNatClampNeg then none else some (((1000 : Int32) * j45s0) + j62s0, (0 : Int32), j62ma, upd ca (j62s0 / (10 : Int32)).toNatClampNeg ((ca (j62s0 / (10 : Int32)).toNatClampNeg) &&& (((1 : Int32) <<< ((j62s0 - j62s0 / (10 : Int32) * (10 : Int32)) &&& 31)) ^^^ (-1 : Int32))), j62nw, j62lo, j62ke, j62un, j62cn) else some ((0 : Int32), (0 : Int32), j62ma, ca, j62nw, j62lo, j62ke, j62un, j62cn)
def mj_MO_step_45 (N : Nat) (ki : Int32) (ce : Int32) (wi : Int32) (cu : Nat → Int32) (gr : Nat → Int32) (ru : Nat → Int32) (nu : Nat → Int32) (ca : Nat → Int32) (ke : Nat → Int32) (sh : Nat → Int32) (bd : Nat → Int32) (bs : Nat → Int32) (y7 : Int32 × (Nat → Int32)) (r34 : Int32 × Int32 × (Nat → Int32) × (Nat → Int32) × (Nat → Int32)) (j45s0 : Int32) : Option (Int32 × Int32 × Int32 × (Nat → Int32) × (Nat → Int32) × (Nat → Int32) × (Nat → Int32) × (Nat → Int32) × (Nat → Int32)) :=
  if j45s0 = (1 : Int32) then (mi_MO_firstLost N ce r34.2.2.1).bind fun r52 => mj_MO_step_62 ca j45s0 r52 r34.2.1 y7.2 r34.2.2.1 ke r34.2.2.2.1 r34.2.2.2.2 else (mi_MO_firstFailing N ki ce wi r34.2.1 cu gr ru nu y7.2 r34.2.2.1 ke r34.2.2.2.1 r34.2.2.2.2 sh bd bs).bind fun r59 => mj_MO_step_62 ca j45s0 r59.1 r59.2.1 r59.2.2.1 r59.2.2.2.1 r59.2.2.2.2.1 r59.2.2.2.2.2.1 r59.2.2.2.2.2.2
def mr_MO_step_7 (N : Nat) (ki : Int32) (ce : Int32) (wi : Int32) (ma : Int32) (cu : Nat → Int32) (gr : Nat → Int32) (ru : Nat → Int32) (nu : Nat → Int32) (ca : Nat → Int32) (lo : Nat → Int32) (ke : Nat → Int32) (un : Nat → Int32) (cn : Nat → Int32) (sh : Nat → Int32) (bd : Nat → Int32) (bs : Nat → Int32) (y7 : Int32 × (Nat → Int32)) : Option (Int32 × Int32 × Int32 × (Nat → Int32) × (Nat → Int32) × (Nat → Int32) × (Nat → Int32) × (Nat → Int32) × (Nat → Int32)) :=
  (mi_MO_look N ki ce wi ma cu gr ru nu y7.2 lo un cn sh bd bs).bind fun r34 => if r34.1 = 0 then mj_MO_step_45 N ki ce wi cu gr ru nu ca ke sh bd bs y7 r34 (2 : Int32) else mj_MO_step_45 N ki ce wi cu gr ru nu ca ke sh bd bs y7 r34 (1 : Int32)
def mb_MO_step_7 (ce : Int32) (ca : Nat → Int32) (x7 : Int32 × (Nat → Int32)) : Option ((Int32 × (Nat → Int32)) ⊕ (Int32 × (Nat → Int32))) :=
  if ce ≤ x7.1 then some (.inr (x7.1, x7.2)) else if x7.1 < 0 ∨ 25 ≤ x7.1.toNatClampNeg then none else some (.inl (x7.1 + 1, upd x7.2 x7.1.toNatClampNeg (ca x7.1.toNatClampNeg)))
def mi_MO_step (N : Nat) (th : Int32) (ki : Int32) (ce : Int32) (wi : Int32) (ma : Int32) (cu : Nat → Int32) (gr : Nat → Int32) (ru : Nat → Int32) (nu : Nat → Int32) (ca : Nat → Int32) (nw : Nat → Int32) (lo : Nat → Int32) (ke : Nat → Int32) (un : Nat → Int32) (cn : Nat → Int32) (sh : Nat → Int32) (bd : Nat → Int32) (bs : Nat → Int32) : Option (Int32 × Int32 × Int32 × (Nat → Int32) × (Nat → Int32) × (Nat → Int32) × (Nat → Int32) × (Nat → Int32) × (Nat → Int32)) :=
  (lp (mb_MO_step_7 ce ca) N ((0 : Int32), nw)).bind (mr_MO_step_7 N ki ce wi ma cu gr ru nu ca lo ke un cn sh bd bs)
def mr_MO_isDone_4  (y4 : Int32 × Int32) : Option (Int32) :=
  if ¬ (y4.1 = 0 ∨ y4.1 = 1) then none else some y4.1
def mb_MO_isDone_4 (ce : Int32) (nw : Nat → Int32) (x4 : Int32 × Int32) : Option ((Int32 × Int32) ⊕ (Int32 × Int32)) :=
  if ce ≤ x4.2 then some (.inr (x4.1, x4.2)) else if x4.1 = 0 then some (.inl ((0 : Int32), x4.2 + 1)) else if x4.2 < 0 ∨ 25 ≤ x4.2.toNatClampNeg then none else if nw x4.2.toNatClampNeg = 0 then some (.inl ((0 : Int32), x4.2 + 1)) else if (nw x4.2.toNatClampNeg) &&& ((nw x4.2.toNatClampNeg) - (1 : Int32)) = 0 then some (.inl ((1 : Int32), x4.2 + 1)) else some (.inl ((0 : Int32), x4.2 + 1))
def mi_MO_isDone (N : Nat) (ce : Int32) (nw : Nat → Int32) : Option (Int32) :=
  (lp (mb_MO_isDone_4 ce nw) N ((1 : Int32), (0 : Int32))).bind (mr_MO_isDone_4)
def mr_MO_gradeNow_27 (N : Nat) (ki : Int32) (ce : Int32) (wi : Int32) (ma : Int32) (cu : Nat → Int32) (gr : Nat → Int32) (ru : Nat → Int32) (nu : Nat → Int32) (lo : Nat → Int32) (ke : Nat → Int32) (un : Nat → Int32) (cn : Nat → Int32) (sh : Nat → Int32) (bd : Nat → Int32) (bs : Nat → Int32) (r1 : Int32 × (Nat → Int32) × (Nat → Int32) × (Nat → Int32)) (y27 : Int32 × (Nat → Int32)) : Option (Int32 × Int32 × Int32 × (Nat → Int32) × (Nat → Int32) × (Nat → Int32) × (Nat → Int32) × (Nat → Int32) × (Nat → Int32) × (Nat → Int32) × (Nat → Int32)) :=
  (mi_MO_reasonByOne N ki ce wi ma cu gr ru nu y27.2 lo un cn sh bd bs).bind fun r73 => (mi_MO_isDone N ce r73.2.1).bind fun r77 => if r77 = 0 then (mi_MO_reasonByBoth N ki ce wi r73.1 cu gr ru nu r73.2.1 r73.2.2.1 ke r73.2.2.2.1 r73.2.2.2.2 sh bd bs).bind fun r86 => (mi_MO_isDone N ce r86.2.1).bind fun r90 => if r90 = 0 then some ((3 : Int32), r86.1, r1.1, r86.2.1, r86.2.2.1, r86.2.2.2.1, r86.2.2.2.2.1, r86.2.2.2.2.2, r1.2.1, r1.2.2.1, r1.2.2.2) else some ((2 : Int32), r86.1, r1.1, r86.2.1, r86.2.2.1, r86.2.2.2.1, r86.2.2.2.2.1, r86.2.2.2.2.2, r1.2.1, r1.2.2.1, r1.2.2.2) else some ((1 : Int32), r73.1, r1.1, r73.2.1, r73.2.2.1, ke, r73.2.2.2.1, r73.2.2.2.2, r1.2.1, r1.2.2.1, r1.2.2.2)
def mb_MO_gradeNow_27 (N : Nat) (ki : Int32) (ce : Int32) (gv : Nat → Int32) (x27 : Int32 × (Nat → Int32)) : Option ((Int32 × (Nat → Int32)) ⊕ (Int32 × (Nat → Int32))) :=
  if ce ≤ x27.1 then some (.inr (x27.1, x27.2)) else if x27.1 < 0 ∨ 25 ≤ x27.1.toNatClampNeg then none else if gv x27.1.toNatClampNeg = (-1 : Int32) then (mi_MO_allValues N ki).bind fun r51 => some (.inl (x27.1 + 1, upd x27.2 x27.1.toNatClampNeg r51)) else some (.inl (x27.1 + 1, upd x27.2 x27.1.toNatClampNeg ((1 : Int32) <<< ((gv x27.1.toNatClampNeg) &&& 31))))
def mi_MO_gradeNow (N : Nat) (ki : Int32) (ce : Int32) (wi : Int32) (ma : Int32) (fo : Int32) (cu : Nat → Int32) (gr : Nat → Int32) (ru : Nat → Int32) (nu : Nat → Int32) (gv : Nat → Int32) (nw : Nat → Int32) (lo : Nat → Int32) (ke : Nat → Int32) (un : Nat → Int32) (cn : Nat → Int32) (fi : Nat → Int32) (fl : Nat → Int32) (pa : Nat → Int32) (sh : Nat → Int32) (od : Nat → Int32) (bd : Nat → Int32) (bs : Nat → Int32) : Option (Int32 × Int32 × Int32 × (Nat → Int32) × (Nat → Int32) × (Nat → Int32) × (Nat → Int32) × (Nat → Int32) × (Nat → Int32) × (Nat → Int32) × (Nat → Int32)) :=
  (mi_MO_search N ki ce wi fo cu gr ru nu gv fi fl pa sh od bd bs).bind fun r1 => if r1.1 = (1 : Int32) then (lp (mb_MO_gradeNow_27 N ki ce gv) N ((0 : Int32), nw)).bind (mr_MO_gradeNow_27 N ki ce wi ma cu gr ru nu lo ke un cn sh bd bs r1) else if r1.1 = 0 then some ((0 : Int32), ma, r1.1, nw, lo, ke, un, cn, r1.2.1, r1.2.2.1, r1.2.2.2) else some ((4 : Int32), ma, r1.1, nw, lo, ke, un, cn, r1.2.1, r1.2.2.1, r1.2.2.2)
def mi_MO_grade (N : Nat) (th : Int32) (ki : Int32) (ce : Int32) (wi : Int32) (ma : Int32) (fo : Int32) (cu : Nat → Int32) (gr : Nat → Int32) (ru : Nat → Int32) (nu : Nat → Int32) (gv : Nat → Int32) (nw : Nat → Int32) (lo : Nat → Int32) (ke : Nat → Int32) (un : Nat → Int32) (cn : Nat → Int32) (fi : Nat → Int32) (fl : Nat → Int32) (pa : Nat → Int32) (sh : Nat → Int32) (od : Nat → Int32) (bd : Nat → Int32) (bs : Nat → Int32) : Option (Int32 × Int32 × Int32 × Int32 × (Nat → Int32) × (Nat → Int32) × (Nat → Int32) × (Nat → Int32) × (Nat → Int32) × (Nat → Int32) × (Nat → Int32) × (Nat → Int32)) :=
  (mi_MO_gradeNow N ki ce wi ma fo cu gr ru nu gv nw lo ke un cn fi fl pa sh od bd bs).bind fun r6 => some (r6.1, (0 : Int32), r6.2.1, r6.2.2.1, r6.2.2.2.1, r6.2.2.2.2.1, r6.2.2.2.2.2.1, r6.2.2.2.2.2.2.1, r6.2.2.2.2.2.2.2.1, r6.2.2.2.2.2.2.2.2.1, r6.2.2.2.2.2.2.2.2.2.1, r6.2.2.2.2.2.2.2.2.2.2)
def mr_MO_full_33 (N : Nat) (ki : Int32) (ce : Int32) (ca : Nat → Int32) (r1 : Int32 × (Nat → Int32) × (Nat → Int32) × (Nat → Int32)) (j17s1 : Int32) (y33 : Int32 × Int32 × (Nat → Int32)) : Option (Int32 × Int32 × Int32 × (Nat → Int32) × (Nat → Int32) × (Nat → Int32) × (Nat → Int32) × (Nat → Int32)) :=
  (mi_MO_refresh N ki ce y33.2.2 ca).bind fun r78 => some (y33.1, j17s1, r1.1, y33.2.2, r78, r1.2.1, r1.2.2.1, r1.2.2.2)
def mj_MO_full_57 (r1 : Int32 × (Nat → Int32) × (Nat → Int32) × (Nat → Int32)) (x33 : Int32 × Int32 × (Nat → Int32)) (j57s1 : Int32) : Option ((Int32 × Int32 × (Nat → Int32)) ⊕ (Int32 × Int32 × (Nat → Int32))) :=
  some (.inl (x33.1 + j57s1, x33.2.1 + 1, upd x33.2.2 x33.2.1.toNatClampNeg (r1.2.1 x33.2.1.toNatClampNeg)))
def mb_MO_full_33 (ce : Int32) (r1 : Int32 × (Nat → Int32) × (Nat → Int32) × (Nat → Int32)) (x33 : Int32 × Int32 × (Nat → Int32)) : Option ((Int32 × Int32 × (Nat → Int32)) ⊕ (Int32 × Int32 × (Nat → Int32))) :=
  if ce ≤ x33.2.1 then some (.inr (x33.1, x33.2.1, x33.2.2)) else if x33.2.1 < 0 ∨ 25 ≤ x33.2.1.toNatClampNeg then none else if x33.2.2 x33.2.1.toNatClampNeg = (-1 : Int32) then mj_MO_full_57 r1 x33 (1 : Int32) else mj_MO_full_57 r1 x33 (0 : Int32)
def mj_MO_full_17 (N : Nat) (ki : Int32) (ce : Int32) (gv : Nat → Int32) (ca : Nat → Int32) (r1 : Int32 × (Nat → Int32) × (Nat → Int32) × (Nat → Int32)) (j17s1 : Int32) : Option (Int32 × Int32 × Int32 × (Nat → Int32) × (Nat → Int32) × (Nat → Int32) × (Nat → Int32) × (Nat → Int32)) :=
  if j17s1 = 0 then (lp (mb_MO_full_33 ce r1) N ((0 : Int32), (0 : Int32), gv)).bind (mr_MO_full_33 N ki ce ca r1 j17s1) else some ((0 : Int32), j17s1, r1.1, gv, ca, r1.2.1, r1.2.2.1, r1.2.2.2)
def mi_MO_full (N : Nat) (th : Int32) (ki : Int32) (ce : Int32) (wi : Int32) (fo : Int32) (cu : Nat → Int32) (gr : Nat → Int32) (ru : Nat → Int32) (nu : Nat → Int32) (gv : Nat → Int32) (ca : Nat → Int32) (fi : Nat → Int32) (fl : Nat → Int32) (pa : Nat → Int32) (sh : Nat → Int32) (od : Nat → Int32) (bd : Nat → Int32) (bs : Nat → Int32) : Option (Int32 × Int32 × Int32 × (Nat → Int32) × (Nat → Int32) × (Nat → Int32) × (Nat → Int32) × (Nat → Int32)) :=
  (mi_MO_search N ki ce wi fo cu gr ru nu gv fi fl pa sh od bd bs).bind fun r1 => if r1.1 = 0 then mj_MO_full_17 N ki ce gv ca r1 (1 : Int32) else mj_MO_full_17 N ki ce gv ca r1 (0 : Int32)
def mr_MO_thin_65 (N : Nat) (ki : Int32) (ce : Int32) (ca : Nat → Int32) (j48s1 : Int32) (y65 : Int32 × Int32 × Int32 × Int32 × (Nat → Int32) × (Nat → Int32) × (Nat → Int32) × (Nat → Int32) × (Nat → Int32) × (Nat → Int32) × (Nat → Int32) × (Nat → Int32) × (Nat → Int32)) : Option (Int32 × Int32 × Int32 × Int32 × (Nat → Int32) × (Nat → Int32) × (Nat → Int32) × (Nat → Int32) × (Nat → Int32) × (Nat → Int32) × (Nat → Int32) × (Nat → Int32) × (Nat → Int32) × (Nat → Int32)) :=
  (mi_MO_refresh N ki ce y65.2.2.2.2.1 ca).bind fun r162 => some (y65.1, j48s1, y65.2.2.1, y65.2.2.2.1, y65.2.2.2.2.1, r162, y65.2.2.2.2.2.1, y65.2.2.2.2.2.2.1, y65.2.2.2.2.2.2.2.1, y65.2.2.2.2.2.2.2.2.1, y65.2.2.2.2.2.2.2.2.2.1, y65.2.2.2.2.2.2.2.2.2.2.1, y65.2.2.2.2.2.2.2.2.2.2.2.1, y65.2.2.2.2.2.2.2.2.2.2.2.2)
def mj_MO_thin_141 (x65 : Int32 × Int32 × Int32 × Int32 × (Nat → Int32) × (Nat → Int32) × (Nat → Int32) × (Nat → Int32) × (Nat → Int32) × (Nat → Int32) × (Nat → Int32) × (Nat → Int32) × (Nat → Int32)) (r101 : Int32 × Int32 × Int32 × (Nat → Int32) × (Nat → Int32) × (Nat → Int32) × (Nat → Int32) × (Nat → Int32) × (Nat → Int32) × (Nat → Int32) × (Nat → Int32)) (j122s0 : Int32) (j141s2 : Int32) : Option ((Int32 × Int32 × Int32 × Int32 × (Nat → Int32) × (Nat → Int32) × (Nat → Int32) × (Nat → Int32) × (Nat → Int32) × (Nat → Int32) × (Nat → Int32) × (Nat → Int32) × (Nat → Int32)) ⊕ (Int32 × Int32 × Int32 × Int32 × (Nat → Int32) × (Nat → Int32) × (Nat → Int32) × (Nat → Int32) × (Nat → Int32) × (Nat → Int32) × (Nat → Int32) × (Nat → Int32) × (Nat → Int32))) :=
  if j122s0 = 0 then some (.inl (x65.1 + (1 : Int32), x65.2.1 + 1, r101.2.1, r101.2.2.1, upd (upd x65.2.2.2.2.1 x65.2.1.toNatClampNeg (-1 : Int32)) x65.2.1.toNatClampNeg j141s2, r101.2.2.2.1, r101.2.2.2.2.1, r101.2.2.2.2.2.1, r101.2.2.2.2.2.2.1, r101.2.2.2.2.2.2.2.1, r101.2.2.2.2.2.2.2.2.1, r101.2.2.2.2.2.2.2.2.2.1, r101.2.2.2.2.2.2.2.2.2.2)) else some (.inl (x65.1 + (0 : Int32), x65.2.1 + 1, r101.2.1, r101.2.2.1, upd (upd x65.2.2.2.2.1 x65.2.1.toNatClampNeg (-1 : Int32)) x65.2.1.toNatClampNeg j141s2, r101.2.2.2.1, r101.2.2.2.2.1, r101.2.2.2.2.2.1, r101.2.2.2.2.2.2.1, r101.2.2.2.2.2.2.2.1, r101.2.2.2.2.2.2.2.2.1, r101.2.2.2.2.2.2.2.2.2.1, r101.2.2.2.2.2.2.2.2.2.2))
def mj_MO_thin_122 (x65 : Int32 × Int32 × Int32 × Int32 × (Nat → Int32) × (Nat → Int32) × (Nat → Int32) × (Nat → Int32) × (Nat → Int32) × (Nat → Int32) × (Nat → Int32) × (Nat → Int32) × (Nat → Int32)) (r101 : Int32 × Int32 × Int32 × (Nat → Int32) × (Nat → Int32) × (Nat → Int32) × (Nat → Int32) × (Nat → Int32) × (Nat → Int32) × (Nat → Int32) × (Nat → Int32)) (j122s0 : Int32) : Option ((Int32 × Int32 × Int32 × Int32 × (Nat → Int32) × (Nat → Int32) × (Nat → Int32) × (Nat → Int32) × (Nat → Int32) × (Nat → Int32) × (Nat → Int32) × (Nat → Int32) × (Nat → Int32)) ⊕ (Int32 × Int32 × Int32 × Int32 × (Nat → Int32) × (Nat → Int32) × (Nat → Int32) × (Nat → Int32) × (Nat → Int32) × (Nat → Int32) × (Nat → Int32) × (Nat → Int32) × (Nat → Int32))) :=
  if j122s0 = 0 then mj_MO_thin_141 x65 r101 j122s0 (-1 : Int32) else mj_MO_thin_141 x65 r101 j122s0 (x65.2.2.2.2.1 x65.2.1.toNatClampNeg)
def mb_MO_thin_65 (N : Nat) (ki : Int32) (ce : Int32) (wi : Int32) (cu : Nat → Int32) (gr : Nat → Int32) (ru : Nat → Int32) (nu : Nat → Int32) (sh : Nat → Int32) (od : Nat → Int32) (bd : Nat → Int32) (bs : Nat → Int32) (u1 : Int32) (x65 : Int32 × Int32 × Int32 × Int32 × (Nat → Int32) × (Nat → Int32) × (Nat → Int32) × (Nat → Int32) × (Nat → Int32) × (Nat → Int32) × (Nat → Int32) × (Nat → Int32) × (Nat → Int32)) : Option ((Int32 × Int32 × Int32 × Int32 × (Nat → Int32) × (Nat → Int32) × (Nat → Int32) × (Nat → Int32) × (Nat → Int32) × (Nat → Int32) × (Nat → Int32) × (Nat → Int32) × (Nat → Int32)) ⊕ (Int32 × Int32 × Int32 × Int32 × (Nat → Int32) × (Nat → Int32) × (Nat → Int32) × (Nat → Int32) × (Nat → Int32) × (Nat → Int32) × (Nat → Int32) × (Nat → Int32) × (Nat → Int32))) :=
  if ce ≤ x65.2.1 then some (.inr (x65.1, x65.2.1, x65.2.2.1, x65.2.2.2.1, x65.2.2.2.2.1, x65.2.2.2.2.2.1, x65.2.2.2.2.2.2.1, x65.2.2.2.2.2.2.2.1, x65.2.2.2.2.2.2.2.2.1, x65.2.2.2.2.2.2.2.2.2.1, x65.2.2.2.2.2.2.2.2.2.2.1, x65.2.2.2.2.2.2.2.2.2.2.2.1, x65.2.2.2.2.2.2.2.2.2.2.2.2)) else if x65.2.1 < 0 ∨ 25 ≤ x65.2.1.toNatClampNeg then none else if x65.2.2.2.2.1 x65.2.1.toNatClampNeg = (-1 : Int32) then some (.inl (x65.1, x65.2.1 + 1, x65.2.2.1, x65.2.2.2.1, x65.2.2.2.2.1, x65.2.2.2.2.2.1, x65.2.2.2.2.2.2.1, x65.2.2.2.2.2.2.2.1, x65.2.2.2.2.2.2.2.2.1, x65.2.2.2.2.2.2.2.2.2.1, x65.2.2.2.2.2.2.2.2.2.2.1, x65.2.2.2.2.2.2.2.2.2.2.2.1, x65.2.2.2.2.2.2.2.2.2.2.2.2)) else (mi_MO_gradeNow N ki ce wi x65.2.2.1 x65.2.2.2.1 cu gr ru nu (upd x65.2.2.2.2.1 x65.2.1.toNatClampNeg (-1 : Int32)) x65.2.2.2.2.2.1 x65.2.2.2.2.2.2.1 x65.2.2.2.2.2.2.2.1 x65.2.2.2.2.2.2.2.2.1 x65.2.2.2.2.2.2.2.2.2.1 x65.2.2.2.2.2.2.2.2.2.2.1 x65.2.2.2.2.2.2.2.2.2.2.2.1 x65.2.2.2.2.2.2.2.2.2.2.2.2 sh od bd bs).bind fun r101 => if r101.1 = 0 then mj_MO_thin_122 x65 r101 (1 : Int32) else if r101.1 ≤ u1 then mj_MO_thin_122 x65 r101 (0 : Int32) else mj_MO_thin_122 x65 r101 (1 : Int32)
def mj_MO_thin_48 (N : Nat) (ki : Int32) (ce : Int32) (wi : Int32) (cu : Nat → Int32) (gr : Nat → Int32) (ru : Nat → Int32) (nu : Nat → Int32) (gv : Nat → Int32) (ca : Nat → Int32) (sh : Nat → Int32) (od : Nat → Int32) (bd : Nat → Int32) (bs : Nat → Int32) (u1 : Int32) (r29 : Int32 × Int32 × Int32 × (Nat → Int32) × (Nat → Int32) × (Nat → Int32) × (Nat → Int32) × (Nat → Int32) × (Nat → Int32) × (Nat → Int32) × (Nat → Int32)) (j48s1 : Int32) : Option (Int32 × Int32 × Int32 × Int32 × (Nat → Int32) × (Nat → Int32) × (Nat → Int32) × (Nat → Int32) × (Nat → Int32) × (Nat → Int32) × (Nat → Int32) × (Nat → Int32) × (Nat → Int32) × (Nat → Int32)) :=
  if j48s1 = 0 then (lp (mb_MO_thin_65 N ki ce wi cu gr ru nu sh od bd bs u1) N ((0 : Int32), (0 : Int32), r29.2.1, r29.2.2.1, gv, r29.2.2.2.1, r29.2.2.2.2.1, r29.2.2.2.2.2.1, r29.2.2.2.2.2.2.1, r29.2.2.2.2.2.2.2.1, r29.2.2.2.2.2.2.2.2.1, r29.2.2.2.2.2.2.2.2.2.1, r29.2.2.2.2.2.2.2.2.2.2)).bind (mr_MO_thin_65 N ki ce ca j48s1) else some ((0 : Int32), j48s1, r29.2.1, r29.2.2.1, gv, ca, r29.2.2.2.1, r29.2.2.2.2.1, r29.2.2.2.2.2.1, r29.2.2.2.2.2.2.1, r29.2.2.2.2.2.2.2.1, r29.2.2.2.2.2.2.2.2.1, r29.2.2.2.2.2.2.2.2.2.1, r29.2.2.2.2.2.2.2.2.2.2)
def mj_MO_thin_16 (N : Nat) (ki : Int32) (ce : Int32) (wi : Int32) (ma : Int32) (fo : Int32) (cu : Nat → Int32) (gr : Nat → Int32) (ru : Nat → Int32) (nu : Nat → Int32) (gv : Nat → Int32) (ca : Nat → Int32) (nw : Nat → Int32) (lo : Nat → Int32) (ke : Nat → Int32) (un : Nat → Int32) (cn : Nat → Int32) (fi : Nat → Int32) (fl : Nat → Int32) (pa : Nat → Int32) (sh : Nat → Int32) (od : Nat → Int32) (bd : Nat → Int32) (bs : Nat → Int32) (u1 : Int32) (j16s1 : Int32) : Option (Int32 × Int32 × Int32 × Int32 × (Nat → Int32) × (Nat → Int32) × (Nat → Int32) × (Nat → Int32) × (Nat → Int32) × (Nat → Int32) × (Nat → Int32) × (Nat → Int32) × (Nat → Int32) × (Nat → Int32)) :=
  if j16s1 = 0 then (mi_MO_gradeNow N ki ce wi ma fo cu gr ru nu gv nw lo ke un cn fi fl pa sh od bd bs).bind fun r29 => if r29.1 = 0 then mj_MO_thin_48 N ki ce wi cu gr ru nu gv ca sh od bd bs u1 r29 (2 : Int32) else if r29.1 ≤ u1 then mj_MO_thin_48 N ki ce wi cu gr ru nu gv ca sh od bd bs u1 r29 (0 : Int32) else mj_MO_thin_48 N ki ce wi cu gr ru nu gv ca sh od bd bs u1 r29 (2 : Int32) else some ((0 : Int32), j16s1, ma, fo, gv, ca, nw, lo, ke, un, cn, fi, fl, pa)
def mi_MO_thin (N : Nat) (th : Int32) (ki : Int32) (ce : Int32) (wi : Int32) (ma : Int32) (fo : Int32) (cu : Nat → Int32) (gr : Nat → Int32) (ru : Nat → Int32) (nu : Nat → Int32) (gv : Nat → Int32) (ca : Nat → Int32) (nw : Nat → Int32) (lo : Nat → Int32) (ke : Nat → Int32) (un : Nat → Int32) (cn : Nat → Int32) (fi : Nat → Int32) (fl : Nat → Int32) (pa : Nat → Int32) (sh : Nat → Int32) (od : Nat → Int32) (bd : Nat → Int32) (bs : Nat → Int32) (u1 : Int32) : Option (Int32 × Int32 × Int32 × Int32 × (Nat → Int32) × (Nat → Int32) × (Nat → Int32) × (Nat → Int32) × (Nat → Int32) × (Nat → Int32) × (Nat → Int32) × (Nat → Int32) × (Nat → Int32) × (Nat → Int32)) :=
  if u1 < (1 : Int32) then mj_MO_thin_16 N ki ce wi ma fo cu gr ru nu gv ca nw lo ke un cn fi fl pa sh od bd bs u1 (1 : Int32) else if u1 ≤ (3 : Int32) then mj_MO_thin_16 N ki ce wi ma fo cu gr ru nu gv ca nw lo ke un cn fi fl pa sh od bd bs u1 (0 : Int32) else mj_MO_thin_16 N ki ce wi ma fo cu gr ru nu gv ca nw lo ke un cn fi fl pa sh od bd bs u1 (1 : Int32)
end
section
/-! Pure rows: loops of the mirrors -/
theorem lp_mono {σ ε : Type} {f : σ → Option (σ ⊕ ε)} : ∀ {n m : Nat} {s : σ} {e : ε}, n ≤ m → lp f n s = some e → lp f m s = some e := by
  intro n
  induction n with
  | zero => intro m s e _ h; exact absurd h lp_0
  | succ n ih =>
    intro m s e hm h
    cases m with
    | zero => omega
    | succ m =>
      rw [lp_s] at h
      rw [lp_s]
      cases hf : f s with
      | none => rw [hf] at h; exact absurd h on
      | some r =>
        rw [hf] at h
        cases r with
        | inl s' => exact ih (Nat.le_of_succ_le_succ hm) h
        | inr e' => exact h
/-- a loop by a measure and an invariant -/
theorem lp_meas {σ ε : Type} {f : σ → Option (σ ⊕ ε)} (I : σ → Prop) (μ : σ → Nat) (Q : ε → Prop)
    (hs : ∀ s, I s → (∃ s', f s = some (.inl s') ∧ I s' ∧ μ s' < μ s) ∨ (∃ e, f s = some (.inr e) ∧ Q e)) : ∀ (n : Nat) (s : σ), I s → μ s < n → ∃ e, lp f n s = some e ∧ Q e := by
  intro n
  induction n with
  | zero => intro s _ h; omega
  | succ n ih =>
    intro s hI hm
    rw [lp_s]
    rcases hs s hI with ⟨s', h1, h2, h3⟩ | ⟨e, h1, h2⟩
    · rw [h1]
      exact ih s' h2 (by omega)
    · rw [h1]
      exact ⟨e, rfl, h2⟩
/-- a loop whose states are known: g a, g (a + 1), .. g b, then its end -/
theorem lp_up {σ ε : Type} {f : σ → Option (σ ⊕ ε)} (g : Nat → σ) (e : ε) : ∀ (k a : Nat) (n : Nat), (∀ i, a ≤ i → i < a + k → f (g i) = some (.inl (g (i + 1)))) → f (g (a + k)) = some (.inr e) → k < n → lp f n (g a) = some e := by
  intro k
  induction k with
  | zero =>
    intro a n _ hx hn
    obtain ⟨n, rfl⟩ : ∃ m, n = m + 1 := ⟨n - 1, by omega⟩
    rw [lp_s, show f (g a) = some (.inr e) from hx]
    rfl
  | succ k ih =>
    intro a n hs hx hn
    obtain ⟨n, rfl⟩ : ∃ m, n = m + 1 := ⟨n - 1, by omega⟩
    rw [lp_s, hs a (Nat.le_refl a) (by omega)]
    refine ih (a + 1) n (fun i h1 h2 => hs i (by omega) (by omega)) ?_ (by omega)
    rw [show a + 1 + k = a + (k + 1) by omega]
    exact hx
/-- an index within, and one without -/
theorem ix_in {c N : Nat} (h : c < N) (hN : N < 2 ^ 31) : ¬ (nI c < 0 ∨ N ≤ (nI c).toNatClampNeg) := nI_in h hN
/-- what keptBy leaves: k ways from place a on, acc so far -/
def kb (wy : Nat → Int64) (x : Int64) : Nat → Nat → Int64 → Int64
  | 0, _, acc => acc
  | k + 1, a, acc => kb wy x k (a + 1) (if wy a &&& (x ^^^ (-1)) = 0 then acc ||| wy a else acc)
theorem kb_last (wy : Nat → Int64) (x : Int64) : ∀ (k a : Nat) (acc : Int64), kb wy x (k + 1) a acc = (if wy (a + k) &&& (x ^^^ (-1)) = 0 then kb wy x k a acc ||| wy (a + k) else kb wy x k a acc) := by
  intro k
  induction k with
  | zero => intro a acc; rfl
  | succ k ih =>
    intro a acc
    have h := ih (a + 1) (if wy a &&& (x ^^^ (-1)) = 0 then acc ||| wy a else acc)
    rw [show a + 1 + k = a + (k + 1) by omega] at h
    exact h
theorem pu_keptBy {sc : Nat → Int64} {sr : Nat → Int32} {wy : Nat → Int64} {u a k : Nat} (hu : u < 87) (ha : sr u = nI a) (hb : sr (u + 1) = nI (a + k)) (hk : a + k ≤ 326) (x : Int64) {N : Nat} (hN : 326 < N) :
    mi_UN_keptBy N sc sr wy (nI u) x = some (kb wy x k a (sc u ^^^ (-1))) := by
  have cu : (nI u).toNatClampNeg = u := nI_clamp (by omega)
  have cu1 : (nI u + 1).toNatClampNeg = u + 1 := by rw [nI_1]; exact nI_clamp (by omega)
  unfold mi_UN_keptBy
  rw [if_neg (ix_in hu (by decide)), if_neg (ix_in (show u < 88 by omega) (by decide)), cu, ha]
  have hl : lp (mb_UN_keptBy_27 sr wy (nI u) x) N (sc u ^^^ (-1), nI a) = some (kb wy x k a (sc u ^^^ (-1)), nI (a + k)) := by
    have hz := lp_up (f := mb_UN_keptBy_27 sr wy (nI u) x) (fun i => (kb wy x (i - a) a (sc u ^^^ (-1)), nI i)) (kb wy x k a (sc u ^^^ (-1)), nI (a + k)) k a N ?_ ?_ (by omega)
    · simp only [Nat.sub_self] at hz
      exact hz
    · intro i h1 h2
      unfold mb_UN_keptBy_27
      have h3 : i + 1 - a = (i - a) + 1 := by omega
      have h4 : a + (i - a) = i := by omega
      have ci : (nI i).toNatClampNeg = i := nI_clamp (by omega)
      rw [if_neg (by rw [nI_1]; exact ix_in (show u + 1 < 88 by omega) (by decide)), cu1, hb]
      dsimp only
      rw [if_neg (nI_ge (show i < a + k by omega) (by omega)), if_neg (ix_in (show i < 326 by omega) (by decide)), ci, h3, kb_last, h4, nI_1]
      by_cases hc : wy i &&& (x ^^^ (-1)) = 0
      · rw [if_pos hc, if_pos hc]
      · rw [if_neg hc, if_neg hc]
    · unfold mb_UN_keptBy_27
      rw [if_neg (by rw [nI_1]; exact ix_in (show u + 1 < 88 by omega) (by decide)), cu1, hb]
      dsimp only
      rw [if_pos (nI_le (Nat.le_refl _) (by omega)), show a + k - a = k by omega]
  rw [hl]
  rfl
end
section
/-! Pure rows: the units' methods as plain recursions. n units; unit u has the ways st u .. st (u + 1) - 1 -/
def uo (n : Nat) (st : Nat → Nat) (sr : Nat → Int32) : Prop := n ≤ 87 ∧ (∀ u, u ≤ n → sr u = nI (st u)) ∧ (∀ u, u < n → st u ≤ st (u + 1)) ∧ (∀ u, u ≤ n → st u ≤ 326)
/-- what unit u leaves of x, and all that isn't its own -/
def uk (sc wy : Nat → Int64) (st : Nat → Nat) (u : Nat) (x : Int64) : Int64 := kb wy x (st (u + 1) - st u) (st u) (sc u ^^^ (-1))
theorem pu_kept {n : Nat} {st : Nat → Nat} {sc : Nat → Int64} {sr : Nat → Int32} {wy : Nat → Int64} (h : uo n st sr) {u : Nat} (hu : u < n) (x : Int64) {N : Nat} (hN : 326 < N) : mi_UN_keptBy N sc sr wy (nI u) x = some (uk sc wy st u x) := by
  obtain ⟨h1, h2, h3, h4⟩ := h
  have hm := h3 u hu
  have hb := h4 (u + 1) (by omega)
  have hs := h2 (u + 1) (by omega)
  rw [show st (u + 1) = st u + (st (u + 1) - st u) by omega] at hs
  exact pu_keptBy (show u < 87 by omega) (h2 u (by omega)) hs (by omega) x hN
/-- all units at once -/
def ka (sc wy : Nat → Int64) (st : Nat → Nat) (x : Int64) : Nat → Int64
  | 0 => x
  | u + 1 => ka sc wy st x u &&& uk sc wy st u x
theorem pu_keptAtOnce {n : Nat} {st : Nat → Nat} {sc : Nat → Int64} {sr : Nat → Int32} {wy : Nat → Int64} (h : uo n st sr) (x : Int64) {N : Nat} (hN : 326 < N) : mi_UN_keptAtOnce N (nI n) sc sr wy x = some (ka sc wy st x n) := by
  have hn := h.1
  unfold mi_UN_keptAtOnce
  have hz := lp_up (f := mb_UN_keptAtOnce_5 N (nI n) sc sr wy x) (fun i => (ka sc wy st x i, nI i)) (ka sc wy st x n, nI n) n 0 N ?_ ?_ (by omega)
  · have hz : lp (mb_UN_keptAtOnce_5 N (nI n) sc sr wy x) N (x, (0 : Int32)) = some (ka sc wy st x n, nI n) := hz
    rw [hz]
    rfl
  · intro i _ h2
    unfold mb_UN_keptAtOnce_5
    dsimp only
    rw [if_neg (nI_ge (show i < n by omega) (by omega)), pu_kept h (show i < n by omega) x hN]
    show some (Sum.inl (ka sc wy st x i &&& uk sc wy st i x, nI i + 1)) = _
    rw [nI_1]
    rfl
  · unfold mb_UN_keptAtOnce_5
    dsimp only
    rw [Nat.zero_add, if_pos (nI_le (Nat.le_refl _) (by omega))]
/-- one look at all units, k of them left from u on: what is kept, or nothing when a unit is emptied -/
def np (sc wy : Nat → Int64) (st : Nat → Nat) (news : Int64) : Nat → Nat → Int64 → Option Int64
  | 0, _, kept => some kept
  | k + 1, u, kept => if sc u &&& news = 0 then np sc wy st news k (u + 1) kept else if kept &&& uk sc wy st u kept &&& sc u = 0 then none else np sc wy st news k (u + 1) (kept &&& uk sc wy st u kept)
/-- rule 1, over and over, at most k looks -/
def nr (sc wy : Nat → Int64) (st : Nat → Nat) (n : Nat) : Nat → Int64 → Int64 → Int64
  | 0, kept, _ => kept
  | k + 1, kept, news => if news = 0 then kept else match np sc wy st news n 0 kept with
    | none => 0
    | some kept' => nr sc wy st n k kept' (kept &&& (kept' ^^^ (-1)))
theorem pu_look {n : Nat} {st : Nat → Nat} {sc : Nat → Int64} {sr : Nat → Int32} {wy : Nat → Int64} (h : uo n st sr) {N : Nat} (hN : 326 < N) (x9 : Int64 × Int64 × Int32) : ∀ (k u : Nat) (kept : Int64) (m : Nat), u + k = n → k < m →
    lp (mb_UN_narrow_30 N (nI n) sc sr wy x9) m (kept, nI u) = (match np sc wy st x9.2.1 k u kept with | none => some (.inr 0) | some z => some (.inl (z, nI n))) := by
  have hn := h.1
  intro k
  induction k with
  | zero =>
    intro u kept m hk hm
    obtain ⟨m, rfl⟩ : ∃ q, m = q + 1 := ⟨m - 1, by omega⟩
    have hu : u = n := by omega
    subst hu
    rw [lp_s]
    unfold mb_UN_narrow_30
    dsimp only
    rw [if_pos (nI_le (Nat.le_refl _) (by omega))]
    rfl
  | succ k ih =>
    intro u kept m hk hm
    obtain ⟨m, rfl⟩ : ∃ q, m = q + 1 := ⟨m - 1, by omega⟩
    have cu : (nI u).toNatClampNeg = u := nI_clamp (by omega)
    rw [lp_s]
    unfold mb_UN_narrow_30
    dsimp only
    rw [if_neg (nI_ge (show u < n by omega) (by omega)), if_neg (ix_in (show u < 87 by omega) (by decide)), cu, pu_kept h (show u < n by omega) kept hN, nI_1]
    unfold np
    by_cases c1 : sc u &&& x9.2.1 = 0
    · rw [if_pos c1, if_pos c1]
      exact ih (u + 1) kept m (by omega) (by omega)
    · rw [if_neg c1, if_neg c1]
      by_cases c2 : kept &&& uk sc wy st u kept &&& sc u = 0
      · rw [if_pos c2]
        show (if kept &&& uk sc wy st u kept &&& sc u = 0 then some (Sum.inr (Sum.inr 0)) else some (Sum.inl (kept &&& uk sc wy st u kept, nI (u + 1)))).bind _ = _
        rw [if_pos c2]
        rfl
      · rw [if_neg c2]
        show (if kept &&& uk sc wy st u kept &&& sc u = 0 then some (Sum.inr (Sum.inr 0)) else some (Sum.inl (kept &&& uk sc wy st u kept, nI (u + 1)))).bind _ = _
        rw [if_neg c2]
        exact ih (u + 1) _ m (by omega) (by omega)
theorem pu_rounds {n : Nat} {st : Nat → Nat} {sc : Nat → Int64} {sr : Nat → Int32} {wy : Nat → Int64} (h : uo n st sr) {N : Nat} (hN : 326 < N) : ∀ (k r : Nat) (kept news : Int64) (m : Nat), r + k = 65 → k < m →
    (lp (mb_UN_narrow_9 N (nI n) sc sr wy) m (kept, news, nI r)).bind (Sum.elim mr_UN_narrow_9 (fun z => some z)) = some (nr sc wy st n k kept news) := by
  have hn := h.1
  intro k
  induction k with
  | zero =>
    intro r kept news m hk hm
    obtain ⟨m, rfl⟩ : ∃ q, m = q + 1 := ⟨m - 1, by omega⟩
    rw [lp_s]
    unfold mb_UN_narrow_9
    dsimp only
    rw [if_pos (show (64 : Int32) < nI r from nI_lt (a := 64) (show 64 < r by omega) (by omega))]
    rfl
  | succ k ih =>
    intro r kept news m hk hm
    obtain ⟨m, rfl⟩ : ∃ q, m = q + 1 := ⟨m - 1, by omega⟩
    rw [lp_s]
    unfold mb_UN_narrow_9
    dsimp only
    rw [if_neg (show ¬ (64 : Int32) < nI r from nI_nlt (a := 64) (show r ≤ 64 by omega) (by decide))]
    by_cases c : news = 0
    · rw [if_pos c]
      unfold nr
      rw [if_pos c]
      rfl
    · rw [if_neg c]
      have hq := pu_look (sc := sc) (wy := wy) h hN (kept, news, nI r) n 0 kept N (by omega) (by omega)
      rw [nI_0] at hq
      rw [hq]
      unfold nr
      rw [if_neg c]
      dsimp only
      cases hnp : np sc wy st news n 0 kept with
      | none => rfl
      | some z =>
        show (lp (mb_UN_narrow_9 N (nI n) sc sr wy) m (z, kept &&& (z ^^^ (-1)), nI r + 1)).bind _ = _
        rw [nI_1]
        exact ih (r + 1) z _ m (by omega) (by omega)
/-- narrow is 'nr' with 65 looks -/
theorem pu_narrow {n : Nat} {st : Nat → Nat} {sc : Nat → Int64} {sr : Nat → Int32} {wy : Nat → Int64} (h : uo n st sr) (x c : Int64) {N : Nat} (hN : 326 < N) : mi_UN_narrow N (nI n) sc sr wy x c = some (nr sc wy st n 65 x c) := by
  unfold mi_UN_narrow
  have hq := pu_rounds (sc := sc) (wy := wy) h hN 65 0 x c N (by omega) (by omega)
  rw [nI_0] at hq
  exact hq
/-- has each of k units from u on a way? -/
def hf (st : Nat → Nat) : Nat → Nat → Bool
  | 0, _ => true
  | k + 1, u => decide (¬ st u = st (u + 1)) && hf st k (u + 1)
theorem pu_have {n : Nat} {st : Nat → Nat} {sr : Nat → Int32} (h : uo n st sr) : ∀ (k u m : Nat), u + k = n → k < m →
    (lp (mb_UN_haveWays_2 (nI n) sr) m (nI u)).bind (Sum.elim mr_UN_haveWays_2 (fun z => some z)) = some (if hf st k u = true then 1 else 0) := by
  have hn := h.1
  intro k
  induction k with
  | zero =>
    intro u m hk hm
    obtain ⟨m, rfl⟩ : ∃ q, m = q + 1 := ⟨m - 1, by omega⟩
    have hu : u = n := by omega
    subst hu
    rw [lp_s]
    unfold mb_UN_haveWays_2
    rw [if_pos (nI_le (Nat.le_refl _) (by omega))]
    rfl
  | succ k ih =>
    intro u m hk hm
    obtain ⟨m, rfl⟩ : ∃ q, m = q + 1 := ⟨m - 1, by omega⟩
    have cu : (nI u).toNatClampNeg = u := nI_clamp (by omega)
    have cu1 : (nI (u + 1)).toNatClampNeg = u + 1 := nI_clamp (by omega)
    have b0 := h.2.2.2 u (by omega)
    have b1 := h.2.2.2 (u + 1) (by omega)
    rw [lp_s]
    unfold mb_UN_haveWays_2
    rw [if_neg (nI_ge (show u < n by omega) (by omega)), if_neg (ix_in (show u < 88 by omega) (by decide)), nI_1, if_neg (ix_in (show u + 1 < 88 by omega) (by decide)), cu, cu1, h.2.1 u (by omega), h.2.1 (u + 1) (by omega)]
    unfold hf
    by_cases c : st u = st (u + 1)
    · rw [if_pos (by rw [c])]
      simp only [c, not_true_eq_false, decide_false, Bool.false_and, Bool.false_eq_true, if_false]
      rfl
    · rw [if_neg (fun q => c ((nI_eq (by omega) (by omega)).mp q))]
      simp only [c, not_false_eq_true, decide_true, Bool.true_and]
      exact ih (u + 1) m (by omega) (by omega)
theorem pu_haveWays {n : Nat} {st : Nat → Nat} {sr : Nat → Int32} (h : uo n st sr) {N : Nat} (hN : 326 < N) : mi_UN_haveWays N (nI n) sr = some (if hf st n 0 = true then 1 else 0) := by
  unfold mi_UN_haveWays
  have hq := pu_have h n 0 N (by omega) (by have := h.1; omega)
  rw [nI_0] at hq
  exact hq
end
section
/-! Pure rows: sets of candidates as the bits of a long -/
def tb (x : Int64) (b : Nat) : Bool := x.toBitVec.getLsbD b
theorem tb_or (x y : Int64) (b : Nat) : tb (x ||| y) b = (tb x b || tb y b) := by
  unfold tb
  rw [Int64.toBitVec_or, BitVec.getLsbD_or]
theorem tb_and (x y : Int64) (b : Nat) : tb (x &&& y) b = (tb x b && tb y b) := by
  unfold tb
  rw [Int64.toBitVec_and, BitVec.getLsbD_and]
theorem tb_big {x : Int64} {b : Nat} (h : 64 ≤ b) : tb x b = false := BitVec.getLsbD_of_ge _ _ h
theorem tb_m1 {b : Nat} (h : b < 64) : tb (-1) b = true := by
  unfold tb
  rw [show (-1 : Int64).toBitVec = BitVec.allOnes 64 from by decide, BitVec.getLsbD_allOnes]
  simp [h]
theorem tb_0 (b : Nat) : tb 0 b = false := by
  unfold tb
  rw [show (0 : Int64).toBitVec = 0#64 from by decide]
  simp
theorem tb_not (x : Int64) {b : Nat} (h : b < 64) : tb (x ^^^ (-1)) b = !tb x b := by
  have h1 := tb_m1 h
  unfold tb at h1 ⊢
  rw [Int64.toBitVec_xor, BitVec.getLsbD_xor, h1]
  simp
theorem tb_ext {x y : Int64} (h : ∀ b, b < 64 → tb x b = tb y b) : x = y := by
  apply Int64.toBitVec_inj.mp
  apply BitVec.eq_of_getLsbD_eq
  intro b hb
  exact h b hb
/-- y is a part of x -/
def su (y x : Int64) : Prop := ∀ b, tb y b = true → tb x b = true
theorem su_iff (y x : Int64) : y &&& (x ^^^ (-1)) = 0 ↔ su y x := by
  constructor
  · intro h b hy
    by_cases hb : b < 64
    · have h1 : tb (y &&& (x ^^^ (-1))) b = tb 0 b := by rw [h]
      rw [tb_and, tb_not x hb, tb_0, hy] at h1
      cases hx : tb x b with
      | true => rfl
      | false => rw [hx] at h1; exact absurd h1 (by decide)
    · rw [tb_big (by omega)] at hy
      exact absurd hy (by decide)
  · intro h
    apply tb_ext
    intro b hb
    rw [tb_and, tb_not x hb, tb_0]
    cases hy : tb y b with
    | false => rfl
    | true => rw [h b hy]; rfl
theorem su_rf (x : Int64) : su x x := fun _ h => h
theorem su_tr {x y z : Int64} (h1 : su x y) (h2 : su y z) : su x z := fun b h => h2 b (h1 b h)
theorem su_and_l (x y : Int64) : su (x &&& y) x := fun b h => by rw [tb_and] at h; exact (Bool.and_eq_true_iff.mp h).1
theorem su_and_r (x y : Int64) : su (x &&& y) y := fun b h => by rw [tb_and] at h; exact (Bool.and_eq_true_iff.mp h).2
theorem su_and {x y z : Int64} (h1 : su x y) (h2 : su x z) : su x (y &&& z) := fun b h => by rw [tb_and, h1 b h, h2 b h]; rfl
theorem su_asym {x y : Int64} (h1 : su x y) (h2 : su y x) : x = y := by
  apply tb_ext
  intro b _
  cases hx : tb x b with
  | true => exact (h1 b hx).symm
  | false =>
    cases hy : tb y b with
    | false => rfl
    | true => rw [h2 b hy] at hx; exact absurd hx (by decide)
/-- what keptBy's recursion leaves, bit by bit -/
theorem kb_bit (wy : Nat → Int64) (x : Int64) (b : Nat) : ∀ (k a : Nat) (acc : Int64), tb (kb wy x k a acc) b = true ↔ (tb acc b = true ∨ ∃ i, a ≤ i ∧ i < a + k ∧ su (wy i) x ∧ tb (wy i) b = true) := by
  intro k
  induction k with
  | zero =>
    intro a acc
    exact ⟨Or.inl, fun h => h.elim id (fun ⟨i, h1, h2, _⟩ => by omega)⟩
  | succ k ih =>
    intro a acc
    unfold kb
    rw [ih]
    by_cases c : wy a &&& (x ^^^ (-1)) = 0
    · rw [if_pos c, tb_or, Bool.or_eq_true]
      have hs := (su_iff _ _).mp c
      constructor
      · rintro ((h | h) | ⟨i, h1, h2, h3⟩)
        · exact Or.inl h
        · exact Or.inr ⟨a, by omega, by omega, hs, h⟩
        · exact Or.inr ⟨i, by omega, by omega, h3⟩
      · rintro (h | ⟨i, h1, h2, h3, h4⟩)
        · exact Or.inl (Or.inl h)
        · by_cases hi : i = a
          · subst hi; exact Or.inl (Or.inr h4)
          · exact Or.inr ⟨i, by omega, by omega, h3, h4⟩
    · rw [if_neg c]
      constructor
      · rintro (h | ⟨i, h1, h2, h3⟩)
        · exact Or.inl h
        · exact Or.inr ⟨i, by omega, by omega, h3⟩
      · rintro (h | ⟨i, h1, h2, h3, h4⟩)
        · exact Or.inl h
        · by_cases hi : i = a
          · subst hi; exact absurd ((su_iff _ _).mpr h3) c
          · exact Or.inr ⟨i, by omega, by omega, h3, h4⟩
/-- unit u keeps a candidate: it isn't its own, or some way of it goes by x and has it -/
theorem uk_bit {sc wy : Nat → Int64} {st : Nat → Nat} {u : Nat} (hm : st u ≤ st (u + 1)) (x : Int64) {b : Nat} (hb : b < 64) : tb (uk sc wy st u x) b = true ↔ (tb (sc u) b = false ∨ ∃ i, st u ≤ i ∧ i < st (u + 1) ∧ su (wy i) x ∧ tb (wy i) b = true) := by
  unfold uk
  rw [kb_bit, tb_not _ hb, show st u + (st (u + 1) - st u) = st (u + 1) by omega]
  simp only [Bool.not_eq_true']
/-- rule 1 is monotone -/
theorem uk_mono {sc wy : Nat → Int64} {st : Nat → Nat} {u : Nat} (hm : st u ≤ st (u + 1)) {x y : Int64} (h : su x y) : su (uk sc wy st u x) (uk sc wy st u y) := by
  intro b hx
  by_cases hb : b < 64
  · rw [uk_bit hm x hb] at hx
    rw [uk_bit hm y hb]
    rcases hx with h1 | ⟨i, h1, h2, h3, h4⟩
    · exact Or.inl h1
    · exact Or.inr ⟨i, h1, h2, su_tr h3 h, h4⟩
  · rw [tb_big (by omega)] at hx
    exact absurd hx (by decide)
end
section
/-! Pure rows: what no unit takes anything of (closed sets) stays under narrow -/
/-- no unit takes anything of y -/
def clo (n : Nat) (sc wy : Nat → Int64) (st : Nat → Nat) (y : Int64) : Prop := ∀ u, u < n → su y (uk sc wy st u y)
theorem np_sub {sc wy : Nat → Int64} {st : Nat → Nat} {news : Int64} : ∀ (k u : Nat) (kept z : Int64), np sc wy st news k u kept = some z → su z kept := by
  intro k
  induction k with
  | zero => intro u kept z h; have q := Option.some.inj h; subst q; exact su_rf _
  | succ k ih =>
    intro u kept z h
    unfold np at h
    by_cases c1 : sc u &&& news = 0
    · rw [if_pos c1] at h
      exact ih (u + 1) kept z h
    · rw [if_neg c1] at h
      by_cases c2 : kept &&& uk sc wy st u kept &&& sc u = 0
      · rw [if_pos c2] at h; exact absurd h on
      · rw [if_neg c2] at h
        exact su_tr (ih (u + 1) _ z h) (su_and_l _ _)
theorem np_keep {n : Nat} {sc wy : Nat → Int64} {st : Nat → Nat} {news y : Int64} (hm : ∀ u, u < n → st u ≤ st (u + 1)) (hc : clo n sc wy st y) : ∀ (k u : Nat) (kept : Int64), u + k ≤ n → su y kept →
    (∃ z, np sc wy st news k u kept = some z ∧ su y z) ∨ (np sc wy st news k u kept = none ∧ ∃ v, v < n ∧ ¬ sc v &&& news = 0 ∧ y &&& sc v = 0) := by
  intro k
  induction k with
  | zero => intro u kept _ h; exact Or.inl ⟨kept, rfl, h⟩
  | succ k ih =>
    intro u kept hn hy
    unfold np
    by_cases c1 : sc u &&& news = 0
    · rw [if_pos c1]
      exact ih (u + 1) kept (by omega) hy
    · rw [if_neg c1]
      have hz : su y (kept &&& uk sc wy st u kept) := su_and hy (su_tr (hc u (by omega)) (uk_mono (hm u (by omega)) hy))
      by_cases c2 : kept &&& uk sc wy st u kept &&& sc u = 0
      · rw [if_pos c2]
        refine Or.inr ⟨rfl, u, by omega, c1, ?_⟩
        apply tb_ext
        intro b _
        have h1 : tb (kept &&& uk sc wy st u kept &&& sc u) b = tb 0 b := by rw [c2]
        rw [tb_and] at h1
        rw [tb_and]
        cases hb : tb y b with
        | false => rw [tb_0]; rfl
        | true => rw [hz b hb] at h1; exact h1
      · rw [if_neg c2]
        exact ih (u + 1) _ (by omega) hz
theorem nr_sub {n : Nat} {sc wy : Nat → Int64} {st : Nat → Nat} : ∀ (k : Nat) (kept news : Int64), su (nr sc wy st n k kept news) kept := by
  intro k
  induction k with
  | zero => intro kept news; exact su_rf _
  | succ k ih =>
    intro kept news
    unfold nr
    by_cases c : news = 0
    · rw [if_pos c]; exact su_rf _
    · rw [if_neg c]
      cases h : np sc wy st news n 0 kept with
      | none => exact fun b hb => absurd hb (by rw [tb_0]; decide)
      | some z => exact su_tr (ih z _) (np_sub n 0 kept z h)
/-- a closed set that lies in 'kept' stays, or narrow has found a unit none of whose candidates are in it -/
theorem nr_keep {n : Nat} {sc wy : Nat → Int64} {st : Nat → Nat} {y : Int64} (hm : ∀ u, u < n → st u ≤ st (u + 1)) (hc : clo n sc wy st y) : ∀ (k : Nat) (kept news : Int64), su y kept →
    su y (nr sc wy st n k kept news) ∨ (nr sc wy st n k kept news = 0 ∧ ∃ v, v < n ∧ ¬ sc v = 0 ∧ y &&& sc v = 0) := by
  intro k
  induction k with
  | zero => intro kept news h; exact Or.inl h
  | succ k ih =>
    intro kept news hy
    unfold nr
    by_cases c : news = 0
    · rw [if_pos c]; exact Or.inl hy
    · rw [if_neg c]
      rcases np_keep (news := news) hm hc n 0 kept (by omega) hy with ⟨z, h1, h2⟩ | ⟨h1, v, h2, h3, h4⟩
      · rw [h1]
        exact ih z _ h2
      · rw [h1]
        exact Or.inr ⟨rfl, v, h2, fun q => h3 (by rw [q]; apply tb_ext; intro b _; rw [tb_and, tb_0]; rfl), h4⟩
end
section
/-! Pure rows: what narrow leaves is closed -/
/-- the ways of each unit lie in its scope -/
def wsc (n : Nat) (sc wy : Nat → Int64) (st : Nat → Nat) : Prop := ∀ u, u < n → ∀ i, st u ≤ i → i < st (u + 1) → su (wy i) (sc u)
/-- a unit looks at its own candidates alone -/
theorem uk_dep {n : Nat} {sc wy : Nat → Int64} {st : Nat → Nat} (hw : wsc n sc wy st) (hm : ∀ u, u < n → st u ≤ st (u + 1)) {u : Nat} (hu : u < n) {x y : Int64} (h : ∀ b, tb (sc u) b = true → tb x b = true → tb y b = true) : su (uk sc wy st u x) (uk sc wy st u y) := by
  intro b hx
  by_cases hb : b < 64
  · rw [uk_bit (hm u hu) x hb] at hx
    rw [uk_bit (hm u hu) y hb]
    rcases hx with h1 | ⟨i, h1, h2, h3, h4⟩
    · exact Or.inl h1
    · exact Or.inr ⟨i, h1, h2, fun c hc => h c (hw u hu i h1 h2 c hc) (h3 c hc), h4⟩
  · rw [tb_big (by omega)] at hx
    exact absurd hx (by decide)
/-- how many bits below b -/
def cn (x : Int64) : Nat → Nat
  | 0 => 0
  | b + 1 => cn x b + (if tb x b = true then 1 else 0)
theorem cn_le (x : Int64) : ∀ b, cn x b ≤ b := by
  intro b
  induction b with
  | zero => exact Nat.le_refl _
  | succ b ih => unfold cn; split <;> omega
theorem cn_mono {z x : Int64} (h : su z x) : ∀ b, cn z b ≤ cn x b := by
  intro b
  induction b with
  | zero => exact Nat.le_refl _
  | succ b ih =>
    unfold cn
    cases hz : tb z b with
    | true => rw [if_pos rfl, if_pos (h b hz)]; omega
    | false => rw [if_neg (by decide)]; omega
theorem cn_lt {z x : Int64} (h : su z x) {c : Nat} (hx : tb x c = true) (hz : tb z c = false) : ∀ b, c < b → cn z b < cn x b := by
  intro b
  induction b with
  | zero => intro hc; omega
  | succ b ih =>
    intro hc
    unfold cn
    by_cases e : c = b
    · subst e
      rw [hz, hx, if_neg (by decide), if_pos rfl]
      have := cn_mono h c
      omega
    · have h1 := ih (by omega)
      cases hz' : tb z b with
      | true => rw [if_pos rfl, if_pos (h b hz')]; omega
      | false => rw [if_neg (by decide)]; omega
/-- what was taken is news: none, or fewer candidates -/
theorem cn_news {z x : Int64} (h : su z x) : x &&& (z ^^^ (-1)) = 0 ∨ cn z 64 < cn x 64 := by
  by_cases c : x &&& (z ^^^ (-1)) = 0
  · exact Or.inl c
  · refine Or.inr ?_
    by_cases e : ∃ b, b < 64 ∧ tb x b = true ∧ tb z b = false
    · obtain ⟨b, h1, h2, h3⟩ := e
      exact cn_lt h h2 h3 64 h1
    · refine absurd ((su_iff x z).mpr (fun b hb => ?_)) c
      by_cases hb64 : b < 64
      · cases hz : tb z b with
        | true => rfl
        | false => exact absurd ⟨b, hb64, hb, hz⟩ e
      · rw [tb_big (by omega)] at hb
        exact absurd hb (by decide)
/-- each unit that a look touches has been looked at: at some w between -/
theorem np_seen {sc wy : Nat → Int64} {st : Nat → Nat} {news : Int64} : ∀ (k u : Nat) (kept z : Int64), np sc wy st news k u kept = some z → ∀ v, u ≤ v → v < u + k → ¬ sc v &&& news = 0 → ∃ w, su w kept ∧ su z w ∧ su z (uk sc wy st v w) := by
  intro k
  induction k with
  | zero => intro u kept z _ v h1 h2; omega
  | succ k ih =>
    intro u kept z h v h1 h2 h3
    have hsub := h
    unfold np at h
    by_cases c1 : sc u &&& news = 0
    · rw [if_pos c1] at h
      by_cases e : v = u
      · subst e; exact absurd c1 h3
      · exact ih (u + 1) kept z h v (by omega) (by omega) h3
    · rw [if_neg c1] at h
      by_cases c2 : kept &&& uk sc wy st u kept &&& sc u = 0
      · rw [if_pos c2] at h; exact absurd h on
      · rw [if_neg c2] at h
        have hz := np_sub k (u + 1) _ z h
        by_cases e : v = u
        · subst e
          exact ⟨kept, su_rf _, su_tr hz (su_and_l _ _), su_tr hz (su_and_r _ _)⟩
        · obtain ⟨w, g1, g2, g3⟩ := ih (u + 1) _ z h v (by omega) (by omega) h3
          exact ⟨w, su_tr g1 (su_and_l _ _), g2, g3⟩
/-- the units without news take nothing -/
def inv (n : Nat) (sc wy : Nat → Int64) (st : Nat → Nat) (kept news : Int64) : Prop := ∀ u, u < n → sc u &&& news = 0 → su kept (uk sc wy st u kept)
theorem inv_step {n : Nat} {sc wy : Nat → Int64} {st : Nat → Nat} (hw : wsc n sc wy st) (hm : ∀ u, u < n → st u ≤ st (u + 1)) {kept news z : Int64} (hi : inv n sc wy st kept news) (h : np sc wy st news n 0 kept = some z) : inv n sc wy st z (kept &&& (z ^^^ (-1))) := by
  intro u hu hz
  have hsub := np_sub n 0 kept z h
  have hon : ∀ b, tb (sc u) b = true → tb kept b = true → tb z b = true := by
    intro b h1 h2
    by_cases hb : b < 64
    · have h3 : tb (sc u &&& (kept &&& (z ^^^ (-1)))) b = tb 0 b := by rw [hz]
      rw [tb_and, tb_and, tb_not z hb, tb_0, h1, h2] at h3
      cases hzb : tb z b with
      | true => rfl
      | false => rw [hzb] at h3; exact absurd h3 (by decide)
    · rw [tb_big (by omega)] at h1
      exact absurd h1 (by decide)
  by_cases c : sc u &&& news = 0
  · exact su_tr hsub (su_tr (hi u hu c) (uk_dep hw hm hu hon))
  · obtain ⟨w, g1, g2, g3⟩ := np_seen n 0 kept z h u (by omega) (by omega) c
    exact su_tr g3 (uk_dep hw hm hu (fun b h1 h2 => hon b h1 (g1 b h2)))
theorem clo_0 {n : Nat} {sc wy : Nat → Int64} {st : Nat → Nat} : clo n sc wy st 0 := fun u _ b hb => absurd hb (by rw [tb_0]; decide)
/-- what narrow leaves is closed -/
theorem nr_clo {n : Nat} {sc wy : Nat → Int64} {st : Nat → Nat} (hw : wsc n sc wy st) (hm : ∀ u, u < n → st u ≤ st (u + 1)) : ∀ (k : Nat) (kept news : Int64), inv n sc wy st kept news → (news = 0 ∨ cn kept 64 < k) → clo n sc wy st (nr sc wy st n k kept news) := by
  have h0 : ∀ {kept news : Int64}, news = 0 → inv n sc wy st kept news → clo n sc wy st kept := by
    intro kept news c hi u hu
    exact hi u hu (by rw [c]; apply tb_ext; intro b _; rw [tb_and, tb_0]; exact Bool.and_false _)
  intro k
  induction k with
  | zero =>
    intro kept news hi hc
    rcases hc with c | c
    · exact h0 c hi
    · omega
  | succ k ih =>
    intro kept news hi hc
    unfold nr
    by_cases c : news = 0
    · rw [if_pos c]; exact h0 c hi
    · rw [if_neg c]
      cases h : np sc wy st news n 0 kept with
      | none => exact clo_0
      | some z =>
        refine ih z _ (inv_step hw hm hi h) ?_
        rcases cn_news (np_sub n 0 kept z h) with e | e
        · exact Or.inl e
        · rcases hc with c' | c'
          · exact absurd c' c
          · exact Or.inr (by omega)
end
