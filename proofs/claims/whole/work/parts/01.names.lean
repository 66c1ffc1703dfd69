-- ===== PART A: goes FIRST, ahead of the names: the tables' words, and 'selects' of the private methods out of them =====
/-- a private method of a class that the tables say can be made, by its rows of tables_1 -/
def lw_okq (q : MethodName × Nat) : Prop := (q.1.cls ≠ "java/lang/invoke/MethodHandle" ∧ q.1.cls ≠ "java/lang/invoke/VarHandle") ∧ Cond.instantiable q.1.cls q.2 ∈ tables_1 ∧ Cond.privateMethod q.1 ∈ tables_1 ∧ Cond.instanceMethod q.1 ∈ tables_1
theorem lw_p0 : lw_okq (⟨"ImplicationAlgebras$Poset", "refresh", "()V"⟩, 7) := ⟨⟨by decide +kernel, by decide +kernel⟩, List.mem_of_getElem? (i := 104) (by decide +kernel), List.mem_of_getElem? (i := 110) (by decide +kernel), List.mem_of_getElem? (i := 111) (by decide +kernel)⟩
theorem lw_p1 : lw_okq (⟨"ImplicationAlgebras$Poset", "findDownSets", "()V"⟩, 7) := ⟨⟨by decide +kernel, by decide +kernel⟩, List.mem_of_getElem? (i := 104) (by decide +kernel), List.mem_of_getElem? (i := 114) (by decide +kernel), List.mem_of_getElem? (i := 115) (by decide +kernel)⟩
theorem lw_p2 : lw_okq (⟨"ImplicationAlgebras$Poset", "pointsBelow", "(I)I"⟩, 7) := ⟨⟨by decide +kernel, by decide +kernel⟩, List.mem_of_getElem? (i := 104) (by decide +kernel), List.mem_of_getElem? (i := 118) (by decide +kernel), List.mem_of_getElem? (i := 119) (by decide +kernel)⟩
theorem lw_p3 : lw_okq (⟨"ImplicationAlgebras$Poset", "findElements", "()V"⟩, 7) := ⟨⟨by decide +kernel, by decide +kernel⟩, List.mem_of_getElem? (i := 104) (by decide +kernel), List.mem_of_getElem? (i := 126) (by decide +kernel), List.mem_of_getElem? (i := 127) (by decide +kernel)⟩
theorem lw_p4 : lw_okq (⟨"ImplicationAlgebras$Poset", "numberSet", "(I)V"⟩, 7) := ⟨⟨by decide +kernel, by decide +kernel⟩, List.mem_of_getElem? (i := 104) (by decide +kernel), List.mem_of_getElem? (i := 140) (by decide +kernel), List.mem_of_getElem? (i := 141) (by decide +kernel)⟩
theorem lw_p5 : lw_okq (⟨"ImplicationAlgebras", "posetAt", "(I)LImplicationAlgebras$Poset;"⟩, 10) := ⟨⟨by decide +kernel, by decide +kernel⟩, List.mem_of_getElem? (i := 13) (by decide +kernel), List.mem_of_getElem? (i := 252) (by decide +kernel), List.mem_of_getElem? (i := 253) (by decide +kernel)⟩
theorem lw_p6 : lw_okq (⟨"ImplicationAlgebras$Poset", "greaterPoints", "(I)I"⟩, 7) := ⟨⟨by decide +kernel, by decide +kernel⟩, List.mem_of_getElem? (i := 104) (by decide +kernel), List.mem_of_getElem? (i := 280) (by decide +kernel), List.mem_of_getElem? (i := 281) (by decide +kernel)⟩
theorem lw_p7 : lw_okq (⟨"ImplicationAlgebras$Poset", "isChain", "(I)Z"⟩, 7) := ⟨⟨by decide +kernel, by decide +kernel⟩, List.mem_of_getElem? (i := 104) (by decide +kernel), List.mem_of_getElem? (i := 306) (by decide +kernel), List.mem_of_getElem? (i := 307) (by decide +kernel)⟩
theorem lw_p8 : lw_okq (⟨"ImplicationAlgebras$Poset", "relatedPoints", "(I)I"⟩, 7) := ⟨⟨by decide +kernel, by decide +kernel⟩, List.mem_of_getElem? (i := 104) (by decide +kernel), List.mem_of_getElem? (i := 310) (by decide +kernel), List.mem_of_getElem? (i := 311) (by decide +kernel)⟩
theorem lw_p9 : lw_okq (⟨"ImplicationAlgebras$Poset", "isAntichain", "(I)Z"⟩, 7) := ⟨⟨by decide +kernel, by decide +kernel⟩, List.mem_of_getElem? (i := 104) (by decide +kernel), List.mem_of_getElem? (i := 321) (by decide +kernel), List.mem_of_getElem? (i := 322) (by decide +kernel)⟩
theorem lw_p10 : lw_okq (⟨"ImplicationAlgebras$Poset", "componentOf", "(I)I"⟩, 7) := ⟨⟨by decide +kernel, by decide +kernel⟩, List.mem_of_getElem? (i := 104) (by decide +kernel), List.mem_of_getElem? (i := 337) (by decide +kernel), List.mem_of_getElem? (i := 338) (by decide +kernel)⟩
theorem lw_p11 : lw_okq (⟨"ImplicationAlgebras", "combine", "(IIII)I"⟩, 10) := ⟨⟨by decide +kernel, by decide +kernel⟩, List.mem_of_getElem? (i := 13) (by decide +kernel), List.mem_of_getElem? (i := 363) (by decide +kernel), List.mem_of_getElem? (i := 364) (by decide +kernel)⟩
theorem lw_p12 : lw_okq (⟨"ImplicationAlgebras", "formulaAt", "(I)LImplicationAlgebras$Formula;"⟩, 10) := ⟨⟨by decide +kernel, by decide +kernel⟩, List.mem_of_getElem? (i := 13) (by decide +kernel), List.mem_of_getElem? (i := 395) (by decide +kernel), List.mem_of_getElem? (i := 396) (by decide +kernel)⟩
theorem lw_p13 : lw_okq (⟨"ImplicationAlgebras$Text", "takeInFactor", "(I)Z"⟩, 9) := ⟨⟨by decide +kernel, by decide +kernel⟩, List.mem_of_getElem? (i := 27) (by decide +kernel), List.mem_of_getElem? (i := 403) (by decide +kernel), List.mem_of_getElem? (i := 404) (by decide +kernel)⟩
theorem lw_p14 : lw_okq (⟨"ImplicationAlgebras$Text", "emit", "(I)V"⟩, 9) := ⟨⟨by decide +kernel, by decide +kernel⟩, List.mem_of_getElem? (i := 27) (by decide +kernel), List.mem_of_getElem? (i := 410) (by decide +kernel), List.mem_of_getElem? (i := 411) (by decide +kernel)⟩
theorem lw_p15 : lw_okq (⟨"ImplicationAlgebras$Text", "endFactor", "()V"⟩, 9) := ⟨⟨by decide +kernel, by decide +kernel⟩, List.mem_of_getElem? (i := 27) (by decide +kernel), List.mem_of_getElem? (i := 414) (by decide +kernel), List.mem_of_getElem? (i := 415) (by decide +kernel)⟩
def lw_privs_1 : List (MethodName × Nat) := [(⟨"ImplicationAlgebras$Poset", "refresh", "()V"⟩, 7), (⟨"ImplicationAlgebras$Poset", "findDownSets", "()V"⟩, 7), (⟨"ImplicationAlgebras$Poset", "pointsBelow", "(I)I"⟩, 7), (⟨"ImplicationAlgebras$Poset", "findElements", "()V"⟩, 7), (⟨"ImplicationAlgebras$Poset", "numberSet", "(I)V"⟩, 7), (⟨"ImplicationAlgebras", "posetAt", "(I)LImplicationAlgebras$Poset;"⟩, 10), (⟨"ImplicationAlgebras$Poset", "greaterPoints", "(I)I"⟩, 7), (⟨"ImplicationAlgebras$Poset", "isChain", "(I)Z"⟩, 7), (⟨"ImplicationAlgebras$Poset", "relatedPoints", "(I)I"⟩, 7), (⟨"ImplicationAlgebras$Poset", "isAntichain", "(I)Z"⟩, 7), (⟨"ImplicationAlgebras$Poset", "componentOf", "(I)I"⟩, 7), (⟨"ImplicationAlgebras", "combine", "(IIII)I"⟩, 10), (⟨"ImplicationAlgebras", "formulaAt", "(I)LImplicationAlgebras$Formula;"⟩, 10), (⟨"ImplicationAlgebras$Text", "takeInFactor", "(I)Z"⟩, 9), (⟨"ImplicationAlgebras$Text", "emit", "(I)V"⟩, 9), (⟨"ImplicationAlgebras$Text", "endFactor", "()V"⟩, 9)]
theorem lw_r1 : ∀ q ∈ lw_privs_1, lw_okq q := List.forall_mem_cons.mpr ⟨lw_p0, List.forall_mem_cons.mpr ⟨lw_p1, List.forall_mem_cons.mpr ⟨lw_p2, List.forall_mem_cons.mpr ⟨lw_p3, List.forall_mem_cons.mpr ⟨lw_p4, List.forall_mem_cons.mpr ⟨lw_p5, List.forall_mem_cons.mpr ⟨lw_p6, List.forall_mem_cons.mpr ⟨lw_p7, List.forall_mem_cons.mpr ⟨lw_p8, List.forall_mem_cons.mpr ⟨lw_p9, List.forall_mem_cons.mpr ⟨lw_p10, List.forall_mem_cons.mpr ⟨lw_p11, List.forall_mem_cons.mpr ⟨lw_p12, List.forall_mem_cons.mpr ⟨lw_p13, List.forall_mem_cons.mpr ⟨lw_p14, List.forall_mem_cons.mpr ⟨lw_p15, fun _ h => absurd h List.not_mem_nil⟩⟩⟩⟩⟩⟩⟩⟩⟩⟩⟩⟩⟩⟩⟩⟩
theorem lw_p16 : lw_okq (⟨"ImplicationAlgebras$Text", "hold", "(I)V"⟩, 9) := ⟨⟨by decide +kernel, by decide +kernel⟩, List.mem_of_getElem? (i := 27) (by decide +kernel), List.mem_of_getElem? (i := 418) (by decide +kernel), List.mem_of_getElem? (i := 419) (by decide +kernel)⟩
theorem lw_p17 : lw_okq (⟨"ImplicationAlgebras$Text", "takeBehindFactor", "(I)Z"⟩, 9) := ⟨⟨by decide +kernel, by decide +kernel⟩, List.mem_of_getElem? (i := 27) (by decide +kernel), List.mem_of_getElem? (i := 422) (by decide +kernel), List.mem_of_getElem? (i := 423) (by decide +kernel)⟩
theorem lw_p18 : lw_okq (⟨"ImplicationAlgebras$Text", "closeParenthesis", "()Z"⟩, 9) := ⟨⟨by decide +kernel, by decide +kernel⟩, List.mem_of_getElem? (i := 27) (by decide +kernel), List.mem_of_getElem? (i := 426) (by decide +kernel), List.mem_of_getElem? (i := 427) (by decide +kernel)⟩
theorem lw_p19 : lw_okq (⟨"ImplicationAlgebras$Text", "releaseAbove", "(I)V"⟩, 9) := ⟨⟨by decide +kernel, by decide +kernel⟩, List.mem_of_getElem? (i := 27) (by decide +kernel), List.mem_of_getElem? (i := 430) (by decide +kernel), List.mem_of_getElem? (i := 431) (by decide +kernel)⟩
theorem lw_p20 : lw_okq (⟨"ImplicationAlgebras", "draftSubstitution", "(LImplicationAlgebras$Formula;ILImplicationAlgebras$Formula;)V"⟩, 10) := ⟨⟨by decide +kernel, by decide +kernel⟩, List.mem_of_getElem? (i := 13) (by decide +kernel), List.mem_of_getElem? (i := 460) (by decide +kernel), List.mem_of_getElem? (i := 461) (by decide +kernel)⟩
theorem lw_p21 : lw_okq (⟨"ImplicationAlgebras$Formula", "bitsOfValue", "(LImplicationAlgebras$Poset;)I"⟩, 4) := ⟨⟨by decide +kernel, by decide +kernel⟩, List.mem_of_getElem? (i := 178) (by decide +kernel), List.mem_of_getElem? (i := 479) (by decide +kernel), List.mem_of_getElem? (i := 480) (by decide +kernel)⟩
theorem lw_p22 : lw_okq (⟨"ImplicationAlgebras$Formula", "choices", "(LImplicationAlgebras$Poset;I)I"⟩, 4) := ⟨⟨by decide +kernel, by decide +kernel⟩, List.mem_of_getElem? (i := 178) (by decide +kernel), List.mem_of_getElem? (i := 503) (by decide +kernel), List.mem_of_getElem? (i := 504) (by decide +kernel)⟩
theorem lw_p23 : lw_okq (⟨"ImplicationAlgebras$Subalgebra", "cheapestLeft", "()I"⟩, 8) := ⟨⟨by decide +kernel, by decide +kernel⟩, List.mem_of_getElem? (i := 66) (by decide +kernel), List.mem_of_getElem? (i := 567) (by decide +kernel), List.mem_of_getElem? (i := 568) (by decide +kernel)⟩
theorem lw_p24 : lw_okq (⟨"ImplicationAlgebras$Subalgebra", "offerAll", "(LImplicationAlgebras$Poset;II)V"⟩, 8) := ⟨⟨by decide +kernel, by decide +kernel⟩, List.mem_of_getElem? (i := 66) (by decide +kernel), List.mem_of_getElem? (i := 571) (by decide +kernel), List.mem_of_getElem? (i := 572) (by decide +kernel)⟩
theorem lw_p25 : lw_okq (⟨"ImplicationAlgebras$Subalgebra", "offer", "(IJ)V"⟩, 8) := ⟨⟨by decide +kernel, by decide +kernel⟩, List.mem_of_getElem? (i := 66) (by decide +kernel), List.mem_of_getElem? (i := 576) (by decide +kernel), List.mem_of_getElem? (i := 577) (by decide +kernel)⟩
theorem lw_p26 : lw_okq (⟨"ImplicationAlgebras$Subalgebra", "noteStep", "(IIII)V"⟩, 8) := ⟨⟨by decide +kernel, by decide +kernel⟩, List.mem_of_getElem? (i := 66) (by decide +kernel), List.mem_of_getElem? (i := 584) (by decide +kernel), List.mem_of_getElem? (i := 585) (by decide +kernel)⟩
theorem lw_p27 : lw_okq (⟨"ImplicationAlgebras$MapSearch", "isBounded", "()Z"⟩, 6) := ⟨⟨by decide +kernel, by decide +kernel⟩, List.mem_of_getElem? (i := 599) (by decide +kernel), List.mem_of_getElem? (i := 636) (by decide +kernel), List.mem_of_getElem? (i := 637) (by decide +kernel)⟩
theorem lw_p28 : lw_okq (⟨"ImplicationAlgebras$MapSearch", "imagesOf", "(I)I"⟩, 6) := ⟨⟨by decide +kernel, by decide +kernel⟩, List.mem_of_getElem? (i := 599) (by decide +kernel), List.mem_of_getElem? (i := 640) (by decide +kernel), List.mem_of_getElem? (i := 641) (by decide +kernel)⟩
theorem lw_p29 : lw_okq (⟨"ImplicationAlgebras$MapSearch", "fitsOneWay", "(II)Z"⟩, 6) := ⟨⟨by decide +kernel, by decide +kernel⟩, List.mem_of_getElem? (i := 599) (by decide +kernel), List.mem_of_getElem? (i := 649) (by decide +kernel), List.mem_of_getElem? (i := 650) (by decide +kernel)⟩
theorem lw_p30 : lw_okq (⟨"ImplicationAlgebras", "rowAt", "(I)LImplicationAlgebras$Row;"⟩, 10) := ⟨⟨by decide +kernel, by decide +kernel⟩, List.mem_of_getElem? (i := 13) (by decide +kernel), List.mem_of_getElem? (i := 692) (by decide +kernel), List.mem_of_getElem? (i := 693) (by decide +kernel)⟩
theorem lw_p31 : lw_okq (⟨"ImplicationAlgebrasModel", "empties", "(II)V"⟩, 33) := ⟨⟨by decide +kernel, by decide +kernel⟩, List.mem_of_getElem? (i := 744) (by decide +kernel), List.mem_of_getElem? (i := 750) (by decide +kernel), List.mem_of_getElem? (i := 751) (by decide +kernel)⟩
def lw_privs_2 : List (MethodName × Nat) := [(⟨"ImplicationAlgebras$Text", "hold", "(I)V"⟩, 9), (⟨"ImplicationAlgebras$Text", "takeBehindFactor", "(I)Z"⟩, 9), (⟨"ImplicationAlgebras$Text", "closeParenthesis", "()Z"⟩, 9), (⟨"ImplicationAlgebras$Text", "releaseAbove", "(I)V"⟩, 9), (⟨"ImplicationAlgebras", "draftSubstitution", "(LImplicationAlgebras$Formula;ILImplicationAlgebras$Formula;)V"⟩, 10), (⟨"ImplicationAlgebras$Formula", "bitsOfValue", "(LImplicationAlgebras$Poset;)I"⟩, 4), (⟨"ImplicationAlgebras$Formula", "choices", "(LImplicationAlgebras$Poset;I)I"⟩, 4), (⟨"ImplicationAlgebras$Subalgebra", "cheapestLeft", "()I"⟩, 8), (⟨"ImplicationAlgebras$Subalgebra", "offerAll", "(LImplicationAlgebras$Poset;II)V"⟩, 8), (⟨"ImplicationAlgebras$Subalgebra", "offer", "(IJ)V"⟩, 8), (⟨"ImplicationAlgebras$Subalgebra", "noteStep", "(IIII)V"⟩, 8), (⟨"ImplicationAlgebras$MapSearch", "isBounded", "()Z"⟩, 6), (⟨"ImplicationAlgebras$MapSearch", "imagesOf", "(I)I"⟩, 6), (⟨"ImplicationAlgebras$MapSearch", "fitsOneWay", "(II)Z"⟩, 6), (⟨"ImplicationAlgebras", "rowAt", "(I)LImplicationAlgebras$Row;"⟩, 10), (⟨"ImplicationAlgebrasModel", "empties", "(II)V"⟩, 33)]
theorem lw_r2 : ∀ q ∈ lw_privs_2, lw_okq q := List.forall_mem_cons.mpr ⟨lw_p16, List.forall_mem_cons.mpr ⟨lw_p17, List.forall_mem_cons.mpr ⟨lw_p18, List.forall_mem_cons.mpr ⟨lw_p19, List.forall_mem_cons.mpr ⟨lw_p20, List.forall_mem_cons.mpr ⟨lw_p21, List.forall_mem_cons.mpr ⟨lw_p22, List.forall_mem_cons.mpr ⟨lw_p23, List.forall_mem_cons.mpr ⟨lw_p24, List.forall_mem_cons.mpr ⟨lw_p25, List.forall_mem_cons.mpr ⟨lw_p26, List.forall_mem_cons.mpr ⟨lw_p27, List.forall_mem_cons.mpr ⟨lw_p28, List.forall_mem_cons.mpr ⟨lw_p29, List.forall_mem_cons.mpr ⟨lw_p30, List.forall_mem_cons.mpr ⟨lw_p31, fun _ h => absurd h List.not_mem_nil⟩⟩⟩⟩⟩⟩⟩⟩⟩⟩⟩⟩⟩⟩⟩⟩
theorem lw_p32 : lw_okq (⟨"ImplicationAlgebrasModel", "unvalues", "(I)V"⟩, 33) := ⟨⟨by decide +kernel, by decide +kernel⟩, List.mem_of_getElem? (i := 744) (by decide +kernel), List.mem_of_getElem? (i := 754) (by decide +kernel), List.mem_of_getElem? (i := 755) (by decide +kernel)⟩
theorem lw_p33 : lw_okq (⟨"ImplicationAlgebrasModel", "isPoint", "(II)Z"⟩, 33) := ⟨⟨by decide +kernel, by decide +kernel⟩, List.mem_of_getElem? (i := 744) (by decide +kernel), List.mem_of_getElem? (i := 877) (by decide +kernel), List.mem_of_getElem? (i := 878) (by decide +kernel)⟩
theorem lw_p34 : lw_okq (⟨"ImplicationAlgebrasModel", "isLess", "(III)Z"⟩, 33) := ⟨⟨by decide +kernel, by decide +kernel⟩, List.mem_of_getElem? (i := 744) (by decide +kernel), List.mem_of_getElem? (i := 881) (by decide +kernel), List.mem_of_getElem? (i := 882) (by decide +kernel)⟩
theorem lw_p35 : lw_okq (⟨"ImplicationAlgebrasModel", "pairs", "(I)I"⟩, 33) := ⟨⟨by decide +kernel, by decide +kernel⟩, List.mem_of_getElem? (i := 744) (by decide +kernel), List.mem_of_getElem? (i := 885) (by decide +kernel), List.mem_of_getElem? (i := 886) (by decide +kernel)⟩
theorem lw_p36 : lw_okq (⟨"ImplicationAlgebrasModel", "largest", "(IZ)I"⟩, 33) := ⟨⟨by decide +kernel, by decide +kernel⟩, List.mem_of_getElem? (i := 744) (by decide +kernel), List.mem_of_getElem? (i := 904) (by decide +kernel), List.mem_of_getElem? (i := 905) (by decide +kernel)⟩
theorem lw_p37 : lw_okq (⟨"ImplicationAlgebrasModel", "allOf", "(I)I"⟩, 33) := ⟨⟨by decide +kernel, by decide +kernel⟩, List.mem_of_getElem? (i := 744) (by decide +kernel), List.mem_of_getElem? (i := 908) (by decide +kernel), List.mem_of_getElem? (i := 909) (by decide +kernel)⟩
theorem lw_p38 : lw_okq (⟨"ImplicationAlgebrasModel", "areRelated", "(III)Z"⟩, 33) := ⟨⟨by decide +kernel, by decide +kernel⟩, List.mem_of_getElem? (i := 744) (by decide +kernel), List.mem_of_getElem? (i := 912) (by decide +kernel), List.mem_of_getElem? (i := 913) (by decide +kernel)⟩
theorem lw_p39 : lw_okq (⟨"ImplicationAlgebrasModel", "ends", "(IZ)I"⟩, 33) := ⟨⟨by decide +kernel, by decide +kernel⟩, List.mem_of_getElem? (i := 744) (by decide +kernel), List.mem_of_getElem? (i := 916) (by decide +kernel), List.mem_of_getElem? (i := 917) (by decide +kernel)⟩
theorem lw_p40 : lw_okq (⟨"ImplicationAlgebrasModel", "components", "(I)I"⟩, 33) := ⟨⟨by decide +kernel, by decide +kernel⟩, List.mem_of_getElem? (i := 744) (by decide +kernel), List.mem_of_getElem? (i := 920) (by decide +kernel), List.mem_of_getElem? (i := 921) (by decide +kernel)⟩
theorem lw_p41 : lw_okq (⟨"ImplicationAlgebrasModel", "isFound", "(I)Z"⟩, 33) := ⟨⟨by decide +kernel, by decide +kernel⟩, List.mem_of_getElem? (i := 744) (by decide +kernel), List.mem_of_getElem? (i := 928) (by decide +kernel), List.mem_of_getElem? (i := 929) (by decide +kernel)⟩
theorem lw_p42 : lw_okq (⟨"ImplicationAlgebrasModel", "finds", "(I)V"⟩, 33) := ⟨⟨by decide +kernel, by decide +kernel⟩, List.mem_of_getElem? (i := 744) (by decide +kernel), List.mem_of_getElem? (i := 932) (by decide +kernel), List.mem_of_getElem? (i := 933) (by decide +kernel)⟩
theorem lw_p43 : lw_okq (⟨"ImplicationAlgebrasModel", "isUpSet", "(II)Z"⟩, 33) := ⟨⟨by decide +kernel, by decide +kernel⟩, List.mem_of_getElem? (i := 744) (by decide +kernel), List.mem_of_getElem? (i := 936) (by decide +kernel), List.mem_of_getElem? (i := 937) (by decide +kernel)⟩
theorem lw_p44 : lw_okq (⟨"ImplicationAlgebrasModel", "isElement", "(I)Z"⟩, 33) := ⟨⟨by decide +kernel, by decide +kernel⟩, List.mem_of_getElem? (i := 744) (by decide +kernel), List.mem_of_getElem? (i := 944) (by decide +kernel), List.mem_of_getElem? (i := 945) (by decide +kernel)⟩
theorem lw_p45 : lw_okq (⟨"ImplicationAlgebrasModel", "areElements", "(III)Z"⟩, 33) := ⟨⟨by decide +kernel, by decide +kernel⟩, List.mem_of_getElem? (i := 744) (by decide +kernel), List.mem_of_getElem? (i := 956) (by decide +kernel), List.mem_of_getElem? (i := 957) (by decide +kernel)⟩
theorem lw_p46 : lw_okq (⟨"ImplicationAlgebrasModel", "impliedBits", "(III)I"⟩, 33) := ⟨⟨by decide +kernel, by decide +kernel⟩, List.mem_of_getElem? (i := 744) (by decide +kernel), List.mem_of_getElem? (i := 968) (by decide +kernel), List.mem_of_getElem? (i := 969) (by decide +kernel)⟩
theorem lw_p47 : lw_okq (⟨"ImplicationAlgebrasModel", "takesText", "()Z"⟩, 33) := ⟨⟨by decide +kernel, by decide +kernel⟩, List.mem_of_getElem? (i := 744) (by decide +kernel), List.mem_of_getElem? (i := 989) (by decide +kernel), List.mem_of_getElem? (i := 990) (by decide +kernel)⟩
def lw_privs_3 : List (MethodName × Nat) := [(⟨"ImplicationAlgebrasModel", "unvalues", "(I)V"⟩, 33), (⟨"ImplicationAlgebrasModel", "isPoint", "(II)Z"⟩, 33), (⟨"ImplicationAlgebrasModel", "isLess", "(III)Z"⟩, 33), (⟨"ImplicationAlgebrasModel", "pairs", "(I)I"⟩, 33), (⟨"ImplicationAlgebrasModel", "largest", "(IZ)I"⟩, 33), (⟨"ImplicationAlgebrasModel", "allOf", "(I)I"⟩, 33), (⟨"ImplicationAlgebrasModel", "areRelated", "(III)Z"⟩, 33), (⟨"ImplicationAlgebrasModel", "ends", "(IZ)I"⟩, 33), (⟨"ImplicationAlgebrasModel", "components", "(I)I"⟩, 33), (⟨"ImplicationAlgebrasModel", "isFound", "(I)Z"⟩, 33), (⟨"ImplicationAlgebrasModel", "finds", "(I)V"⟩, 33), (⟨"ImplicationAlgebrasModel", "isUpSet", "(II)Z"⟩, 33), (⟨"ImplicationAlgebrasModel", "isElement", "(I)Z"⟩, 33), (⟨"ImplicationAlgebrasModel", "areElements", "(III)Z"⟩, 33), (⟨"ImplicationAlgebrasModel", "impliedBits", "(III)I"⟩, 33), (⟨"ImplicationAlgebrasModel", "takesText", "()Z"⟩, 33)]
theorem lw_r3 : ∀ q ∈ lw_privs_3, lw_okq q := List.forall_mem_cons.mpr ⟨lw_p32, List.forall_mem_cons.mpr ⟨lw_p33, List.forall_mem_cons.mpr ⟨lw_p34, List.forall_mem_cons.mpr ⟨lw_p35, List.forall_mem_cons.mpr ⟨lw_p36, List.forall_mem_cons.mpr ⟨lw_p37, List.forall_mem_cons.mpr ⟨lw_p38, List.forall_mem_cons.mpr ⟨lw_p39, List.forall_mem_cons.mpr ⟨lw_p40, List.forall_mem_cons.mpr ⟨lw_p41, List.forall_mem_cons.mpr ⟨lw_p42, List.forall_mem_cons.mpr ⟨lw_p43, List.forall_mem_cons.mpr ⟨lw_p44, List.forall_mem_cons.mpr ⟨lw_p45, List.forall_mem_cons.mpr ⟨lw_p46, List.forall_mem_cons.mpr ⟨lw_p47, fun _ h => absurd h List.not_mem_nil⟩⟩⟩⟩⟩⟩⟩⟩⟩⟩⟩⟩⟩⟩⟩⟩
theorem lw_p48 : lw_okq (⟨"ImplicationAlgebrasModel", "takesFactor", "()Z"⟩, 33) := ⟨⟨by decide +kernel, by decide +kernel⟩, List.mem_of_getElem? (i := 744) (by decide +kernel), List.mem_of_getElem? (i := 993) (by decide +kernel), List.mem_of_getElem? (i := 994) (by decide +kernel)⟩
theorem lw_p49 : lw_okq (⟨"ImplicationAlgebrasModel", "next", "()I"⟩, 33) := ⟨⟨by decide +kernel, by decide +kernel⟩, List.mem_of_getElem? (i := 744) (by decide +kernel), List.mem_of_getElem? (i := 997) (by decide +kernel), List.mem_of_getElem? (i := 998) (by decide +kernel)⟩
theorem lw_p50 : lw_okq (⟨"ImplicationAlgebrasModel", "makes", "(I)V"⟩, 33) := ⟨⟨by decide +kernel, by decide +kernel⟩, List.mem_of_getElem? (i := 744) (by decide +kernel), List.mem_of_getElem? (i := 1004) (by decide +kernel), List.mem_of_getElem? (i := 1005) (by decide +kernel)⟩
theorem lw_p51 : lw_okq (⟨"ImplicationAlgebrasModel", "makesFrom", "(I)V"⟩, 33) := ⟨⟨by decide +kernel, by decide +kernel⟩, List.mem_of_getElem? (i := 744) (by decide +kernel), List.mem_of_getElem? (i := 1008) (by decide +kernel), List.mem_of_getElem? (i := 1009) (by decide +kernel)⟩
theorem lw_p52 : lw_okq (⟨"ImplicationAlgebrasModel", "closes", "()V"⟩, 33) := ⟨⟨by decide +kernel, by decide +kernel⟩, List.mem_of_getElem? (i := 744) (by decide +kernel), List.mem_of_getElem? (i := 1012) (by decide +kernel), List.mem_of_getElem? (i := 1013) (by decide +kernel)⟩
theorem lw_p53 : lw_okq (⟨"ImplicationAlgebrasModel", "hasParen", "()Z"⟩, 33) := ⟨⟨by decide +kernel, by decide +kernel⟩, List.mem_of_getElem? (i := 744) (by decide +kernel), List.mem_of_getElem? (i := 1016) (by decide +kernel), List.mem_of_getElem? (i := 1017) (by decide +kernel)⟩
theorem lw_p54 : lw_okq (⟨"ImplicationAlgebrasModel", "stores", "(I)V"⟩, 33) := ⟨⟨by decide +kernel, by decide +kernel⟩, List.mem_of_getElem? (i := 744) (by decide +kernel), List.mem_of_getElem? (i := 1023) (by decide +kernel), List.mem_of_getElem? (i := 1024) (by decide +kernel)⟩
theorem lw_p55 : lw_okq (⟨"ImplicationAlgebrasModel", "presentBits", "(II)I"⟩, 33) := ⟨⟨by decide +kernel, by decide +kernel⟩, List.mem_of_getElem? (i := 744) (by decide +kernel), List.mem_of_getElem? (i := 1046) (by decide +kernel), List.mem_of_getElem? (i := 1047) (by decide +kernel)⟩
theorem lw_p56 : lw_okq (⟨"ImplicationAlgebrasModel", "valueBits", "(II)I"⟩, 33) := ⟨⟨by decide +kernel, by decide +kernel⟩, List.mem_of_getElem? (i := 744) (by decide +kernel), List.mem_of_getElem? (i := 1050) (by decide +kernel), List.mem_of_getElem? (i := 1051) (by decide +kernel)⟩
theorem lw_p57 : lw_okq (⟨"ImplicationAlgebrasModel", "notAsked", "(II)I"⟩, 33) := ⟨⟨by decide +kernel, by decide +kernel⟩, List.mem_of_getElem? (i := 744) (by decide +kernel), List.mem_of_getElem? (i := 1062) (by decide +kernel), List.mem_of_getElem? (i := 1063) (by decide +kernel)⟩
theorem lw_p58 : lw_okq (⟨"ImplicationAlgebrasModel", "countsValuations", "(I)V"⟩, 33) := ⟨⟨by decide +kernel, by decide +kernel⟩, List.mem_of_getElem? (i := 744) (by decide +kernel), List.mem_of_getElem? (i := 1066) (by decide +kernel), List.mem_of_getElem? (i := 1067) (by decide +kernel)⟩
theorem lw_p59 : lw_okq (⟨"ImplicationAlgebrasModel", "variablesOf", "(I)I"⟩, 33) := ⟨⟨by decide +kernel, by decide +kernel⟩, List.mem_of_getElem? (i := 744) (by decide +kernel), List.mem_of_getElem? (i := 1070) (by decide +kernel), List.mem_of_getElem? (i := 1071) (by decide +kernel)⟩
theorem lw_p60 : lw_okq (⟨"ImplicationAlgebrasModel", "refuting", "(II)I"⟩, 33) := ⟨⟨by decide +kernel, by decide +kernel⟩, List.mem_of_getElem? (i := 744) (by decide +kernel), List.mem_of_getElem? (i := 1074) (by decide +kernel), List.mem_of_getElem? (i := 1075) (by decide +kernel)⟩
theorem lw_p61 : lw_okq (⟨"ImplicationAlgebrasModel", "bitsBy", "(III)I"⟩, 33) := ⟨⟨by decide +kernel, by decide +kernel⟩, List.mem_of_getElem? (i := 744) (by decide +kernel), List.mem_of_getElem? (i := 1078) (by decide +kernel), List.mem_of_getElem? (i := 1079) (by decide +kernel)⟩
theorem lw_p62 : lw_okq (⟨"ImplicationAlgebrasModel", "elementIn", "(II)I"⟩, 33) := ⟨⟨by decide +kernel, by decide +kernel⟩, List.mem_of_getElem? (i := 744) (by decide +kernel), List.mem_of_getElem? (i := 1082) (by decide +kernel), List.mem_of_getElem? (i := 1083) (by decide +kernel)⟩
theorem lw_p63 : lw_okq (⟨"ImplicationAlgebrasModel", "lowers", "(I)Z"⟩, 33) := ⟨⟨by decide +kernel, by decide +kernel⟩, List.mem_of_getElem? (i := 744) (by decide +kernel), List.mem_of_getElem? (i := 1119) (by decide +kernel), List.mem_of_getElem? (i := 1120) (by decide +kernel)⟩
def lw_privs_4 : List (MethodName × Nat) := [(⟨"ImplicationAlgebrasModel", "takesFactor", "()Z"⟩, 33), (⟨"ImplicationAlgebrasModel", "next", "()I"⟩, 33), (⟨"ImplicationAlgebrasModel", "makes", "(I)V"⟩, 33), (⟨"ImplicationAlgebrasModel", "makesFrom", "(I)V"⟩, 33), (⟨"ImplicationAlgebrasModel", "closes", "()V"⟩, 33), (⟨"ImplicationAlgebrasModel", "hasParen", "()Z"⟩, 33), (⟨"ImplicationAlgebrasModel", "stores", "(I)V"⟩, 33), (⟨"ImplicationAlgebrasModel", "presentBits", "(II)I"⟩, 33), (⟨"ImplicationAlgebrasModel", "valueBits", "(II)I"⟩, 33), (⟨"ImplicationAlgebrasModel", "notAsked", "(II)I"⟩, 33), (⟨"ImplicationAlgebrasModel", "countsValuations", "(I)V"⟩, 33), (⟨"ImplicationAlgebrasModel", "variablesOf", "(I)I"⟩, 33), (⟨"ImplicationAlgebrasModel", "refuting", "(II)I"⟩, 33), (⟨"ImplicationAlgebrasModel", "bitsBy", "(III)I"⟩, 33), (⟨"ImplicationAlgebrasModel", "elementIn", "(II)I"⟩, 33), (⟨"ImplicationAlgebrasModel", "lowers", "(I)Z"⟩, 33)]
theorem lw_r4 : ∀ q ∈ lw_privs_4, lw_okq q := List.forall_mem_cons.mpr ⟨lw_p48, List.forall_mem_cons.mpr ⟨lw_p49, List.forall_mem_cons.mpr ⟨lw_p50, List.forall_mem_cons.mpr ⟨lw_p51, List.forall_mem_cons.mpr ⟨lw_p52, List.forall_mem_cons.mpr ⟨lw_p53, List.forall_mem_cons.mpr ⟨lw_p54, List.forall_mem_cons.mpr ⟨lw_p55, List.forall_mem_cons.mpr ⟨lw_p56, List.forall_mem_cons.mpr ⟨lw_p57, List.forall_mem_cons.mpr ⟨lw_p58, List.forall_mem_cons.mpr ⟨lw_p59, List.forall_mem_cons.mpr ⟨lw_p60, List.forall_mem_cons.mpr ⟨lw_p61, List.forall_mem_cons.mpr ⟨lw_p62, List.forall_mem_cons.mpr ⟨lw_p63, fun _ h => absurd h List.not_mem_nil⟩⟩⟩⟩⟩⟩⟩⟩⟩⟩⟩⟩⟩⟩⟩⟩
theorem lw_p64 : lw_okq (⟨"ImplicationAlgebrasModel", "done", "(IIII)I"⟩, 33) := ⟨⟨by decide +kernel, by decide +kernel⟩, List.mem_of_getElem? (i := 744) (by decide +kernel), List.mem_of_getElem? (i := 1123) (by decide +kernel), List.mem_of_getElem? (i := 1124) (by decide +kernel)⟩
theorem lw_p65 : lw_okq (⟨"ImplicationAlgebrasModel", "findsSteps", "(I)V"⟩, 33) := ⟨⟨by decide +kernel, by decide +kernel⟩, List.mem_of_getElem? (i := 744) (by decide +kernel), List.mem_of_getElem? (i := 1127) (by decide +kernel), List.mem_of_getElem? (i := 1128) (by decide +kernel)⟩
theorem lw_p66 : lw_okq (⟨"ImplicationAlgebrasModel", "mapsOf", "(IIIZ)I"⟩, 33) := ⟨⟨by decide +kernel, by decide +kernel⟩, List.mem_of_getElem? (i := 744) (by decide +kernel), List.mem_of_getElem? (i := 1143) (by decide +kernel), List.mem_of_getElem? (i := 1144) (by decide +kernel)⟩
theorem lw_p67 : lw_okq (⟨"ImplicationAlgebrasModel", "isOfKind", "(III)Z"⟩, 33) := ⟨⟨by decide +kernel, by decide +kernel⟩, List.mem_of_getElem? (i := 744) (by decide +kernel), List.mem_of_getElem? (i := 1147) (by decide +kernel), List.mem_of_getElem? (i := 1148) (by decide +kernel)⟩
theorem lw_p68 : lw_okq (⟨"ImplicationAlgebrasModel", "keepsOrder", "(II)Z"⟩, 33) := ⟨⟨by decide +kernel, by decide +kernel⟩, List.mem_of_getElem? (i := 744) (by decide +kernel), List.mem_of_getElem? (i := 1151) (by decide +kernel), List.mem_of_getElem? (i := 1152) (by decide +kernel)⟩
theorem lw_p69 : lw_okq (⟨"ImplicationAlgebrasModel", "isBounded", "(II)Z"⟩, 33) := ⟨⟨by decide +kernel, by decide +kernel⟩, List.mem_of_getElem? (i := 744) (by decide +kernel), List.mem_of_getElem? (i := 1155) (by decide +kernel), List.mem_of_getElem? (i := 1156) (by decide +kernel)⟩
theorem lw_p70 : lw_okq (⟨"ImplicationAlgebrasModel", "reachesAll", "(II)Z"⟩, 33) := ⟨⟨by decide +kernel, by decide +kernel⟩, List.mem_of_getElem? (i := 744) (by decide +kernel), List.mem_of_getElem? (i := 1159) (by decide +kernel), List.mem_of_getElem? (i := 1160) (by decide +kernel)⟩
theorem lw_p71 : lw_okq (⟨"ImplicationAlgebrasModel", "reflectsOrder", "(II)Z"⟩, 33) := ⟨⟨by decide +kernel, by decide +kernel⟩, List.mem_of_getElem? (i := 744) (by decide +kernel), List.mem_of_getElem? (i := 1163) (by decide +kernel), List.mem_of_getElem? (i := 1164) (by decide +kernel)⟩
theorem lw_p72 : lw_okq (⟨"ImplicationAlgebrasModel", "settles", "(I)V"⟩, 33) := ⟨⟨by decide +kernel, by decide +kernel⟩, List.mem_of_getElem? (i := 744) (by decide +kernel), List.mem_of_getElem? (i := 1179) (by decide +kernel), List.mem_of_getElem? (i := 1180) (by decide +kernel)⟩
theorem lw_p73 : lw_okq (⟨"ImplicationAlgebrasModel", "puts", "(III)V"⟩, 33) := ⟨⟨by decide +kernel, by decide +kernel⟩, List.mem_of_getElem? (i := 744) (by decide +kernel), List.mem_of_getElem? (i := 1207) (by decide +kernel), List.mem_of_getElem? (i := 1208) (by decide +kernel)⟩
def lw_privs_5 : List (MethodName × Nat) := [(⟨"ImplicationAlgebrasModel", "done", "(IIII)I"⟩, 33), (⟨"ImplicationAlgebrasModel", "findsSteps", "(I)V"⟩, 33), (⟨"ImplicationAlgebrasModel", "mapsOf", "(IIIZ)I"⟩, 33), (⟨"ImplicationAlgebrasModel", "isOfKind", "(III)Z"⟩, 33), (⟨"ImplicationAlgebrasModel", "keepsOrder", "(II)Z"⟩, 33), (⟨"ImplicationAlgebrasModel", "isBounded", "(II)Z"⟩, 33), (⟨"ImplicationAlgebrasModel", "reachesAll", "(II)Z"⟩, 33), (⟨"ImplicationAlgebrasModel", "reflectsOrder", "(II)Z"⟩, 33), (⟨"ImplicationAlgebrasModel", "settles", "(I)V"⟩, 33), (⟨"ImplicationAlgebrasModel", "puts", "(III)V"⟩, 33)]
theorem lw_r5 : ∀ q ∈ lw_privs_5, lw_okq q := List.forall_mem_cons.mpr ⟨lw_p64, List.forall_mem_cons.mpr ⟨lw_p65, List.forall_mem_cons.mpr ⟨lw_p66, List.forall_mem_cons.mpr ⟨lw_p67, List.forall_mem_cons.mpr ⟨lw_p68, List.forall_mem_cons.mpr ⟨lw_p69, List.forall_mem_cons.mpr ⟨lw_p70, List.forall_mem_cons.mpr ⟨lw_p71, List.forall_mem_cons.mpr ⟨lw_p72, List.forall_mem_cons.mpr ⟨lw_p73, fun _ h => absurd h List.not_mem_nil⟩⟩⟩⟩⟩⟩⟩⟩⟩⟩
def lw_privs : List (MethodName × Nat) := lw_privs_1 ++ (lw_privs_2 ++ (lw_privs_3 ++ (lw_privs_4 ++ (lw_privs_5))))
def lw_tbl : List Cond := k2_sels lw_privs ++ tables_1
theorem lw_privs_ok : ∀ q ∈ lw_privs, lw_okq q := by
  show ∀ q ∈ lw_privs_1 ++ (lw_privs_2 ++ (lw_privs_3 ++ (lw_privs_4 ++ (lw_privs_5)))), lw_okq q
  exact List.forall_mem_append.mpr ⟨lw_r1, List.forall_mem_append.mpr ⟨lw_r2, List.forall_mem_append.mpr ⟨lw_r3, List.forall_mem_append.mpr ⟨lw_r4, lw_r5⟩⟩⟩⟩
def RX0 : String := "ImplicationAlgebras$Formula"
def TX0 : u_T := fun k => match k with
  | 0 => ("ImplicationAlgebras$Formula", "size", "I", false)
  | 1 => ("ImplicationAlgebras$Formula", "signs", "[I", true)
  | 2 => ("ImplicationAlgebras$Formula", "leafBits", "[I", true)
  | _ => ("ImplicationAlgebras$Formula", "stack", "[I", true)
def tyX0 : Nat → FieldType := fun k => match k with
  | 0 => .int
  | 1 => .array .int
  | 2 => .array .int
  | _ => .array .int
abbrev wsX00 : List Cond := u_ws RX0 TX0 4
theorem nmX0 : ∀ a, a < 4 → ∀ b, b < 4 → a ≠ b → (TX0 a).2.1 ≠ (TX0 b).2.1 := by decide +kernel
theorem tyX0_ok : ∀ k, k < 4 → parseFieldDescriptor (TX0 k).2.2.1 = some (tyX0 k) := by decide +kernel
def RX1 : String := "ImplicationAlgebras$MapSearch"
def TX1 : u_T := fun k => match k with
  | 0 => ("ImplicationAlgebras$MapSearch", "source", "LImplicationAlgebras$Poset;", true)
  | 1 => ("ImplicationAlgebras$MapSearch", "target", "LImplicationAlgebras$Poset;", true)
  | 2 => ("ImplicationAlgebras$MapSearch", "kind", "I", true)
  | 3 => ("ImplicationAlgebras$MapSearch", "onlyFirst", "Z", true)
  | 4 => ("ImplicationAlgebras$MapSearch", "images", "[I", true)
  | _ => ("ImplicationAlgebras$MapSearch", "count", "I", false)
def tyX1 : Nat → FieldType := fun k => match k with
  | 0 => .object "ImplicationAlgebras$Poset"
  | 1 => .object "ImplicationAlgebras$Poset"
  | 2 => .int
  | 3 => .boolean
  | 4 => .array .int
  | _ => .int
abbrev wsX10 : List Cond := u_ws RX1 TX1 6
theorem nmX1 : ∀ a, a < 6 → ∀ b, b < 6 → a ≠ b → (TX1 a).2.1 ≠ (TX1 b).2.1 := by decide +kernel
theorem tyX1_ok : ∀ k, k < 6 → parseFieldDescriptor (TX1 k).2.2.1 = some (tyX1 k) := by decide +kernel
def RX2 : String := "ImplicationAlgebras$Poset"
def TX2 : u_T := fun k => match k with
  | 0 => ("ImplicationAlgebras$Poset", "size", "I", false)
  | 1 => ("ImplicationAlgebras$Poset", "above", "[I", true)
  | 2 => ("ImplicationAlgebras$Poset", "downSet", "[I", true)
  | 3 => ("ImplicationAlgebras$Poset", "elements", "I", false)
  | 4 => ("ImplicationAlgebras$Poset", "bitsOf", "[I", true)
  | 5 => ("ImplicationAlgebras$Poset", "numberOf", "[I", true)
  | _ => ("ImplicationAlgebras$Poset", "valuation", "[I", true)
def tyX2 : Nat → FieldType := fun k => match k with
  | 0 => .int
  | 1 => .array .int
  | 2 => .array .int
  | 3 => .int
  | 4 => .array .int
  | 5 => .array .int
  | _ => .array .int
abbrev wsX20 : List Cond := u_ws RX2 TX2 7
theorem nmX2 : ∀ a, a < 7 → ∀ b, b < 7 → a ≠ b → (TX2 a).2.1 ≠ (TX2 b).2.1 := by decide +kernel
theorem tyX2_ok : ∀ k, k < 7 → parseFieldDescriptor (TX2 k).2.2.1 = some (tyX2 k) := by decide +kernel
def RX3 : String := "ImplicationAlgebras$Row"
def TX3 : u_T := fun k => match k with
  | 0 => ("ImplicationAlgebras$Row", "type", "I", false)
  | 1 => ("ImplicationAlgebras$Row", "length", "I", false)
  | _ => ("ImplicationAlgebras$Row", "data", "[I", true)
def tyX3 : Nat → FieldType := fun k => match k with
  | 0 => .int
  | 1 => .int
  | _ => .array .int
abbrev wsX30 : List Cond := u_ws RX3 TX3 3
theorem nmX3 : ∀ a, a < 3 → ∀ b, b < 3 → a ≠ b → (TX3 a).2.1 ≠ (TX3 b).2.1 := by decide +kernel
theorem tyX3_ok : ∀ k, k < 3 → parseFieldDescriptor (TX3 k).2.2.1 = some (tyX3 k) := by decide +kernel
def RX4 : String := "ImplicationAlgebras$Subalgebra"
def TX4 : u_T := fun k => match k with
  | 0 => ("ImplicationAlgebras$Subalgebra", "elements", "I", false)
  | 1 => ("ImplicationAlgebras$Subalgebra", "cost", "[J", true)
  | 2 => ("ImplicationAlgebras$Subalgebra", "operator", "[I", true)
  | 3 => ("ImplicationAlgebras$Subalgebra", "first", "[I", true)
  | 4 => ("ImplicationAlgebras$Subalgebra", "second", "[I", true)
  | 5 => ("ImplicationAlgebras$Subalgebra", "settledCount", "I", false)
  | 6 => ("ImplicationAlgebras$Subalgebra", "settled", "[I", true)
  | _ => ("ImplicationAlgebras$Subalgebra", "isSettled", "[Z", true)
def tyX4 : Nat → FieldType := fun k => match k with
  | 0 => .int
  | 1 => .array .long
  | 2 => .array .int
  | 3 => .array .int
  | 4 => .array .int
  | 5 => .int
  | 6 => .array .int
  | _ => .array .boolean
abbrev wsX40 : List Cond := u_ws RX4 TX4 8
theorem nmX4 : ∀ a, a < 8 → ∀ b, b < 8 → a ≠ b → (TX4 a).2.1 ≠ (TX4 b).2.1 := by decide +kernel
theorem tyX4_ok : ∀ k, k < 8 → parseFieldDescriptor (TX4 k).2.2.1 = some (tyX4 k) := by decide +kernel
def RX5 : String := "ImplicationAlgebras$Text"
def TX5 : u_T := fun k => match k with
  | 0 => ("ImplicationAlgebras$Text", "length", "I", false)
  | 1 => ("ImplicationAlgebras$Text", "characters", "[I", true)
  | 2 => ("ImplicationAlgebras$Text", "signCount", "I", false)
  | 3 => ("ImplicationAlgebras$Text", "signs", "[I", true)
  | 4 => ("ImplicationAlgebras$Text", "waiting", "[I", true)
  | 5 => ("ImplicationAlgebras$Text", "waitingCount", "I", false)
  | 6 => ("ImplicationAlgebras$Text", "openParentheses", "I", false)
  | 7 => ("ImplicationAlgebras$Text", "openSigns", "I", false)
  | _ => ("ImplicationAlgebras$Text", "factorDue", "Z", false)
def tyX5 : Nat → FieldType := fun k => match k with
  | 0 => .int
  | 1 => .array .int
  | 2 => .int
  | 3 => .array .int
  | 4 => .array .int
  | 5 => .int
  | 6 => .int
  | 7 => .int
  | _ => .boolean
abbrev wsX50 : List Cond := u_ws RX5 TX5 9
theorem nmX5 : ∀ a, a < 9 → ∀ b, b < 9 → a ≠ b → (TX5 a).2.1 ≠ (TX5 b).2.1 := by decide +kernel
theorem tyX5_ok : ∀ k, k < 9 → parseFieldDescriptor (TX5 k).2.2.1 = some (tyX5 k) := by decide +kernel
def RX6 : String := "ImplicationAlgebras"
def TX6 : u_T := fun k => match k with
  | 0 => ("ImplicationAlgebras", "posets", "[LImplicationAlgebras$Poset;", true)
  | 1 => ("ImplicationAlgebras", "formulas", "[LImplicationAlgebras$Formula;", true)
  | 2 => ("ImplicationAlgebras", "rows", "[LImplicationAlgebras$Row;", true)
  | 3 => ("ImplicationAlgebras", "text", "LImplicationAlgebras$Text;", true)
  | 4 => ("ImplicationAlgebras", "generators", "[I", true)
  | 5 => ("ImplicationAlgebras", "generatorCount", "I", false)
  | 6 => ("ImplicationAlgebras", "subalgebra", "LImplicationAlgebras$Subalgebra;", true)
  | 7 => ("ImplicationAlgebras", "loadEnd", "I", false)
  | 8 => ("ImplicationAlgebras", "draftOrder", "[I", true)
  | _ => ("ImplicationAlgebras", "draftSigns", "[I", true)
def tyX6 : Nat → FieldType := fun k => match k with
  | 0 => .array (.object "ImplicationAlgebras$Poset")
  | 1 => .array (.object "ImplicationAlgebras$Formula")
  | 2 => .array (.object "ImplicationAlgebras$Row")
  | 3 => .object "ImplicationAlgebras$Text"
  | 4 => .array .int
  | 5 => .int
  | 6 => .object "ImplicationAlgebras$Subalgebra"
  | 7 => .int
  | 8 => .array .int
  | _ => .array .int
abbrev wsX60 : List Cond := u_ws RX6 TX6 10
theorem nmX6 : ∀ a, a < 10 → ∀ b, b < 10 → a ≠ b → (TX6 a).2.1 ≠ (TX6 b).2.1 := by decide +kernel
theorem tyX6_ok : ∀ k, k < 10 → parseFieldDescriptor (TX6 k).2.2.1 = some (tyX6 k) := by decide +kernel
def RX7 : String := "ImplicationAlgebrasModel"
def TX7 : u_T := fun k => match k with
  | 0 => ("ImplicationAlgebrasModel", "size", "[I", true)
  | 1 => ("ImplicationAlgebrasModel", "up", "[I", true)
  | 2 => ("ImplicationAlgebrasModel", "valued", "[I", true)
  | 3 => ("ImplicationAlgebrasModel", "elements", "[I", true)
  | 4 => ("ImplicationAlgebrasModel", "numberOf", "[I", true)
  | 5 => ("ImplicationAlgebrasModel", "elementMany", "I", false)
  | 6 => ("ImplicationAlgebrasModel", "text", "[I", true)
  | 7 => ("ImplicationAlgebrasModel", "length", "I", false)
  | 8 => ("ImplicationAlgebrasModel", "at", "I", false)
  | 9 => ("ImplicationAlgebrasModel", "formula", "[I", true)
  | 10 => ("ImplicationAlgebrasModel", "formulaSizes", "[I", true)
  | 11 => ("ImplicationAlgebrasModel", "made", "[I", true)
  | 12 => ("ImplicationAlgebrasModel", "pending", "[I", true)
  | 13 => ("ImplicationAlgebrasModel", "madeMany", "I", false)
  | 14 => ("ImplicationAlgebrasModel", "pendings", "I", false)
  | 15 => ("ImplicationAlgebrasModel", "open", "I", false)
  | 16 => ("ImplicationAlgebrasModel", "given", "[I", true)
  | 17 => ("ImplicationAlgebrasModel", "stack", "[I", true)
  | 18 => ("ImplicationAlgebrasModel", "occurring", "I", false)
  | 19 => ("ImplicationAlgebrasModel", "valuations", "I", false)
  | 20 => ("ImplicationAlgebrasModel", "generators", "[I", true)
  | 21 => ("ImplicationAlgebrasModel", "operator", "[I", true)
  | 22 => ("ImplicationAlgebrasModel", "left", "[I", true)
  | 23 => ("ImplicationAlgebrasModel", "right", "[I", true)
  | 24 => ("ImplicationAlgebrasModel", "cost", "[J", true)
  | 25 => ("ImplicationAlgebrasModel", "generatorMany", "I", false)
  | 26 => ("ImplicationAlgebrasModel", "foundMany", "I", false)
  | 27 => ("ImplicationAlgebrasModel", "map", "[I", true)
  | 28 => ("ImplicationAlgebrasModel", "rows", "[I", true)
  | 29 => ("ImplicationAlgebrasModel", "moved", "[I", true)
  | 30 => ("ImplicationAlgebrasModel", "rowType", "[I", true)
  | 31 => ("ImplicationAlgebrasModel", "rowLength", "[I", true)
  | _ => ("ImplicationAlgebrasModel", "failed", "I", false)
def tyX7 : Nat → FieldType := fun k => match k with
  | 0 => .array .int
  | 1 => .array .int
  | 2 => .array .int
  | 3 => .array .int
  | 4 => .array .int
  | 5 => .int
  | 6 => .array .int
  | 7 => .int
  | 8 => .int
  | 9 => .array .int
  | 10 => .array .int
  | 11 => .array .int
  | 12 => .array .int
  | 13 => .int
  | 14 => .int
  | 15 => .int
  | 16 => .array .int
  | 17 => .array .int
  | 18 => .int
  | 19 => .int
  | 20 => .array .int
  | 21 => .array .int
  | 22 => .array .int
  | 23 => .array .int
  | 24 => .array .long
  | 25 => .int
  | 26 => .int
  | 27 => .array .int
  | 28 => .array .int
  | 29 => .array .int
  | 30 => .array .int
  | 31 => .array .int
  | _ => .int
abbrev wsX70 : List Cond := u_ws RX7 TX7 33
theorem nmX7 : ∀ a, a < 33 → ∀ b, b < 33 → a ≠ b → (TX7 a).2.1 ≠ (TX7 b).2.1 := by decide +kernel
theorem tyX7_ok : ∀ k, k < 33 → parseFieldDescriptor (TX7 k).2.2.1 = some (tyX7 k) := by decide +kernel
abbrev vwCl : List vw_C := [(RX0, TX0, 4), (RX1, TX1, 6), (RX2, TX2, 7), (RX3, TX3, 3), (RX4, TX4, 8), (RX5, TX5, 9), (RX6, TX6, 10), (RX7, TX7, 33)]
