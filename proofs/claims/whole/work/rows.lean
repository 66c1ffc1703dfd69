section
-- ===== PART A: goes FIRST, ahead of the names: the tables' words, and 'selects' of the private methods out of them =====
/-- a private method of a class that the tables say can be made, by its rows of tables_1 -/
def lw_okq (q : MethodName × Nat) : Prop := (q.1.cls ≠ "java/lang/invoke/MethodHandle" ∧ q.1.cls ≠ "java/lang/invoke/VarHandle") ∧ Cond.instantiable q.1.cls q.2 ∈ tables_1 ∧ Cond.privateMethod q.1 ∈ tables_1 ∧ Cond.instanceMethod q.1 ∈ tables_1
theorem lw_p0 : lw_okq (⟨"ImplicationAlgebras$Poset", "refresh", "()V"⟩, 7) := ⟨⟨by decide +kernel, by decide +kernel⟩, List.mem_of_getElem? (i := 104) (by decide +kernel), List.mem_of_getElem? (i := 110) (by decide +kernel), List.mem_of_getElem? (i := 111) (by decide +kernel)⟩
theorem lw_p1 : lw_okq (⟨"ImplicationAlgebras$Poset", "findDownSets", "()V"⟩, 7) := ⟨⟨by decide +kernel, by decide +kernel⟩, List.mem_of_getElem? (i := 104) (by decide +kernel), List.mem_of_getElem? (i := 114) (by decide +kernel), List.mem_of_getElem? (i := 115) (by decide +kernel)⟩
theorem lw_p2 : lw_okq (⟨"ImplicationAlgebras$Poset", "pointsBelow", "(I)I"⟩, 7) := ⟨⟨by decide +kernel, by decide +kernel⟩, List.mem_of_getElem? (i := 104) (by decide +kernel), List.mem_of_getElem? (i := 118) (by decide +kernel), List.mem_of_getElem? (i := 119) (by decide +kernel)⟩
theorem lw_p3 : lw_okq (⟨"ImplicationAlgebras$Poset", "findElements", "()V"⟩, 7) := ⟨⟨by decide +kernel, by decide +kernel⟩, List.mem_of_getElem? (i := 104) (by decide +kernel), List.mem_of_getElem? (i := 126) (by decide +kernel), List.mem_of_getElem? (i := 127) (by decide +kernel)⟩
theorem lw_p4 : lw_okq (⟨"ImplicationAlgebras$Poset", "numberSet", "(I)V"⟩, 7) := ⟨⟨by decide +kernel, by decide +kernel⟩, List.mem_of_getElem? (i := 104) (by decide +kernel), List.mem_of_getElem? (i := 140) (by decide +kernel), List.mem_of_getElem? (i := 141) (by decide +kernel)⟩
theorem lw_p5 : lw_okq (⟨"ImplicationAlgebras", "posetAt", "(I)LImplicationAlgebras$Poset;"⟩, 10) := ⟨⟨by decide +kernel, by decide +kernel⟩, List.mem_of_getElem? (i := 13) (by decide +kernel), List.mem_of_getElem? (i := 252) (by decide +kernel), List.mem_of_getElem? (i := 253) (by decide +kernel)⟩
theorem lw_p6 : lw_okq (⟨"ImplicationAlgebras$Poset", "greaterPoints", "(I)I"⟩, 7) := ⟨⟨by decide +kernel, by decide +kernel⟩, List.mem_of_getElem? (i := 104) (by decide +kernel), List.mem_of_getElem? (i := 280) (by decide +kernel), List.mem_of_getElem? (i := 281) (by decide +kernel)⟩
theorem lw_p7 : lw_okq (⟨"ImplicationAlgebras$Poset", "isChain", "(I)Z"⟩, 7) := ⟨⟨by decide +kernel, by decide +kernel⟩, List.mem_of_getElem? (i := 104) (by decide +kernel), List.mem_of_getElem? (i := 306) (by decide +kernel), List.mem_of_getElem? (i := 307) (by decide +kernel)⟩
theorem lw_p8 : lw_okq (⟨"ImplicationAlgebras$Poset", "relatedPoints", "(I)I"⟩, 7) := ⟨⟨by decide +kernel, by decide +kernel⟩, List.mem_of_getElem? (i := 104) (by decide +kernel), List.mem_of_getElem? (i := 310) (by decide +kernel), List.mem_of_getElem? (i := 311) (by decide +kernel)⟩
theorem lw_p9 : lw_okq (⟨"ImplicationAlgebras$Poset", "isAntichain", "(I)Z"⟩, 7) := ⟨⟨by decide +kernel, by decide +kernel⟩, List.mem_of_getElem? (i := 104) (by decide +kernel), List.mem_of_getElem? (i := 321) (by decide +kernel), List.mem_of_getElem? (i := 322) (by decide +kernel)⟩
theorem lw_p10 : lw_okq (⟨"ImplicationAlgebras$Poset", "componentOf", "(I)I"⟩, 7) := ⟨⟨by decide +kernel, by decide +kernel⟩, List.mem_of_getElem? (i := 104) (by decide +kernel), List.mem_of_getElem? (i := 337) (by decide +kernel), List.mem_of_getElem? (i := 338) (by decide +kernel)⟩
theorem lw_p11 : lw_okq (⟨"ImplicationAlgebras", "combine", "(IIII)I"⟩, 10) := ⟨⟨by decide +kernel, by decide +kernel⟩, List.mem_of_getElem? (i := 13) (by decide +kernel), List.mem_of_getElem? (i := 363) (by decide +kernel), List.mem_of_getElem? (i := 364) (by decide +kernel)⟩
theorem lw_p12 : lw_okq (⟨"ImplicationAlgebras", "formulaAt", "(I)LImplicationAlgebras$Formula;"⟩, 10) := ⟨⟨by decide +kernel, by decide +kernel⟩, List.mem_of_getElem? (i := 13) (by decide +kernel), List.mem_of_getElem? (i := 395) (by decide +kernel), List.mem_of_getElem? (i := 396) (by decide +kernel)⟩
theorem lw_p13 : lw_okq (⟨"ImplicationAlgebras$Text", "takeInFactor", "(I)Z"⟩, 9) := ⟨⟨by decide +kernel, by decide +kernel⟩, List.mem_of_getElem? (i := 27) (by decide +kernel), List.mem_of_getElem? (i := 403) (by decide +kernel), List.mem_of_getElem? (i := 404) (by decide +kernel)⟩
theorem lw_p14 : lw_okq (⟨"ImplicationAlgebras$Text", "emit", "(I)V"⟩, 9) := ⟨⟨by decide +kernel, by decide +kernel⟩, List.mem_of_getElem? (i := 27) (by decide +kernel), List.mem_of_getElem? (i := 410) (by decide +kernel), List.mem_of_getElem? (i := 411) (by decide +kernel)⟩
theorem lw_p15 : lw_okq (⟨"ImplicationAlgebras$Text", "endFactor", "()V"⟩, 9) := ⟨⟨by decide +kernel, by decide +kernel⟩, List.mem_of_getElem? (i := 27) (by decide +kernel), List.mem_of_getElem? (i := 414) (by decide +kernel), List.mem_of_getElem? (i := 415) (by decide +kernel)⟩
def lw_privs_1 : List (MethodName × Nat) := [(⟨"ImplicationAlgebras$Poset", "refresh", "()V"⟩, 7), (⟨"ImplicationAlgebras$Poset", "findDownSets", "()V"⟩, 7), (⟨"ImplicationAlgebras$Poset", "pointsBelow", "(I)I"⟩, 7), (⟨"ImplicationAlgebras$Poset", "findElements", "()V"⟩, 7), (⟨"ImplicationAlgebras$Poset", "numberSet", "(I)V"⟩, 7), (⟨"ImplicationAlgebras", "posetAt", "(I)LImplicationAlgebras$Poset;"⟩, 10), (⟨"ImplicationAlgebras$Poset", "greaterPoints", "(I)I"⟩, 7), (⟨"ImplicationAlgebras$Poset", "isChain", "(I)Z"⟩, 7), (⟨"ImplicationAlgebras$Poset", "relatedPoints", "(I)I"⟩, 7), (⟨"ImplicationAlgebras$Poset", "isAntichain", "(I)Z"⟩, 7), (⟨"ImplicationAlgebras$Poset", "componentOf", "(I)I"⟩, 7), (⟨"ImplicationAlgebras", "combine", "(IIII)I"⟩, 10), (⟨"ImplicationAlgebras", "formulaAt", "(I)LImplicationAlgebras$Formula;"⟩, 10), (⟨"ImplicationAlgebras$Text", "takeInFactor", "(I)Z"⟩, 9), (⟨"ImplicationAlgebras$Text", "emit", "(I)V"⟩, 9), (⟨"ImplicationAlgebras$Text", "endFactor", "()V"⟩, 9)]
theorem lw_r1 : ∀ q ∈ lw_privs_1, lw_okq q := List.forall_mem_cons.mpr ⟨lw_p0, List.forall_mem_cons.mpr ⟨lw_p1, List.forall_mem_cons.mpr ⟨lw_p2, List.forall_mem_cons.mpr ⟨lw_p3, List.forall_mem_cons.mpr ⟨lw_p4, List.forall_mem_cons.mpr ⟨lw_p5, List.forall_mem_cons.mpr ⟨lw_p6, List.forall_mem_cons.mpr ⟨lw_p7, List.forall_mem_cons.mpr ⟨lw_p8, List.forall_mem_cons.mpr ⟨lw_p9, List.forall_mem_cons.mpr ⟨lw_p10, List.forall_mem_cons.mpr ⟨lw_p11, List.forall_mem_cons.mpr ⟨lw_p12, List.forall_mem_cons.mpr ⟨lw_p13, List.forall_mem_cons.mpr ⟨lw_p14, List.forall_mem_cons.mpr ⟨lw_p15, fun _ h => absurd h List.not_mem_nil⟩⟩⟩⟩⟩⟩⟩⟩⟩⟩⟩⟩⟩⟩⟩⟩
theorem lw_p16 : lw_okq (⟨"ImplicationAlgebras$Text", "hold", "(I)V"⟩, 9) := ⟨⟨by decide +kernel, by decide +kernel⟩, List.mem_of_getElem? (i := 27) (by decide +kernel), List.mem_of_getElem? (i := 418) (by decide +kernel), List.mem_of_getElem? (i := 419) (by decide +kernel)⟩
theorem lw_p17 : lw_okq (⟨"ImplicationAlgebras$Text", "takeBehindFactor", "(I)Z"⟩, 9) := ⟨⟨by decide +kernel, by decide +kernel⟩, List.mem_of_getElem? (i := 27) (by decide +kernel), List.mem_of_getElem? (i := 422) (by decide +kernel), List.mem_of_getElem? (i := 423) (by decide +kernel)⟩
theorem lw_p18 : lw_okq (⟨"ImplicationAlgebras$Text", "closeParenthesis", "()Z"⟩, 9) := ⟨⟨by decide +kernel, by decide +kernel⟩, List.mem_of_getElem? (i := 27) (by decide +kernel), List.mem_of_getElem? (i := 426) (by decide +kernel), List.mem_of_getElem? (i := 427) (by decide +kernel)⟩
theorem lw_p19 : lw_okq (⟨"ImplicationAlgebras$Text", "releaseAbove", "(I)V"⟩, 9) := ⟨⟨by decide +kernel, by decide +kernel⟩, List.mem_of_getElem? (i := 27) (by decide +kernel), List.mem_of_getElem? (i := 430) (by decide +kernel), List.mem_of_getElem? (i := 431) (by decide +kernel)⟩
theorem lw_p20 : lw_okq (⟨"ImplicationAlgebras", "draftSubstitution", "(LImplicationAlgebras$Formula;ILImplicationAlgebras$Formula;)V"⟩, 10) := ⟨⟨by decide +kernel, by decide +kernel⟩, List.mem_of_getElem? (i := 13) (by decide +kernel), List.mem_of_getElem? (i := 460) (by decide +kernel), List.mem_of_getElem? (i := 461) (by decide +kernel)⟩
theorem lw_p21 : lw_okq (⟨"ImplicationAlgebras$Formula", "bitsOfValue", "(LImplicationAlgebras$Poset;)I"⟩, 4) := ⟨⟨by decide +kernel, by decide +kernel⟩, List.mem_of_getElem? (i := 178) (by decide +kernel), List.mem_of_getElem? (i := 479) (by decide +kernel), List.mem_of_getElem? (i := 480) (by decide +kernel)⟩
theorem lw_p22 : lw_okq (⟨"ImplicationAlgebras$Formula", "choices", "(LImplicationAlgebras$Poset;I)I"⟩, 4) := ⟨⟨by decide +kernel, by decide +kernel⟩, List.mem_of_getElem? (i := 178) (by decide +kernel), List.mem_of_getElem? (i := 503) (by decide +kernel), List.mem_of_getElem? (i := 504) (by decide +kernel)⟩
theorem lw_p23 : lw_okq (⟨"ImplicationAlgebras$Subalgebra", "cheapestLeft", "()I"⟩, 8) := ⟨⟨by decide +kernel, by decide +kernel⟩, List.mem_of_getElem? (i := 66) (by decide +kernel), List.mem_of_getElem? (i := 567) (by decide +kernel), List.mem_of_getElem? (i := 568) (by decide +kernel)⟩
theorem lw_p24 : lw_okq (⟨"ImplicationAlgebras$Subalgebra", "offerAll", "(LImplicationAlgebras$Poset;II)V"⟩, 8) := ⟨⟨by decide +kernel, by decide +kernel⟩, List.mem_of_getElem? (i := 66) (by decide +kernel), List.mem_of_getElem? (i := 571) (by decide +kernel), List.mem_of_getElem? (i := 572) (by decide +kernel)⟩
theorem lw_p25 : lw_okq (⟨"ImplicationAlgebras$Subalgebra", "offer", "(IJ)V"⟩, 8) := ⟨⟨by decide +kernel, by decide +kernel⟩, List.mem_of_getElem? (i := 66) (by decide +kernel), List.mem_of_getElem? (i := 576) (by decide +kernel), List.mem_of_getElem? (i := 577) (by decide +kernel)⟩
theorem lw_p26 : lw_okq (⟨"ImplicationAlgebras$Subalgebra", "noteStep", "(IIII)V"⟩, 8) := ⟨⟨by decide +kernel, by decide +kernel⟩, List.mem_of_getElem? (i := 66) (by decide +kernel), List.mem_of_getElem? (i := 584) (by decide +kernel), List.mem_of_getElem? (i := 585) (by decide +kernel)⟩
theorem lw_p27 : lw_okq (⟨"ImplicationAlgebras$MapSearch", "isBounded", "()Z"⟩, 6) := ⟨⟨by decide +kernel, by decide +kernel⟩, List.mem_of_getElem? (i := 599) (by decide +kernel), List.mem_of_getElem? (i := 636) (by decide +kernel), List.mem_of_getElem? (i := 637) (by decide +kernel)⟩
theorem lw_p28 : lw_okq (⟨"ImplicationAlgebras$MapSearch", "imagesOf", "(I)I"⟩, 6) := ⟨⟨by decide +kernel, by decide +kernel⟩, List.mem_of_getElem? (i := 599) (by decide +kernel), List.mem_of_getElem? (i := 640) (by decide +kernel), List.mem_of_getElem? (i := 641) (by decide +kernel)⟩
theorem lw_p29 : lw_okq (⟨"ImplicationAlgebras$MapSearch", "fitsOneWay", "(II)Z"⟩, 6) := ⟨⟨by decide +kernel, by decide +kernel⟩, List.mem_of_getElem? (i := 599) (by decide +kernel), List.mem_of_getElem? (i := 649) (by decide +kernel), List.mem_of_getElem? (i := 650) (by decide +kernel)⟩
theorem lw_p30 : lw_okq (⟨"ImplicationAlgebras", "rowAt", "(I)LImplicationAlgebras$Row;"⟩, 10) := ⟨⟨by decide +kernel, by decide +kernel⟩, List.mem_of_getElem? (i := 13) (by decide +kernel), List.mem_of_getElem? (i := 692) (by decide +kernel), List.mem_of_getElem? (i := 693) (by decide +kernel)⟩
theorem lw_p31 : lw_okq (⟨"ImplicationAlgebrasModel", "empties", "(II)V"⟩, 33) := ⟨⟨by decide +kernel, by decide +kernel⟩, List.mem_of_getElem? (i := 744) (by decide +kernel), List.mem_of_getElem? (i := 750) (by decide +kernel), List.mem_of_getElem? (i := 751) (by decide +kernel)⟩
def lw_privs_2 : List (MethodName × Nat) := [(⟨"ImplicationAlgebras$Text", "hold", "(I)V"⟩, 9), (⟨"ImplicationAlgebras$Text", "takeBehindFactor", "(I)Z"⟩, 9), (⟨"ImplicationAlgebras$Text", "closeParenthesis", "()Z"⟩, 9), (⟨"ImplicationAlgebras$Text", "releaseAbove", "(I)V"⟩, 9), (⟨"ImplicationAlgebras", "draftSubstitution", "(LImplicationAlgebras$Formula;ILImplicationAlgebras$Formula;)V"⟩, 10), (⟨"ImplicationAlgebras$Formula", "bitsOfValue", "(LImplicationAlgebras$Poset;)I"⟩, 4), (⟨"ImplicationAlgebras$Formula", "choices", "(LImplicationAlgebras$Poset;I)I"⟩, 4), (⟨"ImplicationAlgebras$Subalgebra", "cheapestLeft", "()I"⟩, 8), (⟨"ImplicationAlgebras$Subalgebra", "offerAll", "(LImplicationAlgebras$Poset;II)V"⟩, 8), (⟨"ImplicationAlgebras$Subalgebra", "offer", "(IJ)V"⟩, 8), (⟨"ImplicationAlgebras$Subalgebra", "noteStep", "(IIII)V"⟩, 8), (⟨"ImplicationAlgebras$MapSearch", "isBounded", "()Z"⟩, 6), (⟨"ImplicationAlgebras$MapSearch", "imagesOf", "(I)I"⟩, 6), (⟨"ImplicationAlgebras$MapSearch", "fitsOneWay", "(II)Z"⟩, 6), (⟨"ImplicationAlgebras", "rowAt", "(I)LImplicationAlgebras$Row;"⟩, 10), (⟨"ImplicationAlgebrasModel", "empties", "(II)V"⟩, 33)]
theorem lw_r2 : ∀ q ∈ lw_privs_2, lw_okq q := List.forall_mem_cons.mpr ⟨lw_p16, List.forall_mem_cons.mpr ⟨lw_p17, List.forall_mem_cons.mpr ⟨lw_p18, List.forall_mem_cons.mpr ⟨lw_p19, List.forall_mem_cons.mpr ⟨lw_p20, List.forall_mem_cons.mpr ⟨lw_p21, List.forall_mem_cons.mpr ⟨lw_p22, List.forall_mem_cons.mpr ⟨lw_p23, List.forall_mem_cons.mpr ⟨lw_p24, List.forall_mem_cons.mpr ⟨lw_p25, List.forall_mem_cons.mpr ⟨lw_p26, List.forall_mem_cons.mpr ⟨lw_p27, List.forall_mem_cons.mpr ⟨lw_p28, List.forall_mem_cons.mpr ⟨lw_p29, List.forall_mem_cons.mpr ⟨lw_p30, List.forall_mem_cons.mpr ⟨lw_p31, fun _ h => absurd h List.not_mem_nil⟩⟩⟩⟩⟩⟩⟩⟩⟩⟩⟩⟩⟩⟩⟩⟩
theorem lw_p32 : lw_okq (⟨"ImplicationAlgebrasModel", "unvalues", "(I)V"⟩, 33) := ⟨⟨by decide +kernel, by decide +kernel⟩, List.mem_of_getElem? (i := 744) (by decide +kernel), List.mem_of_getElem? (i := 754) (by decide +kernel), List.mem_of_getElem? (i := 755) (by decide +kernel)⟩
theorem lw_p33 : lw_okq (⟨"ImplicationAlgebrasModel", "isPoint", "(II)Z"⟩, 33) := ⟨⟨by decide +kernel, by decide +kernel⟩, List.mem_of_getElem? (i := 744) (by decide +kernel), List.mem_of_getElem? (i := 877) (by decide +kernel), List.mem_of_getElem? (i := 878) (by decide +kernel)⟩
theorem lw_p34 : lw_okq (⟨"ImplicationAlgebrasModel", "isLess", "(III)Z"⟩, 33) := ⟨⟨by decide +kernel, by decide +kernel⟩, List.mem_of_getElem? (i := 744) (by decide +kernel), List.mem_of_getElem? (i := 881) (by decide +kernel), List.mem_of_getElem? (i := 882) (by decide +kernel)⟩
theorem lw_p35 : lw_okq (⟨"ImplicationAlgebrasModel", "pairs", "(I)I"⟩, 33) := ⟨⟨by decide +kernel, by decide +kernel⟩, List.mem_of_getElem? (i := 744) (by decide +kernel), List.mem_of_getElem? (i := 885) (by decide +kernel), List.mem_of_getElem? (i := 886) (by decide +kernel)⟩
theorem lw_p36 : lw_okq (⟨"ImplicationAlgebrasModel", "largest", "(IZ)I"⟩, 33) := ⟨⟨by decide +kernel, by decide +kernel⟩, List.mem_of_getElem? (i := 744) (by decide +kernel), List.mem_of_getElem? (i := 904) (by decide +kernel), List.mem_of_getElem? (i := 905) (by decide +kernel)⟩
theorem lw_p37 : lw_okq (⟨"ImplicationAlgebrasModel", "allOf", "(I)I"⟩, 33) := ⟨⟨by decide +kernel, by decide +kernel⟩, List.mem_of_getElem? (i := 744) (by decide +kernel), List.mem_of_getElem? (i := 908) (by decide +kernel), List.mem_of_getElem? (i := 909) (by decide +kernel)⟩
theorem lw_p38 : lw_okq (⟨"ImplicationAlgebrasModel", "areRelated", "(III)Z"⟩, 33) := ⟨⟨by decide +kernel, by decide +kernel⟩, List.mem_of_getElem? (i := 744) (by decide +kernel), List.mem_of_getElem? (i := 912) (by decide +kernel), List.mem_of_getElem? (i := 913) (by decide +kernel)⟩
theorem lw_p39 : lw_okq (⟨"ImplicationAlgebrasModel", "ends", "(IZ)I"⟩, 33) := ⟨⟨by decide +kernel, by decide +kernel⟩, List.mem_of_getElem? (i := 744) (by decide +kernel), List.mem_of_getElem? (i := 916) (by decide +kernel), List.mem_of_getElem? (i := 917) (by decide +kernel)⟩
theorem lw_p40 : lw_okq (⟨"ImplicationAlgebrasModel", "components", "(I)I"⟩, 33) := ⟨⟨by decide +kernel, by decide +kernel⟩, List.mem_of_getElem? (i := 744) (by decide +kernel), List.mem_of_getElem? (i := 920) (by decide +kernel), List.mem_of_getElem? (i := 921) (by decide +kernel)⟩
theorem lw_p41 : lw_okq (⟨"ImplicationAlgebrasModel", "isFound", "(I)Z"⟩, 33) := ⟨⟨by decide +kernel, by decide +kernel⟩, List.mem_of_getElem? (i := 744) (by decide +kernel), List.mem_of_getElem? (i := 928) (by decide +kernel), List.mem_of_getElem? (i := 929) (by decide +kernel)⟩
theorem lw_p42 : lw_okq (⟨"ImplicationAlgebrasModel", "finds", "(I)V"⟩, 33) := ⟨⟨by decide +kernel, by decide +kernel⟩, List.mem_of_getElem? (i := 744) (by decide +kernel), List.mem_of_getElem? (i := 932) (by decide +kernel), List.mem_of_getElem? (i := 933) (by decide +kernel)⟩
theorem lw_p43 : lw_okq (⟨"ImplicationAlgebrasModel", "isUpSet", "(II)Z"⟩, 33) := ⟨⟨by decide +kernel, by decide +kernel⟩, List.mem_of_getElem? (i := 744) (by decide +kernel), List.mem_of_getElem? (i := 936) (by decide +kernel), List.mem_of_getElem? (i := 937) (by decide +kernel)⟩
theorem lw_p44 : lw_okq (⟨"ImplicationAlgebrasModel", "isElement", "(I)Z"⟩, 33) := ⟨⟨by decide +kernel, by decide +kernel⟩, List.mem_of_getElem? (i := 744) (by decide +kernel), List.mem_of_getElem? (i := 944) (by decide +kernel), List.mem_of_getElem? (i := 945) (by decide +kernel)⟩
theorem lw_p45 : lw_okq (⟨"ImplicationAlgebrasModel", "areElements", "(III)Z"⟩, 33) := ⟨⟨by decide +kernel, by decide +kernel⟩, List.mem_of_getElem? (i := 744) (by decide +kernel), List.mem_of_getElem? (i := 956) (by decide +kernel), List.mem_of_getElem? (i := 957) (by decide +kernel)⟩
theorem lw_p46 : lw_okq (⟨"ImplicationAlgebrasModel", "impliedBits", "(III)I"⟩, 33) := ⟨⟨by decide +kernel, by decide +kernel⟩, List.mem_of_getElem? (i := 744) (by decide +kernel), List.mem_of_getElem? (i := 968) (by decide +kernel), List.mem_of_getElem? (i := 969) (by decide +kernel)⟩
theorem lw_p47 : lw_okq (⟨"ImplicationAlgebrasModel", "takesText", "()Z"⟩, 33) := ⟨⟨by decide +kernel, by decide +kernel⟩, List.mem_of_getElem? (i := 744) (by decide +kernel), List.mem_of_getElem? (i := 989) (by decide +kernel), List.mem_of_getElem? (i := 990) (by decide +kernel)⟩
def lw_privs_3 : List (MethodName × Nat) := [(⟨"ImplicationAlgebrasModel", "unvalues", "(I)V"⟩, 33), (⟨"ImplicationAlgebrasModel", "isPoint", "(II)Z"⟩, 33), (⟨"ImplicationAlgebrasModel", "isLess", "(III)Z"⟩, 33), (⟨"ImplicationAlgebrasModel", "pairs", "(I)I"⟩, 33), (⟨"ImplicationAlgebrasModel", "largest", "(IZ)I"⟩, 33), (⟨"ImplicationAlgebrasModel", "allOf", "(I)I"⟩, 33), (⟨"ImplicationAlgebrasModel", "areRelated", "(III)Z"⟩, 33), (⟨"ImplicationAlgebrasModel", "ends", "(IZ)I"⟩, 33), (⟨"ImplicationAlgebrasModel", "components", "(I)I"⟩, 33), (⟨"ImplicationAlgebrasModel", "isFound", "(I)Z"⟩, 33), (⟨"ImplicationAlgebrasModel", "finds", "(I)V"⟩, 33), (⟨"ImplicationAlgebrasModel", "isUpSet", "(II)Z"⟩, 33), (⟨"ImplicationAlgebrasModel", "isElement", "(I)Z"⟩, 33), (⟨"ImplicationAlgebrasModel", "areElements", "(III)Z"⟩, 33), (⟨"ImplicationAlgebrasModel", "impliedBits", "(III)I"⟩, 33), (⟨"ImplicationAlgebrasModel", "takesText", "()Z"⟩, 33)]
theorem lw_r3 : ∀ q ∈ lw_privs_3, lw_okq q := List.forall_mem_cons.mpr ⟨lw_p32, List.forall_mem_cons.mpr ⟨lw_p33, List.forall_mem_cons.mpr ⟨lw_p34, List.forall_mem_cons.mpr ⟨lw_p35, List.forall_mem_cons.mpr ⟨lw_p36, List.forall_mem_cons.mpr ⟨lw_p37, List.forall_mem_cons.mpr ⟨lw_p38, List.forall_mem_cons.mpr ⟨lw_p39, List.forall_mem_cons.mpr ⟨lw_p40, List.forall_mem_cons.mpr ⟨lw_p41, List.forall_mem_cons.mpr ⟨lw_p42, List.forall_mem_cons.mpr ⟨lw_p43, List.forall_mem_cons.mpr ⟨lw_p44, List.forall_mem_cons.mpr ⟨lw_p45, List.forall_mem_cons.mpr ⟨lw_p46, List.forall_mem_cons.mpr ⟨lw_p47, fun _ h => absurd h List.not_mem_nil⟩⟩⟩⟩⟩⟩⟩⟩⟩⟩⟩⟩⟩⟩⟩⟩
theorem lw_p48 : lw_okq (⟨"ImplicationAlgebrasModel", "takesFactor", "()Z"⟩, 33) := ⟨⟨by decide +kernel, by decide +kernel⟩, List.mem_of_getElem? (i := 744) (by decide +kernel), List.mem_of_getElem? (i := 993) (by decide +kernel), List.mem_of_getElem? (i := 994) (by decide +kernel)⟩
theorem lw_p49 : lw_okq (⟨"ImplicationAlgebrasModel", "next", "()I"⟩, 33) := ⟨⟨by decide +kernel, by decide +kernel⟩, List.mem_of_getElem? (i := 744) (by decide +kernel), List.mem_of_getElem? (i := 997) (by decide +kernel), List.mem_of_getElem? (i := 998) (by decide +kernel)⟩
theorem lw_p50 : lw_okq (⟨"ImplicationAlgebrasModel", "makes", "(I)V"⟩, 33) := ⟨⟨by decide +kernel, by decide +kernel⟩, List.mem_of_getElem? (i := 744) (by decide +kernel), List.mem_of_getElem? (i := 1004) (by decide +kernel), List.mem_of_getElem? (i := 1005) (by decide +kernel)⟩
theorem lw_p51 : lw_okq (⟨"ImplicationAlgebrasModel", "makesFrom", "(I)V"⟩, 33) := ⟨⟨by decide +kernel, by decide +kernel⟩, List.mem_of_getElem? (i := 744) (by decide +kernel), List.mem_of_getElem? (i := 1008) (by decide +kernel), List.mem_of_getElem? (i := 1009) (by decide +kernel)⟩
theorem lw_p52 : lw_okq (⟨"ImplicationAlgebrasModel", "closes", "()V"⟩, 33) := ⟨⟨by decide +kernel, by decide +kernel⟩, List.mem_of_getElem? (i := 744) (by decide +kernel), List.mem_of_getElem? (i := 1012) (by decide +kernel), List.mem_of_getElem? (i := 1013) (by decide +kernel)⟩
theorem lw_p53 : lw_okq (⟨"ImplicationAlgebrasModel", "hasParen", "()Z"⟩, 33) := ⟨⟨by decide +kernel, by decide +kernel⟩, List.mem_of_getElem? (i := 744) (by decide +kernel), List.mem_of_getElem? (i := 1016) (by decide +kernel), List.mem_of_getElem? (i := 1017) (by decide +kernel)⟩
theorem lw_p54 : lw_okq (⟨"ImplicationAlgebrasModel", "stores", "(I)V"⟩, 33) := ⟨⟨by decide +kernel, by decide +kernel⟩, List.mem_of_getElem? (i := 744) (by decide +kernel), List.mem_of_getElem? (i := 1023) (by decide +kernel), List.mem_of_getElem? (i := 1024) (by decide +kernel)⟩
theorem lw_p55 : lw_okq (⟨"ImplicationAlgebrasModel", "presentBits", "(II)I"⟩, 33) := ⟨⟨by decide +kernel, by decide +kernel⟩, List.mem_of_getElem? (i := 744) (by decide +kernel), List.mem_of_getElem? (i := 1046) (by decide +kernel), List.mem_of_getElem? (i := 1047) (by decide +kernel)⟩
theorem lw_p56 : lw_okq (⟨"ImplicationAlgebrasModel", "valueBits", "(II)I"⟩, 33) := ⟨⟨by decide +kernel, by decide +kernel⟩, List.mem_of_getElem? (i := 744) (by decide +kernel), List.mem_of_getElem? (i := 1050) (by decide +kernel), List.mem_of_getElem? (i := 1051) (by decide +kernel)⟩
theorem lw_p57 : lw_okq (⟨"ImplicationAlgebrasModel", "notAsked", "(II)I"⟩, 33) := ⟨⟨by decide +kernel, by decide +kernel⟩, List.mem_of_getElem? (i := 744) (by decide +kernel), List.mem_of_getElem? (i := 1062) (by decide +kernel), List.mem_of_getElem? (i := 1063) (by decide +kernel)⟩
theorem lw_p58 : lw_okq (⟨"ImplicationAlgebrasModel", "countsValuations", "(I)V"⟩, 33) := ⟨⟨by decide +kernel, by decide +kernel⟩, List.mem_of_getElem? (i := 744) (by decide +kernel), List.mem_of_getElem? (i := 1066) (by decide +kernel), List.mem_of_getElem? (i := 1067) (by decide +kernel)⟩
theorem lw_p59 : lw_okq (⟨"ImplicationAlgebrasModel", "variablesOf", "(I)I"⟩, 33) := ⟨⟨by decide +kernel, by decide +kernel⟩, List.mem_of_getElem? (i := 744) (by decide +kernel), List.mem_of_getElem? (i := 1070) (by decide +kernel), List.mem_of_getElem? (i := 1071) (by decide +kernel)⟩
theorem lw_p60 : lw_okq (⟨"ImplicationAlgebrasModel", "refuting", "(II)I"⟩, 33) := ⟨⟨by decide +kernel, by decide +kernel⟩, List.mem_of_getElem? (i := 744) (by decide +kernel), List.mem_of_getElem? (i := 1074) (by decide +kernel), List.mem_of_getElem? (i := 1075) (by decide +kernel)⟩
theorem lw_p61 : lw_okq (⟨"ImplicationAlgebrasModel", "bitsBy", "(III)I"⟩, 33) := ⟨⟨by decide +kernel, by decide +kernel⟩, List.mem_of_getElem? (i := 744) (by decide +kernel), List.mem_of_getElem? (i := 1078) (by decide +kernel), List.mem_of_getElem? (i := 1079) (by decide +kernel)⟩
theorem lw_p62 : lw_okq (⟨"ImplicationAlgebrasModel", "elementIn", "(II)I"⟩, 33) := ⟨⟨by decide +kernel, by decide +kernel⟩, List.mem_of_getElem? (i := 744) (by decide +kernel), List.mem_of_getElem? (i := 1082) (by decide +kernel), List.mem_of_getElem? (i := 1083) (by decide +kernel)⟩
theorem lw_p63 : lw_okq (⟨"ImplicationAlgebrasModel", "lowers", "(I)Z"⟩, 33) := ⟨⟨by decide +kernel, by decide +kernel⟩, List.mem_of_getElem? (i := 744) (by decide +kernel), List.mem_of_getElem? (i := 1119) (by decide +kernel), List.mem_of_getElem? (i := 1120) (by decide +kernel)⟩
def lw_privs_4 : List (MethodName × Nat) := [(⟨"ImplicationAlgebrasModel", "takesFactor", "()Z"⟩, 33), (⟨"ImplicationAlgebrasModel", "next", "()I"⟩, 33), (⟨"ImplicationAlgebrasModel", "makes", "(I)V"⟩, 33), (⟨"ImplicationAlgebrasModel", "makesFrom", "(I)V"⟩, 33), (⟨"ImplicationAlgebrasModel", "closes", "()V"⟩, 33), (⟨"ImplicationAlgebrasModel", "hasParen", "()Z"⟩, 33), (⟨"ImplicationAlgebrasModel", "stores", "(I)V"⟩, 33), (⟨"ImplicationAlgebrasModel", "presentBits", "(II)I"⟩, 33), (⟨"ImplicationAlgebrasModel", "valueBits", "(II)I"⟩, 33), (⟨"ImplicationAlgebrasModel", "notAsked", "(II)I"⟩, 33), (⟨"ImplicationAlgebrasModel", "countsValuations", "(I)V"⟩, 33), (⟨"ImplicationAlgebrasModel", "variablesOf", "(I)I"⟩, 33), (⟨"ImplicationAlgebrasModel", "refuting", "(II)I"⟩, 33), (⟨"ImplicationAlgebrasModel", "bitsBy", "(III)I"⟩, 33), (⟨"ImplicationAlgebrasModel", "elementIn", "(II)I"⟩, 33), (⟨"ImplicationAlgebrasModel", "lowers", "(I)Z"⟩, 33)]
theorem lw_r4 : ∀ q ∈ lw_privs_4, lw_okq q := List.forall_mem_cons.mpr ⟨lw_p48, List.forall_mem_cons.mpr ⟨lw_p49, List.forall_mem_cons.mpr ⟨lw_p50, List.forall_mem_cons.mpr ⟨lw_p51, List.forall_mem_cons.mpr ⟨lw_p52, List.forall_mem_cons.mpr ⟨lw_p53, List.forall_mem_cons.mpr ⟨lw_p54, List.forall_mem_cons.mpr ⟨lw_p55, List.forall_mem_cons.mpr ⟨lw_p56, List.forall_mem_cons.mpr ⟨lw_p57, List.forall_mem_cons.mpr ⟨lw_p58, List.forall_mem_cons.mpr ⟨lw_p59, List.forall_mem_cons.mpr ⟨lw_p60, List.forall_mem_cons.mpr ⟨lw_p61, List.forall_mem_cons.mpr ⟨lw_p62, List.forall_mem_cons.mpr ⟨lw_p63, fun _ h => absurd h List.not_mem_nil⟩⟩⟩⟩⟩⟩⟩⟩⟩⟩⟩⟩⟩⟩⟩⟩
theorem lw_p64 : lw_okq (⟨"ImplicationAlgebrasModel", "done", "(IIII)I"⟩, 33) := ⟨⟨by decide +kernel, by decide +kernel⟩, List.mem_of_getElem? (i := 744) (by decide +kernel), List.mem_of_getElem? (i := 1123) (by decide +kernel), List.mem_of_getElem? (i := 1124) (by decide +kernel)⟩
theorem lw_p65 : lw_okq (⟨"ImplicationAlgebrasModel", "findsSteps", "(I)V"⟩, 33) := ⟨⟨by decide +kernel, by decide +kernel⟩, List.mem_of_getElem? (i := 744) (by decide +kernel), List.mem_of_getElem? (i := 1127) (by decide +kernel), List.mem_of_getElem? (i := 1128) (by decide +kernel)⟩
theorem lw_p66 : lw_okq (⟨"ImplicationAlgebrasModel", "mapsOf", "(IIIZ)I"⟩, 33) := ⟨⟨by decide +kernel, by decide +kernel⟩, List.mem_of_getElem? (i := 744) (by decide +kernel), List.mem_of_getElem? (i := 1143) (by decide +kernel), List.mem_of_getElem? (i := 1144) (by decide +kernel)⟩
theorem lw_p67 : lw_okq (⟨"ImplicationAlgebrasModel", "isOfKind", "(III)Z"⟩, 33) := ⟨⟨by decide +kernel, by decide +kernel⟩, List.mem_of_getElem? (i := 744) (by decide +kernel), List.mem_of_getElem? (i := 1147) (by decide +kernel), List.mem_of_getElem? (i := 1148) (by decide +kernel)⟩
theorem lw_p68 : lw_okq (⟨"ImplicationAlgebrasModel", "keepsOrder", "(II)Z"⟩, 33) := ⟨⟨by decide +kernel, by decide +kernel⟩, List.mem_of_getElem? (i := 744) (by decide +kernel), List.mem_of_getElem? (i := 1151) (by decide +kernel), List.mem_of_getElem? (i := 1152) (by decide +kernel)⟩
theorem lw_p69 : lw_okq (⟨"ImplicationAlgebrasModel", "isBounded", "(II)Z"⟩, 33) := ⟨⟨by decide +kernel, by decide +kernel⟩, List.mem_of_getElem? (i := 744) (by decide +kernel), List.mem_of_getElem? (i := 1155) (by decide +kernel), List.mem_of_getElem? (i := 1156) (by decide +kernel)⟩
theorem lw_p70 : lw_okq (⟨"ImplicationAlgebrasModel", "reachesAll", "(II)Z"⟩, 33) := ⟨⟨by decide +kernel, by decide +kernel⟩, List.mem_of_getElem? (i := 744) (by decide +kernel), List.mem_of_getElem? (i := 1159) (by decide +kernel), List.mem_of_getElem? (i := 1160) (by decide +kernel)⟩
theorem lw_p71 : lw_okq (⟨"ImplicationAlgebrasModel", "reflectsOrder", "(II)Z"⟩, 33) := ⟨⟨by decide +kernel, by decide +kernel⟩, List.mem_of_getElem? (i := 744) (by decide +kernel), List.mem_of_getElem? (i := 1163) (by decide +kernel), List.mem_of_getElem? (i := 1164) (by decide +kernel)⟩
theorem lw_p72 : lw_okq (⟨"ImplicationAlgebrasModel", "settles", "(I)V"⟩, 33) := ⟨⟨by decide +kernel, by decide +kernel⟩, List.mem_of_getElem? (i := 744) (by decide +kernel), List.mem_of_getElem? (i := 1179) (by decide +kernel), List.mem_of_getElem? (i := 1180) (by decide +kernel)⟩
theorem lw_p73 : lw_okq (⟨"ImplicationAlgebrasModel", "puts", "(III)V"⟩, 33) := ⟨⟨by decide +kernel, by decide +kernel⟩, List.mem_of_getElem? (i := 744) (by decide +kernel), List.mem_of_getElem? (i := 1207) (by decide +kernel), List.mem_of_getElem? (i := 1208) (by decide +kernel)⟩
def lw_privs_5 : List (MethodName × Nat) := [(⟨"ImplicationAlgebrasModel", "done", "(IIII)I"⟩, 33), (⟨"ImplicationAlgebrasModel", "findsSteps", "(I)V"⟩, 33), (⟨"ImplicationAlgebrasModel", "mapsOf", "(IIIZ)I"⟩, 33), (⟨"ImplicationAlgebrasModel", "isOfKind", "(III)Z"⟩, 33), (⟨"ImplicationAlgebrasModel", "keepsOrder", "(II)Z"⟩, 33), (⟨"ImplicationAlgebrasModel", "isBounded", "(II)Z"⟩, 33), (⟨"ImplicationAlgebrasModel", "reachesAll", "(II)Z"⟩, 33), (⟨"ImplicationAlgebrasModel", "reflectsOrder", "(II)Z"⟩, 33), (⟨"ImplicationAlgebrasModel", "settles", "(I)V"⟩, 33), (⟨"ImplicationAlgebrasModel", "puts", "(III)V"⟩, 33)]
theorem lw_r5 : ∀ q ∈ lw_privs_5, lw_okq q := List.forall_mem_cons.mpr ⟨lw_p64, List.forall_mem_cons.mpr ⟨lw_p65, List.forall_mem_cons.mpr ⟨lw_p66, List.forall_mem_cons.mpr ⟨lw_p67, List.forall_mem_cons.mpr ⟨lw_p68, List.forall_mem_cons.mpr ⟨lw_p69, List.forall_mem_cons.mpr ⟨lw_p70, List.forall_mem_cons.mpr ⟨lw_p71, List.forall_mem_cons.mpr ⟨lw_p72, List.forall_mem_cons.mpr ⟨lw_p73, fun _ h => absurd h List.not_mem_nil⟩⟩⟩⟩⟩⟩⟩⟩⟩⟩
def lw_privs : List (MethodName × Nat) := lw_privs_1 ++ (lw_privs_2 ++ (lw_privs_3 ++ (lw_privs_4 ++ (lw_privs_5))))
def lw_tbl : List Cond := k2_sels lw_privs ++ tables_1
theorem lw_privs_ok : ∀ q ∈ lw_privs, lw_okq q := by
  show ∀ q ∈ lw_privs_1 ++ (lw_privs_2 ++ (lw_privs_3 ++ (lw_privs_4 ++ (lw_privs_5)))), lw_okq q
  exact List.forall_mem_append.mpr ⟨lw_r1, List.forall_mem_append.mpr ⟨lw_r2, List.forall_mem_append.mpr ⟨lw_r3, List.forall_mem_append.mpr ⟨lw_r4, lw_r5⟩⟩⟩⟩
def RX0 : String := "ImplicationAlgebras$Formula"
def TX0 : u_T := fun k => match k with
  | 0 => ("ImplicationAlgebras$Formula", "size", "I", false)
  | 1 => ("ImplicationAlgebras$Formula", "signs", "[I", true)
  | 2 => ("ImplicationAlgebras$Formula", "leafBits", "[I", true)
  | _ => ("ImplicationAlgebras$Formula", "stack", "[I", true)
def tyX0 : Nat → FieldType := fun k => match k with
  | 0 => .int
  | 1 => .array .int
  | 2 => .array .int
  | _ => .array .int
abbrev wsX00 : List Cond := u_ws RX0 TX0 4
theorem nmX0 : ∀ a, a < 4 → ∀ b, b < 4 → a ≠ b → (TX0 a).2.1 ≠ (TX0 b).2.1 := by decide +kernel
theorem tyX0_ok : ∀ k, k < 4 → parseFieldDescriptor (TX0 k).2.2.1 = some (tyX0 k) := by decide +kernel
def RX1 : String := "ImplicationAlgebras$MapSearch"
def TX1 : u_T := fun k => match k with
  | 0 => ("ImplicationAlgebras$MapSearch", "source", "LImplicationAlgebras$Poset;", true)
  | 1 => ("ImplicationAlgebras$MapSearch", "target", "LImplicationAlgebras$Poset;", true)
  | 2 => ("ImplicationAlgebras$MapSearch", "kind", "I", true)
  | 3 => ("ImplicationAlgebras$MapSearch", "onlyFirst", "Z", true)
  | 4 => ("ImplicationAlgebras$MapSearch", "images", "[I", true)
  | _ => ("ImplicationAlgebras$MapSearch", "count", "I", false)
def tyX1 : Nat → FieldType := fun k => match k with
  | 0 => .object "ImplicationAlgebras$Poset"
  | 1 => .object "ImplicationAlgebras$Poset"
  | 2 => .int
  | 3 => .boolean
  | 4 => .array .int
  | _ => .int
abbrev wsX10 : List Cond := u_ws RX1 TX1 6
theorem nmX1 : ∀ a, a < 6 → ∀ b, b < 6 → a ≠ b → (TX1 a).2.1 ≠ (TX1 b).2.1 := by decide +kernel
theorem tyX1_ok : ∀ k, k < 6 → parseFieldDescriptor (TX1 k).2.2.1 = some (tyX1 k) := by decide +kernel
def RX2 : String := "ImplicationAlgebras$Poset"
def TX2 : u_T := fun k => match k with
  | 0 => ("ImplicationAlgebras$Poset", "size", "I", false)
  | 1 => ("ImplicationAlgebras$Poset", "above", "[I", true)
  | 2 => ("ImplicationAlgebras$Poset", "downSet", "[I", true)
  | 3 => ("ImplicationAlgebras$Poset", "elements", "I", false)
  | 4 => ("ImplicationAlgebras$Poset", "bitsOf", "[I", true)
  | 5 => ("ImplicationAlgebras$Poset", "numberOf", "[I", true)
  | _ => ("ImplicationAlgebras$Poset", "valuation", "[I", true)
def tyX2 : Nat → FieldType := fun k => match k with
  | 0 => .int
  | 1 => .array .int
  | 2 => .array .int
  | 3 => .int
  | 4 => .array .int
  | 5 => .array .int
  | _ => .array .int
abbrev wsX20 : List Cond := u_ws RX2 TX2 7
theorem nmX2 : ∀ a, a < 7 → ∀ b, b < 7 → a ≠ b → (TX2 a).2.1 ≠ (TX2 b).2.1 := by decide +kernel
theorem tyX2_ok : ∀ k, k < 7 → parseFieldDescriptor (TX2 k).2.2.1 = some (tyX2 k) := by decide +kernel
def RX3 : String := "ImplicationAlgebras$Row"
def TX3 : u_T := fun k => match k with
  | 0 => ("ImplicationAlgebras$Row", "type", "I", false)
  | 1 => ("ImplicationAlgebras$Row", "length", "I", false)
  | _ => ("ImplicationAlgebras$Row", "data", "[I", true)
def tyX3 : Nat → FieldType := fun k => match k with
  | 0 => .int
  | 1 => .int
  | _ => .array .int
abbrev wsX30 : List Cond := u_ws RX3 TX3 3
theorem nmX3 : ∀ a, a < 3 → ∀ b, b < 3 → a ≠ b → (TX3 a).2.1 ≠ (TX3 b).2.1 := by decide +kernel
theorem tyX3_ok : ∀ k, k < 3 → parseFieldDescriptor (TX3 k).2.2.1 = some (tyX3 k) := by decide +kernel
def RX4 : String := "ImplicationAlgebras$Subalgebra"
def TX4 : u_T := fun k => match k with
  | 0 => ("ImplicationAlgebras$Subalgebra", "elements", "I", false)
  | 1 => ("ImplicationAlgebras$Subalgebra", "cost", "[J", true)
  | 2 => ("ImplicationAlgebras$Subalgebra", "operator", "[I", true)
  | 3 => ("ImplicationAlgebras$Subalgebra", "first", "[I", true)
  | 4 => ("ImplicationAlgebras$Subalgebra", "second", "[I", true)
  | 5 => ("ImplicationAlgebras$Subalgebra", "settledCount", "I", false)
  | 6 => ("ImplicationAlgebras$Subalgebra", "settled", "[I", true)
  | _ => ("ImplicationAlgebras$Subalgebra", "isSettled", "[Z", true)
def tyX4 : Nat → FieldType := fun k => match k with
  | 0 => .int
  | 1 => .array .long
  | 2 => .array .int
  | 3 => .array .int
  | 4 => .array .int
  | 5 => .int
  | 6 => .array .int
  | _ => .array .boolean
abbrev wsX40 : List Cond := u_ws RX4 TX4 8
theorem nmX4 : ∀ a, a < 8 → ∀ b, b < 8 → a ≠ b → (TX4 a).2.1 ≠ (TX4 b).2.1 := by decide +kernel
theorem tyX4_ok : ∀ k, k < 8 → parseFieldDescriptor (TX4 k).2.2.1 = some (tyX4 k) := by decide +kernel
def RX5 : String := "ImplicationAlgebras$Text"
def TX5 : u_T := fun k => match k with
  | 0 => ("ImplicationAlgebras$Text", "length", "I", false)
  | 1 => ("ImplicationAlgebras$Text", "characters", "[I", true)
  | 2 => ("ImplicationAlgebras$Text", "signCount", "I", false)
  | 3 => ("ImplicationAlgebras$Text", "signs", "[I", true)
  | 4 => ("ImplicationAlgebras$Text", "waiting", "[I", true)
  | 5 => ("ImplicationAlgebras$Text", "waitingCount", "I", false)
  | 6 => ("ImplicationAlgebras$Text", "openParentheses", "I", false)
  | 7 => ("ImplicationAlgebras$Text", "openSigns", "I", false)
  | _ => ("ImplicationAlgebras$Text", "factorDue", "Z", false)
def tyX5 : Nat → FieldType := fun k => match k with
  | 0 => .int
  | 1 => .array .int
  | 2 => .int
  | 3 => .array .int
  | 4 => .array .int
  | 5 => .int
  | 6 => .int
  | 7 => .int
  | _ => .boolean
abbrev wsX50 : List Cond := u_ws RX5 TX5 9
theorem nmX5 : ∀ a, a < 9 → ∀ b, b < 9 → a ≠ b → (TX5 a).2.1 ≠ (TX5 b).2.1 := by decide +kernel
theorem tyX5_ok : ∀ k, k < 9 → parseFieldDescriptor (TX5 k).2.2.1 = some (tyX5 k) := by decide +kernel
def RX6 : String := "ImplicationAlgebras"
def TX6 : u_T := fun k => match k with
  | 0 => ("ImplicationAlgebras", "posets", "[LImplicationAlgebras$Poset;", true)
  | 1 => ("ImplicationAlgebras", "formulas", "[LImplicationAlgebras$Formula;", true)
  | 2 => ("ImplicationAlgebras", "rows", "[LImplicationAlgebras$Row;", true)
  | 3 => ("ImplicationAlgebras", "text", "LImplicationAlgebras$Text;", true)
  | 4 => ("ImplicationAlgebras", "generators", "[I", true)
  | 5 => ("ImplicationAlgebras", "generatorCount", "I", false)
  | 6 => ("ImplicationAlgebras", "subalgebra", "LImplicationAlgebras$Subalgebra;", true)
  | 7 => ("ImplicationAlgebras", "loadEnd", "I", false)
  | 8 => ("ImplicationAlgebras", "draftOrder", "[I", true)
  | _ => ("ImplicationAlgebras", "draftSigns", "[I", true)
def tyX6 : Nat → FieldType := fun k => match k with
  | 0 => .array (.object "ImplicationAlgebras$Poset")
  | 1 => .array (.object "ImplicationAlgebras$Formula")
  | 2 => .array (.object "ImplicationAlgebras$Row")
  | 3 => .object "ImplicationAlgebras$Text"
  | 4 => .array .int
  | 5 => .int
  | 6 => .object "ImplicationAlgebras$Subalgebra"
  | 7 => .int
  | 8 => .array .int
  | _ => .array .int
abbrev wsX60 : List Cond := u_ws RX6 TX6 10
theorem nmX6 : ∀ a, a < 10 → ∀ b, b < 10 → a ≠ b → (TX6 a).2.1 ≠ (TX6 b).2.1 := by decide +kernel
theorem tyX6_ok : ∀ k, k < 10 → parseFieldDescriptor (TX6 k).2.2.1 = some (tyX6 k) := by decide +kernel
def RX7 : String := "ImplicationAlgebrasModel"
def TX7 : u_T := fun k => match k with
  | 0 => ("ImplicationAlgebrasModel", "size", "[I", true)
  | 1 => ("ImplicationAlgebrasModel", "up", "[I", true)
  | 2 => ("ImplicationAlgebrasModel", "valued", "[I", true)
  | 3 => ("ImplicationAlgebrasModel", "elements", "[I", true)
  | 4 => ("ImplicationAlgebrasModel", "numberOf", "[I", true)
  | 5 => ("ImplicationAlgebrasModel", "elementMany", "I", false)
  | 6 => ("ImplicationAlgebrasModel", "text", "[I", true)
  | 7 => ("ImplicationAlgebrasModel", "length", "I", false)
  | 8 => ("ImplicationAlgebrasModel", "at", "I", false)
  | 9 => ("ImplicationAlgebrasModel", "formula", "[I", true)
  | 10 => ("ImplicationAlgebrasModel", "formulaSizes", "[I", true)
  | 11 => ("ImplicationAlgebrasModel", "made", "[I", true)
  | 12 => ("ImplicationAlgebrasModel", "pending", "[I", true)
  | 13 => ("ImplicationAlgebrasModel", "madeMany", "I", false)
  | 14 => ("ImplicationAlgebrasModel", "pendings", "I", false)
  | 15 => ("ImplicationAlgebrasModel", "open", "I", false)
  | 16 => ("ImplicationAlgebrasModel", "given", "[I", true)
  | 17 => ("ImplicationAlgebrasModel", "stack", "[I", true)
  | 18 => ("ImplicationAlgebrasModel", "occurring", "I", false)
  | 19 => ("ImplicationAlgebrasModel", "valuations", "I", false)
  | 20 => ("ImplicationAlgebrasModel", "generators", "[I", true)
  | 21 => ("ImplicationAlgebrasModel", "operator", "[I", true)
  | 22 => ("ImplicationAlgebrasModel", "left", "[I", true)
  | 23 => ("ImplicationAlgebrasModel", "right", "[I", true)
  | 24 => ("ImplicationAlgebrasModel", "cost", "[J", true)
  | 25 => ("ImplicationAlgebrasModel", "generatorMany", "I", false)
  | 26 => ("ImplicationAlgebrasModel", "foundMany", "I", false)
  | 27 => ("ImplicationAlgebrasModel", "map", "[I", true)
  | 28 => ("ImplicationAlgebrasModel", "rows", "[I", true)
  | 29 => ("ImplicationAlgebrasModel", "moved", "[I", true)
  | 30 => ("ImplicationAlgebrasModel", "rowType", "[I", true)
  | 31 => ("ImplicationAlgebrasModel", "rowLength", "[I", true)
  | _ => ("ImplicationAlgebrasModel", "failed", "I", false)
def tyX7 : Nat → FieldType := fun k => match k with
  | 0 => .array .int
  | 1 => .array .int
  | 2 => .array .int
  | 3 => .array .int
  | 4 => .array .int
  | 5 => .int
  | 6 => .array .int
  | 7 => .int
  | 8 => .int
  | 9 => .array .int
  | 10 => .array .int
  | 11 => .array .int
  | 12 => .array .int
  | 13 => .int
  | 14 => .int
  | 15 => .int
  | 16 => .array .int
  | 17 => .array .int
  | 18 => .int
  | 19 => .int
  | 20 => .array .int
  | 21 => .array .int
  | 22 => .array .int
  | 23 => .array .int
  | 24 => .array .long
  | 25 => .int
  | 26 => .int
  | 27 => .array .int
  | 28 => .array .int
  | 29 => .array .int
  | 30 => .array .int
  | 31 => .array .int
  | _ => .int
abbrev wsX70 : List Cond := u_ws RX7 TX7 33
theorem nmX7 : ∀ a, a < 33 → ∀ b, b < 33 → a ≠ b → (TX7 a).2.1 ≠ (TX7 b).2.1 := by decide +kernel
theorem tyX7_ok : ∀ k, k < 33 → parseFieldDescriptor (TX7 k).2.2.1 = some (tyX7 k) := by decide +kernel
abbrev vwCl : List vw_C := [(RX0, TX0, 4), (RX1, TX1, 6), (RX2, TX2, 7), (RX3, TX3, 3), (RX4, TX4, 8), (RX5, TX5, 9), (RX6, TX6, 10), (RX7, TX7, 33)]
end
section
abbrev En : Type := Nat × Instr × Nat
def E_F_init : List En := [(0, .aload 0, 1), (1, .invokespecial 9999, 3), (4, .aload 0, 1), (5, .iconst (.ofNat 0), 1), (6, .putfield 0, 3), (9, .aload 0, 1), (10, .iconst (.ofNat 60), 2), (12, .anewarray 0, 2), (14, .putfield 5, 3), (17, .aload 0, 1), (18, .iconst (.ofNat 5), 1), (19, .anewarray 0, 2), (21, .putfield 9, 3), (24, .aload 0, 1), (25, .iconst (.ofNat 60), 2), (27, .anewarray 0, 2), (29, .putfield 13, 3), (32, .return_, 1)]
def E_F_replaceSigns : List En := [(0, .aload 0, 1), (1, .iload 1, 1), (2, .putfield 0, 3), (5, .iconst (.ofNat 0), 1), (6, .istore 3, 1), (7, .iload 15, 0), (7, .iload 3, 1), (8, .iload 1, 1), (9, .if_icmp .ge (.ofNat 27), 3), (12, .aload 0, 1), (13, .getfield 5, 3), (16, .iload 3, 1), (17, .aload 2, 1), (18, .iload 3, 1), (19, .iaload, 1), (20, .iastore, 1), (21, .iinc 3 (.ofNat 1), 3), (24, .goto (.ofNat 7), 3), (27, .return_, 1)]
def E_F_isMissing : List En := [(0, .aload 0, 1), (1, .getfield 0, 3), (4, .ifCond .ne (.ofNat 11), 3), (7, .iconst (.ofNat 1), 1), (8, .goto (.ofNat 12), 3), (11, .iconst (.ofNat 0), 1), (12, .ireturn, 1)]
def E_F_occurrences : List En := [(0, .iconst (.ofNat 0), 1), (1, .istore 2, 1), (2, .iconst (.ofNat 0), 1), (3, .istore 3, 1), (4, .iload 15, 0), (4, .iload 3, 1), (5, .aload 0, 1), (6, .getfield 0, 3), (9, .if_icmp .ge (.ofNat 31), 3), (12, .aload 0, 1), (13, .getfield 5, 3), (16, .iload 3, 1), (17, .iaload, 1), (18, .iload 1, 1), (19, .if_icmp .ne (.ofNat 25), 3), (22, .iinc 2 (.ofNat 1), 3), (25, .iinc 3 (.ofNat 1), 3), (28, .goto (.ofNat 4), 3), (31, .iload 2, 1), (32, .ireturn, 1)]
def E_F_currentBits : List En := [(0, .iconst (.ofNat 0), 1), (1, .istore 2, 1), (2, .iload 7, 0), (2, .iload 2, 1), (3, .iconst (.ofNat 3), 1), (4, .if_icmp .ge (.ofNat 30), 3), (7, .aload 0, 1), (8, .getfield 9, 3), (11, .iload 2, 1), (12, .aload 1, 1), (13, .getfield 529, 3), (16, .aload 1, 1), (17, .getfield 537, 3), (20, .iload 2, 1), (21, .iaload, 1), (22, .iaload, 1), (23, .iastore, 1), (24, .iinc 2 (.ofNat 1), 3), (27, .goto (.ofNat 2), 3), (30, .aload 0, 1), (31, .aload 1, 1), (32, .invokevirtual 167945, 3), (35, .ireturn, 1)]
def E_F_bitsOfValue : List En := [(0, .aload 0, 1), (1, .getfield 9, 3), (4, .iconst (.ofNat 3), 1), (5, .iconst (.ofNat 0), 1), (6, .iastore, 1), (7, .aload 0, 1), (8, .getfield 9, 3), (11, .iconst (.ofNat 4), 1), (12, .aload 1, 1), (13, .invokevirtual 821505, 3), (16, .iastore, 1), (17, .iconst (.ofNat 0), 1), (18, .istore 2, 1), (19, .iconst (.ofNat 0), 1), (20, .istore 3, 1), (21, .iload 15, 0), (21, .iload 3, 1), (22, .aload 0, 1), (23, .getfield 0, 3), (26, .if_icmp .ge (.ofNat 139), 3), (29, .aload 0, 1), (30, .getfield 5, 3), (33, .iload 3, 1), (34, .iaload, 1), (35, .istore 4, 2), (37, .iload 4, 2), (39, .iconst (.ofNat 5), 1), (40, .if_icmp .ge (.ofNat 62), 3), (43, .aload 0, 1), (44, .getfield 13, 3), (47, .iload 2, 1), (48, .aload 0, 1), (49, .getfield 9, 3), (52, .iload 4, 2), (54, .iaload, 1), (55, .iastore, 1), (56, .iinc 2 (.ofNat 1), 3), (59, .goto (.ofNat 133), 3), (62, .iload 4, 2), (64, .iconst (.ofNat 8), 2), (66, .if_icmp .ne (.ofNat 97), 3), (69, .iload 2, 1), (70, .ifCond .le (.ofNat 97), 3), (73, .aload 0, 1), (74, .getfield 13, 3), (77, .iload 2, 1), (78, .iconst (.ofNat 1), 1), (79, .isub, 1), (80, .aload 1, 1), (81, .aload 0, 1), (82, .getfield 13, 3), (85, .iload 2, 1), (86, .iconst (.ofNat 1), 1), (87, .isub, 1), (88, .iaload, 1), (89, .iconst (.ofNat 0), 1), (90, .invokevirtual 1448209, 3), (93, .iastore, 1), (94, .goto (.ofNat 133), 3), (97, .iload 2, 1), (98, .iconst (.ofNat 1), 1), (99, .if_icmp .le (.ofNat 133), 3), (102, .iinc 2 (.negSucc 0), 3), (105, .aload 0, 1), (106, .getfield 13, 3), (109, .iload 2, 1), (110, .iconst (.ofNat 1), 1), (111, .isub, 1), (112, .aload 1, 1), (113, .iload 4, 2), (115, .aload 0, 1), (116, .getfield 13, 3), (119, .iload 2, 1), (120, .iconst (.ofNat 1), 1), (121, .isub, 1), (122, .iaload, 1), (123, .aload 0, 1), (124, .getfield 13, 3), (127, .iload 2, 1), (128, .iaload, 1), (129, .invokestatic 204833, 3), (132, .iastore, 1), (133, .iinc 3 (.ofNat 1), 3), (136, .goto (.ofNat 21), 3), (139, .iload 2, 1), (140, .ifCond .le (.ofNat 154), 3), (143, .aload 0, 1), (144, .getfield 13, 3), (147, .iload 2, 1), (148, .iconst (.ofNat 1), 1), (149, .isub, 1), (150, .iaload, 1), (151, .goto (.ofNat 155), 3), (154, .iconst (.ofNat 0), 1), (155, .ireturn, 1)]
def E_F_joined : List En := [(0, .iload 1, 1), (1, .iconst (.ofNat 7), 2), (3, .if_icmp .ne (.ofNat 10), 3), (6, .iload 2, 1), (7, .iload 3, 1), (8, .iand, 1), (9, .ireturn, 1), (10, .iload 1, 1), (11, .iconst (.ofNat 6), 2), (13, .if_icmp .ne (.ofNat 22), 3), (16, .iload 2, 1), (17, .iload 3, 1), (18, .ior, 1), (19, .goto (.ofNat 28), 3), (22, .aload 0, 1), (23, .iload 2, 1), (24, .iload 3, 1), (25, .invokevirtual 1448209, 3), (28, .ireturn, 1)]
def E_F_valuations : List En := [(0, .iconst (.ofNat 1), 1), (1, .istore 2, 1), (2, .iconst (.ofNat 0), 1), (3, .istore 3, 1), (4, .iload 15, 0), (4, .iload 3, 1), (5, .iconst (.ofNat 3), 1), (6, .if_icmp .ge (.ofNat 24), 3), (9, .iload 2, 1), (10, .aload 0, 1), (11, .aload 1, 1), (12, .iload 3, 1), (13, .invokevirtual 268305, 3), (16, .imul, 1), (17, .istore 2, 1), (18, .iinc 3 (.ofNat 1), 3), (21, .goto (.ofNat 4), 3), (24, .iload 2, 1), (25, .ireturn, 1)]
def E_F_choices : List En := [(0, .aload 0, 1), (1, .iload 2, 1), (2, .invokevirtual 102409, 3), (5, .ifCond .le (.ofNat 15), 3), (8, .aload 1, 1), (9, .getfield 524, 3), (12, .goto (.ofNat 16), 3), (15, .iconst (.ofNat 1), 1), (16, .ireturn, 1)]
def E_F_firstRefutation : List En := [(0, .aload 1, 1), (1, .invokevirtual 821505, 3), (4, .istore 2, 1), (5, .aload 0, 1), (6, .aload 1, 1), (7, .iconst (.ofNat 0), 1), (8, .invokevirtual 268305, 3), (11, .istore 3, 1), (12, .aload 0, 1), (13, .aload 1, 1), (14, .iconst (.ofNat 1), 1), (15, .invokevirtual 268305, 3), (18, .istore 4, 2), (20, .aload 0, 1), (21, .aload 1, 1), (22, .iconst (.ofNat 2), 1), (23, .invokevirtual 268305, 3), (26, .istore 5, 2), (28, .iconst (.ofNat 0), 1), (29, .istore 6, 2), (31, .iload 127, 0), (31, .iload 6, 2), (33, .iload 3, 1), (34, .if_icmp .ge (.ofNat 138), 3), (37, .aload 0, 1), (38, .getfield 9, 3), (41, .iconst (.ofNat 0), 1), (42, .aload 1, 1), (43, .getfield 529, 3), (46, .iload 6, 2), (48, .iaload, 1), (49, .iastore, 1), (50, .iconst (.ofNat 0), 1), (51, .istore 7, 2), (53, .iload 255, 0), (53, .iload 7, 2), (55, .iload 4, 2), (57, .if_icmp .ge (.ofNat 132), 3), (60, .aload 0, 1), (61, .getfield 9, 3), (64, .iconst (.ofNat 1), 1), (65, .aload 1, 1), (66, .getfield 529, 3), (69, .iload 7, 2), (71, .iaload, 1), (72, .iastore, 1), (73, .iconst (.ofNat 0), 1), (74, .istore 8, 2), (76, .iload 511, 0), (76, .iload 8, 2), (78, .iload 5, 2), (80, .if_icmp .ge (.ofNat 126), 3), (83, .aload 0, 1), (84, .getfield 9, 3), (87, .iconst (.ofNat 2), 1), (88, .aload 1, 1), (89, .getfield 529, 3), (92, .iload 8, 2), (94, .iaload, 1), (95, .iastore, 1), (96, .aload 0, 1), (97, .aload 1, 1), (98, .invokevirtual 167945, 3), (101, .iload 2, 1), (102, .if_icmp .eq (.ofNat 120), 3), (105, .iload 6, 2), (107, .iconst (.ofNat 64), 2), (109, .imul, 1), (110, .iload 7, 2), (112, .iadd, 1), (113, .iconst (.ofNat 64), 2), (115, .imul, 1), (116, .iload 8, 2), (118, .iadd, 1), (119, .ireturn, 1), (120, .iinc 8 (.ofNat 1), 3), (123, .goto (.ofNat 76), 3), (126, .iinc 7 (.ofNat 1), 3), (129, .goto (.ofNat 53), 3), (132, .iinc 6 (.ofNat 1), 3), (135, .goto (.ofNat 31), 3), (138, .iconst (.negSucc 5), 2), (140, .ireturn, 1)]
def E_F_unpack : List En := [(0, .iload 0, 1), (1, .istore 2, 1), (2, .iconst (.ofNat 2), 1), (3, .istore 3, 1), (4, .iload 14, 0), (4, .iload 3, 1), (5, .iload 1, 1), (6, .if_icmp .le (.ofNat 20), 3), (9, .iload 2, 1), (10, .iconst (.ofNat 64), 2), (12, .idiv, 1), (13, .istore 2, 1), (14, .iinc 3 (.negSucc 0), 3), (17, .goto (.ofNat 4), 3), (20, .iload 2, 1), (21, .iconst (.ofNat 64), 2), (23, .irem, 1), (24, .ireturn, 1)]
def E_F_valuationsWith : List En := [(0, .iconst (.ofNat 0), 1), (1, .istore 3, 1), (2, .aload 0, 1), (3, .aload 1, 1), (4, .iconst (.ofNat 0), 1), (5, .invokevirtual 268305, 3), (8, .istore 4, 2), (10, .aload 0, 1), (11, .aload 1, 1), (12, .iconst (.ofNat 1), 1), (13, .invokevirtual 268305, 3), (16, .istore 5, 2), (18, .aload 0, 1), (19, .aload 1, 1), (20, .iconst (.ofNat 2), 1), (21, .invokevirtual 268305, 3), (24, .istore 6, 2), (26, .iconst (.ofNat 0), 1), (27, .istore 7, 2), (29, .iload 255, 0), (29, .iload 7, 2), (31, .iload 4, 2), (33, .if_icmp .ge (.ofNat 125), 3), (36, .aload 0, 1), (37, .getfield 9, 3), (40, .iconst (.ofNat 0), 1), (41, .aload 1, 1), (42, .getfield 529, 3), (45, .iload 7, 2), (47, .iaload, 1), (48, .iastore, 1), (49, .iconst (.ofNat 0), 1), (50, .istore 8, 2), (52, .iload 511, 0), (52, .iload 8, 2), (54, .iload 5, 2), (56, .if_icmp .ge (.ofNat 119), 3), (59, .aload 0, 1), (60, .getfield 9, 3), (63, .iconst (.ofNat 1), 1), (64, .aload 1, 1), (65, .getfield 529, 3), (68, .iload 8, 2), (70, .iaload, 1), (71, .iastore, 1), (72, .iconst (.ofNat 0), 1), (73, .istore 9, 2), (75, .iload 1023, 0), (75, .iload 9, 2), (77, .iload 6, 2), (79, .if_icmp .ge (.ofNat 113), 3), (82, .aload 0, 1), (83, .getfield 9, 3), (86, .iconst (.ofNat 2), 1), (87, .aload 1, 1), (88, .getfield 529, 3), (91, .iload 9, 2), (93, .iaload, 1), (94, .iastore, 1), (95, .aload 0, 1), (96, .aload 1, 1), (97, .invokevirtual 167945, 3), (100, .iload 2, 1), (101, .if_icmp .ne (.ofNat 107), 3), (104, .iinc 3 (.ofNat 1), 3), (107, .iinc 9 (.ofNat 1), 3), (110, .goto (.ofNat 75), 3), (113, .iinc 8 (.ofNat 1), 3), (116, .goto (.ofNat 52), 3), (119, .iinc 7 (.ofNat 1), 3), (122, .goto (.ofNat 29), 3), (125, .iload 3, 1), (126, .ireturn, 1)]
def E_S_init : List En := [(0, .aload 0, 1), (1, .invokespecial 9999, 3), (4, .aload 0, 1), (5, .iconst (.ofNat 6), 2), (7, .anewarray 0, 2), (9, .putfield 273, 3), (12, .aload 0, 1), (13, .iconst (.ofNat 0), 1), (14, .putfield 276, 3), (17, .aload 0, 1), (18, .aload 1, 1), (19, .putfield 257, 3), (22, .aload 0, 1), (23, .aload 2, 1), (24, .putfield 261, 3), (27, .aload 0, 1), (28, .iload 3, 1), (29, .putfield 264, 3), (32, .aload 0, 1), (33, .iload 4, 2), (35, .putfield 270, 3), (38, .return_, 1)]
def E_S_countIfAccepted : List En := [(0, .aload 0, 1), (1, .getfield 264, 3), (4, .iconst (.ofNat 1), 1), (5, .if_icmp .eq (.ofNat 16), 3), (8, .aload 0, 1), (9, .getfield 264, 3), (12, .iconst (.ofNat 2), 1), (13, .if_icmp .ne (.ofNat 20), 3), (16, .iconst (.ofNat 1), 1), (17, .goto (.ofNat 21), 3), (20, .iconst (.ofNat 0), 1), (21, .istore 1, 1), (22, .iload 1, 1), (23, .ifCond .eq (.ofNat 34), 3), (26, .aload 0, 1), (27, .invokevirtual 460929, 3), (30, .ifCond .ne (.ofNat 34), 3), (33, .return_, 1), (34, .aload 0, 1), (35, .getfield 264, 3), (38, .iconst (.ofNat 2), 1), (39, .if_icmp .ne (.ofNat 64), 3), (42, .aload 0, 1), (43, .aload 0, 1), (44, .getfield 257, 3), (47, .invokevirtual 821505, 3), (50, .invokevirtual 495753, 3), (53, .aload 0, 1), (54, .getfield 261, 3), (57, .invokevirtual 821505, 3), (60, .if_icmp .eq (.ofNat 64), 3), (63, .return_, 1), (64, .aload 0, 1), (65, .dup, 1), (66, .getfield 276, 3), (69, .iconst (.ofNat 1), 1), (70, .iadd, 1), (71, .putfield 276, 3), (74, .return_, 1)]
def E_S_isBounded : List En := [(0, .iconst (.ofNat 0), 1), (1, .istore 1, 1), (2, .iload 3, 0), (2, .iload 1, 1), (3, .aload 0, 1), (4, .getfield 257, 3), (7, .getfield 512, 3), (10, .if_icmp .ge (.ofNat 54), 3), (13, .aload 0, 1), (14, .getfield 261, 3), (17, .getfield 517, 3), (20, .aload 0, 1), (21, .getfield 273, 3), (24, .iload 1, 1), (25, .iaload, 1), (26, .iaload, 1), (27, .aload 0, 1), (28, .aload 0, 1), (29, .getfield 257, 3), (32, .getfield 517, 3), (35, .iload 1, 1), (36, .iaload, 1), (37, .invokevirtual 495753, 3), (40, .iconst (.negSucc 0), 1), (41, .ixor, 1), (42, .iand, 1), (43, .ifCond .eq (.ofNat 48), 3), (46, .iconst (.ofNat 0), 1), (47, .ireturn, 1), (48, .iinc 1 (.ofNat 1), 3), (51, .goto (.ofNat 2), 3), (54, .iconst (.ofNat 1), 1), (55, .ireturn, 1)]
def E_S_imagesOf : List En := [(0, .iconst (.ofNat 0), 1), (1, .istore 2, 1), (2, .iconst (.ofNat 0), 1), (3, .istore 3, 1), (4, .iload 15, 0), (4, .iload 3, 1), (5, .aload 0, 1), (6, .getfield 257, 3), (9, .getfield 512, 3), (12, .if_icmp .ge (.ofNat 40), 3), (15, .iload 1, 1), (16, .iload 3, 1), (17, .ishr, 1), (18, .iconst (.ofNat 1), 1), (19, .iand, 1), (20, .ifCond .eq (.ofNat 34), 3), (23, .iload 2, 1), (24, .iconst (.ofNat 1), 1), (25, .aload 0, 1), (26, .getfield 273, 3), (29, .iload 3, 1), (30, .iaload, 1), (31, .ishl, 1), (32, .ior, 1), (33, .istore 2, 1), (34, .iinc 3 (.ofNat 1), 3), (37, .goto (.ofNat 4), 3), (40, .iload 2, 1), (41, .ireturn, 1)]
def E_S_fitsEarlier : List En := [(0, .iconst (.ofNat 0), 1), (1, .istore 2, 1), (2, .iload 7, 0), (2, .iload 2, 1), (3, .iload 1, 1), (4, .if_icmp .ge (.ofNat 33), 3), (7, .aload 0, 1), (8, .iload 2, 1), (9, .iload 1, 1), (10, .invokevirtual 563345, 3), (13, .ifCond .eq (.ofNat 25), 3), (16, .aload 0, 1), (17, .iload 1, 1), (18, .iload 2, 1), (19, .invokevirtual 563345, 3), (22, .ifCond .ne (.ofNat 27), 3), (25, .iconst (.ofNat 0), 1), (26, .ireturn, 1), (27, .iinc 2 (.ofNat 1), 3), (30, .goto (.ofNat 2), 3), (33, .iconst (.ofNat 1), 1), (34, .ireturn, 1)]
def E_S_fitsOneWay : List En := [(0, .aload 0, 1), (1, .getfield 257, 3), (4, .iload 1, 1), (5, .iload 2, 1), (6, .invokevirtual 760081, 3), (9, .istore 3, 1), (10, .aload 0, 1), (11, .getfield 261, 3), (14, .aload 0, 1), (15, .getfield 273, 3), (18, .iload 1, 1), (19, .iaload, 1), (20, .aload 0, 1), (21, .getfield 273, 3), (24, .iload 2, 1), (25, .iaload, 1), (26, .invokevirtual 760081, 3), (29, .istore 4, 2), (31, .aload 0, 1), (32, .getfield 264, 3), (35, .iconst (.ofNat 3), 1), (36, .if_icmp .ne (.ofNat 53), 3), (39, .iload 3, 1), (40, .iload 4, 2), (42, .if_icmp .ne (.ofNat 49), 3), (45, .iconst (.ofNat 1), 1), (46, .goto (.ofNat 67), 3), (49, .iconst (.ofNat 0), 1), (50, .goto (.ofNat 67), 3), (53, .iload 3, 1), (54, .ifCond .eq (.ofNat 62), 3), (57, .iload 4, 2), (59, .ifCond .eq (.ofNat 66), 3), (62, .iconst (.ofNat 1), 1), (63, .goto (.ofNat 67), 3), (66, .iconst (.ofNat 0), 1), (67, .ireturn, 1)]
def E_S_digits : List En := [(0, .iconst (.ofNat 0), 1), (1, .istore 1, 1), (2, .iconst (.ofNat 0), 1), (3, .istore 2, 1), (4, .iload 7, 0), (4, .iload 2, 1), (5, .aload 0, 1), (6, .getfield 257, 3), (9, .getfield 512, 3), (12, .if_icmp .ge (.ofNat 33), 3), (15, .iload 1, 1), (16, .iconst (.ofNat 10), 2), (18, .imul, 1), (19, .aload 0, 1), (20, .getfield 273, 3), (23, .iload 2, 1), (24, .iaload, 1), (25, .iadd, 1), (26, .istore 1, 1), (27, .iinc 2 (.ofNat 1), 3), (30, .goto (.ofNat 4), 3), (33, .iload 1, 1), (34, .ireturn, 1)]
def E_P_init : List En := [(0, .aload 0, 1), (1, .invokespecial 9999, 3), (4, .aload 0, 1), (5, .iconst (.ofNat 6), 2), (7, .anewarray 0, 2), (9, .putfield 517, 3), (12, .aload 0, 1), (13, .iconst (.ofNat 64), 2), (15, .anewarray 0, 2), (17, .putfield 521, 3), (20, .aload 0, 1), (21, .iconst (.ofNat 64), 2), (23, .anewarray 0, 2), (25, .putfield 529, 3), (28, .aload 0, 1), (29, .iconst (.ofNat 64), 2), (31, .anewarray 0, 2), (33, .putfield 533, 3), (36, .aload 0, 1), (37, .iconst (.ofNat 3), 1), (38, .anewarray 0, 2), (40, .putfield 537, 3), (43, .aload 0, 1), (44, .iconst (.ofNat 1), 1), (45, .putfield 512, 3), (48, .aload 0, 1), (49, .getfield 517, 3), (52, .iconst (.ofNat 0), 1), (53, .iconst (.ofNat 1), 1), (54, .iastore, 1), (55, .aload 0, 1), (56, .invokevirtual 657664, 3), (59, .return_, 1)]
def E_P_refresh : List En := [(0, .aload 0, 1), (1, .invokevirtual 690432, 3), (4, .aload 0, 1), (5, .invokevirtual 788736, 3), (8, .iconst (.ofNat 0), 1), (9, .istore 1, 1), (10, .iload 3, 0), (10, .iload 1, 1), (11, .iconst (.ofNat 3), 1), (12, .if_icmp .ge (.ofNat 28), 3), (15, .aload 0, 1), (16, .getfield 537, 3), (19, .iload 1, 1), (20, .iconst (.ofNat 0), 1), (21, .iastore, 1), (22, .iinc 1 (.ofNat 1), 3), (25, .goto (.ofNat 10), 3), (28, .return_, 1)]
def E_P_findDownSets : List En := [(0, .aload 0, 1), (1, .getfield 521, 3), (4, .iconst (.ofNat 0), 1), (5, .iconst (.ofNat 0), 1), (6, .iastore, 1), (7, .iconst (.ofNat 0), 1), (8, .istore 1, 1), (9, .iload 3, 0), (9, .iload 1, 1), (10, .aload 0, 1), (11, .getfield 512, 3), (14, .if_icmp .ge (.ofNat 66), 3), (17, .aload 0, 1), (18, .iload 1, 1), (19, .invokevirtual 725257, 3), (22, .istore 2, 1), (23, .iconst (.ofNat 1), 1), (24, .iload 1, 1), (25, .ishl, 1), (26, .istore 3, 1), (27, .iconst (.ofNat 0), 1), (28, .istore 4, 2), (30, .iload 31, 0), (30, .iload 4, 2), (32, .iload 3, 1), (33, .if_icmp .ge (.ofNat 60), 3), (36, .aload 0, 1), (37, .getfield 521, 3), (40, .iload 4, 2), (42, .iload 3, 1), (43, .ior, 1), (44, .aload 0, 1), (45, .getfield 521, 3), (48, .iload 4, 2), (50, .iaload, 1), (51, .iload 2, 1), (52, .ior, 1), (53, .iastore, 1), (54, .iinc 4 (.ofNat 1), 3), (57, .goto (.ofNat 30), 3), (60, .iinc 1 (.ofNat 1), 3), (63, .goto (.ofNat 9), 3), (66, .return_, 1)]
def E_P_pointsBelow : List En := [(0, .iconst (.ofNat 0), 1), (1, .istore 2, 1), (2, .iconst (.ofNat 0), 1), (3, .istore 3, 1), (4, .iload 15, 0), (4, .iload 3, 1), (5, .aload 0, 1), (6, .getfield 512, 3), (9, .if_icmp .ge (.ofNat 33), 3), (12, .aload 0, 1), (13, .iload 3, 1), (14, .iload 1, 1), (15, .invokevirtual 760081, 3), (18, .ifCond .eq (.ofNat 27), 3), (21, .iload 2, 1), (22, .iconst (.ofNat 1), 1), (23, .iload 3, 1), (24, .ishl, 1), (25, .ior, 1), (26, .istore 2, 1), (27, .iinc 3 (.ofNat 1), 3), (30, .goto (.ofNat 4), 3), (33, .iload 2, 1), (34, .ireturn, 1)]
def E_P_below : List En := [(0, .aload 0, 1), (1, .getfield 517, 3), (4, .iload 1, 1), (5, .iaload, 1), (6, .iload 2, 1), (7, .ishr, 1), (8, .iconst (.ofNat 1), 1), (9, .iand, 1), (10, .ifCond .eq (.ofNat 17), 3), (13, .iconst (.ofNat 1), 1), (14, .goto (.ofNat 18), 3), (17, .iconst (.ofNat 0), 1), (18, .ireturn, 1)]
def E_P_findElements : List En := [(0, .aload 0, 1), (1, .iconst (.ofNat 0), 1), (2, .putfield 524, 3), (5, .iconst (.ofNat 0), 1), (6, .istore 1, 1), (7, .iload 3, 0), (7, .iload 1, 1), (8, .aload 0, 1), (9, .getfield 512, 3), (12, .if_icmp .gt (.ofNat 50), 3), (15, .iconst (.ofNat 0), 1), (16, .istore 2, 1), (17, .iload 7, 0), (17, .iload 2, 1), (18, .aload 0, 1), (19, .invokevirtual 821505, 3), (22, .if_icmp .gt (.ofNat 44), 3), (25, .iload 2, 1), (26, .invokestatic 7311241, 3), (29, .iload 1, 1), (30, .if_icmp .ne (.ofNat 38), 3), (33, .aload 0, 1), (34, .iload 2, 1), (35, .invokevirtual 856328, 3), (38, .iinc 2 (.ofNat 1), 3), (41, .goto (.ofNat 17), 3), (44, .iinc 1 (.ofNat 1), 3), (47, .goto (.ofNat 7), 3), (50, .return_, 1)]
def E_P_allPoints : List En := [(0, .iconst (.ofNat 1), 1), (1, .aload 0, 1), (2, .getfield 512, 3), (5, .ishl, 1), (6, .iconst (.ofNat 1), 1), (7, .isub, 1), (8, .ireturn, 1)]
def E_P_numberSet : List En := [(0, .aload 0, 1), (1, .getfield 521, 3), (4, .aload 0, 1), (5, .invokevirtual 821505, 3), (8, .iload 1, 1), (9, .iconst (.negSucc 0), 1), (10, .ixor, 1), (11, .iand, 1), (12, .iaload, 1), (13, .iload 1, 1), (14, .iand, 1), (15, .ifCond .ne (.ofNat 22), 3), (18, .iconst (.ofNat 1), 1), (19, .goto (.ofNat 23), 3), (22, .iconst (.ofNat 0), 1), (23, .istore 2, 1), (24, .aload 0, 1), (25, .getfield 533, 3), (28, .iload 1, 1), (29, .iload 2, 1), (30, .ifCond .eq (.ofNat 40), 3), (33, .aload 0, 1), (34, .getfield 524, 3), (37, .goto (.ofNat 42), 3), (40, .iconst (.negSucc 5), 2), (42, .iastore, 1), (43, .iload 2, 1), (44, .ifCond .eq (.ofNat 67), 3), (47, .aload 0, 1), (48, .getfield 529, 3), (51, .aload 0, 1), (52, .getfield 524, 3), (55, .iload 1, 1), (56, .iastore, 1), (57, .aload 0, 1), (58, .dup, 1), (59, .getfield 524, 3), (62, .iconst (.ofNat 1), 1), (63, .iadd, 1), (64, .putfield 524, 3), (67, .return_, 1)]
def E_P_replaceOrder : List En := [(0, .aload 0, 1), (1, .iload 1, 1), (2, .putfield 512, 3), (5, .iconst (.ofNat 0), 1), (6, .istore 3, 1), (7, .iload 15, 0), (7, .iload 3, 1), (8, .iload 1, 1), (9, .if_icmp .ge (.ofNat 27), 3), (12, .aload 0, 1), (13, .getfield 517, 3), (16, .iload 3, 1), (17, .aload 2, 1), (18, .iload 3, 1), (19, .iaload, 1), (20, .iastore, 1), (21, .iinc 3 (.ofNat 1), 3), (24, .goto (.ofNat 7), 3), (27, .aload 0, 1), (28, .invokevirtual 657664, 3), (31, .return_, 1)]
def E_P_extendOrder : List En := [(0, .aload 0, 1), (1, .iload 1, 1), (2, .invokevirtual 954633, 3), (5, .ifCond .eq (.ofNat 16), 3), (8, .aload 0, 1), (9, .iload 2, 1), (10, .invokevirtual 954633, 3), (13, .ifCond .ne (.ofNat 18), 3), (16, .iconst (.negSucc 0), 1), (17, .ireturn, 1), (18, .iload 1, 1), (19, .iload 2, 1), (20, .if_icmp .eq (.ofNat 35), 3), (23, .aload 0, 1), (24, .iload 2, 1), (25, .iload 1, 1), (26, .invokevirtual 760081, 3), (29, .ifCond .eq (.ofNat 35), 3), (32, .iconst (.negSucc 3), 2), (34, .ireturn, 1), (35, .iconst (.ofNat 0), 1), (36, .istore 3, 1), (37, .iload 15, 0), (37, .iload 3, 1), (38, .aload 0, 1), (39, .getfield 512, 3), (42, .if_icmp .ge (.ofNat 75), 3), (45, .aload 0, 1), (46, .iload 3, 1), (47, .iload 1, 1), (48, .invokevirtual 760081, 3), (51, .ifCond .eq (.ofNat 69), 3), (54, .aload 0, 1), (55, .getfield 517, 3), (58, .iload 3, 1), (59, .dup2, 1), (60, .iaload, 1), (61, .aload 0, 1), (62, .getfield 517, 3), (65, .iload 2, 1), (66, .iaload, 1), (67, .ior, 1), (68, .iastore, 1), (69, .iinc 3 (.ofNat 1), 3), (72, .goto (.ofNat 37), 3), (75, .aload 0, 1), (76, .invokevirtual 657664, 3), (79, .aload 0, 1), (80, .invokevirtual 985345, 3), (83, .ireturn, 1)]
def E_P_hasPoint : List En := [(0, .iload 1, 1), (1, .ifCond .lt (.ofNat 16), 3), (4, .iload 1, 1), (5, .aload 0, 1), (6, .getfield 512, 3), (9, .if_icmp .ge (.ofNat 16), 3), (12, .iconst (.ofNat 1), 1), (13, .goto (.ofNat 17), 3), (16, .iconst (.ofNat 0), 1), (17, .ireturn, 1)]
def E_P_properPairs : List En := [(0, .iconst (.ofNat 0), 1), (1, .istore 1, 1), (2, .iconst (.ofNat 0), 1), (3, .istore 2, 1), (4, .iload 7, 0), (4, .iload 2, 1), (5, .aload 0, 1), (6, .getfield 512, 3), (9, .if_icmp .ge (.ofNat 29), 3), (12, .iload 1, 1), (13, .aload 0, 1), (14, .iload 2, 1), (15, .invokevirtual 1020169, 3), (18, .invokestatic 7311241, 3), (21, .iadd, 1), (22, .istore 1, 1), (23, .iinc 2 (.ofNat 1), 3), (26, .goto (.ofNat 4), 3), (29, .iload 1, 1), (30, .ireturn, 1)]
def E_P_greaterPoints : List En := [(0, .aload 0, 1), (1, .getfield 517, 3), (4, .iload 1, 1), (5, .iaload, 1), (6, .iconst (.ofNat 1), 1), (7, .iload 1, 1), (8, .ishl, 1), (9, .iconst (.negSucc 0), 1), (10, .ixor, 1), (11, .iand, 1), (12, .ireturn, 1)]
def E_P_coversOf : List En := [(0, .aload 0, 1), (1, .iload 1, 1), (2, .invokevirtual 1020169, 3), (5, .istore 2, 1), (6, .iload 2, 1), (7, .istore 3, 1), (8, .iconst (.ofNat 0), 1), (9, .istore 4, 2), (11, .iload 29, 0), (11, .iload 4, 2), (13, .aload 0, 1), (14, .getfield 512, 3), (17, .if_icmp .ge (.ofNat 46), 3), (20, .iload 2, 1), (21, .iload 4, 2), (23, .ishr, 1), (24, .iconst (.ofNat 1), 1), (25, .iand, 1), (26, .ifCond .eq (.ofNat 40), 3), (29, .iload 3, 1), (30, .aload 0, 1), (31, .iload 4, 2), (33, .invokevirtual 1020169, 3), (36, .iconst (.negSucc 0), 1), (37, .ixor, 1), (38, .iand, 1), (39, .istore 3, 1), (40, .iinc 4 (.ofNat 1), 3), (43, .goto (.ofNat 11), 3), (46, .iload 3, 1), (47, .ireturn, 1)]
def E_P_largestChain : List En := [(0, .iconst (.ofNat 0), 1), (1, .istore 1, 1), (2, .iconst (.ofNat 0), 1), (3, .istore 2, 1), (4, .iload 7, 0), (4, .iload 2, 1), (5, .aload 0, 1), (6, .invokevirtual 821505, 3), (9, .if_icmp .gt (.ofNat 35), 3), (12, .aload 0, 1), (13, .iload 2, 1), (14, .invokevirtual 1118473, 3), (17, .ifCond .eq (.ofNat 29), 3), (20, .iload 1, 1), (21, .iload 2, 1), (22, .invokestatic 7311241, 3), (25, .invokestatic 9997, 3), (28, .istore 1, 1), (29, .iinc 2 (.ofNat 1), 3), (32, .goto (.ofNat 4), 3), (35, .iload 1, 1), (36, .ireturn, 1)]
def E_P_isChain : List En := [(0, .iconst (.ofNat 0), 1), (1, .istore 2, 1), (2, .iload 7, 0), (2, .iload 2, 1), (3, .aload 0, 1), (4, .getfield 512, 3), (7, .if_icmp .ge (.ofNat 38), 3), (10, .iload 1, 1), (11, .iload 2, 1), (12, .ishr, 1), (13, .iconst (.ofNat 1), 1), (14, .iand, 1), (15, .ifCond .eq (.ofNat 32), 3), (18, .iload 1, 1), (19, .aload 0, 1), (20, .iload 2, 1), (21, .invokevirtual 1151241, 3), (24, .iconst (.negSucc 0), 1), (25, .ixor, 1), (26, .iand, 1), (27, .ifCond .eq (.ofNat 32), 3), (30, .iconst (.ofNat 0), 1), (31, .ireturn, 1), (32, .iinc 2 (.ofNat 1), 3), (35, .goto (.ofNat 2), 3), (38, .iconst (.ofNat 1), 1), (39, .ireturn, 1)]
def E_P_relatedPoints : List En := [(0, .aload 0, 1), (1, .getfield 517, 3), (4, .iload 1, 1), (5, .iaload, 1), (6, .aload 0, 1), (7, .getfield 521, 3), (10, .iconst (.ofNat 1), 1), (11, .iload 1, 1), (12, .ishl, 1), (13, .iaload, 1), (14, .ior, 1), (15, .ireturn, 1)]
def E_P_largestAntichain : List En := [(0, .iconst (.ofNat 0), 1), (1, .istore 1, 1), (2, .iconst (.ofNat 0), 1), (3, .istore 2, 1), (4, .iload 7, 0), (4, .iload 2, 1), (5, .aload 0, 1), (6, .invokevirtual 821505, 3), (9, .if_icmp .gt (.ofNat 35), 3), (12, .aload 0, 1), (13, .iload 2, 1), (14, .invokevirtual 1216777, 3), (17, .ifCond .eq (.ofNat 29), 3), (20, .iload 1, 1), (21, .iload 2, 1), (22, .invokestatic 7311241, 3), (25, .invokestatic 9997, 3), (28, .istore 1, 1), (29, .iinc 2 (.ofNat 1), 3), (32, .goto (.ofNat 4), 3), (35, .iload 1, 1), (36, .ireturn, 1)]
def E_P_isAntichain : List En := [(0, .iconst (.ofNat 0), 1), (1, .istore 2, 1), (2, .iload 7, 0), (2, .iload 2, 1), (3, .aload 0, 1), (4, .getfield 512, 3), (7, .if_icmp .ge (.ofNat 36), 3), (10, .iload 1, 1), (11, .iload 2, 1), (12, .ishr, 1), (13, .iconst (.ofNat 1), 1), (14, .iand, 1), (15, .ifCond .eq (.ofNat 30), 3), (18, .iload 1, 1), (19, .aload 0, 1), (20, .iload 2, 1), (21, .invokevirtual 1020169, 3), (24, .iand, 1), (25, .ifCond .eq (.ofNat 30), 3), (28, .iconst (.ofNat 0), 1), (29, .ireturn, 1), (30, .iinc 2 (.ofNat 1), 3), (33, .goto (.ofNat 2), 3), (36, .iconst (.ofNat 1), 1), (37, .ireturn, 1)]
def E_P_minimalPoints : List En := [(0, .iconst (.ofNat 0), 1), (1, .istore 1, 1), (2, .iconst (.ofNat 0), 1), (3, .istore 2, 1), (4, .iload 7, 0), (4, .iload 2, 1), (5, .aload 0, 1), (6, .getfield 512, 3), (9, .if_icmp .ge (.ofNat 35), 3), (12, .aload 0, 1), (13, .getfield 521, 3), (16, .iconst (.ofNat 1), 1), (17, .iload 2, 1), (18, .ishl, 1), (19, .iaload, 1), (20, .iconst (.ofNat 1), 1), (21, .iload 2, 1), (22, .ishl, 1), (23, .if_icmp .ne (.ofNat 29), 3), (26, .iinc 1 (.ofNat 1), 3), (29, .iinc 2 (.ofNat 1), 3), (32, .goto (.ofNat 4), 3), (35, .iload 1, 1), (36, .ireturn, 1)]
def E_P_maximalPoints : List En := [(0, .iconst (.ofNat 0), 1), (1, .istore 1, 1), (2, .iconst (.ofNat 0), 1), (3, .istore 2, 1), (4, .iload 7, 0), (4, .iload 2, 1), (5, .aload 0, 1), (6, .getfield 512, 3), (9, .if_icmp .ge (.ofNat 33), 3), (12, .aload 0, 1), (13, .getfield 517, 3), (16, .iload 2, 1), (17, .iaload, 1), (18, .iconst (.ofNat 1), 1), (19, .iload 2, 1), (20, .ishl, 1), (21, .if_icmp .ne (.ofNat 27), 3), (24, .iinc 1 (.ofNat 1), 3), (27, .iinc 2 (.ofNat 1), 3), (30, .goto (.ofNat 4), 3), (33, .iload 1, 1), (34, .ireturn, 1)]
def E_P_components : List En := [(0, .iconst (.ofNat 0), 1), (1, .istore 1, 1), (2, .iconst (.ofNat 0), 1), (3, .istore 2, 1), (4, .iconst (.ofNat 0), 1), (5, .istore 3, 1), (6, .iload 15, 0), (6, .iload 3, 1), (7, .aload 0, 1), (8, .getfield 512, 3), (11, .if_icmp .ge (.ofNat 39), 3), (14, .iload 2, 1), (15, .iload 3, 1), (16, .ishr, 1), (17, .iconst (.ofNat 1), 1), (18, .iand, 1), (19, .ifCond .ne (.ofNat 33), 3), (22, .iload 2, 1), (23, .aload 0, 1), (24, .iload 3, 1), (25, .invokevirtual 1347849, 3), (28, .ior, 1), (29, .istore 2, 1), (30, .iinc 1 (.ofNat 1), 3), (33, .iinc 3 (.ofNat 1), 3), (36, .goto (.ofNat 6), 3), (39, .iload 1, 1), (40, .ireturn, 1)]
def E_P_componentOf : List En := [(0, .iconst (.ofNat 1), 1), (1, .iload 1, 1), (2, .ishl, 1), (3, .istore 2, 1), (4, .iconst (.ofNat 1), 1), (5, .istore 3, 1), (6, .iload 13, 0), (6, .iload 3, 1), (7, .aload 0, 1), (8, .getfield 512, 3), (11, .if_icmp .ge (.ofNat 64), 3), (14, .iload 2, 1), (15, .istore 4, 2), (17, .iconst (.ofNat 0), 1), (18, .istore 5, 2), (20, .iload 61, 0), (20, .iload 5, 2), (22, .aload 0, 1), (23, .getfield 512, 3), (26, .if_icmp .ge (.ofNat 55), 3), (29, .iload 2, 1), (30, .iload 5, 2), (32, .ishr, 1), (33, .iconst (.ofNat 1), 1), (34, .iand, 1), (35, .ifCond .eq (.ofNat 49), 3), (38, .iload 4, 2), (40, .aload 0, 1), (41, .iload 5, 2), (43, .invokevirtual 1151241, 3), (46, .ior, 1), (47, .istore 4, 2), (49, .iinc 5 (.ofNat 1), 3), (52, .goto (.ofNat 20), 3), (55, .iload 4, 2), (57, .istore 2, 1), (58, .iinc 3 (.ofNat 1), 3), (61, .goto (.ofNat 6), 3), (64, .iload 2, 1), (65, .ireturn, 1)]
def E_P_hasElement : List En := [(0, .iload 1, 1), (1, .ifCond .lt (.ofNat 16), 3), (4, .iload 1, 1), (5, .aload 0, 1), (6, .getfield 524, 3), (9, .if_icmp .ge (.ofNat 16), 3), (12, .iconst (.ofNat 1), 1), (13, .goto (.ofNat 17), 3), (16, .iconst (.ofNat 0), 1), (17, .ireturn, 1)]
def E_P_resultOf : List En := [(0, .aload 0, 1), (1, .getfield 529, 3), (4, .iload 2, 1), (5, .iaload, 1), (6, .istore 4, 2), (8, .aload 0, 1), (9, .getfield 529, 3), (12, .iload 3, 1), (13, .iaload, 1), (14, .istore 5, 2), (16, .iload 1, 1), (17, .ifCond .ne (.ofNat 31), 3), (20, .aload 0, 1), (21, .getfield 533, 3), (24, .iload 4, 2), (26, .iload 5, 2), (28, .iand, 1), (29, .iaload, 1), (30, .ireturn, 1), (31, .aload 0, 1), (32, .getfield 533, 3), (35, .iload 1, 1), (36, .iconst (.ofNat 1), 1), (37, .if_icmp .ne (.ofNat 48), 3), (40, .iload 4, 2), (42, .iload 5, 2), (44, .ior, 1), (45, .goto (.ofNat 56), 3), (48, .aload 0, 1), (49, .iload 4, 2), (51, .iload 5, 2), (53, .invokevirtual 1448209, 3), (56, .iaload, 1), (57, .ireturn, 1)]
def E_P_implication : List En := [(0, .aload 0, 1), (1, .invokevirtual 821505, 3), (4, .istore 3, 1), (5, .iload 3, 1), (6, .aload 0, 1), (7, .getfield 521, 3), (10, .iload 3, 1), (11, .iload 1, 1), (12, .iand, 1), (13, .iload 2, 1), (14, .iconst (.negSucc 0), 1), (15, .ixor, 1), (16, .iand, 1), (17, .iaload, 1), (18, .iconst (.negSucc 0), 1), (19, .ixor, 1), (20, .iand, 1), (21, .ireturn, 1)]
def E_P_elementsWithin : List En := [(0, .iconst (.ofNat 0), 1), (1, .istore 2, 1), (2, .iconst (.ofNat 0), 1), (3, .istore 3, 1), (4, .iload 15, 0), (4, .iload 3, 1), (5, .aload 0, 1), (6, .getfield 524, 3), (9, .if_icmp .ge (.ofNat 34), 3), (12, .aload 0, 1), (13, .getfield 529, 3), (16, .iload 3, 1), (17, .iaload, 1), (18, .iload 1, 1), (19, .iconst (.negSucc 0), 1), (20, .ixor, 1), (21, .iand, 1), (22, .ifCond .ne (.ofNat 28), 3), (25, .iinc 2 (.ofNat 1), 3), (28, .iinc 3 (.ofNat 1), 3), (31, .goto (.ofNat 4), 3), (34, .iload 2, 1), (35, .ireturn, 1)]
def E_P_hasLeastPoint : List En := [(0, .iconst (.ofNat 0), 1), (1, .istore 2, 1), (2, .iload 7, 0), (2, .iload 2, 1), (3, .aload 0, 1), (4, .getfield 512, 3), (7, .if_icmp .ge (.ofNat 28), 3), (10, .aload 0, 1), (11, .getfield 517, 3), (14, .iload 2, 1), (15, .iaload, 1), (16, .iload 1, 1), (17, .if_icmp .ne (.ofNat 22), 3), (20, .iconst (.ofNat 1), 1), (21, .ireturn, 1), (22, .iinc 2 (.ofNat 1), 3), (25, .goto (.ofNat 2), 3), (28, .iconst (.ofNat 0), 1), (29, .ireturn, 1)]
def E_R_init : List En := [(0, .aload 0, 1), (1, .invokespecial 9999, 3), (4, .aload 0, 1), (5, .iconst (.ofNat 2), 1), (6, .putfield 768, 3), (9, .aload 0, 1), (10, .iconst (.negSucc 0), 1), (11, .putfield 772, 3), (14, .aload 0, 1), (15, .iconst (.ofNat 30), 2), (17, .anewarray 0, 2), (19, .putfield 777, 3), (22, .return_, 1)]
def E_R_replaceRow : List En := [(0, .aload 0, 1), (1, .iload 1, 1), (2, .putfield 768, 3), (5, .aload 0, 1), (6, .iload 2, 1), (7, .putfield 772, 3), (10, .iconst (.ofNat 0), 1), (11, .istore 3, 1), (12, .iload 9, 0), (12, .iload 3, 1), (13, .iconst (.ofNat 30), 2), (15, .if_icmp .ge (.ofNat 31), 3), (18, .aload 0, 1), (19, .getfield 777, 3), (22, .iload 3, 1), (23, .iconst (.ofNat 0), 1), (24, .iastore, 1), (25, .iinc 3 (.ofNat 1), 3), (28, .goto (.ofNat 12), 3), (31, .return_, 1)]
def E_R_isMissing : List En := [(0, .aload 0, 1), (1, .getfield 772, 3), (4, .ifCond .ge (.ofNat 11), 3), (7, .iconst (.ofNat 1), 1), (8, .goto (.ofNat 12), 3), (11, .iconst (.ofNat 0), 1), (12, .ireturn, 1)]
def E_R_hasIndex : List En := [(0, .iload 1, 1), (1, .ifCond .lt (.ofNat 16), 3), (4, .iload 1, 1), (5, .aload 0, 1), (6, .getfield 772, 3), (9, .if_icmp .ge (.ofNat 16), 3), (12, .iconst (.ofNat 1), 1), (13, .goto (.ofNat 17), 3), (16, .iconst (.ofNat 0), 1), (17, .ireturn, 1)]
def E_R_narrowed : List En := [(0, .aload 0, 1), (1, .getfield 768, 3), (4, .ifCond .ne (.ofNat 10), 3), (7, .iload 1, 1), (8, .i2b, 1), (9, .ireturn, 1), (10, .aload 0, 1), (11, .getfield 768, 3), (14, .iconst (.ofNat 1), 1), (15, .if_icmp .ne (.ofNat 23), 3), (18, .iload 1, 1), (19, .i2s, 1), (20, .goto (.ofNat 24), 3), (23, .iload 1, 1), (24, .ireturn, 1)]
def E_R_hasRange : List En := [(0, .iload 1, 1), (1, .ifCond .lt (.ofNat 30), 3), (4, .iload 2, 1), (5, .ifCond .lt (.ofNat 30), 3), (8, .iload 2, 1), (9, .aload 0, 1), (10, .getfield 772, 3), (13, .if_icmp .gt (.ofNat 30), 3), (16, .iload 1, 1), (17, .aload 0, 1), (18, .getfield 772, 3), (21, .iload 2, 1), (22, .isub, 1), (23, .if_icmp .gt (.ofNat 30), 3), (26, .iconst (.ofNat 1), 1), (27, .goto (.ofNat 31), 3), (30, .iconst (.ofNat 0), 1), (31, .ireturn, 1)]
def E_A_init : List En := [(0, .aload 0, 1), (1, .invokespecial 9999, 3), (4, .aload 0, 1), (5, .iconst (.ofNat 0), 1), (6, .putfield 1024, 3), (9, .aload 0, 1), (10, .iconst (.ofNat 64), 2), (12, .anewarray 1, 2), (14, .putfield 1029, 3), (17, .aload 0, 1), (18, .iconst (.ofNat 64), 2), (20, .anewarray 0, 2), (22, .putfield 1033, 3), (25, .aload 0, 1), (26, .iconst (.ofNat 64), 2), (28, .anewarray 0, 2), (30, .putfield 1037, 3), (33, .aload 0, 1), (34, .iconst (.ofNat 64), 2), (36, .anewarray 0, 2), (38, .putfield 1041, 3), (41, .aload 0, 1), (42, .iconst (.ofNat 0), 1), (43, .putfield 1044, 3), (46, .aload 0, 1), (47, .iconst (.ofNat 64), 2), (49, .anewarray 0, 2), (51, .putfield 1049, 3), (54, .aload 0, 1), (55, .iconst (.ofNat 64), 2), (57, .anewarray 2, 2), (59, .putfield 1053, 3), (62, .return_, 1)]
def E_A_start : List En := [(0, .aload 0, 1), (1, .aload 1, 1), (2, .getfield 524, 3), (5, .putfield 1024, 3), (8, .aload 0, 1), (9, .iconst (.ofNat 0), 1), (10, .putfield 1044, 3), (13, .iconst (.ofNat 0), 1), (14, .istore 2, 1), (15, .iload 5, 0), (15, .iload 2, 1), (16, .aload 0, 1), (17, .getfield 1024, 3), (20, .if_icmp .ge (.ofNat 66), 3), (23, .aload 0, 1), (24, .getfield 1029, 3), (27, .iload 2, 1), (28, .sipush (.ofNat 0), 1), (29, .lastore, 1), (30, .aload 0, 1), (31, .getfield 1033, 3), (34, .iload 2, 1), (35, .iconst (.ofNat 3), 1), (36, .iastore, 1), (37, .aload 0, 1), (38, .getfield 1037, 3), (41, .iload 2, 1), (42, .iconst (.negSucc 5), 2), (44, .iastore, 1), (45, .aload 0, 1), (46, .getfield 1041, 3), (49, .iload 2, 1), (50, .iconst (.negSucc 5), 2), (52, .iastore, 1), (53, .aload 0, 1), (54, .getfield 1053, 3), (57, .iload 2, 1), (58, .iconst (.ofNat 0), 1), (59, .bastore, 1), (60, .iinc 2 (.ofNat 1), 3), (63, .goto (.ofNat 15), 3), (66, .aload 0, 1), (67, .getfield 1029, 3), (70, .iconst (.ofNat 0), 1), (71, .sipush (.ofNat 1), 1), (72, .lastore, 1), (73, .aload 0, 1), (74, .getfield 1029, 3), (77, .aload 0, 1), (78, .getfield 1024, 3), (81, .iconst (.ofNat 1), 1), (82, .isub, 1), (83, .sipush (.ofNat 1), 1), (84, .lastore, 1), (85, .return_, 1)]
def E_A_findCosts : List En := [(0, .iconst (.ofNat 0), 1), (1, .istore 2, 1), (2, .iload 7, 0), (2, .iload 2, 1), (3, .aload 0, 1), (4, .getfield 1024, 3), (7, .if_icmp .ge (.ofNat 84), 3), (10, .aload 0, 1), (11, .invokevirtual 1837569, 3), (14, .istore 3, 1), (15, .iload 3, 1), (16, .ifCond .ge (.ofNat 20), 3), (19, .return_, 1), (20, .aload 0, 1), (21, .getfield 1053, 3), (24, .iload 3, 1), (25, .iconst (.ofNat 1), 1), (26, .bastore, 1), (27, .aload 0, 1), (28, .getfield 1049, 3), (31, .aload 0, 1), (32, .getfield 1044, 3), (35, .iload 3, 1), (36, .iastore, 1), (37, .aload 0, 1), (38, .dup, 1), (39, .getfield 1044, 3), (42, .iconst (.ofNat 1), 1), (43, .iadd, 1), (44, .putfield 1044, 3), (47, .iconst (.ofNat 0), 1), (48, .istore 4, 2), (50, .iload 31, 0), (50, .iload 4, 2), (52, .aload 0, 1), (53, .getfield 1044, 3), (56, .if_icmp .ge (.ofNat 78), 3), (59, .aload 0, 1), (60, .aload 1, 1), (61, .iload 3, 1), (62, .aload 0, 1), (63, .getfield 1049, 3), (66, .iload 4, 2), (68, .iaload, 1), (69, .invokevirtual 1876504, 3), (72, .iinc 4 (.ofNat 1), 3), (75, .goto (.ofNat 50), 3), (78, .iinc 2 (.ofNat 1), 3), (81, .goto (.ofNat 2), 3), (84, .return_, 1)]
def E_A_cheapestLeft : List En := [(0, .iconst (.negSucc 0), 1), (1, .istore 1, 1), (2, .iconst (.ofNat 0), 1), (3, .istore 2, 1), (4, .iload 7, 0), (4, .iload 2, 1), (5, .aload 0, 1), (6, .getfield 1024, 3), (9, .if_icmp .ge (.ofNat 60), 3), (12, .aload 0, 1), (13, .getfield 1053, 3), (16, .iload 2, 1), (17, .baload, 1), (18, .ifCond .ne (.ofNat 54), 3), (21, .aload 0, 1), (22, .getfield 1029, 3), (25, .iload 2, 1), (26, .laload, 1), (27, .sipush (.ofNat 0), 1), (28, .lcmp, 1), (29, .ifCond .le (.ofNat 54), 3), (32, .iload 1, 1), (33, .ifCond .lt (.ofNat 52), 3), (36, .aload 0, 1), (37, .getfield 1029, 3), (40, .iload 2, 1), (41, .laload, 1), (42, .aload 0, 1), (43, .getfield 1029, 3), (46, .iload 1, 1), (47, .laload, 1), (48, .lcmp, 1), (49, .ifCond .ge (.ofNat 54), 3), (52, .iload 2, 1), (53, .istore 1, 1), (54, .iinc 2 (.ofNat 1), 3), (57, .goto (.ofNat 4), 3), (60, .iload 1, 1), (61, .ireturn, 1)]
def E_A_offerAll : List En := [(0, .sipush (.ofNat 1), 1), (1, .aload 0, 1), (2, .getfield 1029, 3), (5, .iload 2, 1), (6, .laload, 1), (7, .ladd, 1), (8, .aload 0, 1), (9, .getfield 1029, 3), (12, .iload 3, 1), (13, .laload, 1), (14, .ladd, 1), (15, .lstore 4, 2), (17, .aload 0, 1), (18, .aload 1, 1), (19, .iconst (.ofNat 0), 1), (20, .iload 2, 1), (21, .iload 3, 1), (22, .invokevirtual 1417497, 3), (25, .lload 4, 2), (27, .invokevirtual 1909264, 3), (30, .aload 0, 1), (31, .aload 1, 1), (32, .iconst (.ofNat 1), 1), (33, .iload 2, 1), (34, .iload 3, 1), (35, .invokevirtual 1417497, 3), (38, .lload 4, 2), (40, .invokevirtual 1909264, 3), (43, .aload 0, 1), (44, .aload 1, 1), (45, .iconst (.ofNat 2), 1), (46, .iload 2, 1), (47, .iload 3, 1), (48, .invokevirtual 1417497, 3), (51, .lload 4, 2), (53, .invokevirtual 1909264, 3), (56, .aload 0, 1), (57, .aload 1, 1), (58, .iconst (.ofNat 2), 1), (59, .iload 3, 1), (60, .iload 2, 1), (61, .invokevirtual 1417497, 3), (64, .lload 4, 2), (66, .invokevirtual 1909264, 3), (69, .return_, 1)]
def E_A_offer : List En := [(0, .iload 1, 1), (1, .ifCond .lt (.ofNat 33), 3), (4, .aload 0, 1), (5, .getfield 1029, 3), (8, .iload 1, 1), (9, .laload, 1), (10, .sipush (.ofNat 0), 1), (11, .lcmp, 1), (12, .ifCond .eq (.ofNat 26), 3), (15, .lload 2, 1), (16, .aload 0, 1), (17, .getfield 1029, 3), (20, .iload 1, 1), (21, .laload, 1), (22, .lcmp, 1), (23, .ifCond .ge (.ofNat 33), 3), (26, .aload 0, 1), (27, .getfield 1029, 3), (30, .iload 1, 1), (31, .lload 2, 1), (32, .lastore, 1), (33, .return_, 1)]
def E_A_findSteps : List En := [(0, .iconst (.ofNat 0), 1), (1, .istore 2, 1), (2, .iload 7, 0), (2, .iload 2, 1), (3, .iconst (.ofNat 2), 1), (4, .if_icmp .gt (.ofNat 86), 3), (7, .iconst (.ofNat 0), 1), (8, .istore 3, 1), (9, .iload 15, 0), (9, .iload 3, 1), (10, .aload 0, 1), (11, .getfield 1024, 3), (14, .if_icmp .ge (.ofNat 80), 3), (17, .iconst (.ofNat 0), 1), (18, .istore 4, 2), (20, .iload 31, 0), (20, .iload 4, 2), (22, .aload 0, 1), (23, .getfield 1024, 3), (26, .if_icmp .ge (.ofNat 74), 3), (29, .aload 0, 1), (30, .getfield 1029, 3), (33, .iload 3, 1), (34, .laload, 1), (35, .sipush (.ofNat 0), 1), (36, .lcmp, 1), (37, .ifCond .le (.ofNat 68), 3), (40, .aload 0, 1), (41, .getfield 1029, 3), (44, .iload 4, 2), (46, .laload, 1), (47, .sipush (.ofNat 0), 1), (48, .lcmp, 1), (49, .ifCond .le (.ofNat 68), 3), (52, .aload 0, 1), (53, .aload 1, 1), (54, .iload 2, 1), (55, .iload 3, 1), (56, .iload 4, 2), (58, .invokevirtual 1417497, 3), (61, .iload 2, 1), (62, .iload 3, 1), (63, .iload 4, 2), (65, .invokevirtual 1976864, 3), (68, .iinc 4 (.ofNat 1), 3), (71, .goto (.ofNat 20), 3), (74, .iinc 3 (.ofNat 1), 3), (77, .goto (.ofNat 9), 3), (80, .iinc 2 (.ofNat 1), 3), (83, .goto (.ofNat 2), 3), (86, .return_, 1)]
def E_A_noteStep : List En := [(0, .iload 1, 1), (1, .ifCond .lt (.ofNat 18), 3), (4, .aload 0, 1), (5, .getfield 1033, 3), (8, .iload 1, 1), (9, .iaload, 1), (10, .iconst (.ofNat 3), 1), (11, .if_icmp .ne (.ofNat 18), 3), (14, .iconst (.ofNat 1), 1), (15, .goto (.ofNat 19), 3), (18, .iconst (.ofNat 0), 1), (19, .istore 5, 2), (21, .iload 5, 2), (23, .ifCond .eq (.ofNat 74), 3), (26, .aload 0, 1), (27, .getfield 1029, 3), (30, .iload 1, 1), (31, .laload, 1), (32, .sipush (.ofNat 1), 1), (33, .aload 0, 1), (34, .getfield 1029, 3), (37, .iload 3, 1), (38, .laload, 1), (39, .ladd, 1), (40, .aload 0, 1), (41, .getfield 1029, 3), (44, .iload 4, 2), (46, .laload, 1), (47, .ladd, 1), (48, .lcmp, 1), (49, .ifCond .ne (.ofNat 74), 3), (52, .aload 0, 1), (53, .getfield 1033, 3), (56, .iload 1, 1), (57, .iload 2, 1), (58, .iastore, 1), (59, .aload 0, 1), (60, .getfield 1037, 3), (63, .iload 1, 1), (64, .iload 3, 1), (65, .iastore, 1), (66, .aload 0, 1), (67, .getfield 1041, 3), (70, .iload 1, 1), (71, .iload 4, 2), (73, .iastore, 1), (74, .return_, 1)]
def E_T_init : List En := [(0, .aload 0, 1), (1, .invokespecial 9999, 3), (4, .aload 0, 1), (5, .iconst (.ofNat 0), 1), (6, .putfield 1280, 3), (9, .aload 0, 1), (10, .iconst (.ofNat 40), 2), (12, .anewarray 0, 2), (14, .putfield 1285, 3), (17, .aload 0, 1), (18, .iconst (.ofNat 0), 1), (19, .putfield 1288, 3), (22, .aload 0, 1), (23, .iconst (.ofNat 40), 2), (25, .anewarray 0, 2), (27, .putfield 1293, 3), (30, .aload 0, 1), (31, .iconst (.ofNat 40), 2), (33, .anewarray 0, 2), (35, .putfield 1297, 3), (38, .aload 0, 1), (39, .iconst (.ofNat 0), 1), (40, .putfield 1300, 3), (43, .aload 0, 1), (44, .iconst (.ofNat 0), 1), (45, .putfield 1304, 3), (48, .aload 0, 1), (49, .iconst (.ofNat 0), 1), (50, .putfield 1308, 3), (53, .aload 0, 1), (54, .iconst (.ofNat 1), 1), (55, .putfield 1314, 3), (58, .return_, 1)]
def E_T_readFormula : List En := [(0, .aload 0, 1), (1, .iconst (.ofNat 0), 1), (2, .putfield 1288, 3), (5, .aload 0, 1), (6, .iconst (.ofNat 0), 1), (7, .putfield 1300, 3), (10, .aload 0, 1), (11, .iconst (.ofNat 0), 1), (12, .putfield 1304, 3), (15, .aload 0, 1), (16, .iconst (.ofNat 0), 1), (17, .putfield 1308, 3), (20, .aload 0, 1), (21, .iconst (.ofNat 1), 1), (22, .putfield 1314, 3), (25, .iconst (.ofNat 0), 1), (26, .istore 1, 1), (27, .iload 3, 0), (27, .iload 1, 1), (28, .aload 0, 1), (29, .getfield 1280, 3), (32, .if_icmp .ge (.ofNat 78), 3), (35, .aload 0, 1), (36, .getfield 1314, 3), (39, .ifCond .eq (.ofNat 55), 3), (42, .aload 0, 1), (43, .aload 0, 1), (44, .getfield 1285, 3), (47, .iload 1, 1), (48, .iaload, 1), (49, .invokevirtual 2069129, 3), (52, .goto (.ofNat 65), 3), (55, .aload 0, 1), (56, .aload 0, 1), (57, .getfield 1285, 3), (60, .iload 1, 1), (61, .iaload, 1), (62, .invokevirtual 2232969, 3), (65, .istore 2, 1), (66, .iload 2, 1), (67, .ifCond .ne (.ofNat 72), 3), (70, .iload 1, 1), (71, .ireturn, 1), (72, .iinc 1 (.ofNat 1), 3), (75, .goto (.ofNat 27), 3), (78, .aload 0, 1), (79, .getfield 1314, 3), (82, .ifCond .ne (.ofNat 92), 3), (85, .aload 0, 1), (86, .getfield 1304, 3), (89, .ifCond .le (.ofNat 97), 3), (92, .aload 0, 1), (93, .getfield 1280, 3), (96, .ireturn, 1), (97, .aload 0, 1), (98, .iconst (.ofNat 0), 1), (99, .invokevirtual 2298504, 3), (102, .iconst (.negSucc 0), 1), (103, .ireturn, 1)]
def E_T_takeInFactor : List En := [(0, .iload 1, 1), (1, .invokestatic 2099849, 3), (4, .istore 2, 1), (5, .iload 2, 1), (6, .iconst (.negSucc 0), 1), (7, .if_icmp .eq (.ofNat 21), 3), (10, .aload 0, 1), (11, .iload 2, 1), (12, .invokevirtual 2134664, 3), (15, .aload 0, 1), (16, .invokevirtual 2165376, 3), (19, .iconst (.ofNat 1), 1), (20, .ireturn, 1), (21, .iload 1, 1), (22, .iconst (.ofNat 40), 2), (24, .if_icmp .eq (.ofNat 33), 3), (27, .iload 1, 1), (28, .iconst (.ofNat 126), 2), (30, .if_icmp .ne (.ofNat 42), 3), (33, .aload 0, 1), (34, .getfield 1308, 3), (37, .iconst (.ofNat 8), 2), (39, .if_icmp .lt (.ofNat 44), 3), (42, .iconst (.ofNat 0), 1), (43, .ireturn, 1), (44, .aload 0, 1), (45, .dup, 1), (46, .getfield 1308, 3), (49, .iconst (.ofNat 1), 1), (50, .iadd, 1), (51, .putfield 1308, 3), (54, .iload 1, 1), (55, .iconst (.ofNat 40), 2), (57, .if_icmp .ne (.ofNat 70), 3), (60, .aload 0, 1), (61, .dup, 1), (62, .getfield 1304, 3), (65, .iconst (.ofNat 1), 1), (66, .iadd, 1), (67, .putfield 1304, 3), (70, .aload 0, 1), (71, .iload 1, 1), (72, .iconst (.ofNat 40), 2), (74, .if_icmp .ne (.ofNat 81), 3), (77, .iconst (.ofNat 0), 1), (78, .goto (.ofNat 83), 3), (81, .iconst (.ofNat 8), 2), (83, .invokevirtual 2200200, 3), (86, .iconst (.ofNat 1), 1), (87, .ireturn, 1)]
def E_T_leafOf : List En := [(0, .iload 0, 1), (1, .lookupswitch (.ofNat 62) #[((.ofNat 48), (.ofNat 58)), ((.ofNat 49), (.ofNat 60)), ((.ofNat 112), (.ofNat 52)), ((.ofNat 113), (.ofNat 54)), ((.ofNat 114), (.ofNat 56))], 51), (52, .iconst (.ofNat 0), 1), (53, .ireturn, 1), (54, .iconst (.ofNat 1), 1), (55, .ireturn, 1), (56, .iconst (.ofNat 2), 1), (57, .ireturn, 1), (58, .iconst (.ofNat 3), 1), (59, .ireturn, 1), (60, .iconst (.ofNat 4), 1), (61, .ireturn, 1), (62, .iconst (.negSucc 0), 1), (63, .ireturn, 1)]
def E_T_emit : List En := [(0, .aload 0, 1), (1, .getfield 1288, 3), (4, .iconst (.ofNat 40), 2), (6, .if_icmp .ge (.ofNat 29), 3), (9, .aload 0, 1), (10, .getfield 1293, 3), (13, .aload 0, 1), (14, .getfield 1288, 3), (17, .iload 1, 1), (18, .iastore, 1), (19, .aload 0, 1), (20, .dup, 1), (21, .getfield 1288, 3), (24, .iconst (.ofNat 1), 1), (25, .iadd, 1), (26, .putfield 1288, 3), (29, .return_, 1)]
def E_T_endFactor : List En := [(0, .aload 0, 1), (1, .iconst (.ofNat 0), 1), (2, .putfield 1314, 3), (5, .iload 1, 0), (5, .aload 0, 1), (6, .getfield 1300, 3), (9, .ifCond .le (.ofNat 57), 3), (12, .aload 0, 1), (13, .getfield 1297, 3), (16, .aload 0, 1), (17, .getfield 1300, 3), (20, .iconst (.ofNat 1), 1), (21, .isub, 1), (22, .iaload, 1), (23, .iconst (.ofNat 8), 2), (25, .if_icmp .ne (.ofNat 57), 3), (28, .aload 0, 1), (29, .dup, 1), (30, .getfield 1300, 3), (33, .iconst (.ofNat 1), 1), (34, .isub, 1), (35, .putfield 1300, 3), (38, .aload 0, 1), (39, .dup, 1), (40, .getfield 1308, 3), (43, .iconst (.ofNat 1), 1), (44, .isub, 1), (45, .putfield 1308, 3), (48, .aload 0, 1), (49, .iconst (.ofNat 8), 2), (51, .invokevirtual 2134664, 3), (54, .goto (.ofNat 5), 3), (57, .return_, 1)]
def E_T_hold : List En := [(0, .aload 0, 1), (1, .getfield 1300, 3), (4, .iconst (.ofNat 40), 2), (6, .if_icmp .ge (.ofNat 29), 3), (9, .aload 0, 1), (10, .getfield 1297, 3), (13, .aload 0, 1), (14, .getfield 1300, 3), (17, .iload 1, 1), (18, .iastore, 1), (19, .aload 0, 1), (20, .dup, 1), (21, .getfield 1300, 3), (24, .iconst (.ofNat 1), 1), (25, .iadd, 1), (26, .putfield 1300, 3), (29, .return_, 1)]
def E_T_takeBehindFactor : List En := [(0, .iload 1, 1), (1, .iconst (.ofNat 41), 2), (3, .if_icmp .ne (.ofNat 11), 3), (6, .aload 0, 1), (7, .invokevirtual 2263681, 3), (10, .ireturn, 1), (11, .iload 1, 1), (12, .invokestatic 2329225, 3), (15, .istore 2, 1), (16, .iload 2, 1), (17, .iconst (.negSucc 0), 1), (18, .if_icmp .ne (.ofNat 23), 3), (21, .iconst (.ofNat 0), 1), (22, .ireturn, 1), (23, .aload 0, 1), (24, .iload 2, 1), (25, .invokevirtual 2298504, 3), (28, .aload 0, 1), (29, .iload 2, 1), (30, .invokevirtual 2200200, 3), (33, .aload 0, 1), (34, .iconst (.ofNat 1), 1), (35, .putfield 1314, 3), (38, .iconst (.ofNat 1), 1), (39, .ireturn, 1)]
def E_T_closeParenthesis : List En := [(0, .aload 0, 1), (1, .getfield 1304, 3), (4, .ifCond .ne (.ofNat 9), 3), (7, .iconst (.ofNat 0), 1), (8, .ireturn, 1), (9, .aload 0, 1), (10, .iconst (.ofNat 0), 1), (11, .invokevirtual 2298504, 3), (14, .aload 0, 1), (15, .getfield 1300, 3), (18, .ifCond .le (.ofNat 31), 3), (21, .aload 0, 1), (22, .dup, 1), (23, .getfield 1300, 3), (26, .iconst (.ofNat 1), 1), (27, .isub, 1), (28, .putfield 1300, 3), (31, .aload 0, 1), (32, .dup, 1), (33, .getfield 1304, 3), (36, .iconst (.ofNat 1), 1), (37, .isub, 1), (38, .putfield 1304, 3), (41, .aload 0, 1), (42, .dup, 1), (43, .getfield 1308, 3), (46, .iconst (.ofNat 1), 1), (47, .isub, 1), (48, .putfield 1308, 3), (51, .aload 0, 1), (52, .invokevirtual 2165376, 3), (55, .iconst (.ofNat 1), 1), (56, .ireturn, 1)]
def E_T_releaseAbove : List En := [(0, .iload 3, 0), (0, .aload 0, 1), (1, .getfield 1300, 3), (4, .ifCond .le (.ofNat 48), 3), (7, .aload 0, 1), (8, .getfield 1297, 3), (11, .aload 0, 1), (12, .getfield 1300, 3), (15, .iconst (.ofNat 1), 1), (16, .isub, 1), (17, .iaload, 1), (18, .iload 1, 1), (19, .if_icmp .le (.ofNat 48), 3), (22, .aload 0, 1), (23, .dup, 1), (24, .getfield 1300, 3), (27, .iconst (.ofNat 1), 1), (28, .isub, 1), (29, .putfield 1300, 3), (32, .aload 0, 1), (33, .aload 0, 1), (34, .getfield 1297, 3), (37, .aload 0, 1), (38, .getfield 1300, 3), (41, .iaload, 1), (42, .invokevirtual 2134664, 3), (45, .goto (.ofNat 0), 3), (48, .return_, 1)]
def E_T_operatorOf : List En := [(0, .iload 0, 1), (1, .lookupswitch (.ofNat 44) #[((.ofNat 38), (.ofNat 41)), ((.ofNat 62), (.ofNat 36)), ((.ofNat 124), (.ofNat 38))], 35), (36, .iconst (.ofNat 5), 1), (37, .ireturn, 1), (38, .iconst (.ofNat 6), 2), (40, .ireturn, 1), (41, .iconst (.ofNat 7), 2), (43, .ireturn, 1), (44, .iconst (.negSucc 0), 1), (45, .ireturn, 1)]
def E_C_init : List En := [(0, .aload 0, 1), (1, .invokespecial 9999, 3), (4, .aload 0, 1), (5, .iconst (.ofNat 4), 1), (6, .anewarray 3, 3), (9, .putfield 1537, 3), (12, .aload 0, 1), (13, .iconst (.ofNat 6), 2), (15, .anewarray 4, 3), (18, .putfield 1541, 3), (21, .aload 0, 1), (22, .iconst (.ofNat 3), 1), (23, .anewarray 5, 3), (26, .putfield 1545, 3), (29, .aload 0, 1), (30, .new 5, 3), (33, .dup, 1), (34, .invokespecial 2001536, 3), (37, .putfield 1549, 3), (40, .aload 0, 1), (41, .iconst (.ofNat 4), 1), (42, .anewarray 0, 2), (44, .putfield 1553, 3), (47, .aload 0, 1), (48, .iconst (.ofNat 0), 1), (49, .putfield 1556, 3), (52, .aload 0, 1), (53, .new 4, 3), (56, .dup, 1), (57, .invokespecial 1739264, 3), (60, .putfield 1561, 3), (63, .aload 0, 1), (64, .iconst (.ofNat 0), 1), (65, .putfield 1564, 3), (68, .aload 0, 1), (69, .iconst (.ofNat 6), 2), (71, .anewarray 0, 2), (73, .putfield 1569, 3), (76, .aload 0, 1), (77, .iconst (.ofNat 60), 2), (79, .anewarray 0, 2), (81, .putfield 1573, 3), (84, .iconst (.ofNat 0), 1), (85, .istore 1, 1), (86, .iload 3, 0), (86, .iload 1, 1), (87, .iconst (.ofNat 4), 1), (88, .if_icmp .ge (.ofNat 110), 3), (91, .aload 0, 1), (92, .getfield 1537, 3), (95, .iload 1, 1), (96, .new 2, 3), (99, .dup, 1), (100, .invokespecial 624896, 3), (103, .aastore, 1), (104, .iinc 1 (.ofNat 1), 3), (107, .goto (.ofNat 86), 3), (110, .iconst (.ofNat 0), 1), (111, .istore 1, 1), (112, .iload 3, 0), (112, .iload 1, 1), (113, .iconst (.ofNat 6), 2), (115, .if_icmp .ge (.ofNat 137), 3), (118, .aload 0, 1), (119, .getfield 1541, 3), (122, .iload 1, 1), (123, .new 0, 3), (126, .dup, 1), (127, .invokespecial 2048, 3), (130, .aastore, 1), (131, .iinc 1 (.ofNat 1), 3), (134, .goto (.ofNat 112), 3), (137, .iconst (.ofNat 0), 1), (138, .istore 1, 1), (139, .iload 3, 0), (139, .iload 1, 1), (140, .iconst (.ofNat 3), 1), (141, .if_icmp .ge (.ofNat 163), 3), (144, .aload 0, 1), (145, .getfield 1545, 3), (148, .iload 1, 1), (149, .new 3, 3), (152, .dup, 1), (153, .invokespecial 1542528, 3), (156, .aastore, 1), (157, .iinc 1 (.ofNat 1), 3), (160, .goto (.ofNat 139), 3), (163, .return_, 1)]
def E_C_reset : List En := [(0, .aload 0, 1), (1, .iload 1, 1), (2, .invokevirtual 2429707, 3), (5, .astore 3, 1), (6, .aload 3, 1), (7, .ifnonnull (.ofNat 12), 3), (10, .iconst (.negSucc 0), 1), (11, .ireturn, 1), (12, .iload 2, 1), (13, .iconst (.ofNat 1), 1), (14, .if_icmp .lt (.ofNat 23), 3), (17, .iload 2, 1), (18, .iconst (.ofNat 6), 2), (20, .if_icmp .le (.ofNat 26), 3), (23, .iconst (.negSucc 1), 2), (25, .ireturn, 1), (26, .aload 3, 1), (27, .getfield 512, 3), (30, .istore 4, 2), (32, .iconst (.ofNat 0), 1), (33, .istore 5, 2), (35, .iload 61, 0), (35, .iload 5, 2), (37, .iload 2, 1), (38, .if_icmp .ge (.ofNat 58), 3), (41, .aload 0, 1), (42, .getfield 1569, 3), (45, .iload 5, 2), (47, .iconst (.ofNat 1), 1), (48, .iload 5, 2), (50, .ishl, 1), (51, .iastore, 1), (52, .iinc 5 (.ofNat 1), 3), (55, .goto (.ofNat 35), 3), (58, .aload 3, 1), (59, .iload 2, 1), (60, .aload 0, 1), (61, .getfield 1569, 3), (64, .invokevirtual 891152, 3), (67, .iload 4, 2), (69, .ireturn, 1)]
def E_C_posetAt : List En := [(0, .iload 1, 1), (1, .ifCond .lt (.ofNat 18), 3), (4, .iload 1, 1), (5, .iconst (.ofNat 4), 1), (6, .if_icmp .ge (.ofNat 18), 3), (9, .aload 0, 1), (10, .getfield 1537, 3), (13, .iload 1, 1), (14, .aaload, 1), (15, .goto (.ofNat 19), 3), (18, .aconst_null, 1), (19, .areturn, 1)]
def E_C_points : List En := [(0, .aload 0, 1), (1, .iload 1, 1), (2, .invokevirtual 2429707, 3), (5, .astore 2, 1), (6, .aload 2, 1), (7, .ifnonnull (.ofNat 14), 3), (10, .iconst (.negSucc 0), 1), (11, .goto (.ofNat 18), 3), (14, .aload 2, 1), (15, .getfield 512, 3), (18, .ireturn, 1)]
def E_C_relate : List En := [(0, .aload 0, 1), (1, .iload 1, 1), (2, .invokevirtual 2429707, 3), (5, .astore 4, 2), (7, .aload 4, 2), (9, .ifnonnull (.ofNat 16), 3), (12, .iconst (.negSucc 0), 1), (13, .goto (.ofNat 23), 3), (16, .aload 4, 2), (18, .iload 2, 1), (19, .iload 3, 1), (20, .invokevirtual 923921, 3), (23, .ireturn, 1)]
def E_C_isBelow : List En := [(0, .aload 0, 1), (1, .iload 1, 1), (2, .invokevirtual 2429707, 3), (5, .astore 4, 2), (7, .aload 4, 2), (9, .ifnull (.ofNat 30), 3), (12, .aload 4, 2), (14, .iload 2, 1), (15, .invokevirtual 954633, 3), (18, .ifCond .eq (.ofNat 30), 3), (21, .aload 4, 2), (23, .iload 3, 1), (24, .invokevirtual 954633, 3), (27, .ifCond .ne (.ofNat 32), 3), (30, .iconst (.negSucc 0), 1), (31, .ireturn, 1), (32, .aload 4, 2), (34, .iload 2, 1), (35, .iload 3, 1), (36, .invokevirtual 760081, 3), (39, .ifCond .eq (.ofNat 46), 3), (42, .iconst (.ofNat 1), 1), (43, .goto (.ofNat 47), 3), (46, .iconst (.ofNat 0), 1), (47, .ireturn, 1)]
def E_C_covers : List En := [(0, .aload 0, 1), (1, .iload 1, 1), (2, .invokevirtual 2429707, 3), (5, .astore 3, 1), (6, .aload 3, 1), (7, .ifnull (.ofNat 18), 3), (10, .aload 3, 1), (11, .iload 2, 1), (12, .invokevirtual 954633, 3), (15, .ifCond .ne (.ofNat 20), 3), (18, .iconst (.negSucc 0), 1), (19, .ireturn, 1), (20, .aload 3, 1), (21, .iload 2, 1), (22, .invokevirtual 1052937, 3), (25, .ireturn, 1)]
def E_C_property : List En := [(0, .aload 0, 1), (1, .iload 1, 1), (2, .invokevirtual 2429707, 3), (5, .astore 3, 1), (6, .aload 3, 1), (7, .ifnonnull (.ofNat 12), 3), (10, .iconst (.negSucc 0), 1), (11, .ireturn, 1), (12, .iload 2, 1), (13, .tableswitch (.ofNat 82) (.ofNat 0) (.ofNat 5) #[(.ofNat 52), (.ofNat 57), (.ofNat 62), (.ofNat 67), (.ofNat 72), (.ofNat 77)], 39), (52, .aload 3, 1), (53, .invokevirtual 1083649, 3), (56, .ireturn, 1), (57, .aload 3, 1), (58, .invokevirtual 1181953, 3), (61, .ireturn, 1), (62, .aload 3, 1), (63, .invokevirtual 1247489, 3), (66, .ireturn, 1), (67, .aload 3, 1), (68, .invokevirtual 1280257, 3), (71, .ireturn, 1), (72, .aload 3, 1), (73, .invokevirtual 1313025, 3), (76, .ireturn, 1), (77, .aload 3, 1), (78, .invokevirtual 985345, 3), (81, .ireturn, 1), (82, .iconst (.negSucc 1), 2), (84, .ireturn, 1)]
def E_C_elementCount : List En := [(0, .aload 0, 1), (1, .iload 1, 1), (2, .invokevirtual 2429707, 3), (5, .astore 2, 1), (6, .aload 2, 1), (7, .ifnonnull (.ofNat 14), 3), (10, .iconst (.negSucc 0), 1), (11, .goto (.ofNat 18), 3), (14, .aload 2, 1), (15, .getfield 524, 3), (18, .ireturn, 1)]
def E_C_elementBits : List En := [(0, .aload 0, 1), (1, .iload 1, 1), (2, .invokevirtual 2429707, 3), (5, .astore 3, 1), (6, .aload 3, 1), (7, .ifnull (.ofNat 18), 3), (10, .aload 3, 1), (11, .iload 2, 1), (12, .invokevirtual 1380617, 3), (15, .ifCond .ne (.ofNat 20), 3), (18, .iconst (.negSucc 0), 1), (19, .ireturn, 1), (20, .aload 3, 1), (21, .getfield 529, 3), (24, .iload 2, 1), (25, .iaload, 1), (26, .ireturn, 1)]
def E_C_elementOf : List En := [(0, .aload 0, 1), (1, .iload 1, 1), (2, .invokevirtual 2429707, 3), (5, .astore 3, 1), (6, .aload 3, 1), (7, .ifnonnull (.ofNat 12), 3), (10, .iconst (.negSucc 0), 1), (11, .ireturn, 1), (12, .iload 2, 1), (13, .aload 3, 1), (14, .invokevirtual 821505, 3), (17, .iconst (.negSucc 0), 1), (18, .ixor, 1), (19, .iand, 1), (20, .ifCond .eq (.ofNat 26), 3), (23, .iconst (.negSucc 1), 2), (25, .ireturn, 1), (26, .aload 3, 1), (27, .getfield 533, 3), (30, .iload 2, 1), (31, .iaload, 1), (32, .ireturn, 1)]
def E_C_meet : List En := [(0, .aload 0, 1), (1, .iload 1, 1), (2, .iload 2, 1), (3, .iload 3, 1), (4, .iconst (.ofNat 0), 1), (5, .invokevirtual 2763553, 3), (8, .ireturn, 1)]
def E_C_combine : List En := [(0, .aload 0, 1), (1, .iload 1, 1), (2, .invokevirtual 2429707, 3), (5, .astore 5, 2), (7, .aload 5, 2), (9, .ifnull (.ofNat 30), 3), (12, .aload 5, 2), (14, .iload 2, 1), (15, .invokevirtual 1380617, 3), (18, .ifCond .eq (.ofNat 30), 3), (21, .aload 5, 2), (23, .iload 3, 1), (24, .invokevirtual 1380617, 3), (27, .ifCond .ne (.ofNat 32), 3), (30, .iconst (.negSucc 0), 1), (31, .ireturn, 1), (32, .aload 5, 2), (34, .iload 4, 2), (36, .iload 2, 1), (37, .iload 3, 1), (38, .invokevirtual 1417497, 3), (41, .ireturn, 1)]
def E_C_join : List En := [(0, .aload 0, 1), (1, .iload 1, 1), (2, .iload 2, 1), (3, .iload 3, 1), (4, .iconst (.ofNat 1), 1), (5, .invokevirtual 2763553, 3), (8, .ireturn, 1)]
def E_C_implies : List En := [(0, .aload 0, 1), (1, .iload 1, 1), (2, .iload 2, 1), (3, .iload 3, 1), (4, .iconst (.ofNat 2), 1), (5, .invokevirtual 2763553, 3), (8, .ireturn, 1)]
def E_C_append : List En := [(0, .iload 1, 1), (1, .iconst (.ofNat 33), 2), (3, .if_icmp .lt (.ofNat 12), 3), (6, .iload 1, 1), (7, .iconst (.ofNat 126), 2), (9, .if_icmp .le (.ofNat 15), 3), (12, .iconst (.negSucc 1), 2), (14, .ireturn, 1), (15, .aload 0, 1), (16, .getfield 1549, 3), (19, .getfield 1280, 3), (22, .iconst (.ofNat 40), 2), (24, .if_icmp .lt (.ofNat 30), 3), (27, .iconst (.negSucc 6), 2), (29, .ireturn, 1), (30, .aload 0, 1), (31, .getfield 1549, 3), (34, .getfield 1285, 3), (37, .aload 0, 1), (38, .getfield 1549, 3), (41, .getfield 1280, 3), (44, .iload 1, 1), (45, .iastore, 1), (46, .aload 0, 1), (47, .getfield 1549, 3), (50, .dup, 1), (51, .getfield 1280, 3), (54, .iconst (.ofNat 1), 1), (55, .iadd, 1), (56, .putfield 1280, 3), (59, .aload 0, 1), (60, .getfield 1549, 3), (63, .getfield 1280, 3), (66, .ireturn, 1)]
def E_C_clearText : List En := [(0, .aload 0, 1), (1, .getfield 1549, 3), (4, .getfield 1280, 3), (7, .istore 1, 1), (8, .aload 0, 1), (9, .getfield 1549, 3), (12, .iconst (.ofNat 0), 1), (13, .putfield 1280, 3), (16, .iload 1, 1), (17, .ireturn, 1)]
def E_C_parse : List En := [(0, .aload 0, 1), (1, .iload 1, 1), (2, .invokevirtual 2953995, 3), (5, .astore 2, 1), (6, .aload 2, 1), (7, .ifnonnull (.ofNat 14), 3), (10, .iconst (.negSucc 0), 1), (11, .goto (.ofNat 21), 3), (14, .aload 0, 1), (15, .getfield 1549, 3), (18, .invokevirtual 2034305, 3), (21, .istore 3, 1), (22, .aload 0, 1), (23, .getfield 1549, 3), (26, .iconst (.ofNat 0), 1), (27, .putfield 1280, 3), (30, .aload 2, 1), (31, .ifnonnull (.ofNat 36), 3), (34, .iconst (.negSucc 0), 1), (35, .ireturn, 1), (36, .iload 3, 1), (37, .ifCond .lt (.ofNat 45), 3), (40, .iconst (.negSucc 99), 2), (42, .iload 3, 1), (43, .isub, 1), (44, .ireturn, 1), (45, .aload 2, 1), (46, .aload 0, 1), (47, .getfield 1549, 3), (50, .getfield 1288, 3), (53, .aload 0, 1), (54, .getfield 1549, 3), (57, .getfield 1293, 3), (60, .invokevirtual 38928, 3), (63, .aload 2, 1), (64, .getfield 0, 3), (67, .ireturn, 1)]
def E_C_formulaAt : List En := [(0, .iload 1, 1), (1, .ifCond .lt (.ofNat 19), 3), (4, .iload 1, 1), (5, .iconst (.ofNat 6), 2), (7, .if_icmp .ge (.ofNat 19), 3), (10, .aload 0, 1), (11, .getfield 1541, 3), (14, .iload 1, 1), (15, .aaload, 1), (16, .goto (.ofNat 20), 3), (19, .aconst_null, 1), (20, .areturn, 1)]
def E_C_formulaSize : List En := [(0, .aload 0, 1), (1, .iload 1, 1), (2, .invokevirtual 2953995, 3), (5, .astore 2, 1), (6, .aload 2, 1), (7, .ifnonnull (.ofNat 12), 3), (10, .iconst (.negSucc 0), 1), (11, .ireturn, 1), (12, .aload 2, 1), (13, .invokevirtual 67585, 3), (16, .ifCond .eq (.ofNat 24), 3), (19, .iconst (.negSucc 2), 2), (21, .goto (.ofNat 28), 3), (24, .aload 2, 1), (25, .getfield 0, 3), (28, .ireturn, 1)]
def E_C_substitute : List En := [(0, .aload 0, 1), (1, .iload 1, 1), (2, .invokevirtual 2953995, 3), (5, .astore 5, 2), (7, .aload 0, 1), (8, .iload 3, 1), (9, .invokevirtual 2953995, 3), (12, .astore 6, 2), (14, .aload 0, 1), (15, .iload 4, 2), (17, .invokevirtual 2953995, 3), (20, .astore 7, 2), (22, .aload 5, 2), (24, .ifnull (.ofNat 44), 3), (27, .aload 6, 2), (29, .ifnull (.ofNat 44), 3), (32, .aload 7, 2), (34, .ifnull (.ofNat 44), 3), (37, .iload 2, 1), (38, .invokestatic 3050249, 3), (41, .ifCond .ne (.ofNat 46), 3), (44, .iconst (.negSucc 0), 1), (45, .ireturn, 1), (46, .aload 5, 2), (48, .invokevirtual 67585, 3), (51, .ifCond .ne (.ofNat 62), 3), (54, .aload 6, 2), (56, .invokevirtual 67585, 3), (59, .ifCond .eq (.ofNat 65), 3), (62, .iconst (.negSucc 2), 2), (64, .ireturn, 1), (65, .aload 5, 2), (67, .getfield 0, 3), (70, .aload 5, 2), (72, .iload 2, 1), (73, .invokevirtual 102409, 3), (76, .aload 6, 2), (78, .getfield 0, 3), (81, .iconst (.ofNat 1), 1), (82, .isub, 1), (83, .imul, 1), (84, .iadd, 1), (85, .istore 8, 2), (87, .iload 8, 2), (89, .iconst (.ofNat 60), 2), (91, .if_icmp .le (.ofNat 97), 3), (94, .iconst (.negSucc 4), 2), (96, .ireturn, 1), (97, .aload 0, 1), (98, .aload 5, 2), (100, .iload 2, 1), (101, .aload 6, 2), (103, .invokevirtual 3089176, 3), (106, .aload 7, 2), (108, .iload 8, 2), (110, .aload 0, 1), (111, .getfield 1573, 3), (114, .invokevirtual 38928, 3), (117, .iload 8, 2), (119, .ireturn, 1)]
def E_C_isVariable : List En := [(0, .iload 0, 1), (1, .ifCond .lt (.ofNat 13), 3), (4, .iload 0, 1), (5, .iconst (.ofNat 3), 1), (6, .if_icmp .ge (.ofNat 13), 3), (9, .iconst (.ofNat 1), 1), (10, .goto (.ofNat 14), 3), (13, .iconst (.ofNat 0), 1), (14, .ireturn, 1)]
def E_C_draftSubstitution : List En := [(0, .iconst (.ofNat 0), 1), (1, .istore 4, 2), (3, .iconst (.ofNat 0), 1), (4, .istore 5, 2), (6, .iload 63, 0), (6, .iload 5, 2), (8, .aload 1, 1), (9, .getfield 0, 3), (12, .if_icmp .ge (.ofNat 110), 3), (15, .aload 1, 1), (16, .getfield 5, 3), (19, .iload 5, 2), (21, .iaload, 1), (22, .iload 2, 1), (23, .if_icmp .ne (.ofNat 30), 3), (26, .iconst (.ofNat 1), 1), (27, .goto (.ofNat 31), 3), (30, .iconst (.ofNat 0), 1), (31, .istore 6, 2), (33, .iload 6, 2), (35, .ifCond .eq (.ofNat 45), 3), (38, .aload 3, 1), (39, .getfield 0, 3), (42, .goto (.ofNat 46), 3), (45, .iconst (.ofNat 1), 1), (46, .istore 7, 2), (48, .iload 4, 2), (50, .iload 7, 2), (52, .iadd, 1), (53, .iconst (.ofNat 60), 2), (55, .if_icmp .le (.ofNat 59), 3), (58, .return_, 1), (59, .iload 6, 2), (61, .ifCond .eq (.ofNat 83), 3), (64, .aload 3, 1), (65, .getfield 5, 3), (68, .iconst (.ofNat 0), 1), (69, .aload 0, 1), (70, .getfield 1573, 3), (73, .iload 4, 2), (75, .iload 7, 2), (77, .invokestatic 9998, 3), (80, .goto (.ofNat 97), 3), (83, .aload 0, 1), (84, .getfield 1573, 3), (87, .iload 4, 2), (89, .aload 1, 1), (90, .getfield 5, 3), (93, .iload 5, 2), (95, .iaload, 1), (96, .iastore, 1), (97, .iload 4, 2), (99, .iload 7, 2), (101, .iadd, 1), (102, .istore 4, 2), (104, .iinc 5 (.ofNat 1), 3), (107, .goto (.ofNat 6), 3), (110, .return_, 1)]
def E_C_setValue : List En := [(0, .aload 0, 1), (1, .iload 1, 1), (2, .invokevirtual 2429707, 3), (5, .astore 4, 2), (7, .aload 4, 2), (9, .ifnull (.ofNat 28), 3), (12, .iload 2, 1), (13, .invokestatic 3050249, 3), (16, .ifCond .eq (.ofNat 28), 3), (19, .aload 4, 2), (21, .iload 3, 1), (22, .invokevirtual 1380617, 3), (25, .ifCond .ne (.ofNat 30), 3), (28, .iconst (.negSucc 0), 1), (29, .ireturn, 1), (30, .aload 4, 2), (32, .getfield 537, 3), (35, .iload 2, 1), (36, .iaload, 1), (37, .istore 5, 2), (39, .aload 4, 2), (41, .getfield 537, 3), (44, .iload 2, 1), (45, .iload 3, 1), (46, .iastore, 1), (47, .iload 5, 2), (49, .ireturn, 1)]
def E_C_value : List En := [(0, .aload 0, 1), (1, .iload 1, 1), (2, .invokevirtual 2429707, 3), (5, .astore 3, 1), (6, .aload 0, 1), (7, .iload 2, 1), (8, .invokevirtual 2953995, 3), (11, .astore 4, 2), (13, .aload 3, 1), (14, .ifnull (.ofNat 22), 3), (17, .aload 4, 2), (19, .ifnonnull (.ofNat 24), 3), (22, .iconst (.negSucc 0), 1), (23, .ireturn, 1), (24, .aload 4, 2), (26, .invokevirtual 67585, 3), (29, .ifCond .eq (.ofNat 35), 3), (32, .iconst (.negSucc 2), 2), (34, .ireturn, 1), (35, .aload 3, 1), (36, .getfield 533, 3), (39, .aload 4, 2), (41, .aload 3, 1), (42, .invokevirtual 135177, 3), (45, .iaload, 1), (46, .ireturn, 1)]
def E_C_isForced : List En := [(0, .aload 0, 1), (1, .iload 1, 1), (2, .invokevirtual 2429707, 3), (5, .astore 4, 2), (7, .aload 0, 1), (8, .iload 2, 1), (9, .invokevirtual 2953995, 3), (12, .astore 5, 2), (14, .aload 4, 2), (16, .ifnull (.ofNat 33), 3), (19, .aload 5, 2), (21, .ifnull (.ofNat 33), 3), (24, .aload 4, 2), (26, .iload 3, 1), (27, .invokevirtual 954633, 3), (30, .ifCond .ne (.ofNat 35), 3), (33, .iconst (.negSucc 0), 1), (34, .ireturn, 1), (35, .aload 5, 2), (37, .invokevirtual 67585, 3), (40, .ifCond .eq (.ofNat 46), 3), (43, .iconst (.negSucc 2), 2), (45, .ireturn, 1), (46, .aload 5, 2), (48, .aload 4, 2), (50, .invokevirtual 135177, 3), (53, .iload 3, 1), (54, .ishr, 1), (55, .iconst (.ofNat 1), 1), (56, .iand, 1), (57, .ireturn, 1)]
def E_C_isValid : List En := [(0, .aload 0, 1), (1, .iload 1, 1), (2, .invokevirtual 2429707, 3), (5, .astore 3, 1), (6, .aload 0, 1), (7, .iload 2, 1), (8, .invokevirtual 2953995, 3), (11, .astore 4, 2), (13, .aload 3, 1), (14, .ifnull (.ofNat 22), 3), (17, .aload 4, 2), (19, .ifnonnull (.ofNat 24), 3), (22, .iconst (.negSucc 0), 1), (23, .ireturn, 1), (24, .aload 3, 1), (25, .aload 4, 2), (27, .invokestatic 3248913, 3), (30, .istore 5, 2), (32, .iload 5, 2), (34, .ifCond .eq (.ofNat 40), 3), (37, .iload 5, 2), (39, .ireturn, 1), (40, .aload 4, 2), (42, .aload 3, 1), (43, .invokevirtual 299017, 3), (46, .iconst (.negSucc 5), 2), (48, .if_icmp .ne (.ofNat 55), 3), (51, .iconst (.ofNat 1), 1), (52, .goto (.ofNat 56), 3), (55, .iconst (.ofNat 0), 1), (56, .ireturn, 1)]
def E_C_refusalToSearch : List En := [(0, .aload 1, 1), (1, .invokevirtual 67585, 3), (4, .ifCond .eq (.ofNat 10), 3), (7, .iconst (.negSucc 2), 2), (9, .ireturn, 1), (10, .aload 1, 1), (11, .aload 0, 1), (12, .invokevirtual 233481, 3), (15, .iconst (.ofNat 20000), 3), (18, .if_icmp .le (.ofNat 26), 3), (21, .iconst (.negSucc 4), 2), (23, .goto (.ofNat 27), 3), (26, .iconst (.ofNat 0), 1), (27, .ireturn, 1)]
def E_C_refutation : List En := [(0, .aload 0, 1), (1, .iload 1, 1), (2, .invokevirtual 2429707, 3), (5, .astore 4, 2), (7, .aload 0, 1), (8, .iload 2, 1), (9, .invokevirtual 2953995, 3), (12, .astore 5, 2), (14, .aload 4, 2), (16, .ifnull (.ofNat 31), 3), (19, .aload 5, 2), (21, .ifnull (.ofNat 31), 3), (24, .iload 3, 1), (25, .invokestatic 3050249, 3), (28, .ifCond .ne (.ofNat 33), 3), (31, .iconst (.negSucc 0), 1), (32, .ireturn, 1), (33, .aload 4, 2), (35, .aload 5, 2), (37, .invokestatic 3248913, 3), (40, .istore 6, 2), (42, .iload 6, 2), (44, .ifCond .eq (.ofNat 50), 3), (47, .iload 6, 2), (49, .ireturn, 1), (50, .aload 5, 2), (52, .aload 4, 2), (54, .invokevirtual 299017, 3), (57, .istore 7, 2), (59, .iload 7, 2), (61, .iconst (.negSucc 5), 2), (63, .if_icmp .ne (.ofNat 71), 3), (66, .iconst (.negSucc 5), 2), (68, .goto (.ofNat 77), 3), (71, .iload 7, 2), (73, .iload 3, 1), (74, .invokestatic 331793, 3), (77, .ireturn, 1)]
def E_C_countValuations : List En := [(0, .aload 0, 1), (1, .iload 1, 1), (2, .invokevirtual 2429707, 3), (5, .astore 4, 2), (7, .aload 0, 1), (8, .iload 2, 1), (9, .invokevirtual 2953995, 3), (12, .astore 5, 2), (14, .aload 4, 2), (16, .ifnull (.ofNat 33), 3), (19, .aload 5, 2), (21, .ifnull (.ofNat 33), 3), (24, .aload 4, 2), (26, .iload 3, 1), (27, .invokevirtual 1380617, 3), (30, .ifCond .ne (.ofNat 35), 3), (33, .iconst (.negSucc 0), 1), (34, .ireturn, 1), (35, .aload 4, 2), (37, .aload 5, 2), (39, .invokestatic 3248913, 3), (42, .istore 6, 2), (44, .iload 6, 2), (46, .ifCond .eq (.ofNat 52), 3), (49, .iload 6, 2), (51, .ireturn, 1), (52, .aload 5, 2), (54, .aload 4, 2), (56, .aload 4, 2), (58, .getfield 529, 3), (61, .iload 3, 1), (62, .iaload, 1), (63, .invokevirtual 366609, 3), (66, .ireturn, 1)]
def E_C_filterClass : List En := [(0, .aload 0, 1), (1, .iload 1, 1), (2, .iload 2, 1), (3, .iload 3, 1), (4, .iconst (.ofNat 0), 1), (5, .invokevirtual 2763553, 3), (8, .ireturn, 1)]
def E_C_quotientSize : List En := [(0, .aload 0, 1), (1, .iload 1, 1), (2, .invokevirtual 2429707, 3), (5, .astore 3, 1), (6, .aload 3, 1), (7, .ifnull (.ofNat 18), 3), (10, .aload 3, 1), (11, .iload 2, 1), (12, .invokevirtual 1380617, 3), (15, .ifCond .ne (.ofNat 20), 3), (18, .iconst (.negSucc 0), 1), (19, .ireturn, 1), (20, .aload 3, 1), (21, .aload 3, 1), (22, .getfield 529, 3), (25, .iload 2, 1), (26, .iaload, 1), (27, .invokevirtual 1478921, 3), (30, .ireturn, 1)]
def E_C_isPrime : List En := [(0, .aload 0, 1), (1, .iload 1, 1), (2, .invokevirtual 2429707, 3), (5, .astore 3, 1), (6, .aload 3, 1), (7, .ifnull (.ofNat 18), 3), (10, .aload 3, 1), (11, .iload 2, 1), (12, .invokevirtual 1380617, 3), (15, .ifCond .ne (.ofNat 20), 3), (18, .iconst (.negSucc 0), 1), (19, .ireturn, 1), (20, .aload 3, 1), (21, .aload 3, 1), (22, .getfield 529, 3), (25, .iload 2, 1), (26, .iaload, 1), (27, .invokevirtual 1511689, 3), (30, .ifCond .eq (.ofNat 37), 3), (33, .iconst (.ofNat 1), 1), (34, .goto (.ofNat 38), 3), (37, .iconst (.ofNat 0), 1), (38, .ireturn, 1)]
def E_C_addGenerator : List En := [(0, .iload 1, 1), (1, .ifCond .lt (.ofNat 10), 3), (4, .iload 1, 1), (5, .iconst (.ofNat 64), 2), (7, .if_icmp .lt (.ofNat 13), 3), (10, .iconst (.negSucc 1), 2), (12, .ireturn, 1), (13, .aload 0, 1), (14, .getfield 1556, 3), (17, .iconst (.ofNat 4), 1), (18, .if_icmp .lt (.ofNat 24), 3), (21, .iconst (.negSucc 6), 2), (23, .ireturn, 1), (24, .aload 0, 1), (25, .getfield 1553, 3), (28, .aload 0, 1), (29, .getfield 1556, 3), (32, .iload 1, 1), (33, .iastore, 1), (34, .aload 0, 1), (35, .dup, 1), (36, .getfield 1556, 3), (39, .iconst (.ofNat 1), 1), (40, .iadd, 1), (41, .putfield 1556, 3), (44, .aload 0, 1), (45, .getfield 1556, 3), (48, .ireturn, 1)]
def E_C_clearGenerators : List En := [(0, .aload 0, 1), (1, .getfield 1556, 3), (4, .istore 1, 1), (5, .aload 0, 1), (6, .iconst (.ofNat 0), 1), (7, .putfield 1556, 3), (10, .iload 1, 1), (11, .ireturn, 1)]
def E_C_generate : List En := [(0, .aload 0, 1), (1, .iload 1, 1), (2, .invokevirtual 2429707, 3), (5, .astore 2, 1), (6, .aload 2, 1), (7, .ifnonnull (.ofNat 12), 3), (10, .iconst (.negSucc 0), 1), (11, .ireturn, 1), (12, .iconst (.ofNat 0), 1), (13, .istore 3, 1), (14, .iload 13, 0), (14, .iload 3, 1), (15, .aload 0, 1), (16, .getfield 1556, 3), (19, .if_icmp .ge (.ofNat 44), 3), (22, .aload 2, 1), (23, .aload 0, 1), (24, .getfield 1553, 3), (27, .iload 3, 1), (28, .iaload, 1), (29, .invokevirtual 1380617, 3), (32, .ifCond .ne (.ofNat 38), 3), (35, .iconst (.negSucc 1), 2), (37, .ireturn, 1), (38, .iinc 3 (.ofNat 1), 3), (41, .goto (.ofNat 14), 3), (44, .aload 0, 1), (45, .getfield 1561, 3), (48, .aload 2, 1), (49, .invokevirtual 1774088, 3), (52, .iconst (.ofNat 0), 1), (53, .istore 3, 1), (54, .iload 13, 0), (54, .iload 3, 1), (55, .aload 0, 1), (56, .getfield 1556, 3), (59, .if_icmp .ge (.ofNat 83), 3), (62, .aload 0, 1), (63, .getfield 1561, 3), (66, .getfield 1029, 3), (69, .aload 0, 1), (70, .getfield 1553, 3), (73, .iload 3, 1), (74, .iaload, 1), (75, .sipush (.ofNat 1), 1), (76, .lastore, 1), (77, .iinc 3 (.ofNat 1), 3), (80, .goto (.ofNat 54), 3), (83, .aload 0, 1), (84, .getfield 1561, 3), (87, .aload 2, 1), (88, .invokevirtual 1806856, 3), (91, .aload 0, 1), (92, .getfield 1561, 3), (95, .aload 2, 1), (96, .invokevirtual 1937928, 3), (99, .aload 0, 1), (100, .getfield 1561, 3), (103, .getfield 1044, 3), (106, .ireturn, 1)]
def E_C_term : List En := [(0, .iload 1, 1), (1, .ifCond .lt (.ofNat 15), 3), (4, .iload 1, 1), (5, .aload 0, 1), (6, .getfield 1561, 3), (9, .getfield 1024, 3), (12, .if_icmp .lt (.ofNat 19), 3), (15, .sipush (.negSucc 0), 3), (18, .lreturn, 1), (19, .iload 2, 1), (20, .ifCond .lt (.ofNat 28), 3), (23, .iload 2, 1), (24, .iconst (.ofNat 3), 1), (25, .if_icmp .le (.ofNat 32), 3), (28, .sipush (.negSucc 1), 3), (31, .lreturn, 1), (32, .aload 0, 1), (33, .getfield 1561, 3), (36, .getfield 1029, 3), (39, .iload 1, 1), (40, .laload, 1), (41, .sipush (.ofNat 0), 1), (42, .lcmp, 1), (43, .ifCond .ne (.ofNat 50), 3), (46, .sipush (.negSucc 5), 3), (49, .lreturn, 1), (50, .iload 2, 1), (51, .tableswitch (.ofNat 108) (.ofNat 0) (.ofNat 2) #[(.ofNat 76), (.ofNat 86), (.ofNat 97)], 25), (76, .aload 0, 1), (77, .getfield 1561, 3), (80, .getfield 1029, 3), (83, .iload 1, 1), (84, .laload, 1), (85, .lreturn, 1), (86, .aload 0, 1), (87, .getfield 1561, 3), (90, .getfield 1033, 3), (93, .iload 1, 1), (94, .iaload, 1), (95, .i2l, 1), (96, .lreturn, 1), (97, .aload 0, 1), (98, .getfield 1561, 3), (101, .getfield 1037, 3), (104, .iload 1, 1), (105, .iaload, 1), (106, .i2l, 1), (107, .lreturn, 1), (108, .aload 0, 1), (109, .getfield 1561, 3), (112, .getfield 1041, 3), (115, .iload 1, 1), (116, .iaload, 1), (117, .i2l, 1), (118, .lreturn, 1)]
def E_C_countMaps : List En := [(0, .aload 0, 1), (1, .iload 1, 1), (2, .invokevirtual 2429707, 3), (5, .astore 4, 2), (7, .aload 0, 1), (8, .iload 2, 1), (9, .invokevirtual 2429707, 3), (12, .astore 5, 2), (14, .aload 4, 2), (16, .ifnull (.ofNat 24), 3), (19, .aload 5, 2), (21, .ifnonnull (.ofNat 26), 3), (24, .iconst (.negSucc 0), 1), (25, .ireturn, 1), (26, .iload 3, 1), (27, .ifCond .lt (.ofNat 35), 3), (30, .iload 3, 1), (31, .iconst (.ofNat 3), 1), (32, .if_icmp .le (.ofNat 38), 3), (35, .iconst (.negSucc 1), 2), (37, .ireturn, 1), (38, .new 1, 3), (41, .dup, 1), (42, .aload 4, 2), (44, .aload 5, 2), (46, .iload 3, 1), (47, .iconst (.ofNat 0), 1), (48, .invokespecial 403616, 3), (51, .astore 6, 2), (53, .aload 6, 2), (55, .iconst (.ofNat 0), 1), (56, .invokestatic 3609360, 3), (59, .aload 6, 2), (61, .getfield 276, 3), (64, .ireturn, 1)]
def E_C_searchMaps : List En := [(0, .iload 1, 1), (1, .aload 0, 1), (2, .getfield 257, 3), (5, .getfield 512, 3), (8, .if_icmp .lt (.ofNat 16), 3), (11, .aload 0, 1), (12, .invokevirtual 428160, 3), (15, .return_, 1), (16, .iconst (.ofNat 0), 1), (17, .istore 2, 1), (18, .iload 7, 0), (18, .iload 2, 1), (19, .aload 0, 1), (20, .getfield 261, 3), (23, .getfield 512, 3), (26, .if_icmp .ge (.ofNat 72), 3), (29, .aload 0, 1), (30, .getfield 273, 3), (33, .iload 1, 1), (34, .iload 2, 1), (35, .iastore, 1), (36, .aload 0, 1), (37, .iload 1, 1), (38, .invokevirtual 528521, 3), (41, .ifCond .eq (.ofNat 66), 3), (44, .aload 0, 1), (45, .iload 1, 1), (46, .iconst (.ofNat 1), 1), (47, .iadd, 1), (48, .invokestatic 3609360, 3), (51, .aload 0, 1), (52, .getfield 270, 3), (55, .ifCond .eq (.ofNat 66), 3), (58, .aload 0, 1), (59, .getfield 276, 3), (62, .ifCond .le (.ofNat 66), 3), (65, .return_, 1), (66, .iinc 2 (.ofNat 1), 3), (69, .goto (.ofNat 18), 3), (72, .return_, 1)]
def E_C_firstMap : List En := [(0, .aload 0, 1), (1, .iload 1, 1), (2, .invokevirtual 2429707, 3), (5, .astore 4, 2), (7, .aload 0, 1), (8, .iload 2, 1), (9, .invokevirtual 2429707, 3), (12, .astore 5, 2), (14, .aload 4, 2), (16, .ifnull (.ofNat 24), 3), (19, .aload 5, 2), (21, .ifnonnull (.ofNat 26), 3), (24, .iconst (.negSucc 0), 1), (25, .ireturn, 1), (26, .iload 3, 1), (27, .ifCond .lt (.ofNat 35), 3), (30, .iload 3, 1), (31, .iconst (.ofNat 3), 1), (32, .if_icmp .le (.ofNat 38), 3), (35, .iconst (.negSucc 1), 2), (37, .ireturn, 1), (38, .new 1, 3), (41, .dup, 1), (42, .aload 4, 2), (44, .aload 5, 2), (46, .iload 3, 1), (47, .iconst (.ofNat 1), 1), (48, .invokespecial 403616, 3), (51, .astore 6, 2), (53, .aload 6, 2), (55, .iconst (.ofNat 0), 1), (56, .invokestatic 3609360, 3), (59, .aload 6, 2), (61, .getfield 276, 3), (64, .ifCond .ne (.ofNat 72), 3), (67, .iconst (.negSucc 5), 2), (69, .goto (.ofNat 77), 3), (72, .aload 6, 2), (74, .invokevirtual 592001, 3), (77, .ireturn, 1)]
def E_C_isIsomorphic : List En := [(0, .aload 0, 1), (1, .iload 1, 1), (2, .invokevirtual 2429707, 3), (5, .astore 3, 1), (6, .aload 0, 1), (7, .iload 2, 1), (8, .invokevirtual 2429707, 3), (11, .astore 4, 2), (13, .aload 3, 1), (14, .ifnull (.ofNat 22), 3), (17, .aload 4, 2), (19, .ifnonnull (.ofNat 24), 3), (22, .iconst (.negSucc 0), 1), (23, .ireturn, 1), (24, .aload 3, 1), (25, .getfield 512, 3), (28, .aload 4, 2), (30, .getfield 512, 3), (33, .if_icmp .eq (.ofNat 38), 3), (36, .iconst (.ofNat 0), 1), (37, .ireturn, 1), (38, .new 1, 3), (41, .dup, 1), (42, .aload 3, 1), (43, .aload 4, 2), (45, .iconst (.ofNat 3), 1), (46, .iconst (.ofNat 1), 1), (47, .invokespecial 403616, 3), (50, .astore 5, 2), (52, .aload 5, 2), (54, .iconst (.ofNat 0), 1), (55, .invokestatic 3609360, 3), (58, .aload 5, 2), (60, .getfield 276, 3), (63, .ifCond .ne (.ofNat 70), 3), (66, .iconst (.ofNat 0), 1), (67, .goto (.ofNat 71), 3), (70, .iconst (.ofNat 1), 1), (71, .ireturn, 1)]
def E_C_sum : List En := [(0, .aload 0, 1), (1, .iload 1, 1), (2, .invokevirtual 2429707, 3), (5, .astore 5, 2), (7, .aload 0, 1), (8, .iload 2, 1), (9, .invokevirtual 2429707, 3), (12, .astore 6, 2), (14, .aload 0, 1), (15, .iload 4, 2), (17, .invokevirtual 2429707, 3), (20, .astore 7, 2), (22, .aload 5, 2), (24, .ifnull (.ofNat 37), 3), (27, .aload 6, 2), (29, .ifnull (.ofNat 37), 3), (32, .aload 7, 2), (34, .ifnonnull (.ofNat 39), 3), (37, .iconst (.negSucc 0), 1), (38, .ireturn, 1), (39, .iload 3, 1), (40, .ifCond .lt (.ofNat 48), 3), (43, .iload 3, 1), (44, .iconst (.ofNat 1), 1), (45, .if_icmp .le (.ofNat 51), 3), (48, .iconst (.negSucc 1), 2), (50, .ireturn, 1), (51, .aload 5, 2), (53, .getfield 512, 3), (56, .aload 6, 2), (58, .getfield 512, 3), (61, .iadd, 1), (62, .istore 8, 2), (64, .iload 8, 2), (66, .iconst (.ofNat 6), 2), (68, .if_icmp .le (.ofNat 74), 3), (71, .iconst (.negSucc 4), 2), (73, .ireturn, 1), (74, .iload 3, 1), (75, .iconst (.ofNat 1), 1), (76, .if_icmp .ne (.ofNat 93), 3), (79, .aload 6, 2), (81, .invokevirtual 821505, 3), (84, .aload 5, 2), (86, .getfield 512, 3), (89, .ishl, 1), (90, .goto (.ofNat 94), 3), (93, .iconst (.ofNat 0), 1), (94, .istore 9, 2), (96, .iconst (.ofNat 0), 1), (97, .istore 10, 2), (99, .iload 2017, 0), (99, .iload 10, 2), (101, .aload 5, 2), (103, .getfield 512, 3), (106, .if_icmp .ge (.ofNat 133), 3), (109, .aload 0, 1), (110, .getfield 1569, 3), (113, .iload 10, 2), (115, .aload 5, 2), (117, .getfield 517, 3), (120, .iload 10, 2), (122, .iaload, 1), (123, .iload 9, 2), (125, .ior, 1), (126, .iastore, 1), (127, .iinc 10 (.ofNat 1), 3), (130, .goto (.ofNat 99), 3), (133, .iconst (.ofNat 0), 1), (134, .istore 10, 2), (136, .iload 1505, 0), (136, .iload 10, 2), (138, .aload 6, 2), (140, .getfield 512, 3), (143, .if_icmp .ge (.ofNat 179), 3), (146, .aload 0, 1), (147, .getfield 1569, 3), (150, .aload 5, 2), (152, .getfield 512, 3), (155, .iload 10, 2), (157, .iadd, 1), (158, .aload 6, 2), (160, .getfield 517, 3), (163, .iload 10, 2), (165, .iaload, 1), (166, .aload 5, 2), (168, .getfield 512, 3), (171, .ishl, 1), (172, .iastore, 1), (173, .iinc 10 (.ofNat 1), 3), (176, .goto (.ofNat 136), 3), (179, .aload 7, 2), (181, .iload 8, 2), (183, .aload 0, 1), (184, .getfield 1569, 3), (187, .invokevirtual 891152, 3), (190, .iload 8, 2), (192, .ireturn, 1)]
def E_C_product : List En := [(0, .aload 0, 1), (1, .iload 1, 1), (2, .invokevirtual 2429707, 3), (5, .astore 4, 2), (7, .aload 0, 1), (8, .iload 2, 1), (9, .invokevirtual 2429707, 3), (12, .astore 5, 2), (14, .aload 0, 1), (15, .iload 3, 1), (16, .invokevirtual 2429707, 3), (19, .astore 6, 2), (21, .aload 4, 2), (23, .ifnull (.ofNat 36), 3), (26, .aload 5, 2), (28, .ifnull (.ofNat 36), 3), (31, .aload 6, 2), (33, .ifnonnull (.ofNat 38), 3), (36, .iconst (.negSucc 0), 1), (37, .ireturn, 1), (38, .aload 4, 2), (40, .getfield 512, 3), (43, .aload 5, 2), (45, .getfield 512, 3), (48, .imul, 1), (49, .istore 7, 2), (51, .iload 7, 2), (53, .iconst (.ofNat 6), 2), (55, .if_icmp .le (.ofNat 61), 3), (58, .iconst (.negSucc 4), 2), (60, .ireturn, 1), (61, .iconst (.ofNat 0), 1), (62, .istore 8, 2), (64, .iload 497, 0), (64, .iload 8, 2), (66, .aload 4, 2), (68, .getfield 512, 3), (71, .if_icmp .ge (.ofNat 126), 3), (74, .iconst (.ofNat 0), 1), (75, .istore 9, 2), (77, .iload 1009, 0), (77, .iload 9, 2), (79, .aload 5, 2), (81, .getfield 512, 3), (84, .if_icmp .ge (.ofNat 120), 3), (87, .aload 0, 1), (88, .getfield 1569, 3), (91, .iload 8, 2), (93, .aload 5, 2), (95, .getfield 512, 3), (98, .imul, 1), (99, .iload 9, 2), (101, .iadd, 1), (102, .aload 4, 2), (104, .iload 8, 2), (106, .aload 5, 2), (108, .iload 9, 2), (110, .invokestatic 3777313, 3), (113, .iastore, 1), (114, .iinc 9 (.ofNat 1), 3), (117, .goto (.ofNat 77), 3), (120, .iinc 8 (.ofNat 1), 3), (123, .goto (.ofNat 64), 3), (126, .aload 6, 2), (128, .iload 7, 2), (130, .aload 0, 1), (131, .getfield 1569, 3), (134, .invokevirtual 891152, 3), (137, .iload 7, 2), (139, .ireturn, 1)]
def E_C_pairsAbove : List En := [(0, .iconst (.ofNat 0), 1), (1, .istore 4, 2), (3, .iconst (.ofNat 0), 1), (4, .istore 5, 2), (6, .iload 63, 0), (6, .iload 5, 2), (8, .aload 0, 1), (9, .getfield 512, 3), (12, .if_icmp .ge (.ofNat 50), 3), (15, .aload 0, 1), (16, .iload 1, 1), (17, .iload 5, 2), (19, .invokevirtual 760081, 3), (22, .ifCond .eq (.ofNat 44), 3), (25, .iload 4, 2), (27, .aload 2, 1), (28, .getfield 517, 3), (31, .iload 3, 1), (32, .iaload, 1), (33, .iload 5, 2), (35, .aload 2, 1), (36, .getfield 512, 3), (39, .imul, 1), (40, .ishl, 1), (41, .ior, 1), (42, .istore 4, 2), (44, .iinc 5 (.ofNat 1), 3), (47, .goto (.ofNat 6), 3), (50, .iload 4, 2), (52, .ireturn, 1)]
def E_C_restrict : List En := [(0, .aload 0, 1), (1, .iload 1, 1), (2, .invokevirtual 2429707, 3), (5, .astore 4, 2), (7, .aload 0, 1), (8, .iload 3, 1), (9, .invokevirtual 2429707, 3), (12, .astore 5, 2), (14, .aload 4, 2), (16, .ifnull (.ofNat 33), 3), (19, .aload 5, 2), (21, .ifnull (.ofNat 33), 3), (24, .aload 4, 2), (26, .iload 2, 1), (27, .invokevirtual 1380617, 3), (30, .ifCond .ne (.ofNat 35), 3), (33, .iconst (.negSucc 0), 1), (34, .ireturn, 1), (35, .aload 4, 2), (37, .getfield 529, 3), (40, .iload 2, 1), (41, .iaload, 1), (42, .istore 6, 2), (44, .iload 6, 2), (46, .ifCond .ne (.ofNat 52), 3), (49, .iconst (.negSucc 1), 2), (51, .ireturn, 1), (52, .iconst (.ofNat 0), 1), (53, .istore 7, 2), (55, .iconst (.ofNat 0), 1), (56, .istore 8, 2), (58, .iload 497, 0), (58, .iload 8, 2), (60, .aload 4, 2), (62, .getfield 512, 3), (65, .if_icmp .ge (.ofNat 107), 3), (68, .iload 6, 2), (70, .iload 8, 2), (72, .ishr, 1), (73, .iconst (.ofNat 1), 1), (74, .iand, 1), (75, .ifCond .eq (.ofNat 101), 3), (78, .aload 0, 1), (79, .getfield 1569, 3), (82, .iload 7, 2), (84, .aload 4, 2), (86, .getfield 517, 3), (89, .iload 8, 2), (91, .iaload, 1), (92, .iload 6, 2), (94, .invokestatic 3838737, 3), (97, .iastore, 1), (98, .iinc 7 (.ofNat 1), 3), (101, .iinc 8 (.ofNat 1), 3), (104, .goto (.ofNat 58), 3), (107, .aload 5, 2), (109, .iload 7, 2), (111, .aload 0, 1), (112, .getfield 1569, 3), (115, .invokevirtual 891152, 3), (118, .iload 7, 2), (120, .ireturn, 1)]
def E_C_renumbered : List En := [(0, .iconst (.ofNat 0), 1), (1, .istore 2, 1), (2, .iconst (.ofNat 0), 1), (3, .istore 3, 1), (4, .iconst (.ofNat 0), 1), (5, .istore 4, 2), (7, .iload 31, 0), (7, .iload 4, 2), (9, .iconst (.ofNat 6), 2), (11, .if_icmp .ge (.ofNat 43), 3), (14, .iload 1, 1), (15, .iload 4, 2), (17, .ishr, 1), (18, .iconst (.ofNat 1), 1), (19, .iand, 1), (20, .ifCond .eq (.ofNat 37), 3), (23, .iload 2, 1), (24, .iload 0, 1), (25, .iload 4, 2), (27, .ishr, 1), (28, .iconst (.ofNat 1), 1), (29, .iand, 1), (30, .iload 3, 1), (31, .ishl, 1), (32, .ior, 1), (33, .istore 2, 1), (34, .iinc 3 (.ofNat 1), 3), (37, .iinc 4 (.ofNat 1), 3), (40, .goto (.ofNat 7), 3), (43, .iload 2, 1), (44, .ireturn, 1)]
def E_C_dual : List En := [(0, .aload 0, 1), (1, .iload 1, 1), (2, .invokevirtual 2429707, 3), (5, .astore 3, 1), (6, .aload 0, 1), (7, .iload 2, 1), (8, .invokevirtual 2429707, 3), (11, .astore 4, 2), (13, .aload 3, 1), (14, .ifnull (.ofNat 22), 3), (17, .aload 4, 2), (19, .ifnonnull (.ofNat 24), 3), (22, .iconst (.negSucc 0), 1), (23, .ireturn, 1), (24, .aload 3, 1), (25, .getfield 512, 3), (28, .istore 5, 2), (30, .iconst (.ofNat 0), 1), (31, .istore 6, 2), (33, .iload 121, 0), (33, .iload 6, 2), (35, .iload 5, 2), (37, .if_icmp .ge (.ofNat 62), 3), (40, .aload 0, 1), (41, .getfield 1569, 3), (44, .iload 6, 2), (46, .aload 3, 1), (47, .getfield 521, 3), (50, .iconst (.ofNat 1), 1), (51, .iload 6, 2), (53, .ishl, 1), (54, .iaload, 1), (55, .iastore, 1), (56, .iinc 6 (.ofNat 1), 3), (59, .goto (.ofNat 33), 3), (62, .aload 4, 2), (64, .iload 5, 2), (66, .aload 0, 1), (67, .getfield 1569, 3), (70, .invokevirtual 891152, 3), (73, .iload 5, 2), (75, .ireturn, 1)]
def E_C_allocate : List En := [(0, .aload 0, 1), (1, .iload 1, 1), (2, .invokevirtual 3937035, 3), (5, .astore 4, 2), (7, .aload 4, 2), (9, .ifnonnull (.ofNat 14), 3), (12, .iconst (.negSucc 0), 1), (13, .ireturn, 1), (14, .iload 2, 1), (15, .ifCond .lt (.ofNat 29), 3), (18, .iload 2, 1), (19, .iconst (.ofNat 2), 1), (20, .if_icmp .gt (.ofNat 29), 3), (23, .iload 3, 1), (24, .iconst (.ofNat 30), 2), (26, .if_icmp .le (.ofNat 32), 3), (29, .iconst (.negSucc 1), 2), (31, .ireturn, 1), (32, .iload 3, 1), (33, .ifCond .ge (.ofNat 39), 3), (36, .iconst (.negSucc 10), 2), (38, .ireturn, 1), (39, .aload 4, 2), (41, .iload 2, 1), (42, .iload 3, 1), (43, .invokevirtual 1579408, 3), (46, .iload 3, 1), (47, .ireturn, 1)]
def E_C_rowAt : List En := [(0, .iload 1, 1), (1, .ifCond .lt (.ofNat 18), 3), (4, .iload 1, 1), (5, .iconst (.ofNat 3), 1), (6, .if_icmp .ge (.ofNat 18), 3), (9, .aload 0, 1), (10, .getfield 1545, 3), (13, .iload 1, 1), (14, .aaload, 1), (15, .goto (.ofNat 19), 3), (18, .aconst_null, 1), (19, .areturn, 1)]
def E_C_put : List En := [(0, .aload 0, 1), (1, .iload 1, 1), (2, .invokevirtual 3937035, 3), (5, .astore 4, 2), (7, .aload 4, 2), (9, .ifnonnull (.ofNat 14), 3), (12, .iconst (.negSucc 0), 1), (13, .ireturn, 1), (14, .aload 4, 2), (16, .invokevirtual 1608065, 3), (19, .ifCond .eq (.ofNat 25), 3), (22, .iconst (.negSucc 7), 2), (24, .ireturn, 1), (25, .aload 4, 2), (27, .iload 2, 1), (28, .invokevirtual 1642889, 3), (31, .ifCond .ne (.ofNat 37), 3), (34, .iconst (.negSucc 9), 2), (36, .ireturn, 1), (37, .aload 4, 2), (39, .getfield 777, 3), (42, .iload 2, 1), (43, .aload 4, 2), (45, .iload 3, 1), (46, .invokevirtual 1675657, 3), (49, .iastore, 1), (50, .iconst (.ofNat 1), 1), (51, .ireturn, 1)]
def E_C_rowElement : List En := [(0, .aload 0, 1), (1, .iload 1, 1), (2, .invokevirtual 3937035, 3), (5, .astore 3, 1), (6, .aload 3, 1), (7, .ifnull (.ofNat 25), 3), (10, .aload 3, 1), (11, .invokevirtual 1608065, 3), (14, .ifCond .ne (.ofNat 25), 3), (17, .aload 3, 1), (18, .iload 2, 1), (19, .invokevirtual 1642889, 3), (22, .ifCond .ne (.ofNat 29), 3), (25, .sipush (.negSucc 9223372036854775807), 3), (28, .lreturn, 1), (29, .aload 3, 1), (30, .getfield 777, 3), (33, .iload 2, 1), (34, .iaload, 1), (35, .i2l, 1), (36, .lreturn, 1)]
def E_C_copyElements : List En := [(0, .aload 0, 1), (1, .iload 1, 1), (2, .invokevirtual 3937035, 3), (5, .astore 6, 2), (7, .aload 0, 1), (8, .iload 3, 1), (9, .invokevirtual 3937035, 3), (12, .astore 7, 2), (14, .aload 6, 2), (16, .ifnull (.ofNat 24), 3), (19, .aload 7, 2), (21, .ifnonnull (.ofNat 26), 3), (24, .iconst (.negSucc 0), 1), (25, .ireturn, 1), (26, .aload 6, 2), (28, .invokevirtual 1608065, 3), (31, .ifCond .ne (.ofNat 42), 3), (34, .aload 7, 2), (36, .invokevirtual 1608065, 3), (39, .ifCond .eq (.ofNat 45), 3), (42, .iconst (.negSucc 7), 2), (44, .ireturn, 1), (45, .aload 6, 2), (47, .getfield 768, 3), (50, .aload 7, 2), (52, .getfield 768, 3), (55, .if_icmp .eq (.ofNat 61), 3), (58, .iconst (.negSucc 8), 2), (60, .ireturn, 1), (61, .aload 6, 2), (63, .iload 2, 1), (64, .iload 5, 2), (66, .invokevirtual 1710481, 3), (69, .ifCond .eq (.ofNat 84), 3), (72, .aload 7, 2), (74, .iload 4, 2), (76, .iload 5, 2), (78, .invokevirtual 1710481, 3), (81, .ifCond .ne (.ofNat 87), 3), (84, .iconst (.negSucc 9), 2), (86, .ireturn, 1), (87, .aload 6, 2), (89, .getfield 777, 3), (92, .iload 2, 1), (93, .aload 7, 2), (95, .getfield 777, 3), (98, .iload 4, 2), (100, .iload 5, 2), (102, .invokestatic 9998, 3), (105, .iload 5, 2), (107, .ireturn, 1)]
def E_C_storeElements : List En := [(0, .aload 0, 1), (1, .iload 1, 1), (2, .invokevirtual 3937035, 3), (5, .astore 3, 1), (6, .aload 0, 1), (7, .iload 2, 1), (8, .invokevirtual 2429707, 3), (11, .astore 4, 2), (13, .aload 3, 1), (14, .ifnull (.ofNat 22), 3), (17, .aload 4, 2), (19, .ifnonnull (.ofNat 24), 3), (22, .iconst (.negSucc 0), 1), (23, .ireturn, 1), (24, .aload 3, 1), (25, .invokevirtual 1608065, 3), (28, .ifCond .eq (.ofNat 34), 3), (31, .iconst (.negSucc 7), 2), (33, .ireturn, 1), (34, .aload 4, 2), (36, .getfield 524, 3), (39, .aload 3, 1), (40, .getfield 772, 3), (43, .invokestatic 9996, 3), (46, .istore 5, 2), (48, .iconst (.ofNat 0), 1), (49, .istore 6, 2), (51, .iload 120, 0), (51, .iload 6, 2), (53, .iload 5, 2), (55, .if_icmp .ge (.ofNat 83), 3), (58, .aload 3, 1), (59, .getfield 777, 3), (62, .iload 6, 2), (64, .aload 3, 1), (65, .aload 4, 2), (67, .getfield 529, 3), (70, .iload 6, 2), (72, .iaload, 1), (73, .invokevirtual 1675657, 3), (76, .iastore, 1), (77, .iinc 6 (.ofNat 1), 3), (80, .goto (.ofNat 51), 3), (83, .iload 5, 2), (85, .aload 4, 2), (87, .getfield 524, 3), (90, .if_icmp .ge (.ofNat 98), 3), (93, .iconst (.negSucc 9), 2), (95, .goto (.ofNat 103), 3), (98, .aload 4, 2), (100, .getfield 524, 3), (103, .ireturn, 1)]
def E_C_loadOrder : List En := [(0, .aload 0, 1), (1, .iload 1, 1), (2, .invokevirtual 3937035, 3), (5, .astore 3, 1), (6, .aload 0, 1), (7, .iload 2, 1), (8, .invokevirtual 2429707, 3), (11, .astore 4, 2), (13, .aload 3, 1), (14, .ifnull (.ofNat 22), 3), (17, .aload 4, 2), (19, .ifnonnull (.ofNat 24), 3), (22, .iconst (.negSucc 0), 1), (23, .ireturn, 1), (24, .aload 3, 1), (25, .invokevirtual 1608065, 3), (28, .ifCond .eq (.ofNat 34), 3), (31, .iconst (.negSucc 7), 2), (33, .ireturn, 1), (34, .iconst (.ofNat 0), 1), (35, .istore 5, 2), (37, .aload 0, 1), (38, .aload 3, 1), (39, .getfield 772, 3), (42, .iconst (.ofNat 2), 1), (43, .irem, 1), (44, .ifCond .ne (.ofNat 51), 3), (47, .iconst (.ofNat 0), 1), (48, .goto (.ofNat 52), 3), (51, .iconst (.ofNat 3), 1), (52, .putfield 1564, 3), (55, .iconst (.ofNat 0), 1), (56, .istore 6, 2), (58, .iload 121, 0), (58, .iload 6, 2), (60, .iconst (.ofNat 1), 1), (61, .iadd, 1), (62, .aload 3, 1), (63, .getfield 772, 3), (66, .if_icmp .ge (.ofNat 125), 3), (69, .aload 4, 2), (71, .aload 3, 1), (72, .getfield 777, 3), (75, .iload 6, 2), (77, .iaload, 1), (78, .aload 3, 1), (79, .getfield 777, 3), (82, .iload 6, 2), (84, .iconst (.ofNat 1), 1), (85, .iadd, 1), (86, .iaload, 1), (87, .invokevirtual 923921, 3), (90, .istore 7, 2), (92, .iload 7, 2), (94, .ifCond .ge (.ofNat 116), 3), (97, .aload 0, 1), (98, .iload 7, 2), (100, .iconst (.negSucc 3), 2), (102, .if_icmp .ne (.ofNat 109), 3), (105, .iconst (.ofNat 2), 1), (106, .goto (.ofNat 110), 3), (109, .iconst (.ofNat 1), 1), (110, .putfield 1564, 3), (113, .goto (.ofNat 125), 3), (116, .iinc 5 (.ofNat 1), 3), (119, .iinc 6 (.ofNat 2), 3), (122, .goto (.ofNat 58), 3), (125, .iload 5, 2), (127, .ireturn, 1)]
def E_C_failure : List En := [(0, .aload 0, 1), (1, .getfield 1564, 3), (4, .ireturn, 1)]
def E_M_init : List En := [(0, .aload 0, 1), (1, .invokespecial 9999, 3), (4, .aload 0, 1), (5, .iconst (.ofNat 5), 1), (6, .anewarray 0, 2), (8, .putfield 1793, 3), (11, .aload 0, 1), (12, .iconst (.ofNat 30), 2), (14, .anewarray 0, 2), (16, .putfield 1797, 3), (19, .aload 0, 1), (20, .iconst (.ofNat 12), 2), (22, .anewarray 0, 2), (24, .putfield 1801, 3), (27, .aload 0, 1), (28, .iconst (.ofNat 64), 2), (30, .anewarray 0, 2), (32, .putfield 1805, 3), (35, .aload 0, 1), (36, .iconst (.ofNat 64), 2), (38, .anewarray 0, 2), (40, .putfield 1809, 3), (43, .aload 0, 1), (44, .iconst (.ofNat 40), 2), (46, .anewarray 0, 2), (48, .putfield 1817, 3), (51, .aload 0, 1), (52, .iconst (.ofNat 360), 3), (55, .anewarray 0, 2), (57, .putfield 1829, 3), (60, .aload 0, 1), (61, .iconst (.ofNat 6), 2), (63, .anewarray 0, 2), (65, .putfield 1833, 3), (68, .aload 0, 1), (69, .iconst (.ofNat 64), 2), (71, .anewarray 0, 2), (73, .putfield 1837, 3), (76, .aload 0, 1), (77, .iconst (.ofNat 64), 2), (79, .anewarray 0, 2), (81, .putfield 1841, 3), (84, .aload 0, 1), (85, .iconst (.ofNat 3), 1), (86, .anewarray 0, 2), (88, .putfield 1857, 3), (91, .aload 0, 1), (92, .iconst (.ofNat 64), 2), (94, .anewarray 0, 2), (96, .putfield 1861, 3), (99, .aload 0, 1), (100, .iconst (.ofNat 4), 1), (101, .anewarray 0, 2), (103, .putfield 1873, 3), (106, .aload 0, 1), (107, .iconst (.ofNat 64), 2), (109, .anewarray 0, 2), (111, .putfield 1877, 3), (114, .aload 0, 1), (115, .iconst (.ofNat 64), 2), (117, .anewarray 0, 2), (119, .putfield 1881, 3), (122, .aload 0, 1), (123, .iconst (.ofNat 64), 2), (125, .anewarray 0, 2), (127, .putfield 1885, 3), (130, .aload 0, 1), (131, .iconst (.ofNat 64), 2), (133, .anewarray 1, 2), (135, .putfield 1889, 3), (138, .aload 0, 1), (139, .iconst (.negSucc 0), 1), (140, .putfield 1896, 3), (143, .aload 0, 1), (144, .iconst (.ofNat 6), 2), (146, .anewarray 0, 2), (148, .putfield 1901, 3), (151, .aload 0, 1), (152, .iconst (.ofNat 90), 2), (154, .anewarray 0, 2), (156, .putfield 1905, 3), (159, .aload 0, 1), (160, .iconst (.ofNat 30), 2), (162, .anewarray 0, 2), (164, .putfield 1909, 3), (167, .aload 0, 1), (168, .iconst (.ofNat 3), 1), (169, .anewarray 0, 2), (171, .dup, 1), (172, .iconst (.ofNat 0), 1), (173, .iconst (.negSucc 0), 1), (174, .iastore, 1), (175, .dup, 1), (176, .iconst (.ofNat 1), 1), (177, .iconst (.negSucc 0), 1), (178, .iastore, 1), (179, .dup, 1), (180, .iconst (.ofNat 2), 1), (181, .iconst (.negSucc 0), 1), (182, .iastore, 1), (183, .putfield 1913, 3), (186, .aload 0, 1), (187, .iconst (.ofNat 3), 1), (188, .anewarray 0, 2), (190, .putfield 1917, 3), (193, .iconst (.ofNat 0), 1), (194, .istore 1, 1), (195, .iload 3, 0), (195, .iload 1, 1), (196, .iconst (.ofNat 4), 1), (197, .if_icmp .ge (.ofNat 212), 3), (200, .aload 0, 1), (201, .iload 1, 1), (202, .iconst (.ofNat 1), 1), (203, .invokevirtual 4201360, 3), (206, .iinc 1 (.ofNat 1), 3), (209, .goto (.ofNat 195), 3), (212, .return_, 1)]
def E_M_empties : List En := [(0, .aload 0, 1), (1, .getfield 1793, 3), (4, .iload 1, 1), (5, .iload 2, 1), (6, .iastore, 1), (7, .iconst (.ofNat 0), 1), (8, .istore 3, 1), (9, .iload 15, 0), (9, .iload 3, 1), (10, .iload 2, 1), (11, .if_icmp .ge (.ofNat 34), 3), (14, .aload 0, 1), (15, .getfield 1797, 3), (18, .iconst (.ofNat 6), 2), (20, .iload 1, 1), (21, .imul, 1), (22, .iload 3, 1), (23, .iadd, 1), (24, .iconst (.ofNat 1), 1), (25, .iload 3, 1), (26, .ishl, 1), (27, .iastore, 1), (28, .iinc 3 (.ofNat 1), 3), (31, .goto (.ofNat 9), 3), (34, .iload 1, 1), (35, .iconst (.ofNat 4), 1), (36, .if_icmp .ge (.ofNat 44), 3), (39, .aload 0, 1), (40, .iload 1, 1), (41, .invokevirtual 4232072, 3), (44, .return_, 1)]
def E_M_unvalues : List En := [(0, .iconst (.ofNat 0), 1), (1, .istore 2, 1), (2, .iload 7, 0), (2, .iload 2, 1), (3, .iconst (.ofNat 3), 1), (4, .if_icmp .ge (.ofNat 24), 3), (7, .aload 0, 1), (8, .getfield 1801, 3), (11, .iconst (.ofNat 3), 1), (12, .iload 1, 1), (13, .imul, 1), (14, .iload 2, 1), (15, .iadd, 1), (16, .iconst (.ofNat 0), 1), (17, .iastore, 1), (18, .iinc 2 (.ofNat 1), 3), (21, .goto (.ofNat 2), 3), (24, .return_, 1)]
def E_M_reset : List En := [(0, .iload 1, 1), (1, .invokestatic 4295561, 3), (4, .ifCond .ne (.ofNat 9), 3), (7, .iconst (.negSucc 0), 1), (8, .ireturn, 1), (9, .iload 2, 1), (10, .i2l, 1), (11, .sipush (.ofNat 1), 1), (12, .sipush (.ofNat 6), 3), (15, .invokestatic 4338585, 3), (18, .ifCond .ne (.ofNat 24), 3), (21, .iconst (.negSucc 1), 2), (23, .ireturn, 1), (24, .aload 0, 1), (25, .getfield 1793, 3), (28, .iload 1, 1), (29, .iaload, 1), (30, .istore 3, 1), (31, .aload 0, 1), (32, .iload 1, 1), (33, .iload 2, 1), (34, .invokevirtual 4201360, 3), (37, .iload 3, 1), (38, .ireturn, 1)]
def E_M_isPoset : List En := [(0, .iload 0, 1), (1, .ifCond .lt (.ofNat 13), 3), (4, .iload 0, 1), (5, .iconst (.ofNat 4), 1), (6, .if_icmp .ge (.ofNat 13), 3), (9, .iconst (.ofNat 1), 1), (10, .goto (.ofNat 14), 3), (13, .iconst (.ofNat 0), 1), (14, .ireturn, 1)]
def E_M_isBetween : List En := [(0, .lload 0, 1), (1, .lload 2, 1), (2, .lcmp, 1), (3, .ifCond .lt (.ofNat 17), 3), (6, .lload 0, 1), (7, .lload 4, 2), (9, .lcmp, 1), (10, .ifCond .gt (.ofNat 17), 3), (13, .iconst (.ofNat 1), 1), (14, .goto (.ofNat 18), 3), (17, .iconst (.ofNat 0), 1), (18, .ireturn, 1)]
def E_M_points : List En := [(0, .iload 1, 1), (1, .invokestatic 4295561, 3), (4, .ifCond .eq (.ofNat 16), 3), (7, .aload 0, 1), (8, .getfield 1793, 3), (11, .iload 1, 1), (12, .iaload, 1), (13, .goto (.ofNat 17), 3), (16, .iconst (.negSucc 0), 1), (17, .ireturn, 1)]
def E_M_relate : List En := [(0, .iload 1, 1), (1, .invokestatic 4295561, 3), (4, .ifCond .eq (.ofNat 25), 3), (7, .aload 0, 1), (8, .iload 1, 1), (9, .iload 2, 1), (10, .invokevirtual 4430737, 3), (13, .ifCond .eq (.ofNat 25), 3), (16, .aload 0, 1), (17, .iload 1, 1), (18, .iload 3, 1), (19, .invokevirtual 4430737, 3), (22, .ifCond .ne (.ofNat 27), 3), (25, .iconst (.negSucc 0), 1), (26, .ireturn, 1), (27, .iload 2, 1), (28, .iload 3, 1), (29, .if_icmp .eq (.ofNat 45), 3), (32, .aload 0, 1), (33, .iload 1, 1), (34, .iload 3, 1), (35, .iload 2, 1), (36, .invokevirtual 4465561, 3), (39, .ifCond .eq (.ofNat 45), 3), (42, .iconst (.negSucc 3), 2), (44, .ireturn, 1), (45, .iconst (.ofNat 0), 1), (46, .istore 4, 2), (48, .iload 31, 0), (48, .iload 4, 2), (50, .aload 0, 1), (51, .getfield 1793, 3), (54, .iload 1, 1), (55, .iaload, 1), (56, .if_icmp .ge (.ofNat 102), 3), (59, .aload 0, 1), (60, .iload 1, 1), (61, .iload 4, 2), (63, .iload 2, 1), (64, .invokevirtual 4465561, 3), (67, .ifCond .eq (.ofNat 96), 3), (70, .aload 0, 1), (71, .getfield 1797, 3), (74, .iconst (.ofNat 6), 2), (76, .iload 1, 1), (77, .imul, 1), (78, .iload 4, 2), (80, .iadd, 1), (81, .dup2, 1), (82, .iaload, 1), (83, .aload 0, 1), (84, .getfield 1797, 3), (87, .iconst (.ofNat 6), 2), (89, .iload 1, 1), (90, .imul, 1), (91, .iload 3, 1), (92, .iadd, 1), (93, .iaload, 1), (94, .ior, 1), (95, .iastore, 1), (96, .iinc 4 (.ofNat 1), 3), (99, .goto (.ofNat 48), 3), (102, .aload 0, 1), (103, .iload 1, 1), (104, .invokevirtual 4232072, 3), (107, .aload 0, 1), (108, .iload 1, 1), (109, .invokevirtual 4494217, 3), (112, .ireturn, 1)]
def E_M_isPoint : List En := [(0, .iload 2, 1), (1, .ifCond .lt (.ofNat 18), 3), (4, .iload 2, 1), (5, .aload 0, 1), (6, .getfield 1793, 3), (9, .iload 1, 1), (10, .iaload, 1), (11, .if_icmp .ge (.ofNat 18), 3), (14, .iconst (.ofNat 1), 1), (15, .goto (.ofNat 19), 3), (18, .iconst (.ofNat 0), 1), (19, .ireturn, 1)]
def E_M_isLess : List En := [(0, .aload 0, 1), (1, .getfield 1797, 3), (4, .iconst (.ofNat 6), 2), (6, .iload 1, 1), (7, .imul, 1), (8, .iload 2, 1), (9, .iadd, 1), (10, .iaload, 1), (11, .iload 3, 1), (12, .ishr, 1), (13, .iconst (.ofNat 1), 1), (14, .iand, 1), (15, .iconst (.ofNat 1), 1), (16, .if_icmp .ne (.ofNat 23), 3), (19, .iconst (.ofNat 1), 1), (20, .goto (.ofNat 24), 3), (23, .iconst (.ofNat 0), 1), (24, .ireturn, 1)]
def E_M_pairs : List En := [(0, .iconst (.ofNat 0), 1), (1, .istore 2, 1), (2, .iconst (.ofNat 0), 1), (3, .istore 3, 1), (4, .iload 15, 0), (4, .iload 3, 1), (5, .aload 0, 1), (6, .getfield 1793, 3), (9, .iload 1, 1), (10, .iaload, 1), (11, .if_icmp .ge (.ofNat 39), 3), (14, .iload 2, 1), (15, .aload 0, 1), (16, .getfield 1797, 3), (19, .iconst (.ofNat 6), 2), (21, .iload 1, 1), (22, .imul, 1), (23, .iload 3, 1), (24, .iadd, 1), (25, .iaload, 1), (26, .invokestatic 4524937, 3), (29, .iconst (.ofNat 1), 1), (30, .isub, 1), (31, .iadd, 1), (32, .istore 2, 1), (33, .iinc 3 (.ofNat 1), 3), (36, .goto (.ofNat 4), 3), (39, .iload 2, 1), (40, .ireturn, 1)]
def E_M_bits : List En := [(0, .iconst (.ofNat 0), 1), (1, .istore 1, 1), (2, .iconst (.ofNat 0), 1), (3, .istore 2, 1), (4, .iload 7, 0), (4, .iload 2, 1), (5, .iconst (.ofNat 6), 2), (7, .if_icmp .ge (.ofNat 24), 3), (10, .iload 1, 1), (11, .iload 0, 1), (12, .iload 2, 1), (13, .ishr, 1), (14, .iconst (.ofNat 1), 1), (15, .iand, 1), (16, .iadd, 1), (17, .istore 1, 1), (18, .iinc 2 (.ofNat 1), 3), (21, .goto (.ofNat 4), 3), (24, .iload 1, 1), (25, .ireturn, 1)]
def E_M_isBelow : List En := [(0, .iload 1, 1), (1, .invokestatic 4295561, 3), (4, .ifCond .eq (.ofNat 25), 3), (7, .aload 0, 1), (8, .iload 1, 1), (9, .iload 2, 1), (10, .invokevirtual 4430737, 3), (13, .ifCond .eq (.ofNat 25), 3), (16, .aload 0, 1), (17, .iload 1, 1), (18, .iload 3, 1), (19, .invokevirtual 4430737, 3), (22, .ifCond .ne (.ofNat 27), 3), (25, .iconst (.negSucc 0), 1), (26, .ireturn, 1), (27, .aload 0, 1), (28, .iload 1, 1), (29, .iload 2, 1), (30, .iload 3, 1), (31, .invokevirtual 4465561, 3), (34, .ifCond .eq (.ofNat 41), 3), (37, .iconst (.ofNat 1), 1), (38, .goto (.ofNat 42), 3), (41, .iconst (.ofNat 0), 1), (42, .ireturn, 1)]
def E_M_covers : List En := [(0, .iload 1, 1), (1, .invokestatic 4295561, 3), (4, .ifCond .eq (.ofNat 16), 3), (7, .aload 0, 1), (8, .iload 1, 1), (9, .iload 2, 1), (10, .invokevirtual 4430737, 3), (13, .ifCond .ne (.ofNat 18), 3), (16, .iconst (.negSucc 0), 1), (17, .ireturn, 1), (18, .aload 0, 1), (19, .getfield 1797, 3), (22, .iconst (.ofNat 6), 2), (24, .iload 1, 1), (25, .imul, 1), (26, .iload 2, 1), (27, .iadd, 1), (28, .iaload, 1), (29, .iconst (.ofNat 1), 1), (30, .iload 2, 1), (31, .ishl, 1), (32, .iconst (.negSucc 0), 1), (33, .ixor, 1), (34, .iand, 1), (35, .istore 3, 1), (36, .iload 3, 1), (37, .istore 4, 2), (39, .iconst (.ofNat 0), 1), (40, .istore 5, 2), (42, .iload 59, 0), (42, .iload 5, 2), (44, .aload 0, 1), (45, .getfield 1793, 3), (48, .iload 1, 1), (49, .iaload, 1), (50, .if_icmp .ge (.ofNat 93), 3), (53, .iload 3, 1), (54, .iload 5, 2), (56, .ishr, 1), (57, .iconst (.ofNat 1), 1), (58, .iand, 1), (59, .iconst (.ofNat 1), 1), (60, .if_icmp .ne (.ofNat 87), 3), (63, .iload 4, 2), (65, .aload 0, 1), (66, .getfield 1797, 3), (69, .iconst (.ofNat 6), 2), (71, .iload 1, 1), (72, .imul, 1), (73, .iload 5, 2), (75, .iadd, 1), (76, .iaload, 1), (77, .iconst (.negSucc 0), 1), (78, .ixor, 1), (79, .iconst (.ofNat 1), 1), (80, .iload 5, 2), (82, .ishl, 1), (83, .ior, 1), (84, .iand, 1), (85, .istore 4, 2), (87, .iinc 5 (.ofNat 1), 3), (90, .goto (.ofNat 42), 3), (93, .iload 4, 2), (95, .ireturn, 1)]
def E_M_property : List En := [(0, .iload 1, 1), (1, .invokestatic 4295561, 3), (4, .ifCond .ne (.ofNat 9), 3), (7, .iconst (.negSucc 0), 1), (8, .ireturn, 1), (9, .iload 2, 1), (10, .tableswitch (.ofNat 88) (.ofNat 0) (.ofNat 5) #[(.ofNat 48), (.ofNat 55), (.ofNat 62), (.ofNat 69), (.ofNat 76), (.ofNat 82)], 38), (48, .aload 0, 1), (49, .iload 1, 1), (50, .iconst (.ofNat 1), 1), (51, .invokevirtual 4660113, 3), (54, .ireturn, 1), (55, .aload 0, 1), (56, .iload 1, 1), (57, .iconst (.ofNat 0), 1), (58, .invokevirtual 4660113, 3), (61, .ireturn, 1), (62, .aload 0, 1), (63, .iload 1, 1), (64, .iconst (.ofNat 1), 1), (65, .invokevirtual 4758417, 3), (68, .ireturn, 1), (69, .aload 0, 1), (70, .iload 1, 1), (71, .iconst (.ofNat 0), 1), (72, .invokevirtual 4758417, 3), (75, .ireturn, 1), (76, .aload 0, 1), (77, .iload 1, 1), (78, .invokevirtual 4789129, 3), (81, .ireturn, 1), (82, .aload 0, 1), (83, .iload 1, 1), (84, .invokevirtual 4494217, 3), (87, .ireturn, 1), (88, .iconst (.negSucc 1), 2), (90, .ireturn, 1)]
def E_M_largest : List En := [(0, .iconst (.ofNat 0), 1), (1, .istore 3, 1), (2, .iconst (.ofNat 1), 1), (3, .istore 4, 2), (5, .iload 31, 0), (5, .iload 4, 2), (7, .aload 0, 1), (8, .iload 1, 1), (9, .invokevirtual 4690825, 3), (12, .if_icmp .gt (.ofNat 126), 3), (15, .iload 4, 2), (17, .invokestatic 4524937, 3), (20, .iload 3, 1), (21, .if_icmp .le (.ofNat 28), 3), (24, .iconst (.ofNat 1), 1), (25, .goto (.ofNat 29), 3), (28, .iconst (.ofNat 0), 1), (29, .istore 5, 2), (31, .iconst (.ofNat 0), 1), (32, .istore 6, 2), (34, .iload 127, 0), (34, .iload 6, 2), (36, .aload 0, 1), (37, .getfield 1793, 3), (40, .iload 1, 1), (41, .iaload, 1), (42, .if_icmp .ge (.ofNat 105), 3), (45, .iload 5, 2), (47, .ifCond .eq (.ofNat 105), 3), (50, .iconst (.ofNat 0), 1), (51, .istore 7, 2), (53, .iload 255, 0), (53, .iload 7, 2), (55, .iload 6, 2), (57, .if_icmp .ge (.ofNat 99), 3), (60, .iload 4, 2), (62, .iload 6, 2), (64, .ishr, 1), (65, .iload 4, 2), (67, .iload 7, 2), (69, .ishr, 1), (70, .iand, 1), (71, .iconst (.ofNat 1), 1), (72, .iand, 1), (73, .iconst (.ofNat 1), 1), (74, .if_icmp .ne (.ofNat 93), 3), (77, .aload 0, 1), (78, .iload 1, 1), (79, .iload 6, 2), (81, .iload 7, 2), (83, .invokevirtual 4727705, 3), (86, .iload 2, 1), (87, .if_icmp .eq (.ofNat 93), 3), (90, .iconst (.ofNat 0), 1), (91, .istore 5, 2), (93, .iinc 7 (.ofNat 1), 3), (96, .goto (.ofNat 53), 3), (99, .iinc 6 (.ofNat 1), 3), (102, .goto (.ofNat 34), 3), (105, .iload 5, 2), (107, .ifCond .eq (.ofNat 118), 3), (110, .iload 4, 2), (112, .invokestatic 4524937, 3), (115, .goto (.ofNat 119), 3), (118, .iload 3, 1), (119, .istore 3, 1), (120, .iinc 4 (.ofNat 1), 3), (123, .goto (.ofNat 5), 3), (126, .iload 3, 1), (127, .ireturn, 1)]
def E_M_allOf : List En := [(0, .iconst (.ofNat 1), 1), (1, .aload 0, 1), (2, .getfield 1793, 3), (5, .iload 1, 1), (6, .iaload, 1), (7, .ishl, 1), (8, .iconst (.ofNat 1), 1), (9, .isub, 1), (10, .ireturn, 1)]
def E_M_areRelated : List En := [(0, .aload 0, 1), (1, .iload 1, 1), (2, .iload 2, 1), (3, .iload 3, 1), (4, .invokevirtual 4465561, 3), (7, .ifCond .ne (.ofNat 20), 3), (10, .aload 0, 1), (11, .iload 1, 1), (12, .iload 3, 1), (13, .iload 2, 1), (14, .invokevirtual 4465561, 3), (17, .ifCond .eq (.ofNat 24), 3), (20, .iconst (.ofNat 1), 1), (21, .goto (.ofNat 25), 3), (24, .iconst (.ofNat 0), 1), (25, .ireturn, 1)]
def E_M_ends : List En := [(0, .iconst (.ofNat 0), 1), (1, .istore 3, 1), (2, .iconst (.ofNat 0), 1), (3, .istore 4, 2), (5, .iload 31, 0), (5, .iload 4, 2), (7, .aload 0, 1), (8, .getfield 1793, 3), (11, .iload 1, 1), (12, .iaload, 1), (13, .if_icmp .ge (.ofNat 108), 3), (16, .iconst (.ofNat 1), 1), (17, .istore 5, 2), (19, .iconst (.ofNat 0), 1), (20, .istore 6, 2), (22, .iload 127, 0), (22, .iload 6, 2), (24, .aload 0, 1), (25, .getfield 1793, 3), (28, .iload 1, 1), (29, .iaload, 1), (30, .if_icmp .ge (.ofNat 89), 3), (33, .iload 5, 2), (35, .ifCond .eq (.ofNat 80), 3), (38, .iload 6, 2), (40, .iload 4, 2), (42, .if_icmp .eq (.ofNat 76), 3), (45, .iload 2, 1), (46, .ifCond .eq (.ofNat 64), 3), (49, .aload 0, 1), (50, .iload 1, 1), (51, .iload 6, 2), (53, .iload 4, 2), (55, .invokevirtual 4465561, 3), (58, .ifCond .eq (.ofNat 76), 3), (61, .goto (.ofNat 80), 3), (64, .aload 0, 1), (65, .iload 1, 1), (66, .iload 4, 2), (68, .iload 6, 2), (70, .invokevirtual 4465561, 3), (73, .ifCond .ne (.ofNat 80), 3), (76, .iconst (.ofNat 1), 1), (77, .goto (.ofNat 81), 3), (80, .iconst (.ofNat 0), 1), (81, .istore 5, 2), (83, .iinc 6 (.ofNat 1), 3), (86, .goto (.ofNat 22), 3), (89, .iload 3, 1), (90, .iload 5, 2), (92, .ifCond .eq (.ofNat 99), 3), (95, .iconst (.ofNat 1), 1), (96, .goto (.ofNat 100), 3), (99, .iconst (.ofNat 0), 1), (100, .iadd, 1), (101, .istore 3, 1), (102, .iinc 4 (.ofNat 1), 3), (105, .goto (.ofNat 5), 3), (108, .iload 3, 1), (109, .ireturn, 1)]
def E_M_components : List En := [(0, .iconst (.ofNat 0), 1), (1, .istore 2, 1), (2, .iconst (.ofNat 0), 1), (3, .istore 3, 1), (4, .iconst (.ofNat 0), 1), (5, .istore 4, 2), (7, .iload 31, 0), (7, .iload 4, 2), (9, .aload 0, 1), (10, .getfield 1793, 3), (13, .iload 1, 1), (14, .iaload, 1), (15, .if_icmp .ge (.ofNat 140), 3), (18, .iload 3, 1), (19, .iload 4, 2), (21, .ishr, 1), (22, .iconst (.ofNat 1), 1), (23, .iand, 1), (24, .iconst (.ofNat 1), 1), (25, .if_icmp .ne (.ofNat 31), 3), (28, .goto (.ofNat 134), 3), (31, .iinc 2 (.ofNat 1), 3), (34, .iconst (.ofNat 0), 1), (35, .istore 5, 2), (37, .iconst (.ofNat 1), 1), (38, .iload 4, 2), (40, .ishl, 1), (41, .istore 6, 2), (43, .iload 127, 0), (43, .iload 6, 2), (45, .iload 5, 2), (47, .if_icmp .eq (.ofNat 129), 3), (50, .iload 6, 2), (52, .istore 5, 2), (54, .iconst (.ofNat 0), 1), (55, .istore 7, 2), (57, .iload 255, 0), (57, .iload 7, 2), (59, .aload 0, 1), (60, .getfield 1793, 3), (63, .iload 1, 1), (64, .iaload, 1), (65, .if_icmp .ge (.ofNat 126), 3), (68, .iconst (.ofNat 0), 1), (69, .istore 8, 2), (71, .iload 511, 0), (71, .iload 8, 2), (73, .aload 0, 1), (74, .getfield 1793, 3), (77, .iload 1, 1), (78, .iaload, 1), (79, .if_icmp .ge (.ofNat 120), 3), (82, .iload 6, 2), (84, .iload 7, 2), (86, .ishr, 1), (87, .iconst (.ofNat 1), 1), (88, .iand, 1), (89, .iconst (.ofNat 1), 1), (90, .if_icmp .ne (.ofNat 114), 3), (93, .aload 0, 1), (94, .iload 1, 1), (95, .iload 7, 2), (97, .iload 8, 2), (99, .invokevirtual 4727705, 3), (102, .ifCond .eq (.ofNat 114), 3), (105, .iload 6, 2), (107, .iconst (.ofNat 1), 1), (108, .iload 8, 2), (110, .ishl, 1), (111, .ior, 1), (112, .istore 6, 2), (114, .iinc 8 (.ofNat 1), 3), (117, .goto (.ofNat 71), 3), (120, .iinc 7 (.ofNat 1), 3), (123, .goto (.ofNat 57), 3), (126, .goto (.ofNat 43), 3), (129, .iload 3, 1), (130, .iload 6, 2), (132, .ior, 1), (133, .istore 3, 1), (134, .iinc 4 (.ofNat 1), 3), (137, .goto (.ofNat 7), 3), (140, .iload 2, 1), (141, .ireturn, 1)]
def E_M_elementCount : List En := [(0, .aload 0, 1), (1, .iload 1, 1), (2, .invokevirtual 4854665, 3), (5, .ifCond .eq (.ofNat 15), 3), (8, .aload 0, 1), (9, .getfield 1812, 3), (12, .goto (.ofNat 16), 3), (15, .iconst (.negSucc 0), 1), (16, .ireturn, 1)]
def E_M_isFound : List En := [(0, .iload 1, 1), (1, .invokestatic 4295561, 3), (4, .ifCond .ne (.ofNat 9), 3), (7, .iconst (.ofNat 0), 1), (8, .ireturn, 1), (9, .aload 0, 1), (10, .iload 1, 1), (11, .invokevirtual 4887432, 3), (14, .iconst (.ofNat 1), 1), (15, .ireturn, 1)]
def E_M_finds : List En := [(0, .aload 0, 1), (1, .iconst (.ofNat 0), 1), (2, .putfield 1812, 3), (5, .iconst (.ofNat 0), 1), (6, .istore 2, 1), (7, .iload 7, 0), (7, .iload 2, 1), (8, .aload 0, 1), (9, .getfield 1793, 3), (12, .iload 1, 1), (13, .iaload, 1), (14, .if_icmp .gt (.ofNat 90), 3), (17, .iconst (.ofNat 0), 1), (18, .istore 3, 1), (19, .iload 15, 0), (19, .iload 3, 1), (20, .aload 0, 1), (21, .iload 1, 1), (22, .invokevirtual 4690825, 3), (25, .if_icmp .gt (.ofNat 84), 3), (28, .iload 3, 1), (29, .invokestatic 4524937, 3), (32, .iload 2, 1), (33, .if_icmp .ne (.ofNat 78), 3), (36, .aload 0, 1), (37, .iload 1, 1), (38, .iload 3, 1), (39, .invokevirtual 4922257, 3), (42, .ifCond .ne (.ofNat 48), 3), (45, .goto (.ofNat 78), 3), (48, .aload 0, 1), (49, .getfield 1805, 3), (52, .aload 0, 1), (53, .getfield 1812, 3), (56, .iload 3, 1), (57, .iastore, 1), (58, .aload 0, 1), (59, .getfield 1809, 3), (62, .iload 3, 1), (63, .aload 0, 1), (64, .getfield 1812, 3), (67, .iastore, 1), (68, .aload 0, 1), (69, .dup, 1), (70, .getfield 1812, 3), (73, .iconst (.ofNat 1), 1), (74, .iadd, 1), (75, .putfield 1812, 3), (78, .iinc 3 (.ofNat 1), 3), (81, .goto (.ofNat 19), 3), (84, .iinc 2 (.ofNat 1), 3), (87, .goto (.ofNat 7), 3), (90, .return_, 1)]
def E_M_isUpSet : List En := [(0, .iconst (.ofNat 0), 1), (1, .istore 3, 1), (2, .iload 15, 0), (2, .iload 3, 1), (3, .aload 0, 1), (4, .getfield 1793, 3), (7, .iload 1, 1), (8, .iaload, 1), (9, .if_icmp .ge (.ofNat 47), 3), (12, .iload 2, 1), (13, .iload 3, 1), (14, .ishr, 1), (15, .iconst (.ofNat 1), 1), (16, .iand, 1), (17, .iconst (.ofNat 1), 1), (18, .if_icmp .ne (.ofNat 41), 3), (21, .aload 0, 1), (22, .getfield 1797, 3), (25, .iconst (.ofNat 6), 2), (27, .iload 1, 1), (28, .imul, 1), (29, .iload 3, 1), (30, .iadd, 1), (31, .iaload, 1), (32, .iload 2, 1), (33, .iconst (.negSucc 0), 1), (34, .ixor, 1), (35, .iand, 1), (36, .ifCond .eq (.ofNat 41), 3), (39, .iconst (.ofNat 0), 1), (40, .ireturn, 1), (41, .iinc 3 (.ofNat 1), 3), (44, .goto (.ofNat 2), 3), (47, .iconst (.ofNat 1), 1), (48, .ireturn, 1)]
def E_M_elementBits : List En := [(0, .aload 0, 1), (1, .iload 1, 1), (2, .invokevirtual 4854665, 3), (5, .ifCond .eq (.ofNat 25), 3), (8, .aload 0, 1), (9, .iload 2, 1), (10, .invokevirtual 4985737, 3), (13, .ifCond .eq (.ofNat 25), 3), (16, .aload 0, 1), (17, .getfield 1805, 3), (20, .iload 2, 1), (21, .iaload, 1), (22, .goto (.ofNat 26), 3), (25, .iconst (.negSucc 0), 1), (26, .ireturn, 1)]
def E_M_isElement : List En := [(0, .iload 1, 1), (1, .ifCond .lt (.ofNat 16), 3), (4, .iload 1, 1), (5, .aload 0, 1), (6, .getfield 1812, 3), (9, .if_icmp .ge (.ofNat 16), 3), (12, .iconst (.ofNat 1), 1), (13, .goto (.ofNat 17), 3), (16, .iconst (.ofNat 0), 1), (17, .ireturn, 1)]
def E_M_elementOf : List En := [(0, .aload 0, 1), (1, .iload 1, 1), (2, .invokevirtual 4854665, 3), (5, .ifCond .ne (.ofNat 10), 3), (8, .iconst (.negSucc 0), 1), (9, .ireturn, 1), (10, .iload 2, 1), (11, .aload 0, 1), (12, .iload 1, 1), (13, .invokevirtual 4690825, 3), (16, .iconst (.negSucc 0), 1), (17, .ixor, 1), (18, .iand, 1), (19, .ifCond .eq (.ofNat 25), 3), (22, .iconst (.negSucc 1), 2), (24, .ireturn, 1), (25, .aload 0, 1), (26, .iload 1, 1), (27, .iload 2, 1), (28, .invokevirtual 4922257, 3), (31, .ifCond .eq (.ofNat 43), 3), (34, .aload 0, 1), (35, .getfield 1809, 3), (38, .iload 2, 1), (39, .iaload, 1), (40, .goto (.ofNat 45), 3), (43, .iconst (.negSucc 5), 2), (45, .ireturn, 1)]
def E_M_meet : List En := [(0, .aload 0, 1), (1, .iload 1, 1), (2, .iload 2, 1), (3, .iload 3, 1), (4, .invokevirtual 5088153, 3), (7, .ifCond .eq (.ofNat 31), 3), (10, .aload 0, 1), (11, .getfield 1809, 3), (14, .aload 0, 1), (15, .getfield 1805, 3), (18, .iload 2, 1), (19, .iaload, 1), (20, .aload 0, 1), (21, .getfield 1805, 3), (24, .iload 3, 1), (25, .iaload, 1), (26, .iand, 1), (27, .iaload, 1), (28, .goto (.ofNat 32), 3), (31, .iconst (.negSucc 0), 1), (32, .ireturn, 1)]
def E_M_areElements : List En := [(0, .aload 0, 1), (1, .iload 1, 1), (2, .invokevirtual 4854665, 3), (5, .ifCond .eq (.ofNat 28), 3), (8, .aload 0, 1), (9, .iload 2, 1), (10, .invokevirtual 4985737, 3), (13, .ifCond .eq (.ofNat 28), 3), (16, .aload 0, 1), (17, .iload 3, 1), (18, .invokevirtual 4985737, 3), (21, .ifCond .eq (.ofNat 28), 3), (24, .iconst (.ofNat 1), 1), (25, .goto (.ofNat 29), 3), (28, .iconst (.ofNat 0), 1), (29, .ireturn, 1)]
def E_M_join : List En := [(0, .aload 0, 1), (1, .iload 1, 1), (2, .iload 2, 1), (3, .iload 3, 1), (4, .invokevirtual 5088153, 3), (7, .ifCond .eq (.ofNat 31), 3), (10, .aload 0, 1), (11, .getfield 1809, 3), (14, .aload 0, 1), (15, .getfield 1805, 3), (18, .iload 2, 1), (19, .iaload, 1), (20, .aload 0, 1), (21, .getfield 1805, 3), (24, .iload 3, 1), (25, .iaload, 1), (26, .ior, 1), (27, .iaload, 1), (28, .goto (.ofNat 32), 3), (31, .iconst (.negSucc 0), 1), (32, .ireturn, 1)]
def E_M_implies : List En := [(0, .aload 0, 1), (1, .iload 1, 1), (2, .iload 2, 1), (3, .iload 3, 1), (4, .invokevirtual 5088153, 3), (7, .ifCond .eq (.ofNat 35), 3), (10, .aload 0, 1), (11, .getfield 1809, 3), (14, .aload 0, 1), (15, .iload 1, 1), (16, .aload 0, 1), (17, .getfield 1805, 3), (20, .iload 2, 1), (21, .iaload, 1), (22, .aload 0, 1), (23, .getfield 1805, 3), (26, .iload 3, 1), (27, .iaload, 1), (28, .invokevirtual 5186457, 3), (31, .iaload, 1), (32, .goto (.ofNat 36), 3), (35, .iconst (.negSucc 0), 1), (36, .ireturn, 1)]
def E_M_impliedBits : List En := [(0, .iconst (.ofNat 0), 1), (1, .istore 4, 2), (3, .iconst (.ofNat 0), 1), (4, .istore 5, 2), (6, .iload 63, 0), (6, .iload 5, 2), (8, .aload 0, 1), (9, .getfield 1793, 3), (12, .iload 1, 1), (13, .iaload, 1), (14, .if_icmp .ge (.ofNat 57), 3), (17, .iload 4, 2), (19, .aload 0, 1), (20, .getfield 1797, 3), (23, .iconst (.ofNat 6), 2), (25, .iload 1, 1), (26, .imul, 1), (27, .iload 5, 2), (29, .iadd, 1), (30, .iaload, 1), (31, .iload 2, 1), (32, .iand, 1), (33, .iload 3, 1), (34, .iconst (.negSucc 0), 1), (35, .ixor, 1), (36, .iand, 1), (37, .ifCond .ne (.ofNat 47), 3), (40, .iconst (.ofNat 1), 1), (41, .iload 5, 2), (43, .ishl, 1), (44, .goto (.ofNat 48), 3), (47, .iconst (.ofNat 0), 1), (48, .ior, 1), (49, .istore 4, 2), (51, .iinc 5 (.ofNat 1), 3), (54, .goto (.ofNat 6), 3), (57, .iload 4, 2), (59, .ireturn, 1)]
def E_M_append : List En := [(0, .iload 1, 1), (1, .i2l, 1), (2, .sipush (.ofNat 33), 3), (5, .sipush (.ofNat 126), 3), (8, .invokestatic 4338585, 3), (11, .ifCond .ne (.ofNat 17), 3), (14, .iconst (.negSucc 1), 2), (16, .ireturn, 1), (17, .aload 0, 1), (18, .getfield 1820, 3), (21, .iconst (.ofNat 40), 2), (23, .if_icmp .ne (.ofNat 29), 3), (26, .iconst (.negSucc 6), 2), (28, .ireturn, 1), (29, .aload 0, 1), (30, .getfield 1817, 3), (33, .aload 0, 1), (34, .getfield 1820, 3), (37, .iload 1, 1), (38, .iastore, 1), (39, .aload 0, 1), (40, .dup, 1), (41, .getfield 1820, 3), (44, .iconst (.ofNat 1), 1), (45, .iadd, 1), (46, .putfield 1820, 3), (49, .aload 0, 1), (50, .getfield 1820, 3), (53, .ireturn, 1)]
def E_M_clearText : List En := [(0, .aload 0, 1), (1, .getfield 1820, 3), (4, .istore 1, 1), (5, .aload 0, 1), (6, .iconst (.ofNat 0), 1), (7, .putfield 1820, 3), (10, .iload 1, 1), (11, .ireturn, 1)]
def E_M_parse : List En := [(0, .iload 1, 1), (1, .invokestatic 5311369, 3), (4, .ifCond .eq (.ofNat 18), 3), (7, .aload 0, 1), (8, .invokevirtual 5344129, 3), (11, .ifCond .eq (.ofNat 18), 3), (14, .iconst (.ofNat 1), 1), (15, .goto (.ofNat 19), 3), (18, .iconst (.ofNat 0), 1), (19, .istore 2, 1), (20, .aload 0, 1), (21, .iconst (.ofNat 0), 1), (22, .putfield 1820, 3), (25, .iload 1, 1), (26, .invokestatic 5311369, 3), (29, .ifCond .ne (.ofNat 34), 3), (32, .iconst (.negSucc 0), 1), (33, .ireturn, 1), (34, .iload 2, 1), (35, .ifCond .ne (.ofNat 46), 3), (38, .iconst (.negSucc 99), 2), (40, .aload 0, 1), (41, .getfield 1824, 3), (44, .isub, 1), (45, .ireturn, 1), (46, .aload 0, 1), (47, .iload 1, 1), (48, .invokevirtual 5641096, 3), (51, .aload 0, 1), (52, .getfield 1844, 3), (55, .ireturn, 1)]
def E_M_isFormula : List En := [(0, .iload 0, 1), (1, .ifCond .lt (.ofNat 14), 3), (4, .iload 0, 1), (5, .iconst (.ofNat 6), 2), (7, .if_icmp .ge (.ofNat 14), 3), (10, .iconst (.ofNat 1), 1), (11, .goto (.ofNat 15), 3), (14, .iconst (.ofNat 0), 1), (15, .ireturn, 1)]
def E_M_takesText : List En := [(0, .aload 0, 1), (1, .iconst (.ofNat 0), 1), (2, .putfield 1824, 3), (5, .aload 0, 1), (6, .iconst (.ofNat 0), 1), (7, .putfield 1844, 3), (10, .aload 0, 1), (11, .iconst (.ofNat 0), 1), (12, .putfield 1848, 3), (15, .aload 0, 1), (16, .iconst (.ofNat 0), 1), (17, .putfield 1852, 3), (20, .iload 1, 0), (20, .aload 0, 1), (21, .invokevirtual 5376897, 3), (24, .ifCond .eq (.ofNat 122), 3), (27, .aload 0, 1), (28, .invokevirtual 5540736, 3), (31, .aload 0, 1), (32, .invokevirtual 5409665, 3), (35, .invokestatic 5606281, 3), (38, .istore 1, 1), (39, .iload 1, 1), (40, .ifCond .ne (.ofNat 73), 3), (43, .aload 0, 1), (44, .iconst (.ofNat 8), 2), (46, .invokevirtual 5510024, 3), (49, .aload 0, 1), (50, .getfield 1824, 3), (53, .aload 0, 1), (54, .getfield 1820, 3), (57, .if_icmp .ne (.ofNat 71), 3), (60, .aload 0, 1), (61, .getfield 1848, 3), (64, .ifCond .ne (.ofNat 71), 3), (67, .iconst (.ofNat 1), 1), (68, .goto (.ofNat 72), 3), (71, .iconst (.ofNat 0), 1), (72, .ireturn, 1), (73, .aload 0, 1), (74, .iload 1, 1), (75, .iconst (.ofNat 8), 2), (77, .if_icmp .ne (.ofNat 85), 3), (80, .iconst (.ofNat 7), 2), (82, .goto (.ofNat 86), 3), (85, .iload 1, 1), (86, .invokevirtual 5510024, 3), (89, .aload 0, 1), (90, .getfield 1841, 3), (93, .aload 0, 1), (94, .getfield 1848, 3), (97, .iload 1, 1), (98, .iastore, 1), (99, .aload 0, 1), (100, .dup, 1), (101, .getfield 1848, 3), (104, .iconst (.ofNat 1), 1), (105, .iadd, 1), (106, .putfield 1848, 3), (109, .aload 0, 1), (110, .dup, 1), (111, .getfield 1824, 3), (114, .iconst (.ofNat 1), 1), (115, .iadd, 1), (116, .putfield 1824, 3), (119, .goto (.ofNat 20), 3), (122, .iconst (.ofNat 0), 1), (123, .ireturn, 1)]
def E_M_takesFactor : List En := [(0, .iload 1, 0), (0, .aload 0, 1), (1, .invokevirtual 5409665, 3), (4, .iconst (.ofNat 40), 2), (6, .if_icmp .eq (.ofNat 18), 3), (9, .aload 0, 1), (10, .invokevirtual 5409665, 3), (13, .iconst (.ofNat 126), 2), (15, .if_icmp .ne (.ofNat 86), 3), (18, .aload 0, 1), (19, .getfield 1852, 3), (22, .iconst (.ofNat 8), 2), (24, .if_icmp .ne (.ofNat 29), 3), (27, .iconst (.ofNat 0), 1), (28, .ireturn, 1), (29, .aload 0, 1), (30, .dup, 1), (31, .getfield 1852, 3), (34, .iconst (.ofNat 1), 1), (35, .iadd, 1), (36, .putfield 1852, 3), (39, .aload 0, 1), (40, .getfield 1841, 3), (43, .aload 0, 1), (44, .getfield 1848, 3), (47, .aload 0, 1), (48, .invokevirtual 5409665, 3), (51, .iconst (.ofNat 40), 2), (53, .if_icmp .ne (.ofNat 61), 3), (56, .iconst (.ofNat 9), 2), (58, .goto (.ofNat 62), 3), (61, .iconst (.ofNat 5), 1), (62, .iastore, 1), (63, .aload 0, 1), (64, .dup, 1), (65, .getfield 1848, 3), (68, .iconst (.ofNat 1), 1), (69, .iadd, 1), (70, .putfield 1848, 3), (73, .aload 0, 1), (74, .dup, 1), (75, .getfield 1824, 3), (78, .iconst (.ofNat 1), 1), (79, .iadd, 1), (80, .putfield 1824, 3), (83, .goto (.ofNat 0), 3), (86, .aload 0, 1), (87, .invokevirtual 5409665, 3), (90, .invokestatic 5442441, 3), (93, .ifCond .ge (.ofNat 98), 3), (96, .iconst (.ofNat 0), 1), (97, .ireturn, 1), (98, .aload 0, 1), (99, .aload 0, 1), (100, .invokevirtual 5409665, 3), (103, .invokestatic 5442441, 3), (106, .invokevirtual 5477256, 3), (109, .aload 0, 1), (110, .dup, 1), (111, .getfield 1824, 3), (114, .iconst (.ofNat 1), 1), (115, .iadd, 1), (116, .putfield 1824, 3), (119, .aload 0, 1), (120, .iconst (.ofNat 5), 1), (121, .invokevirtual 5510024, 3), (124, .iconst (.ofNat 1), 1), (125, .ireturn, 1)]
def E_M_next : List En := [(0, .aload 0, 1), (1, .getfield 1824, 3), (4, .aload 0, 1), (5, .getfield 1820, 3), (8, .if_icmp .ge (.ofNat 23), 3), (11, .aload 0, 1), (12, .getfield 1817, 3), (15, .aload 0, 1), (16, .getfield 1824, 3), (19, .iaload, 1), (20, .goto (.ofNat 24), 3), (23, .iconst (.negSucc 0), 1), (24, .ireturn, 1)]
def E_M_atomOf : List En := [(0, .iload 0, 1), (1, .lookupswitch (.ofNat 62) #[((.ofNat 48), (.ofNat 58)), ((.ofNat 49), (.ofNat 60)), ((.ofNat 112), (.ofNat 52)), ((.ofNat 113), (.ofNat 54)), ((.ofNat 114), (.ofNat 56))], 51), (52, .iconst (.ofNat 0), 1), (53, .ireturn, 1), (54, .iconst (.ofNat 1), 1), (55, .ireturn, 1), (56, .iconst (.ofNat 2), 1), (57, .ireturn, 1), (58, .iconst (.ofNat 3), 1), (59, .ireturn, 1), (60, .iconst (.ofNat 4), 1), (61, .ireturn, 1), (62, .iconst (.negSucc 0), 1), (63, .ireturn, 1)]
def E_M_makes : List En := [(0, .aload 0, 1), (1, .getfield 1837, 3), (4, .aload 0, 1), (5, .getfield 1844, 3), (8, .iload 1, 1), (9, .iastore, 1), (10, .aload 0, 1), (11, .dup, 1), (12, .getfield 1844, 3), (15, .iconst (.ofNat 1), 1), (16, .iadd, 1), (17, .putfield 1844, 3), (20, .return_, 1)]
def E_M_makesFrom : List En := [(0, .iload 3, 0), (0, .aload 0, 1), (1, .getfield 1848, 3), (4, .ifCond .le (.ofNat 71), 3), (7, .aload 0, 1), (8, .getfield 1841, 3), (11, .aload 0, 1), (12, .getfield 1848, 3), (15, .iconst (.ofNat 1), 1), (16, .isub, 1), (17, .iaload, 1), (18, .iload 1, 1), (19, .if_icmp .gt (.ofNat 71), 3), (22, .aload 0, 1), (23, .dup, 1), (24, .getfield 1848, 3), (27, .iconst (.ofNat 1), 1), (28, .isub, 1), (29, .putfield 1848, 3), (32, .aload 0, 1), (33, .getfield 1841, 3), (36, .aload 0, 1), (37, .getfield 1848, 3), (40, .iaload, 1), (41, .iconst (.ofNat 5), 1), (42, .if_icmp .ne (.ofNat 55), 3), (45, .aload 0, 1), (46, .dup, 1), (47, .getfield 1852, 3), (50, .iconst (.ofNat 1), 1), (51, .isub, 1), (52, .putfield 1852, 3), (55, .aload 0, 1), (56, .aload 0, 1), (57, .getfield 1841, 3), (60, .aload 0, 1), (61, .getfield 1848, 3), (64, .iaload, 1), (65, .invokevirtual 5477256, 3), (68, .goto (.ofNat 0), 3), (71, .return_, 1)]
def E_M_closes : List En := [(0, .iload 1, 0), (0, .aload 0, 1), (1, .invokevirtual 5409665, 3), (4, .iconst (.ofNat 41), 2), (6, .if_icmp .ne (.ofNat 60), 3), (9, .aload 0, 1), (10, .invokevirtual 5573505, 3), (13, .ifCond .eq (.ofNat 60), 3), (16, .aload 0, 1), (17, .iconst (.ofNat 8), 2), (19, .invokevirtual 5510024, 3), (22, .aload 0, 1), (23, .dup, 1), (24, .getfield 1848, 3), (27, .iconst (.ofNat 1), 1), (28, .isub, 1), (29, .putfield 1848, 3), (32, .aload 0, 1), (33, .dup, 1), (34, .getfield 1852, 3), (37, .iconst (.ofNat 1), 1), (38, .isub, 1), (39, .putfield 1852, 3), (42, .aload 0, 1), (43, .dup, 1), (44, .getfield 1824, 3), (47, .iconst (.ofNat 1), 1), (48, .iadd, 1), (49, .putfield 1824, 3), (52, .aload 0, 1), (53, .iconst (.ofNat 5), 1), (54, .invokevirtual 5510024, 3), (57, .goto (.ofNat 0), 3), (60, .return_, 1)]
def E_M_hasParen : List En := [(0, .iconst (.ofNat 0), 1), (1, .istore 1, 1), (2, .iload 3, 0), (2, .iload 1, 1), (3, .aload 0, 1), (4, .getfield 1848, 3), (7, .if_icmp .ge (.ofNat 29), 3), (10, .aload 0, 1), (11, .getfield 1841, 3), (14, .iload 1, 1), (15, .iaload, 1), (16, .iconst (.ofNat 9), 2), (18, .if_icmp .ne (.ofNat 23), 3), (21, .iconst (.ofNat 1), 1), (22, .ireturn, 1), (23, .iinc 1 (.ofNat 1), 3), (26, .goto (.ofNat 2), 3), (29, .iconst (.ofNat 0), 1), (30, .ireturn, 1)]
def E_M_deedOf : List En := [(0, .iload 0, 1), (1, .iconst (.ofNat 38), 2), (3, .if_icmp .ne (.ofNat 11), 3), (6, .iconst (.ofNat 6), 2), (8, .goto (.ofNat 34), 3), (11, .iload 0, 1), (12, .iconst (.ofNat 124), 2), (14, .if_icmp .ne (.ofNat 22), 3), (17, .iconst (.ofNat 7), 2), (19, .goto (.ofNat 34), 3), (22, .iload 0, 1), (23, .iconst (.ofNat 62), 2), (25, .if_icmp .ne (.ofNat 33), 3), (28, .iconst (.ofNat 8), 2), (30, .goto (.ofNat 34), 3), (33, .iconst (.ofNat 0), 1), (34, .ireturn, 1)]
def E_M_stores : List En := [(0, .aload 0, 1), (1, .getfield 1833, 3), (4, .iload 1, 1), (5, .aload 0, 1), (6, .getfield 1844, 3), (9, .iastore, 1), (10, .iconst (.ofNat 0), 1), (11, .istore 2, 1), (12, .iload 7, 0), (12, .iload 2, 1), (13, .aload 0, 1), (14, .getfield 1844, 3), (17, .if_icmp .ge (.ofNat 43), 3), (20, .aload 0, 1), (21, .getfield 1829, 3), (24, .iconst (.ofNat 60), 2), (26, .iload 1, 1), (27, .imul, 1), (28, .iload 2, 1), (29, .iadd, 1), (30, .aload 0, 1), (31, .getfield 1837, 3), (34, .iload 2, 1), (35, .iaload, 1), (36, .iastore, 1), (37, .iinc 2 (.ofNat 1), 3), (40, .goto (.ofNat 12), 3), (43, .return_, 1)]
def E_M_formulaSize : List En := [(0, .iload 1, 1), (1, .invokestatic 5311369, 3), (4, .ifCond .ne (.ofNat 11), 3), (7, .iconst (.negSucc 0), 1), (8, .goto (.ofNat 31), 3), (11, .aload 0, 1), (12, .getfield 1833, 3), (15, .iload 1, 1), (16, .iaload, 1), (17, .ifCond .ne (.ofNat 25), 3), (20, .iconst (.negSucc 2), 2), (22, .goto (.ofNat 31), 3), (25, .aload 0, 1), (26, .getfield 1833, 3), (29, .iload 1, 1), (30, .iaload, 1), (31, .ireturn, 1)]
def E_M_substitute : List En := [(0, .iload 1, 1), (1, .invokestatic 5311369, 3), (4, .ifCond .eq (.ofNat 29), 3), (7, .iload 2, 1), (8, .invokestatic 5737353, 3), (11, .ifCond .eq (.ofNat 29), 3), (14, .iload 3, 1), (15, .invokestatic 5311369, 3), (18, .ifCond .eq (.ofNat 29), 3), (21, .iload 4, 2), (23, .invokestatic 5311369, 3), (26, .ifCond .ne (.ofNat 31), 3), (29, .iconst (.negSucc 0), 1), (30, .ireturn, 1), (31, .aload 0, 1), (32, .getfield 1833, 3), (35, .iload 1, 1), (36, .iaload, 1), (37, .ifCond .eq (.ofNat 49), 3), (40, .aload 0, 1), (41, .getfield 1833, 3), (44, .iload 3, 1), (45, .iaload, 1), (46, .ifCond .ne (.ofNat 52), 3), (49, .iconst (.negSucc 2), 2), (51, .ireturn, 1), (52, .aload 0, 1), (53, .getfield 1833, 3), (56, .iload 1, 1), (57, .iaload, 1), (58, .istore 5, 2), (60, .iconst (.ofNat 0), 1), (61, .istore 6, 2), (63, .iload 127, 0), (63, .iload 6, 2), (65, .aload 0, 1), (66, .getfield 1833, 3), (69, .iload 1, 1), (70, .iaload, 1), (71, .if_icmp .ge (.ofNat 113), 3), (74, .iload 5, 2), (76, .aload 0, 1), (77, .getfield 1829, 3), (80, .iconst (.ofNat 60), 2), (82, .iload 1, 1), (83, .imul, 1), (84, .iload 6, 2), (86, .iadd, 1), (87, .iaload, 1), (88, .iload 2, 1), (89, .if_icmp .ne (.ofNat 103), 3), (92, .aload 0, 1), (93, .getfield 1833, 3), (96, .iload 3, 1), (97, .iaload, 1), (98, .iconst (.ofNat 1), 1), (99, .isub, 1), (100, .goto (.ofNat 104), 3), (103, .iconst (.ofNat 0), 1), (104, .iadd, 1), (105, .istore 5, 2), (107, .iinc 6 (.ofNat 1), 3), (110, .goto (.ofNat 63), 3), (113, .iload 5, 2), (115, .iconst (.ofNat 60), 2), (117, .if_icmp .le (.ofNat 123), 3), (120, .iconst (.negSucc 4), 2), (122, .ireturn, 1), (123, .aload 0, 1), (124, .iconst (.ofNat 0), 1), (125, .putfield 1844, 3), (128, .iconst (.ofNat 0), 1), (129, .istore 6, 2), (131, .iload 95, 0), (131, .iload 6, 2), (133, .aload 0, 1), (134, .getfield 1833, 3), (137, .iload 1, 1), (138, .iaload, 1), (139, .if_icmp .ge (.ofNat 216), 3), (142, .aload 0, 1), (143, .getfield 1829, 3), (146, .iconst (.ofNat 60), 2), (148, .iload 1, 1), (149, .imul, 1), (150, .iload 6, 2), (152, .iadd, 1), (153, .iaload, 1), (154, .istore 7, 2), (156, .iload 7, 2), (158, .iload 2, 1), (159, .if_icmp .eq (.ofNat 168), 3), (162, .aload 0, 1), (163, .iload 7, 2), (165, .invokevirtual 5477256, 3), (168, .iconst (.ofNat 0), 1), (169, .istore 8, 2), (171, .iload 479, 0), (171, .iload 7, 2), (173, .iload 2, 1), (174, .if_icmp .ne (.ofNat 210), 3), (177, .iload 8, 2), (179, .aload 0, 1), (180, .getfield 1833, 3), (183, .iload 3, 1), (184, .iaload, 1), (185, .if_icmp .ge (.ofNat 210), 3), (188, .aload 0, 1), (189, .aload 0, 1), (190, .getfield 1829, 3), (193, .iconst (.ofNat 60), 2), (195, .iload 3, 1), (196, .imul, 1), (197, .iload 8, 2), (199, .iadd, 1), (200, .iaload, 1), (201, .invokevirtual 5477256, 3), (204, .iinc 8 (.ofNat 1), 3), (207, .goto (.ofNat 171), 3), (210, .iinc 6 (.ofNat 1), 3), (213, .goto (.ofNat 131), 3), (216, .aload 0, 1), (217, .iload 4, 2), (219, .invokevirtual 5641096, 3), (222, .aload 0, 1), (223, .getfield 1844, 3), (226, .ireturn, 1)]
def E_M_isVariable : List En := [(0, .iload 0, 1), (1, .ifCond .lt (.ofNat 13), 3), (4, .iload 0, 1), (5, .iconst (.ofNat 3), 1), (6, .if_icmp .ge (.ofNat 13), 3), (9, .iconst (.ofNat 1), 1), (10, .goto (.ofNat 14), 3), (13, .iconst (.ofNat 0), 1), (14, .ireturn, 1)]
def E_M_setValue : List En := [(0, .aload 0, 1), (1, .iload 1, 1), (2, .invokevirtual 4854665, 3), (5, .ifCond .eq (.ofNat 23), 3), (8, .iload 2, 1), (9, .invokestatic 5737353, 3), (12, .ifCond .eq (.ofNat 23), 3), (15, .aload 0, 1), (16, .iload 3, 1), (17, .invokevirtual 4985737, 3), (20, .ifCond .ne (.ofNat 25), 3), (23, .iconst (.negSucc 0), 1), (24, .ireturn, 1), (25, .aload 0, 1), (26, .getfield 1801, 3), (29, .iconst (.ofNat 3), 1), (30, .iload 1, 1), (31, .imul, 1), (32, .iload 2, 1), (33, .iadd, 1), (34, .iaload, 1), (35, .istore 4, 2), (37, .aload 0, 1), (38, .getfield 1801, 3), (41, .iconst (.ofNat 3), 1), (42, .iload 1, 1), (43, .imul, 1), (44, .iload 2, 1), (45, .iadd, 1), (46, .iload 3, 1), (47, .iastore, 1), (48, .iload 4, 2), (50, .ireturn, 1)]
def E_M_value : List En := [(0, .aload 0, 1), (1, .iload 1, 1), (2, .invokevirtual 4854665, 3), (5, .ifCond .eq (.ofNat 15), 3), (8, .iload 2, 1), (9, .invokestatic 5311369, 3), (12, .ifCond .ne (.ofNat 17), 3), (15, .iconst (.negSucc 0), 1), (16, .ireturn, 1), (17, .aload 0, 1), (18, .getfield 1833, 3), (21, .iload 2, 1), (22, .iaload, 1), (23, .ifCond .ne (.ofNat 31), 3), (26, .iconst (.negSucc 2), 2), (28, .goto (.ofNat 42), 3), (31, .aload 0, 1), (32, .getfield 1809, 3), (35, .aload 0, 1), (36, .iload 1, 1), (37, .iload 2, 1), (38, .invokevirtual 5839761, 3), (41, .iaload, 1), (42, .ireturn, 1)]
def E_M_presentBits : List En := [(0, .iconst (.ofNat 0), 1), (1, .istore 3, 1), (2, .iload 15, 0), (2, .iload 3, 1), (3, .iconst (.ofNat 3), 1), (4, .if_icmp .ge (.ofNat 34), 3), (7, .aload 0, 1), (8, .getfield 1857, 3), (11, .iload 3, 1), (12, .aload 0, 1), (13, .getfield 1805, 3), (16, .aload 0, 1), (17, .getfield 1801, 3), (20, .iconst (.ofNat 3), 1), (21, .iload 1, 1), (22, .imul, 1), (23, .iload 3, 1), (24, .iadd, 1), (25, .iaload, 1), (26, .iaload, 1), (27, .iastore, 1), (28, .iinc 3 (.ofNat 1), 3), (31, .goto (.ofNat 2), 3), (34, .aload 0, 1), (35, .iload 1, 1), (36, .iload 2, 1), (37, .invokevirtual 5872529, 3), (40, .ireturn, 1)]
def E_M_valueBits : List En := [(0, .iconst (.ofNat 0), 1), (1, .istore 3, 1), (2, .iconst (.ofNat 0), 1), (3, .istore 4, 2), (5, .iload 31, 0), (5, .iload 4, 2), (7, .aload 0, 1), (8, .getfield 1833, 3), (11, .iload 2, 1), (12, .iaload, 1), (13, .if_icmp .ge (.ofNat 228), 3), (16, .aload 0, 1), (17, .getfield 1829, 3), (20, .iconst (.ofNat 60), 2), (22, .iload 2, 1), (23, .imul, 1), (24, .iload 4, 2), (26, .iadd, 1), (27, .iaload, 1), (28, .istore 5, 2), (30, .iload 5, 2), (32, .tableswitch (.ofNat 206) (.ofNat 3) (.ofNat 8) #[(.ofNat 72), (.ofNat 85), (.ofNat 102), (.ofNat 127), (.ofNat 150), (.ofNat 173)], 40), (72, .aload 0, 1), (73, .getfield 1861, 3), (76, .iload 3, 1), (77, .iconst (.ofNat 0), 1), (78, .iastore, 1), (79, .iinc 3 (.ofNat 1), 3), (82, .goto (.ofNat 222), 3), (85, .aload 0, 1), (86, .getfield 1861, 3), (89, .iload 3, 1), (90, .aload 0, 1), (91, .iload 1, 1), (92, .invokevirtual 4690825, 3), (95, .iastore, 1), (96, .iinc 3 (.ofNat 1), 3), (99, .goto (.ofNat 222), 3), (102, .aload 0, 1), (103, .getfield 1861, 3), (106, .iload 3, 1), (107, .iconst (.ofNat 1), 1), (108, .isub, 1), (109, .aload 0, 1), (110, .iload 1, 1), (111, .aload 0, 1), (112, .getfield 1861, 3), (115, .iload 3, 1), (116, .iconst (.ofNat 1), 1), (117, .isub, 1), (118, .iaload, 1), (119, .iconst (.ofNat 0), 1), (120, .invokevirtual 5186457, 3), (123, .iastore, 1), (124, .goto (.ofNat 222), 3), (127, .iinc 3 (.negSucc 0), 3), (130, .aload 0, 1), (131, .getfield 1861, 3), (134, .iload 3, 1), (135, .iconst (.ofNat 1), 1), (136, .isub, 1), (137, .dup2, 1), (138, .iaload, 1), (139, .aload 0, 1), (140, .getfield 1861, 3), (143, .iload 3, 1), (144, .iaload, 1), (145, .iand, 1), (146, .iastore, 1), (147, .goto (.ofNat 222), 3), (150, .iinc 3 (.negSucc 0), 3), (153, .aload 0, 1), (154, .getfield 1861, 3), (157, .iload 3, 1), (158, .iconst (.ofNat 1), 1), (159, .isub, 1), (160, .dup2, 1), (161, .iaload, 1), (162, .aload 0, 1), (163, .getfield 1861, 3), (166, .iload 3, 1), (167, .iaload, 1), (168, .ior, 1), (169, .iastore, 1), (170, .goto (.ofNat 222), 3), (173, .iinc 3 (.negSucc 0), 3), (176, .aload 0, 1), (177, .getfield 1861, 3), (180, .iload 3, 1), (181, .iconst (.ofNat 1), 1), (182, .isub, 1), (183, .aload 0, 1), (184, .iload 1, 1), (185, .aload 0, 1), (186, .getfield 1861, 3), (189, .iload 3, 1), (190, .iconst (.ofNat 1), 1), (191, .isub, 1), (192, .iaload, 1), (193, .aload 0, 1), (194, .getfield 1861, 3), (197, .iload 3, 1), (198, .iaload, 1), (199, .invokevirtual 5186457, 3), (202, .iastore, 1), (203, .goto (.ofNat 222), 3), (206, .aload 0, 1), (207, .getfield 1861, 3), (210, .iload 3, 1), (211, .aload 0, 1), (212, .getfield 1857, 3), (215, .iload 5, 2), (217, .iaload, 1), (218, .iastore, 1), (219, .iinc 3 (.ofNat 1), 3), (222, .iinc 4 (.ofNat 1), 3), (225, .goto (.ofNat 5), 3), (228, .aload 0, 1), (229, .getfield 1861, 3), (232, .iconst (.ofNat 0), 1), (233, .iaload, 1), (234, .ireturn, 1)]
def E_M_isForced : List En := [(0, .aload 0, 1), (1, .iload 1, 1), (2, .invokevirtual 4854665, 3), (5, .ifCond .eq (.ofNat 24), 3), (8, .iload 2, 1), (9, .invokestatic 5311369, 3), (12, .ifCond .eq (.ofNat 24), 3), (15, .aload 0, 1), (16, .iload 1, 1), (17, .iload 3, 1), (18, .invokevirtual 4430737, 3), (21, .ifCond .ne (.ofNat 26), 3), (24, .iconst (.negSucc 0), 1), (25, .ireturn, 1), (26, .aload 0, 1), (27, .getfield 1833, 3), (30, .iload 2, 1), (31, .iaload, 1), (32, .ifCond .ne (.ofNat 40), 3), (35, .iconst (.negSucc 2), 2), (37, .goto (.ofNat 50), 3), (40, .aload 0, 1), (41, .iload 1, 1), (42, .iload 2, 1), (43, .invokevirtual 5839761, 3), (46, .iload 3, 1), (47, .ishr, 1), (48, .iconst (.ofNat 1), 1), (49, .iand, 1), (50, .ireturn, 1)]
def E_M_isValid : List En := [(0, .aload 0, 1), (1, .iload 1, 1), (2, .iload 2, 1), (3, .invokevirtual 5970833, 3), (6, .istore 3, 1), (7, .iload 3, 1), (8, .ifCond .eq (.ofNat 15), 3), (11, .iload 3, 1), (12, .goto (.ofNat 33), 3), (15, .aload 0, 1), (16, .iload 1, 1), (17, .iload 2, 1), (18, .invokevirtual 6069137, 3), (21, .aload 0, 1), (22, .getfield 1868, 3), (25, .if_icmp .ne (.ofNat 32), 3), (28, .iconst (.ofNat 1), 1), (29, .goto (.ofNat 33), 3), (32, .iconst (.ofNat 0), 1), (33, .ireturn, 1)]
def E_M_notAsked : List En := [(0, .aload 0, 1), (1, .iload 1, 1), (2, .invokevirtual 4854665, 3), (5, .ifCond .eq (.ofNat 15), 3), (8, .iload 2, 1), (9, .invokestatic 5311369, 3), (12, .ifCond .ne (.ofNat 17), 3), (15, .iconst (.negSucc 0), 1), (16, .ireturn, 1), (17, .aload 0, 1), (18, .iload 2, 1), (19, .invokevirtual 6001544, 3), (22, .aload 0, 1), (23, .getfield 1833, 3), (26, .iload 2, 1), (27, .iaload, 1), (28, .ifCond .ne (.ofNat 36), 3), (31, .iconst (.negSucc 2), 2), (33, .goto (.ofNat 52), 3), (36, .aload 0, 1), (37, .getfield 1868, 3), (40, .iconst (.ofNat 20000), 3), (43, .if_icmp .le (.ofNat 51), 3), (46, .iconst (.negSucc 4), 2), (48, .goto (.ofNat 52), 3), (51, .iconst (.ofNat 0), 1), (52, .ireturn, 1)]
def E_M_countsValuations : List En := [(0, .aload 0, 1), (1, .aload 0, 1), (2, .iload 1, 1), (3, .invokevirtual 6034313, 3), (6, .putfield 1864, 3), (9, .aload 0, 1), (10, .iconst (.ofNat 1), 1), (11, .putfield 1868, 3), (14, .iconst (.ofNat 0), 1), (15, .istore 2, 1), (16, .iload 5, 0), (16, .iload 2, 1), (17, .iconst (.ofNat 3), 1), (18, .if_icmp .ge (.ofNat 56), 3), (21, .aload 0, 1), (22, .dup, 1), (23, .getfield 1868, 3), (26, .aload 0, 1), (27, .getfield 1864, 3), (30, .iload 2, 1), (31, .ishr, 1), (32, .iconst (.ofNat 1), 1), (33, .iand, 1), (34, .iconst (.ofNat 1), 1), (35, .if_icmp .ne (.ofNat 45), 3), (38, .aload 0, 1), (39, .getfield 1812, 3), (42, .goto (.ofNat 46), 3), (45, .iconst (.ofNat 1), 1), (46, .imul, 1), (47, .putfield 1868, 3), (50, .iinc 2 (.ofNat 1), 3), (53, .goto (.ofNat 16), 3), (56, .return_, 1)]
def E_M_variablesOf : List En := [(0, .iconst (.ofNat 0), 1), (1, .istore 2, 1), (2, .iconst (.ofNat 0), 1), (3, .istore 3, 1), (4, .iload 15, 0), (4, .iload 3, 1), (5, .aload 0, 1), (6, .getfield 1833, 3), (9, .iload 1, 1), (10, .iaload, 1), (11, .if_icmp .ge (.ofNat 55), 3), (14, .iload 2, 1), (15, .aload 0, 1), (16, .getfield 1829, 3), (19, .iconst (.ofNat 60), 2), (21, .iload 1, 1), (22, .imul, 1), (23, .iload 3, 1), (24, .iadd, 1), (25, .iaload, 1), (26, .iconst (.ofNat 3), 1), (27, .if_icmp .ge (.ofNat 46), 3), (30, .iconst (.ofNat 1), 1), (31, .aload 0, 1), (32, .getfield 1829, 3), (35, .iconst (.ofNat 60), 2), (37, .iload 1, 1), (38, .imul, 1), (39, .iload 3, 1), (40, .iadd, 1), (41, .iaload, 1), (42, .ishl, 1), (43, .goto (.ofNat 47), 3), (46, .iconst (.ofNat 0), 1), (47, .ior, 1), (48, .istore 2, 1), (49, .iinc 3 (.ofNat 1), 3), (52, .goto (.ofNat 4), 3), (55, .iload 2, 1), (56, .ireturn, 1)]
def E_M_refuting : List En := [(0, .iconst (.ofNat 0), 1), (1, .istore 3, 1), (2, .iload 15, 0), (2, .iload 3, 1), (3, .aload 0, 1), (4, .getfield 1868, 3), (7, .if_icmp .ge (.ofNat 31), 3), (10, .aload 0, 1), (11, .iload 1, 1), (12, .iload 2, 1), (13, .iload 3, 1), (14, .invokevirtual 6103961, 3), (17, .aload 0, 1), (18, .iload 1, 1), (19, .invokevirtual 4690825, 3), (22, .if_icmp .ne (.ofNat 31), 3), (25, .iinc 3 (.ofNat 1), 3), (28, .goto (.ofNat 2), 3), (31, .iload 3, 1), (32, .ireturn, 1)]
def E_M_bitsBy : List En := [(0, .iconst (.ofNat 0), 1), (1, .istore 4, 2), (3, .iload 31, 0), (3, .iload 4, 2), (5, .iconst (.ofNat 3), 1), (6, .if_icmp .ge (.ofNat 34), 3), (9, .aload 0, 1), (10, .getfield 1857, 3), (13, .iload 4, 2), (15, .aload 0, 1), (16, .getfield 1805, 3), (19, .aload 0, 1), (20, .iload 3, 1), (21, .iload 4, 2), (23, .invokevirtual 6134673, 3), (26, .iaload, 1), (27, .iastore, 1), (28, .iinc 4 (.ofNat 1), 3), (31, .goto (.ofNat 3), 3), (34, .aload 0, 1), (35, .iload 1, 1), (36, .iload 2, 1), (37, .invokevirtual 5872529, 3), (40, .ireturn, 1)]
def E_M_elementIn : List En := [(0, .iload 1, 1), (1, .istore 3, 1), (2, .iconst (.ofNat 2), 1), (3, .istore 4, 2), (5, .iload 29, 0), (5, .iload 4, 2), (7, .ifCond .lt (.ofNat 56), 3), (10, .aload 0, 1), (11, .getfield 1864, 3), (14, .iload 4, 2), (16, .ishr, 1), (17, .iconst (.ofNat 1), 1), (18, .iand, 1), (19, .ifCond .ne (.ofNat 30), 3), (22, .iload 4, 2), (24, .iload 2, 1), (25, .if_icmp .ne (.ofNat 50), 3), (28, .iconst (.ofNat 0), 1), (29, .ireturn, 1), (30, .iload 4, 2), (32, .iload 2, 1), (33, .if_icmp .ne (.ofNat 43), 3), (36, .iload 3, 1), (37, .aload 0, 1), (38, .getfield 1812, 3), (41, .irem, 1), (42, .ireturn, 1), (43, .iload 3, 1), (44, .aload 0, 1), (45, .getfield 1812, 3), (48, .idiv, 1), (49, .istore 3, 1), (50, .iinc 4 (.negSucc 0), 3), (53, .goto (.ofNat 5), 3), (56, .iconst (.ofNat 0), 1), (57, .ireturn, 1)]
def E_M_refutation : List En := [(0, .iload 3, 1), (1, .invokestatic 5737353, 3), (4, .ifCond .ne (.ofNat 9), 3), (7, .iconst (.negSucc 0), 1), (8, .ireturn, 1), (9, .aload 0, 1), (10, .iload 1, 1), (11, .iload 2, 1), (12, .invokevirtual 5970833, 3), (15, .istore 4, 2), (17, .iload 4, 2), (19, .ifCond .eq (.ofNat 25), 3), (22, .iload 4, 2), (24, .ireturn, 1), (25, .aload 0, 1), (26, .iload 1, 1), (27, .iload 2, 1), (28, .invokevirtual 6069137, 3), (31, .istore 5, 2), (33, .iload 5, 2), (35, .aload 0, 1), (36, .getfield 1868, 3), (39, .if_icmp .ne (.ofNat 47), 3), (42, .iconst (.negSucc 5), 2), (44, .goto (.ofNat 54), 3), (47, .aload 0, 1), (48, .iload 5, 2), (50, .iload 3, 1), (51, .invokevirtual 6134673, 3), (54, .ireturn, 1)]
def E_M_countValuations : List En := [(0, .aload 0, 1), (1, .iload 1, 1), (2, .iload 2, 1), (3, .invokevirtual 5970833, 3), (6, .istore 4, 2), (8, .iload 4, 2), (10, .iconst (.negSucc 0), 1), (11, .if_icmp .eq (.ofNat 22), 3), (14, .aload 0, 1), (15, .iload 3, 1), (16, .invokevirtual 4985737, 3), (19, .ifCond .ne (.ofNat 24), 3), (22, .iconst (.negSucc 0), 1), (23, .ireturn, 1), (24, .iload 4, 2), (26, .ifCond .eq (.ofNat 32), 3), (29, .iload 4, 2), (31, .ireturn, 1), (32, .iconst (.ofNat 0), 1), (33, .istore 5, 2), (35, .iconst (.ofNat 0), 1), (36, .istore 6, 2), (38, .iload 111, 0), (38, .iload 6, 2), (40, .aload 0, 1), (41, .getfield 1868, 3), (44, .if_icmp .ge (.ofNat 80), 3), (47, .iload 5, 2), (49, .aload 0, 1), (50, .iload 1, 1), (51, .iload 2, 1), (52, .iload 6, 2), (54, .invokevirtual 6103961, 3), (57, .aload 0, 1), (58, .getfield 1805, 3), (61, .iload 3, 1), (62, .iaload, 1), (63, .if_icmp .ne (.ofNat 70), 3), (66, .iconst (.ofNat 1), 1), (67, .goto (.ofNat 71), 3), (70, .iconst (.ofNat 0), 1), (71, .iadd, 1), (72, .istore 5, 2), (74, .iinc 6 (.ofNat 1), 3), (77, .goto (.ofNat 38), 3), (80, .iload 5, 2), (82, .ireturn, 1)]
def E_M_filterClass : List En := [(0, .aload 0, 1), (1, .iload 1, 1), (2, .iload 2, 1), (3, .iload 3, 1), (4, .invokevirtual 5088153, 3), (7, .ifCond .ne (.ofNat 12), 3), (10, .iconst (.negSucc 0), 1), (11, .ireturn, 1), (12, .iconst (.ofNat 0), 1), (13, .istore 4, 2), (15, .iload 29, 0), (15, .aload 0, 1), (16, .getfield 1805, 3), (19, .iload 4, 2), (21, .iaload, 1), (22, .aload 0, 1), (23, .getfield 1805, 3), (26, .iload 2, 1), (27, .iaload, 1), (28, .iand, 1), (29, .aload 0, 1), (30, .getfield 1805, 3), (33, .iload 3, 1), (34, .iaload, 1), (35, .aload 0, 1), (36, .getfield 1805, 3), (39, .iload 2, 1), (40, .iaload, 1), (41, .iand, 1), (42, .if_icmp .eq (.ofNat 51), 3), (45, .iinc 4 (.ofNat 1), 3), (48, .goto (.ofNat 15), 3), (51, .iload 4, 2), (53, .ireturn, 1)]
def E_M_quotientSize : List En := [(0, .aload 0, 1), (1, .iload 1, 1), (2, .invokevirtual 4854665, 3), (5, .ifCond .eq (.ofNat 16), 3), (8, .aload 0, 1), (9, .iload 2, 1), (10, .invokevirtual 4985737, 3), (13, .ifCond .ne (.ofNat 18), 3), (16, .iconst (.negSucc 0), 1), (17, .ireturn, 1), (18, .iconst (.ofNat 0), 1), (19, .istore 3, 1), (20, .iconst (.ofNat 0), 1), (21, .istore 4, 2), (23, .iload 29, 0), (23, .iload 4, 2), (25, .aload 0, 1), (26, .getfield 1812, 3), (29, .if_icmp .ge (.ofNat 113), 3), (32, .iconst (.ofNat 1), 1), (33, .istore 5, 2), (35, .iconst (.ofNat 0), 1), (36, .istore 6, 2), (38, .iload 125, 0), (38, .iload 6, 2), (40, .iload 4, 2), (42, .if_icmp .ge (.ofNat 94), 3), (45, .iload 5, 2), (47, .ifCond .eq (.ofNat 85), 3), (50, .aload 0, 1), (51, .getfield 1805, 3), (54, .iload 6, 2), (56, .iaload, 1), (57, .aload 0, 1), (58, .getfield 1805, 3), (61, .iload 2, 1), (62, .iaload, 1), (63, .iand, 1), (64, .aload 0, 1), (65, .getfield 1805, 3), (68, .iload 4, 2), (70, .iaload, 1), (71, .aload 0, 1), (72, .getfield 1805, 3), (75, .iload 2, 1), (76, .iaload, 1), (77, .iand, 1), (78, .if_icmp .eq (.ofNat 85), 3), (81, .iconst (.ofNat 1), 1), (82, .goto (.ofNat 86), 3), (85, .iconst (.ofNat 0), 1), (86, .istore 5, 2), (88, .iinc 6 (.ofNat 1), 3), (91, .goto (.ofNat 38), 3), (94, .iload 3, 1), (95, .iload 5, 2), (97, .ifCond .eq (.ofNat 104), 3), (100, .iconst (.ofNat 1), 1), (101, .goto (.ofNat 105), 3), (104, .iconst (.ofNat 0), 1), (105, .iadd, 1), (106, .istore 3, 1), (107, .iinc 4 (.ofNat 1), 3), (110, .goto (.ofNat 23), 3), (113, .iload 3, 1), (114, .ireturn, 1)]
def E_M_isPrime : List En := [(0, .aload 0, 1), (1, .iload 1, 1), (2, .invokevirtual 4854665, 3), (5, .ifCond .eq (.ofNat 16), 3), (8, .aload 0, 1), (9, .iload 2, 1), (10, .invokevirtual 4985737, 3), (13, .ifCond .ne (.ofNat 18), 3), (16, .iconst (.negSucc 0), 1), (17, .ireturn, 1), (18, .iconst (.ofNat 0), 1), (19, .istore 3, 1), (20, .iload 13, 0), (20, .iload 3, 1), (21, .aload 0, 1), (22, .getfield 1812, 3), (25, .if_icmp .ge (.ofNat 88), 3), (28, .iconst (.ofNat 0), 1), (29, .istore 4, 2), (31, .iload 29, 0), (31, .iload 4, 2), (33, .aload 0, 1), (34, .getfield 1812, 3), (37, .if_icmp .ge (.ofNat 82), 3), (40, .iload 3, 1), (41, .iload 2, 1), (42, .if_icmp .eq (.ofNat 76), 3), (45, .iload 4, 2), (47, .iload 2, 1), (48, .if_icmp .eq (.ofNat 76), 3), (51, .aload 0, 1), (52, .getfield 1805, 3), (55, .iload 3, 1), (56, .iaload, 1), (57, .aload 0, 1), (58, .getfield 1805, 3), (61, .iload 4, 2), (63, .iaload, 1), (64, .ior, 1), (65, .aload 0, 1), (66, .getfield 1805, 3), (69, .iload 2, 1), (70, .iaload, 1), (71, .if_icmp .ne (.ofNat 76), 3), (74, .iconst (.ofNat 0), 1), (75, .ireturn, 1), (76, .iinc 4 (.ofNat 1), 3), (79, .goto (.ofNat 31), 3), (82, .iinc 3 (.ofNat 1), 3), (85, .goto (.ofNat 20), 3), (88, .iload 2, 1), (89, .ifCond .ne (.ofNat 96), 3), (92, .iconst (.ofNat 0), 1), (93, .goto (.ofNat 97), 3), (96, .iconst (.ofNat 1), 1), (97, .ireturn, 1)]
def E_M_addGenerator : List En := [(0, .iload 1, 1), (1, .i2l, 1), (2, .sipush (.ofNat 0), 1), (3, .sipush (.ofNat 63), 3), (6, .invokestatic 4338585, 3), (9, .ifCond .ne (.ofNat 15), 3), (12, .iconst (.negSucc 1), 2), (14, .ireturn, 1), (15, .aload 0, 1), (16, .getfield 1892, 3), (19, .iconst (.ofNat 4), 1), (20, .if_icmp .ne (.ofNat 26), 3), (23, .iconst (.negSucc 6), 2), (25, .ireturn, 1), (26, .aload 0, 1), (27, .getfield 1873, 3), (30, .aload 0, 1), (31, .getfield 1892, 3), (34, .iload 1, 1), (35, .iastore, 1), (36, .aload 0, 1), (37, .dup, 1), (38, .getfield 1892, 3), (41, .iconst (.ofNat 1), 1), (42, .iadd, 1), (43, .putfield 1892, 3), (46, .aload 0, 1), (47, .getfield 1892, 3), (50, .ireturn, 1)]
def E_M_clearGenerators : List En := [(0, .aload 0, 1), (1, .getfield 1892, 3), (4, .istore 1, 1), (5, .aload 0, 1), (6, .iconst (.ofNat 0), 1), (7, .putfield 1892, 3), (10, .iload 1, 1), (11, .ireturn, 1)]
def E_M_generate : List En := [(0, .aload 0, 1), (1, .iload 1, 1), (2, .invokevirtual 4854665, 3), (5, .ifCond .ne (.ofNat 10), 3), (8, .iconst (.negSucc 0), 1), (9, .ireturn, 1), (10, .iconst (.ofNat 0), 1), (11, .istore 2, 1), (12, .iload 7, 0), (12, .iload 2, 1), (13, .aload 0, 1), (14, .getfield 1892, 3), (17, .if_icmp .ge (.ofNat 42), 3), (20, .aload 0, 1), (21, .aload 0, 1), (22, .getfield 1873, 3), (25, .iload 2, 1), (26, .iaload, 1), (27, .invokevirtual 4985737, 3), (30, .ifCond .ne (.ofNat 36), 3), (33, .iconst (.negSucc 1), 2), (35, .ireturn, 1), (36, .iinc 2 (.ofNat 1), 3), (39, .goto (.ofNat 12), 3), (42, .aload 0, 1), (43, .aload 0, 1), (44, .getfield 1812, 3), (47, .putfield 1896, 3), (50, .iconst (.ofNat 0), 1), (51, .istore 2, 1), (52, .iload 7, 0), (52, .iload 2, 1), (53, .iconst (.ofNat 64), 2), (55, .if_icmp .ge (.ofNat 112), 3), (58, .aload 0, 1), (59, .getfield 1889, 3), (62, .iload 2, 1), (63, .iload 2, 1), (64, .ifCond .eq (.ofNat 77), 3), (67, .iload 2, 1), (68, .aload 0, 1), (69, .getfield 1812, 3), (72, .iconst (.ofNat 1), 1), (73, .isub, 1), (74, .if_icmp .ne (.ofNat 81), 3), (77, .sipush (.ofNat 1), 1), (78, .goto (.ofNat 82), 3), (81, .sipush (.ofNat 0), 1), (82, .lastore, 1), (83, .aload 0, 1), (84, .getfield 1877, 3), (87, .iload 2, 1), (88, .iconst (.ofNat 3), 1), (89, .iastore, 1), (90, .aload 0, 1), (91, .getfield 1881, 3), (94, .iload 2, 1), (95, .iconst (.negSucc 5), 2), (97, .iastore, 1), (98, .aload 0, 1), (99, .getfield 1885, 3), (102, .iload 2, 1), (103, .iconst (.negSucc 5), 2), (105, .iastore, 1), (106, .iinc 2 (.ofNat 1), 3), (109, .goto (.ofNat 52), 3), (112, .iconst (.ofNat 0), 1), (113, .istore 2, 1), (114, .iload 7, 0), (114, .iload 2, 1), (115, .aload 0, 1), (116, .getfield 1892, 3), (119, .if_icmp .ge (.ofNat 140), 3), (122, .aload 0, 1), (123, .getfield 1889, 3), (126, .aload 0, 1), (127, .getfield 1873, 3), (130, .iload 2, 1), (131, .iaload, 1), (132, .sipush (.ofNat 1), 1), (133, .lastore, 1), (134, .iinc 2 (.ofNat 1), 3), (137, .goto (.ofNat 114), 3), (140, .iconst (.ofNat 1), 1), (141, .istore 2, 1), (142, .iload 7, 0), (142, .iload 2, 1), (143, .ifCond .eq (.ofNat 155), 3), (146, .aload 0, 1), (147, .iload 1, 1), (148, .invokevirtual 6427529, 3), (151, .istore 2, 1), (152, .goto (.ofNat 142), 3), (155, .aload 0, 1), (156, .iload 1, 1), (157, .invokevirtual 6493064, 3), (160, .iconst (.ofNat 0), 1), (161, .istore 3, 1), (162, .iconst (.ofNat 0), 1), (163, .istore 4, 2), (165, .iload 25, 0), (165, .iload 4, 2), (167, .aload 0, 1), (168, .getfield 1812, 3), (171, .if_icmp .ge (.ofNat 200), 3), (174, .iload 3, 1), (175, .aload 0, 1), (176, .getfield 1889, 3), (179, .iload 4, 2), (181, .laload, 1), (182, .sipush (.ofNat 0), 1), (183, .lcmp, 1), (184, .ifCond .le (.ofNat 191), 3), (187, .iconst (.ofNat 1), 1), (188, .goto (.ofNat 192), 3), (191, .iconst (.ofNat 0), 1), (192, .iadd, 1), (193, .istore 3, 1), (194, .iinc 4 (.ofNat 1), 3), (197, .goto (.ofNat 165), 3), (200, .iload 3, 1), (201, .ireturn, 1)]
def E_M_lowers : List En := [(0, .iconst (.ofNat 0), 1), (1, .istore 2, 1), (2, .iconst (.ofNat 0), 1), (3, .istore 3, 1), (4, .iload 15, 0), (4, .iload 3, 1), (5, .iconst (.ofNat 3), 1), (6, .if_icmp .ge (.ofNat 148), 3), (9, .iconst (.ofNat 0), 1), (10, .istore 4, 2), (12, .iload 31, 0), (12, .iload 4, 2), (14, .aload 0, 1), (15, .getfield 1812, 3), (18, .if_icmp .ge (.ofNat 142), 3), (21, .iconst (.ofNat 0), 1), (22, .istore 5, 2), (24, .iload 63, 0), (24, .iload 5, 2), (26, .aload 0, 1), (27, .getfield 1812, 3), (30, .if_icmp .ge (.ofNat 136), 3), (33, .aload 0, 1), (34, .getfield 1889, 3), (37, .iload 4, 2), (39, .laload, 1), (40, .sipush (.ofNat 0), 1), (41, .lcmp, 1), (42, .ifCond .le (.ofNat 136), 3), (45, .aload 0, 1), (46, .getfield 1889, 3), (49, .iload 5, 2), (51, .laload, 1), (52, .sipush (.ofNat 0), 1), (53, .lcmp, 1), (54, .ifCond .ne (.ofNat 60), 3), (57, .goto (.ofNat 130), 3), (60, .aload 0, 1), (61, .iload 1, 1), (62, .iload 3, 1), (63, .iload 4, 2), (65, .iload 5, 2), (67, .invokevirtual 6466465, 3), (70, .istore 6, 2), (72, .sipush (.ofNat 1), 1), (73, .aload 0, 1), (74, .getfield 1889, 3), (77, .iload 4, 2), (79, .laload, 1), (80, .ladd, 1), (81, .aload 0, 1), (82, .getfield 1889, 3), (85, .iload 5, 2), (87, .laload, 1), (88, .ladd, 1), (89, .lstore 7, 2), (91, .aload 0, 1), (92, .getfield 1889, 3), (95, .iload 6, 2), (97, .laload, 1), (98, .sipush (.ofNat 0), 1), (99, .lcmp, 1), (100, .ifCond .le (.ofNat 119), 3), (103, .aload 0, 1), (104, .getfield 1889, 3), (107, .iload 6, 2), (109, .laload, 1), (110, .lload 7, 2), (112, .lcmp, 1), (113, .ifCond .gt (.ofNat 119), 3), (116, .goto (.ofNat 130), 3), (119, .aload 0, 1), (120, .getfield 1889, 3), (123, .iload 6, 2), (125, .lload 7, 2), (127, .lastore, 1), (128, .iconst (.ofNat 1), 1), (129, .istore 2, 1), (130, .iinc 5 (.ofNat 1), 3), (133, .goto (.ofNat 24), 3), (136, .iinc 4 (.ofNat 1), 3), (139, .goto (.ofNat 12), 3), (142, .iinc 3 (.ofNat 1), 3), (145, .goto (.ofNat 4), 3), (148, .iload 2, 1), (149, .ireturn, 1)]
def E_M_done : List En := [(0, .aload 0, 1), (1, .getfield 1805, 3), (4, .iload 3, 1), (5, .iaload, 1), (6, .istore 5, 2), (8, .aload 0, 1), (9, .getfield 1805, 3), (12, .iload 4, 2), (14, .iaload, 1), (15, .istore 6, 2), (17, .aload 0, 1), (18, .getfield 1809, 3), (21, .iload 2, 1), (22, .ifCond .ne (.ofNat 33), 3), (25, .iload 5, 2), (27, .iload 6, 2), (29, .iand, 1), (30, .goto (.ofNat 55), 3), (33, .iload 2, 1), (34, .iconst (.ofNat 1), 1), (35, .if_icmp .ne (.ofNat 46), 3), (38, .iload 5, 2), (40, .iload 6, 2), (42, .ior, 1), (43, .goto (.ofNat 55), 3), (46, .aload 0, 1), (47, .iload 1, 1), (48, .iload 5, 2), (50, .iload 6, 2), (52, .invokevirtual 5186457, 3), (55, .iaload, 1), (56, .ireturn, 1)]
def E_M_findsSteps : List En := [(0, .iconst (.ofNat 2), 1), (1, .istore 2, 1), (2, .iload 7, 0), (2, .iload 2, 1), (3, .ifCond .lt (.ofNat 140), 3), (6, .aload 0, 1), (7, .getfield 1812, 3), (10, .iconst (.ofNat 1), 1), (11, .isub, 1), (12, .istore 3, 1), (13, .iload 15, 0), (13, .iload 3, 1), (14, .ifCond .lt (.ofNat 134), 3), (17, .aload 0, 1), (18, .getfield 1812, 3), (21, .iconst (.ofNat 1), 1), (22, .isub, 1), (23, .istore 4, 2), (25, .iload 31, 0), (25, .iload 4, 2), (27, .ifCond .lt (.ofNat 128), 3), (30, .aload 0, 1), (31, .getfield 1889, 3), (34, .iload 3, 1), (35, .laload, 1), (36, .sipush (.ofNat 0), 1), (37, .lcmp, 1), (38, .ifCond .le (.ofNat 128), 3), (41, .aload 0, 1), (42, .getfield 1889, 3), (45, .iload 4, 2), (47, .laload, 1), (48, .sipush (.ofNat 0), 1), (49, .lcmp, 1), (50, .ifCond .ne (.ofNat 56), 3), (53, .goto (.ofNat 122), 3), (56, .aload 0, 1), (57, .iload 1, 1), (58, .iload 2, 1), (59, .iload 3, 1), (60, .iload 4, 2), (62, .invokevirtual 6466465, 3), (65, .istore 5, 2), (67, .aload 0, 1), (68, .getfield 1889, 3), (71, .iload 5, 2), (73, .laload, 1), (74, .sipush (.ofNat 1), 1), (75, .aload 0, 1), (76, .getfield 1889, 3), (79, .iload 3, 1), (80, .laload, 1), (81, .ladd, 1), (82, .aload 0, 1), (83, .getfield 1889, 3), (86, .iload 4, 2), (88, .laload, 1), (89, .ladd, 1), (90, .lcmp, 1), (91, .ifCond .eq (.ofNat 97), 3), (94, .goto (.ofNat 122), 3), (97, .aload 0, 1), (98, .getfield 1877, 3), (101, .iload 5, 2), (103, .iload 2, 1), (104, .iastore, 1), (105, .aload 0, 1), (106, .getfield 1881, 3), (109, .iload 5, 2), (111, .iload 3, 1), (112, .iastore, 1), (113, .aload 0, 1), (114, .getfield 1885, 3), (117, .iload 5, 2), (119, .iload 4, 2), (121, .iastore, 1), (122, .iinc 4 (.negSucc 0), 3), (125, .goto (.ofNat 25), 3), (128, .iinc 3 (.negSucc 0), 3), (131, .goto (.ofNat 13), 3), (134, .iinc 2 (.negSucc 0), 3), (137, .goto (.ofNat 2), 3), (140, .return_, 1)]
def E_M_term : List En := [(0, .iload 1, 1), (1, .i2l, 1), (2, .sipush (.ofNat 0), 1), (3, .aload 0, 1), (4, .getfield 1896, 3), (7, .iconst (.ofNat 1), 1), (8, .isub, 1), (9, .i2l, 1), (10, .invokestatic 4338585, 3), (13, .ifCond .ne (.ofNat 20), 3), (16, .sipush (.negSucc 0), 3), (19, .lreturn, 1), (20, .iload 2, 1), (21, .i2l, 1), (22, .sipush (.ofNat 0), 1), (23, .sipush (.ofNat 3), 3), (26, .invokestatic 4338585, 3), (29, .ifCond .ne (.ofNat 36), 3), (32, .sipush (.negSucc 1), 3), (35, .lreturn, 1), (36, .aload 0, 1), (37, .getfield 1889, 3), (40, .iload 1, 1), (41, .laload, 1), (42, .sipush (.ofNat 0), 1), (43, .lcmp, 1), (44, .ifCond .ne (.ofNat 51), 3), (47, .sipush (.negSucc 5), 3), (50, .lreturn, 1), (51, .iload 2, 1), (52, .ifCond .ne (.ofNat 64), 3), (55, .aload 0, 1), (56, .getfield 1889, 3), (59, .iload 1, 1), (60, .laload, 1), (61, .goto (.ofNat 101), 3), (64, .iload 2, 1), (65, .iconst (.ofNat 1), 1), (66, .if_icmp .ne (.ofNat 79), 3), (69, .aload 0, 1), (70, .getfield 1877, 3), (73, .iload 1, 1), (74, .iaload, 1), (75, .i2l, 1), (76, .goto (.ofNat 101), 3), (79, .iload 2, 1), (80, .iconst (.ofNat 2), 1), (81, .if_icmp .ne (.ofNat 94), 3), (84, .aload 0, 1), (85, .getfield 1881, 3), (88, .iload 1, 1), (89, .iaload, 1), (90, .i2l, 1), (91, .goto (.ofNat 101), 3), (94, .aload 0, 1), (95, .getfield 1885, 3), (98, .iload 1, 1), (99, .iaload, 1), (100, .i2l, 1), (101, .lreturn, 1)]
def E_M_countMaps : List En := [(0, .iload 1, 1), (1, .invokestatic 4295561, 3), (4, .ifCond .eq (.ofNat 14), 3), (7, .iload 2, 1), (8, .invokestatic 4295561, 3), (11, .ifCond .ne (.ofNat 16), 3), (14, .iconst (.negSucc 0), 1), (15, .ireturn, 1), (16, .iload 3, 1), (17, .i2l, 1), (18, .sipush (.ofNat 0), 1), (19, .sipush (.ofNat 3), 3), (22, .invokestatic 4338585, 3), (25, .ifCond .eq (.ofNat 39), 3), (28, .aload 0, 1), (29, .iload 1, 1), (30, .iload 2, 1), (31, .iload 3, 1), (32, .iconst (.ofNat 0), 1), (33, .invokevirtual 6597537, 3), (36, .goto (.ofNat 41), 3), (39, .iconst (.negSucc 1), 2), (41, .ireturn, 1)]
def E_M_mapsOf : List En := [(0, .iconst (.ofNat 1), 1), (1, .istore 5, 2), (3, .iconst (.ofNat 0), 1), (4, .istore 6, 2), (6, .iload 127, 0), (6, .iload 6, 2), (8, .aload 0, 1), (9, .getfield 1793, 3), (12, .iload 1, 1), (13, .iaload, 1), (14, .if_icmp .ge (.ofNat 34), 3), (17, .iload 5, 2), (19, .aload 0, 1), (20, .getfield 1793, 3), (23, .iload 2, 1), (24, .iaload, 1), (25, .imul, 1), (26, .istore 5, 2), (28, .iinc 6 (.ofNat 1), 3), (31, .goto (.ofNat 6), 3), (34, .iconst (.ofNat 0), 1), (35, .istore 6, 2), (37, .iconst (.ofNat 0), 1), (38, .istore 7, 2), (40, .iload 255, 0), (40, .iload 7, 2), (42, .iload 5, 2), (44, .if_icmp .ge (.ofNat 128), 3), (47, .iload 7, 2), (49, .istore 8, 2), (51, .aload 0, 1), (52, .getfield 1793, 3), (55, .iload 1, 1), (56, .iaload, 1), (57, .iconst (.ofNat 1), 1), (58, .isub, 1), (59, .istore 9, 2), (61, .iload 1023, 0), (61, .iload 9, 2), (63, .ifCond .lt (.ofNat 99), 3), (66, .aload 0, 1), (67, .getfield 1901, 3), (70, .iload 9, 2), (72, .iload 8, 2), (74, .aload 0, 1), (75, .getfield 1793, 3), (78, .iload 2, 1), (79, .iaload, 1), (80, .irem, 1), (81, .iastore, 1), (82, .iload 8, 2), (84, .aload 0, 1), (85, .getfield 1793, 3), (88, .iload 2, 1), (89, .iaload, 1), (90, .idiv, 1), (91, .istore 8, 2), (93, .iinc 9 (.negSucc 0), 3), (96, .goto (.ofNat 61), 3), (99, .aload 0, 1), (100, .iload 1, 1), (101, .iload 2, 1), (102, .iload 3, 1), (103, .invokevirtual 6628249, 3), (106, .ifCond .ne (.ofNat 112), 3), (109, .goto (.ofNat 122), 3), (112, .iinc 6 (.ofNat 1), 3), (115, .iload 4, 2), (117, .ifCond .eq (.ofNat 122), 3), (120, .iconst (.ofNat 1), 1), (121, .ireturn, 1), (122, .iinc 7 (.ofNat 1), 3), (125, .goto (.ofNat 40), 3), (128, .iload 6, 2), (130, .ireturn, 1)]
def E_M_isOfKind : List En := [(0, .aload 0, 1), (1, .iload 1, 1), (2, .iload 2, 1), (3, .invokevirtual 6658961, 3), (6, .ifCond .ne (.ofNat 11), 3), (9, .iconst (.ofNat 0), 1), (10, .ireturn, 1), (11, .iload 3, 1), (12, .ifCond .eq (.ofNat 66), 3), (15, .iload 3, 1), (16, .iconst (.ofNat 1), 1), (17, .if_icmp .ne (.ofNat 29), 3), (20, .aload 0, 1), (21, .iload 1, 1), (22, .iload 2, 1), (23, .invokevirtual 6691729, 3), (26, .ifCond .ne (.ofNat 66), 3), (29, .iload 3, 1), (30, .iconst (.ofNat 2), 1), (31, .if_icmp .ne (.ofNat 52), 3), (34, .aload 0, 1), (35, .iload 1, 1), (36, .iload 2, 1), (37, .invokevirtual 6724497, 3), (40, .ifCond .eq (.ofNat 52), 3), (43, .aload 0, 1), (44, .iload 1, 1), (45, .iload 2, 1), (46, .invokevirtual 6691729, 3), (49, .ifCond .ne (.ofNat 66), 3), (52, .iload 3, 1), (53, .iconst (.ofNat 3), 1), (54, .if_icmp .ne (.ofNat 70), 3), (57, .aload 0, 1), (58, .iload 1, 1), (59, .iload 2, 1), (60, .invokevirtual 6757265, 3), (63, .ifCond .eq (.ofNat 70), 3), (66, .iconst (.ofNat 1), 1), (67, .goto (.ofNat 71), 3), (70, .iconst (.ofNat 0), 1), (71, .ireturn, 1)]
def E_M_keepsOrder : List En := [(0, .iconst (.ofNat 0), 1), (1, .istore 3, 1), (2, .iload 15, 0), (2, .iload 3, 1), (3, .aload 0, 1), (4, .getfield 1793, 3), (7, .iload 1, 1), (8, .iaload, 1), (9, .if_icmp .ge (.ofNat 72), 3), (12, .iconst (.ofNat 0), 1), (13, .istore 4, 2), (15, .iload 31, 0), (15, .iload 4, 2), (17, .aload 0, 1), (18, .getfield 1793, 3), (21, .iload 1, 1), (22, .iaload, 1), (23, .if_icmp .ge (.ofNat 66), 3), (26, .aload 0, 1), (27, .iload 1, 1), (28, .iload 3, 1), (29, .iload 4, 2), (31, .invokevirtual 4465561, 3), (34, .ifCond .eq (.ofNat 60), 3), (37, .aload 0, 1), (38, .iload 2, 1), (39, .aload 0, 1), (40, .getfield 1901, 3), (43, .iload 3, 1), (44, .iaload, 1), (45, .aload 0, 1), (46, .getfield 1901, 3), (49, .iload 4, 2), (51, .iaload, 1), (52, .invokevirtual 4465561, 3), (55, .ifCond .ne (.ofNat 60), 3), (58, .iconst (.ofNat 0), 1), (59, .ireturn, 1), (60, .iinc 4 (.ofNat 1), 3), (63, .goto (.ofNat 15), 3), (66, .iinc 3 (.ofNat 1), 3), (69, .goto (.ofNat 2), 3), (72, .iconst (.ofNat 1), 1), (73, .ireturn, 1)]
def E_M_isBounded : List En := [(0, .iconst (.ofNat 0), 1), (1, .istore 3, 1), (2, .iload 15, 0), (2, .iload 3, 1), (3, .aload 0, 1), (4, .getfield 1793, 3), (7, .iload 1, 1), (8, .iaload, 1), (9, .if_icmp .ge (.ofNat 96), 3), (12, .iconst (.ofNat 0), 1), (13, .istore 4, 2), (15, .iconst (.ofNat 0), 1), (16, .istore 5, 2), (18, .iload 63, 0), (18, .iload 5, 2), (20, .aload 0, 1), (21, .getfield 1793, 3), (24, .iload 1, 1), (25, .iaload, 1), (26, .if_icmp .ge (.ofNat 64), 3), (29, .iload 4, 2), (31, .aload 0, 1), (32, .iload 1, 1), (33, .iload 3, 1), (34, .iload 5, 2), (36, .invokevirtual 4465561, 3), (39, .ifCond .eq (.ofNat 54), 3), (42, .iconst (.ofNat 1), 1), (43, .aload 0, 1), (44, .getfield 1901, 3), (47, .iload 5, 2), (49, .iaload, 1), (50, .ishl, 1), (51, .goto (.ofNat 55), 3), (54, .iconst (.ofNat 0), 1), (55, .ior, 1), (56, .istore 4, 2), (58, .iinc 5 (.ofNat 1), 3), (61, .goto (.ofNat 18), 3), (64, .aload 0, 1), (65, .getfield 1797, 3), (68, .iconst (.ofNat 6), 2), (70, .iload 2, 1), (71, .imul, 1), (72, .aload 0, 1), (73, .getfield 1901, 3), (76, .iload 3, 1), (77, .iaload, 1), (78, .iadd, 1), (79, .iaload, 1), (80, .iload 4, 2), (82, .iconst (.negSucc 0), 1), (83, .ixor, 1), (84, .iand, 1), (85, .ifCond .eq (.ofNat 90), 3), (88, .iconst (.ofNat 0), 1), (89, .ireturn, 1), (90, .iinc 3 (.ofNat 1), 3), (93, .goto (.ofNat 2), 3), (96, .iconst (.ofNat 1), 1), (97, .ireturn, 1)]
def E_M_reachesAll : List En := [(0, .iconst (.ofNat 0), 1), (1, .istore 3, 1), (2, .iconst (.ofNat 0), 1), (3, .istore 4, 2), (5, .iload 31, 0), (5, .iload 4, 2), (7, .aload 0, 1), (8, .getfield 1793, 3), (11, .iload 1, 1), (12, .iaload, 1), (13, .if_icmp .ge (.ofNat 34), 3), (16, .iload 3, 1), (17, .iconst (.ofNat 1), 1), (18, .aload 0, 1), (19, .getfield 1901, 3), (22, .iload 4, 2), (24, .iaload, 1), (25, .ishl, 1), (26, .ior, 1), (27, .istore 3, 1), (28, .iinc 4 (.ofNat 1), 3), (31, .goto (.ofNat 5), 3), (34, .iload 3, 1), (35, .aload 0, 1), (36, .iload 2, 1), (37, .invokevirtual 4690825, 3), (40, .if_icmp .ne (.ofNat 47), 3), (43, .iconst (.ofNat 1), 1), (44, .goto (.ofNat 48), 3), (47, .iconst (.ofNat 0), 1), (48, .ireturn, 1)]
def E_M_reflectsOrder : List En := [(0, .iconst (.ofNat 0), 1), (1, .istore 3, 1), (2, .iload 15, 0), (2, .iload 3, 1), (3, .aload 0, 1), (4, .getfield 1793, 3), (7, .iload 1, 1), (8, .iaload, 1), (9, .if_icmp .ge (.ofNat 72), 3), (12, .iconst (.ofNat 0), 1), (13, .istore 4, 2), (15, .iload 31, 0), (15, .iload 4, 2), (17, .aload 0, 1), (18, .getfield 1793, 3), (21, .iload 1, 1), (22, .iaload, 1), (23, .if_icmp .ge (.ofNat 66), 3), (26, .aload 0, 1), (27, .iload 1, 1), (28, .iload 3, 1), (29, .iload 4, 2), (31, .invokevirtual 4465561, 3), (34, .ifCond .ne (.ofNat 60), 3), (37, .aload 0, 1), (38, .iload 2, 1), (39, .aload 0, 1), (40, .getfield 1901, 3), (43, .iload 3, 1), (44, .iaload, 1), (45, .aload 0, 1), (46, .getfield 1901, 3), (49, .iload 4, 2), (51, .iaload, 1), (52, .invokevirtual 4465561, 3), (55, .ifCond .eq (.ofNat 60), 3), (58, .iconst (.ofNat 0), 1), (59, .ireturn, 1), (60, .iinc 4 (.ofNat 1), 3), (63, .goto (.ofNat 15), 3), (66, .iinc 3 (.ofNat 1), 3), (69, .goto (.ofNat 2), 3), (72, .iconst (.ofNat 1), 1), (73, .ireturn, 1)]
def E_M_firstMap : List En := [(0, .iload 1, 1), (1, .invokestatic 4295561, 3), (4, .ifCond .eq (.ofNat 14), 3), (7, .iload 2, 1), (8, .invokestatic 4295561, 3), (11, .ifCond .ne (.ofNat 16), 3), (14, .iconst (.negSucc 0), 1), (15, .ireturn, 1), (16, .iload 3, 1), (17, .i2l, 1), (18, .sipush (.ofNat 0), 1), (19, .sipush (.ofNat 3), 3), (22, .invokestatic 4338585, 3), (25, .ifCond .ne (.ofNat 31), 3), (28, .iconst (.negSucc 1), 2), (30, .ireturn, 1), (31, .aload 0, 1), (32, .iload 1, 1), (33, .iload 2, 1), (34, .iload 3, 1), (35, .iconst (.ofNat 1), 1), (36, .invokevirtual 6597537, 3), (39, .ifCond .ne (.ofNat 45), 3), (42, .iconst (.negSucc 5), 2), (44, .ireturn, 1), (45, .iconst (.ofNat 0), 1), (46, .istore 4, 2), (48, .iconst (.ofNat 0), 1), (49, .istore 5, 2), (51, .iload 51, 0), (51, .iload 5, 2), (53, .aload 0, 1), (54, .getfield 1793, 3), (57, .iload 1, 1), (58, .iaload, 1), (59, .if_icmp .ge (.ofNat 83), 3), (62, .iconst (.ofNat 10), 2), (64, .iload 4, 2), (66, .imul, 1), (67, .aload 0, 1), (68, .getfield 1901, 3), (71, .iload 5, 2), (73, .iaload, 1), (74, .iadd, 1), (75, .istore 4, 2), (77, .iinc 5 (.ofNat 1), 3), (80, .goto (.ofNat 51), 3), (83, .iload 4, 2), (85, .ireturn, 1)]
def E_M_isIsomorphic : List En := [(0, .iload 1, 1), (1, .invokestatic 4295561, 3), (4, .ifCond .eq (.ofNat 14), 3), (7, .iload 2, 1), (8, .invokestatic 4295561, 3), (11, .ifCond .ne (.ofNat 16), 3), (14, .iconst (.negSucc 0), 1), (15, .ireturn, 1), (16, .aload 0, 1), (17, .getfield 1793, 3), (20, .iload 1, 1), (21, .iaload, 1), (22, .aload 0, 1), (23, .getfield 1793, 3), (26, .iload 2, 1), (27, .iaload, 1), (28, .if_icmp .ne (.ofNat 47), 3), (31, .aload 0, 1), (32, .iload 1, 1), (33, .iload 2, 1), (34, .iconst (.ofNat 3), 1), (35, .iconst (.ofNat 1), 1), (36, .invokevirtual 6597537, 3), (39, .iconst (.ofNat 1), 1), (40, .if_icmp .ne (.ofNat 47), 3), (43, .iconst (.ofNat 1), 1), (44, .goto (.ofNat 48), 3), (47, .iconst (.ofNat 0), 1), (48, .ireturn, 1)]
def E_M_sum : List En := [(0, .iload 1, 1), (1, .invokestatic 4295561, 3), (4, .ifCond .eq (.ofNat 22), 3), (7, .iload 2, 1), (8, .invokestatic 4295561, 3), (11, .ifCond .eq (.ofNat 22), 3), (14, .iload 4, 2), (16, .invokestatic 4295561, 3), (19, .ifCond .ne (.ofNat 24), 3), (22, .iconst (.negSucc 0), 1), (23, .ireturn, 1), (24, .iload 3, 1), (25, .i2l, 1), (26, .sipush (.ofNat 0), 1), (27, .sipush (.ofNat 1), 1), (28, .invokestatic 4338585, 3), (31, .ifCond .ne (.ofNat 37), 3), (34, .iconst (.negSucc 1), 2), (36, .ireturn, 1), (37, .aload 0, 1), (38, .getfield 1793, 3), (41, .iload 1, 1), (42, .iaload, 1), (43, .istore 5, 2), (45, .iload 5, 2), (47, .aload 0, 1), (48, .getfield 1793, 3), (51, .iload 2, 1), (52, .iaload, 1), (53, .iadd, 1), (54, .iconst (.ofNat 6), 2), (56, .if_icmp .le (.ofNat 62), 3), (59, .iconst (.negSucc 4), 2), (61, .ireturn, 1), (62, .aload 0, 1), (63, .iload 2, 1), (64, .invokevirtual 4690825, 3), (67, .iload 5, 2), (69, .ishl, 1), (70, .istore 6, 2), (72, .aload 0, 1), (73, .getfield 1793, 3), (76, .iconst (.ofNat 4), 1), (77, .iload 5, 2), (79, .aload 0, 1), (80, .getfield 1793, 3), (83, .iload 2, 1), (84, .iaload, 1), (85, .iadd, 1), (86, .iastore, 1), (87, .iconst (.ofNat 0), 1), (88, .istore 7, 2), (90, .iload 255, 0), (90, .iload 7, 2), (92, .aload 0, 1), (93, .getfield 1793, 3), (96, .iload 2, 1), (97, .iaload, 1), (98, .if_icmp .ge (.ofNat 135), 3), (101, .aload 0, 1), (102, .getfield 1797, 3), (105, .iconst (.ofNat 24), 2), (107, .iload 5, 2), (109, .iadd, 1), (110, .iload 7, 2), (112, .iadd, 1), (113, .aload 0, 1), (114, .getfield 1797, 3), (117, .iconst (.ofNat 6), 2), (119, .iload 2, 1), (120, .imul, 1), (121, .iload 7, 2), (123, .iadd, 1), (124, .iaload, 1), (125, .iload 5, 2), (127, .ishl, 1), (128, .iastore, 1), (129, .iinc 7 (.ofNat 1), 3), (132, .goto (.ofNat 90), 3), (135, .iconst (.ofNat 0), 1), (136, .istore 7, 2), (138, .iload 251, 0), (138, .iload 7, 2), (140, .iload 5, 2), (142, .if_icmp .ge (.ofNat 185), 3), (145, .aload 0, 1), (146, .getfield 1797, 3), (149, .iconst (.ofNat 24), 2), (151, .iload 7, 2), (153, .iadd, 1), (154, .aload 0, 1), (155, .getfield 1797, 3), (158, .iconst (.ofNat 6), 2), (160, .iload 1, 1), (161, .imul, 1), (162, .iload 7, 2), (164, .iadd, 1), (165, .iaload, 1), (166, .iload 3, 1), (167, .iconst (.ofNat 1), 1), (168, .if_icmp .ne (.ofNat 176), 3), (171, .iload 6, 2), (173, .goto (.ofNat 177), 3), (176, .iconst (.ofNat 0), 1), (177, .ior, 1), (178, .iastore, 1), (179, .iinc 7 (.ofNat 1), 3), (182, .goto (.ofNat 138), 3), (185, .aload 0, 1), (186, .iload 4, 2), (188, .invokevirtual 6886280, 3), (191, .aload 0, 1), (192, .getfield 1793, 3), (195, .iload 4, 2), (197, .iaload, 1), (198, .ireturn, 1)]
def E_M_settles : List En := [(0, .aload 0, 1), (1, .getfield 1793, 3), (4, .iload 1, 1), (5, .aload 0, 1), (6, .getfield 1793, 3), (9, .iconst (.ofNat 4), 1), (10, .iaload, 1), (11, .iastore, 1), (12, .iconst (.ofNat 0), 1), (13, .istore 2, 1), (14, .iload 7, 0), (14, .iload 2, 1), (15, .aload 0, 1), (16, .getfield 1793, 3), (19, .iload 1, 1), (20, .iaload, 1), (21, .if_icmp .ge (.ofNat 50), 3), (24, .aload 0, 1), (25, .getfield 1797, 3), (28, .iconst (.ofNat 6), 2), (30, .iload 1, 1), (31, .imul, 1), (32, .iload 2, 1), (33, .iadd, 1), (34, .aload 0, 1), (35, .getfield 1797, 3), (38, .iconst (.ofNat 24), 2), (40, .iload 2, 1), (41, .iadd, 1), (42, .iaload, 1), (43, .iastore, 1), (44, .iinc 2 (.ofNat 1), 3), (47, .goto (.ofNat 14), 3), (50, .aload 0, 1), (51, .iload 1, 1), (52, .invokevirtual 4232072, 3), (55, .return_, 1)]
def E_M_product : List En := [(0, .iload 1, 1), (1, .invokestatic 4295561, 3), (4, .ifCond .eq (.ofNat 21), 3), (7, .iload 2, 1), (8, .invokestatic 4295561, 3), (11, .ifCond .eq (.ofNat 21), 3), (14, .iload 3, 1), (15, .invokestatic 4295561, 3), (18, .ifCond .ne (.ofNat 23), 3), (21, .iconst (.negSucc 0), 1), (22, .ireturn, 1), (23, .aload 0, 1), (24, .getfield 1793, 3), (27, .iload 2, 1), (28, .iaload, 1), (29, .istore 4, 2), (31, .aload 0, 1), (32, .getfield 1793, 3), (35, .iload 1, 1), (36, .iaload, 1), (37, .iload 4, 2), (39, .imul, 1), (40, .iconst (.ofNat 6), 2), (42, .if_icmp .le (.ofNat 48), 3), (45, .iconst (.negSucc 4), 2), (47, .ireturn, 1), (48, .aload 0, 1), (49, .getfield 1793, 3), (52, .iconst (.ofNat 4), 1), (53, .aload 0, 1), (54, .getfield 1793, 3), (57, .iload 1, 1), (58, .iaload, 1), (59, .iload 4, 2), (61, .imul, 1), (62, .iastore, 1), (63, .iconst (.ofNat 0), 1), (64, .istore 5, 2), (66, .iload 63, 0), (66, .iload 5, 2), (68, .aload 0, 1), (69, .getfield 1793, 3), (72, .iconst (.ofNat 4), 1), (73, .iaload, 1), (74, .if_icmp .ge (.ofNat 167), 3), (77, .iconst (.ofNat 0), 1), (78, .istore 6, 2), (80, .iconst (.ofNat 0), 1), (81, .istore 7, 2), (83, .iload 255, 0), (83, .iload 7, 2), (85, .aload 0, 1), (86, .getfield 1793, 3), (89, .iconst (.ofNat 4), 1), (90, .iaload, 1), (91, .if_icmp .ge (.ofNat 149), 3), (94, .iload 6, 2), (96, .aload 0, 1), (97, .iload 1, 1), (98, .iload 5, 2), (100, .iload 4, 2), (102, .idiv, 1), (103, .iload 7, 2), (105, .iload 4, 2), (107, .idiv, 1), (108, .invokevirtual 4465561, 3), (111, .ifCond .eq (.ofNat 139), 3), (114, .aload 0, 1), (115, .iload 2, 1), (116, .iload 5, 2), (118, .iload 4, 2), (120, .irem, 1), (121, .iload 7, 2), (123, .iload 4, 2), (125, .irem, 1), (126, .invokevirtual 4465561, 3), (129, .ifCond .eq (.ofNat 139), 3), (132, .iconst (.ofNat 1), 1), (133, .iload 7, 2), (135, .ishl, 1), (136, .goto (.ofNat 140), 3), (139, .iconst (.ofNat 0), 1), (140, .ior, 1), (141, .istore 6, 2), (143, .iinc 7 (.ofNat 1), 3), (146, .goto (.ofNat 83), 3), (149, .aload 0, 1), (150, .getfield 1797, 3), (153, .iconst (.ofNat 24), 2), (155, .iload 5, 2), (157, .iadd, 1), (158, .iload 6, 2), (160, .iastore, 1), (161, .iinc 5 (.ofNat 1), 3), (164, .goto (.ofNat 66), 3), (167, .aload 0, 1), (168, .iload 3, 1), (169, .invokevirtual 6886280, 3), (172, .aload 0, 1), (173, .getfield 1793, 3), (176, .iload 3, 1), (177, .iaload, 1), (178, .ireturn, 1)]
def E_M_restrict : List En := [(0, .aload 0, 1), (1, .iload 1, 1), (2, .invokevirtual 4854665, 3), (5, .ifCond .eq (.ofNat 23), 3), (8, .iload 3, 1), (9, .invokestatic 4295561, 3), (12, .ifCond .eq (.ofNat 23), 3), (15, .aload 0, 1), (16, .iload 2, 1), (17, .invokevirtual 4985737, 3), (20, .ifCond .ne (.ofNat 25), 3), (23, .iconst (.negSucc 0), 1), (24, .ireturn, 1), (25, .iload 2, 1), (26, .ifCond .ne (.ofNat 32), 3), (29, .iconst (.negSucc 1), 2), (31, .ireturn, 1), (32, .aload 0, 1), (33, .getfield 1805, 3), (36, .iload 2, 1), (37, .iaload, 1), (38, .istore 4, 2), (40, .iconst (.ofNat 0), 1), (41, .istore 5, 2), (43, .iconst (.ofNat 0), 1), (44, .istore 6, 2), (46, .iload 123, 0), (46, .iload 6, 2), (48, .aload 0, 1), (49, .getfield 1793, 3), (52, .iload 1, 1), (53, .iaload, 1), (54, .if_icmp .ge (.ofNat 158), 3), (57, .iload 4, 2), (59, .iload 6, 2), (61, .ishr, 1), (62, .iconst (.ofNat 1), 1), (63, .iand, 1), (64, .ifCond .ne (.ofNat 70), 3), (67, .goto (.ofNat 152), 3), (70, .iconst (.ofNat 0), 1), (71, .istore 7, 2), (73, .iconst (.ofNat 0), 1), (74, .istore 8, 2), (76, .iconst (.ofNat 0), 1), (77, .istore 9, 2), (79, .iload 1019, 0), (79, .iload 9, 2), (81, .aload 0, 1), (82, .getfield 1793, 3), (85, .iload 1, 1), (86, .iaload, 1), (87, .if_icmp .ge (.ofNat 137), 3), (90, .iload 4, 2), (92, .iload 9, 2), (94, .ishr, 1), (95, .iconst (.ofNat 1), 1), (96, .iand, 1), (97, .ifCond .ne (.ofNat 103), 3), (100, .goto (.ofNat 131), 3), (103, .iload 7, 2), (105, .aload 0, 1), (106, .iload 1, 1), (107, .iload 6, 2), (109, .iload 9, 2), (111, .invokevirtual 4465561, 3), (114, .ifCond .eq (.ofNat 124), 3), (117, .iconst (.ofNat 1), 1), (118, .iload 8, 2), (120, .ishl, 1), (121, .goto (.ofNat 125), 3), (124, .iconst (.ofNat 0), 1), (125, .ior, 1), (126, .istore 7, 2), (128, .iinc 8 (.ofNat 1), 3), (131, .iinc 9 (.ofNat 1), 3), (134, .goto (.ofNat 79), 3), (137, .aload 0, 1), (138, .getfield 1797, 3), (141, .iconst (.ofNat 24), 2), (143, .iload 5, 2), (145, .iadd, 1), (146, .iload 7, 2), (148, .iastore, 1), (149, .iinc 5 (.ofNat 1), 3), (152, .iinc 6 (.ofNat 1), 3), (155, .goto (.ofNat 46), 3), (158, .aload 0, 1), (159, .getfield 1793, 3), (162, .iconst (.ofNat 4), 1), (163, .iload 5, 2), (165, .iastore, 1), (166, .aload 0, 1), (167, .iload 3, 1), (168, .invokevirtual 6886280, 3), (171, .iload 5, 2), (173, .ireturn, 1)]
def E_M_dual : List En := [(0, .iload 1, 1), (1, .invokestatic 4295561, 3), (4, .ifCond .eq (.ofNat 14), 3), (7, .iload 2, 1), (8, .invokestatic 4295561, 3), (11, .ifCond .ne (.ofNat 16), 3), (14, .iconst (.negSucc 0), 1), (15, .ireturn, 1), (16, .aload 0, 1), (17, .getfield 1793, 3), (20, .iconst (.ofNat 4), 1), (21, .aload 0, 1), (22, .getfield 1793, 3), (25, .iload 1, 1), (26, .iaload, 1), (27, .iastore, 1), (28, .iconst (.ofNat 0), 1), (29, .istore 3, 1), (30, .iload 15, 0), (30, .iload 3, 1), (31, .aload 0, 1), (32, .getfield 1793, 3), (35, .iload 1, 1), (36, .iaload, 1), (37, .if_icmp .ge (.ofNat 104), 3), (40, .iconst (.ofNat 0), 1), (41, .istore 4, 2), (43, .iconst (.ofNat 0), 1), (44, .istore 5, 2), (46, .iload 63, 0), (46, .iload 5, 2), (48, .aload 0, 1), (49, .getfield 1793, 3), (52, .iload 1, 1), (53, .iaload, 1), (54, .if_icmp .ge (.ofNat 87), 3), (57, .iload 4, 2), (59, .aload 0, 1), (60, .iload 1, 1), (61, .iload 5, 2), (63, .iload 3, 1), (64, .invokevirtual 4465561, 3), (67, .ifCond .eq (.ofNat 77), 3), (70, .iconst (.ofNat 1), 1), (71, .iload 5, 2), (73, .ishl, 1), (74, .goto (.ofNat 78), 3), (77, .iconst (.ofNat 0), 1), (78, .ior, 1), (79, .istore 4, 2), (81, .iinc 5 (.ofNat 1), 3), (84, .goto (.ofNat 46), 3), (87, .aload 0, 1), (88, .getfield 1797, 3), (91, .iconst (.ofNat 24), 2), (93, .iload 3, 1), (94, .iadd, 1), (95, .iload 4, 2), (97, .iastore, 1), (98, .iinc 3 (.ofNat 1), 3), (101, .goto (.ofNat 30), 3), (104, .aload 0, 1), (105, .iload 2, 1), (106, .invokevirtual 6886280, 3), (109, .aload 0, 1), (110, .getfield 1793, 3), (113, .iload 2, 1), (114, .iaload, 1), (115, .ireturn, 1)]
def E_M_allocate : List En := [(0, .iload 1, 1), (1, .invokestatic 7048073, 3), (4, .ifCond .ne (.ofNat 9), 3), (7, .iconst (.negSucc 0), 1), (8, .ireturn, 1), (9, .iload 2, 1), (10, .i2l, 1), (11, .sipush (.ofNat 0), 1), (12, .sipush (.ofNat 2), 3), (15, .invokestatic 4338585, 3), (18, .ifCond .eq (.ofNat 27), 3), (21, .iload 3, 1), (22, .iconst (.ofNat 30), 2), (24, .if_icmp .le (.ofNat 30), 3), (27, .iconst (.negSucc 1), 2), (29, .ireturn, 1), (30, .iload 3, 1), (31, .ifCond .ge (.ofNat 37), 3), (34, .iconst (.negSucc 10), 2), (36, .ireturn, 1), (37, .aload 0, 1), (38, .getfield 1913, 3), (41, .iload 1, 1), (42, .iload 2, 1), (43, .iastore, 1), (44, .aload 0, 1), (45, .getfield 1917, 3), (48, .iload 1, 1), (49, .iload 3, 1), (50, .iastore, 1), (51, .iconst (.ofNat 0), 1), (52, .istore 4, 2), (54, .iload 27, 0), (54, .iload 4, 2), (56, .iload 3, 1), (57, .if_icmp .ge (.ofNat 79), 3), (60, .aload 0, 1), (61, .getfield 1905, 3), (64, .iconst (.ofNat 30), 2), (66, .iload 1, 1), (67, .imul, 1), (68, .iload 4, 2), (70, .iadd, 1), (71, .iconst (.ofNat 0), 1), (72, .iastore, 1), (73, .iinc 4 (.ofNat 1), 3), (76, .goto (.ofNat 54), 3), (79, .iload 3, 1), (80, .ireturn, 1)]
def E_M_isRow : List En := [(0, .iload 0, 1), (1, .ifCond .lt (.ofNat 13), 3), (4, .iload 0, 1), (5, .iconst (.ofNat 3), 1), (6, .if_icmp .ge (.ofNat 13), 3), (9, .iconst (.ofNat 1), 1), (10, .goto (.ofNat 14), 3), (13, .iconst (.ofNat 0), 1), (14, .ireturn, 1)]
def E_M_put : List En := [(0, .iload 1, 1), (1, .invokestatic 7048073, 3), (4, .ifCond .ne (.ofNat 9), 3), (7, .iconst (.negSucc 0), 1), (8, .ireturn, 1), (9, .aload 0, 1), (10, .getfield 1913, 3), (13, .iload 1, 1), (14, .iaload, 1), (15, .ifCond .ge (.ofNat 21), 3), (18, .iconst (.negSucc 7), 2), (20, .ireturn, 1), (21, .iload 2, 1), (22, .i2l, 1), (23, .sipush (.ofNat 0), 1), (24, .aload 0, 1), (25, .getfield 1917, 3), (28, .iload 1, 1), (29, .iaload, 1), (30, .iconst (.ofNat 1), 1), (31, .isub, 1), (32, .i2l, 1), (33, .invokestatic 4338585, 3), (36, .ifCond .ne (.ofNat 42), 3), (39, .iconst (.negSucc 9), 2), (41, .ireturn, 1), (42, .aload 0, 1), (43, .iload 1, 1), (44, .iload 2, 1), (45, .iload 3, 1), (46, .invokevirtual 7119768, 3), (49, .iconst (.ofNat 1), 1), (50, .ireturn, 1)]
def E_M_puts : List En := [(0, .aload 0, 1), (1, .getfield 1905, 3), (4, .iconst (.ofNat 30), 2), (6, .iload 1, 1), (7, .imul, 1), (8, .iload 2, 1), (9, .iadd, 1), (10, .aload 0, 1), (11, .getfield 1913, 3), (14, .iload 1, 1), (15, .iaload, 1), (16, .ifCond .ne (.ofNat 24), 3), (19, .iload 3, 1), (20, .i2b, 1), (21, .goto (.ofNat 40), 3), (24, .aload 0, 1), (25, .getfield 1913, 3), (28, .iload 1, 1), (29, .iaload, 1), (30, .iconst (.ofNat 1), 1), (31, .if_icmp .ne (.ofNat 39), 3), (34, .iload 3, 1), (35, .i2s, 1), (36, .goto (.ofNat 40), 3), (39, .iload 3, 1), (40, .iastore, 1), (41, .return_, 1)]
def E_M_rowElement : List En := [(0, .iload 1, 1), (1, .invokestatic 7048073, 3), (4, .ifCond .eq (.ofNat 34), 3), (7, .aload 0, 1), (8, .getfield 1913, 3), (11, .iload 1, 1), (12, .iaload, 1), (13, .ifCond .lt (.ofNat 34), 3), (16, .iload 2, 1), (17, .i2l, 1), (18, .sipush (.ofNat 0), 1), (19, .aload 0, 1), (20, .getfield 1917, 3), (23, .iload 1, 1), (24, .iaload, 1), (25, .iconst (.ofNat 1), 1), (26, .isub, 1), (27, .i2l, 1), (28, .invokestatic 4338585, 3), (31, .ifCond .ne (.ofNat 38), 3), (34, .sipush (.negSucc 9223372036854775807), 3), (37, .lreturn, 1), (38, .aload 0, 1), (39, .getfield 1905, 3), (42, .iconst (.ofNat 30), 2), (44, .iload 1, 1), (45, .imul, 1), (46, .iload 2, 1), (47, .iadd, 1), (48, .iaload, 1), (49, .i2l, 1), (50, .lreturn, 1)]
def E_M_copyElements : List En := [(0, .iload 1, 1), (1, .invokestatic 7048073, 3), (4, .ifCond .eq (.ofNat 14), 3), (7, .iload 3, 1), (8, .invokestatic 7048073, 3), (11, .ifCond .ne (.ofNat 16), 3), (14, .iconst (.negSucc 0), 1), (15, .ireturn, 1), (16, .aload 0, 1), (17, .getfield 1913, 3), (20, .iload 1, 1), (21, .iaload, 1), (22, .ifCond .lt (.ofNat 34), 3), (25, .aload 0, 1), (26, .getfield 1913, 3), (29, .iload 3, 1), (30, .iaload, 1), (31, .ifCond .ge (.ofNat 37), 3), (34, .iconst (.negSucc 7), 2), (36, .ireturn, 1), (37, .aload 0, 1), (38, .getfield 1913, 3), (41, .iload 1, 1), (42, .iaload, 1), (43, .aload 0, 1), (44, .getfield 1913, 3), (47, .iload 3, 1), (48, .iaload, 1), (49, .if_icmp .eq (.ofNat 55), 3), (52, .iconst (.negSucc 8), 2), (54, .ireturn, 1), (55, .iload 2, 1), (56, .ifCond .lt (.ofNat 104), 3), (59, .iload 4, 2), (61, .ifCond .lt (.ofNat 104), 3), (64, .iload 5, 2), (66, .ifCond .lt (.ofNat 104), 3), (69, .iload 2, 1), (70, .i2l, 1), (71, .iload 5, 2), (73, .i2l, 1), (74, .ladd, 1), (75, .aload 0, 1), (76, .getfield 1917, 3), (79, .iload 1, 1), (80, .iaload, 1), (81, .i2l, 1), (82, .lcmp, 1), (83, .ifCond .gt (.ofNat 104), 3), (86, .iload 4, 2), (88, .i2l, 1), (89, .iload 5, 2), (91, .i2l, 1), (92, .ladd, 1), (93, .aload 0, 1), (94, .getfield 1917, 3), (97, .iload 3, 1), (98, .iaload, 1), (99, .i2l, 1), (100, .lcmp, 1), (101, .ifCond .le (.ofNat 107), 3), (104, .iconst (.negSucc 9), 2), (106, .ireturn, 1), (107, .iconst (.ofNat 0), 1), (108, .istore 6, 2), (110, .iload 127, 0), (110, .iload 6, 2), (112, .iload 5, 2), (114, .if_icmp .ge (.ofNat 144), 3), (117, .aload 0, 1), (118, .getfield 1909, 3), (121, .iload 6, 2), (123, .aload 0, 1), (124, .getfield 1905, 3), (127, .iconst (.ofNat 30), 2), (129, .iload 1, 1), (130, .imul, 1), (131, .iload 2, 1), (132, .iadd, 1), (133, .iload 6, 2), (135, .iadd, 1), (136, .iaload, 1), (137, .iastore, 1), (138, .iinc 6 (.ofNat 1), 3), (141, .goto (.ofNat 110), 3), (144, .iconst (.ofNat 0), 1), (145, .istore 6, 2), (147, .iload 121, 0), (147, .iload 6, 2), (149, .iload 5, 2), (151, .if_icmp .ge (.ofNat 182), 3), (154, .aload 0, 1), (155, .getfield 1905, 3), (158, .iconst (.ofNat 30), 2), (160, .iload 3, 1), (161, .imul, 1), (162, .iload 4, 2), (164, .iadd, 1), (165, .iload 6, 2), (167, .iadd, 1), (168, .aload 0, 1), (169, .getfield 1909, 3), (172, .iload 6, 2), (174, .iaload, 1), (175, .iastore, 1), (176, .iinc 6 (.ofNat 1), 3), (179, .goto (.ofNat 147), 3), (182, .iload 5, 2), (184, .ireturn, 1)]
def E_M_storeElements : List En := [(0, .iload 1, 1), (1, .invokestatic 7048073, 3), (4, .ifCond .eq (.ofNat 15), 3), (7, .aload 0, 1), (8, .iload 2, 1), (9, .invokevirtual 4854665, 3), (12, .ifCond .ne (.ofNat 17), 3), (15, .iconst (.negSucc 0), 1), (16, .ireturn, 1), (17, .aload 0, 1), (18, .getfield 1913, 3), (21, .iload 1, 1), (22, .iaload, 1), (23, .ifCond .ge (.ofNat 29), 3), (26, .iconst (.negSucc 7), 2), (28, .ireturn, 1), (29, .iconst (.ofNat 0), 1), (30, .istore 3, 1), (31, .iload 11, 0), (31, .iload 3, 1), (32, .aload 0, 1), (33, .getfield 1812, 3), (36, .if_icmp .ge (.ofNat 67), 3), (39, .iload 3, 1), (40, .aload 0, 1), (41, .getfield 1917, 3), (44, .iload 1, 1), (45, .iaload, 1), (46, .if_icmp .ge (.ofNat 67), 3), (49, .aload 0, 1), (50, .iload 1, 1), (51, .iload 3, 1), (52, .aload 0, 1), (53, .getfield 1805, 3), (56, .iload 3, 1), (57, .iaload, 1), (58, .invokevirtual 7119768, 3), (61, .iinc 3 (.ofNat 1), 3), (64, .goto (.ofNat 31), 3), (67, .aload 0, 1), (68, .getfield 1917, 3), (71, .iload 1, 1), (72, .iaload, 1), (73, .aload 0, 1), (74, .getfield 1812, 3), (77, .if_icmp .ge (.ofNat 85), 3), (80, .iconst (.negSucc 9), 2), (82, .goto (.ofNat 89), 3), (85, .aload 0, 1), (86, .getfield 1812, 3), (89, .ireturn, 1)]
def E_M_loadOrder : List En := [(0, .iload 1, 1), (1, .invokestatic 7048073, 3), (4, .ifCond .eq (.ofNat 14), 3), (7, .iload 2, 1), (8, .invokestatic 4295561, 3), (11, .ifCond .ne (.ofNat 16), 3), (14, .iconst (.negSucc 0), 1), (15, .ireturn, 1), (16, .aload 0, 1), (17, .getfield 1913, 3), (20, .iload 1, 1), (21, .iaload, 1), (22, .ifCond .ge (.ofNat 28), 3), (25, .iconst (.negSucc 7), 2), (27, .ireturn, 1), (28, .iconst (.ofNat 0), 1), (29, .istore 3, 1), (30, .aload 0, 1), (31, .iconst (.ofNat 0), 1), (32, .putfield 1920, 3), (35, .iload 15, 0), (35, .iconst (.ofNat 2), 1), (36, .iload 3, 1), (37, .imul, 1), (38, .iconst (.ofNat 1), 1), (39, .iadd, 1), (40, .aload 0, 1), (41, .getfield 1917, 3), (44, .iload 1, 1), (45, .iaload, 1), (46, .if_icmp .ge (.ofNat 135), 3), (49, .aload 0, 1), (50, .getfield 1920, 3), (53, .ifCond .ne (.ofNat 135), 3), (56, .aload 0, 1), (57, .iload 2, 1), (58, .aload 0, 1), (59, .getfield 1905, 3), (62, .iconst (.ofNat 30), 2), (64, .iload 1, 1), (65, .imul, 1), (66, .iconst (.ofNat 2), 1), (67, .iload 3, 1), (68, .imul, 1), (69, .iadd, 1), (70, .iaload, 1), (71, .aload 0, 1), (72, .getfield 1905, 3), (75, .iconst (.ofNat 30), 2), (77, .iload 1, 1), (78, .imul, 1), (79, .iconst (.ofNat 2), 1), (80, .iload 3, 1), (81, .imul, 1), (82, .iadd, 1), (83, .iconst (.ofNat 1), 1), (84, .iadd, 1), (85, .iaload, 1), (86, .invokevirtual 4400025, 3), (89, .istore 4, 2), (91, .aload 0, 1), (92, .iload 4, 2), (94, .iconst (.negSucc 0), 1), (95, .if_icmp .ne (.ofNat 102), 3), (98, .iconst (.ofNat 1), 1), (99, .goto (.ofNat 114), 3), (102, .iload 4, 2), (104, .iconst (.negSucc 3), 2), (106, .if_icmp .ne (.ofNat 113), 3), (109, .iconst (.ofNat 2), 1), (110, .goto (.ofNat 114), 3), (113, .iconst (.ofNat 0), 1), (114, .putfield 1920, 3), (117, .iload 3, 1), (118, .aload 0, 1), (119, .getfield 1920, 3), (122, .ifCond .ne (.ofNat 129), 3), (125, .iconst (.ofNat 1), 1), (126, .goto (.ofNat 130), 3), (129, .iconst (.ofNat 0), 1), (130, .iadd, 1), (131, .istore 3, 1), (132, .goto (.ofNat 35), 3), (135, .aload 0, 1), (136, .getfield 1920, 3), (139, .ifCond .ne (.ofNat 159), 3), (142, .iconst (.ofNat 2), 1), (143, .iload 3, 1), (144, .imul, 1), (145, .aload 0, 1), (146, .getfield 1917, 3), (149, .iload 1, 1), (150, .iaload, 1), (151, .if_icmp .ge (.ofNat 159), 3), (154, .aload 0, 1), (155, .iconst (.ofNat 3), 1), (156, .putfield 1920, 3), (159, .iload 3, 1), (160, .ireturn, 1)]
def E_M_failure : List En := [(0, .aload 0, 1), (1, .getfield 1920, 3), (4, .ireturn, 1)]
def E_I_bitCount : List En := [(0, .iload 0, 1), (1, .iload 0, 1), (2, .iconst (.ofNat 1), 1), (3, .iushr, 1), (4, .iconst (.ofNat 1431655765), 3), (7, .iand, 1), (8, .isub, 1), (9, .istore 0, 1), (10, .iload 0, 1), (11, .iconst (.ofNat 858993459), 3), (14, .iand, 1), (15, .iload 0, 1), (16, .iconst (.ofNat 2), 1), (17, .iushr, 1), (18, .iconst (.ofNat 858993459), 3), (21, .iand, 1), (22, .iadd, 1), (23, .istore 0, 1), (24, .iload 0, 1), (25, .iload 0, 1), (26, .iconst (.ofNat 4), 1), (27, .iushr, 1), (28, .iadd, 1), (29, .iconst (.ofNat 252645135), 3), (32, .iand, 1), (33, .istore 0, 1), (34, .iload 0, 1), (35, .iload 0, 1), (36, .iconst (.ofNat 8), 2), (38, .iushr, 1), (39, .iadd, 1), (40, .istore 0, 1), (41, .iload 0, 1), (42, .iload 0, 1), (43, .iconst (.ofNat 16), 2), (45, .iushr, 1), (46, .iadd, 1), (47, .istore 0, 1), (48, .iload 0, 1), (49, .iconst (.ofNat 63), 2), (51, .iand, 1), (52, .ireturn, 1)]
def E_L_law : List En := [(0, .new 6, 3), (3, .dup, 1), (4, .invokespecial 2362112, 3), (7, .astore 1, 1), (8, .new 7, 3), (11, .dup, 1), (12, .invokespecial 4164480, 3), (15, .astore 2, 1), (16, .iconst (.ofNat 0), 1), (17, .istore 3, 1), (18, .iload 15, 0), (18, .iload 3, 1), (19, .aload 0, 1), (20, .arraylength, 1), (21, .iconst (.ofNat 6), 2), (23, .isub, 1), (24, .if_icmp .gt (.ofNat 1784), 3), (27, .aload 0, 1), (28, .iload 3, 1), (29, .iaload, 1), (30, .iconst (.ofNat 63), 2), (32, .iand, 1), (33, .tableswitch (.ofNat 1778) (.ofNat 0) (.ofNat 43) #[(.ofNat 224), (.ofNat 257), (.ofNat 280), (.ofNat 323), (.ofNat 366), (.ofNat 399), (.ofNat 432), (.ofNat 455), (.ofNat 488), (.ofNat 521), (.ofNat 564), (.ofNat 607), (.ofNat 650), (.ofNat 673), (.ofNat 686), (.ofNat 709), (.ofNat 732), (.ofNat 785), (.ofNat 828), (.ofNat 861), (.ofNat 904), (.ofNat 937), (.ofNat 980), (.ofNat 1023), (.ofNat 1066), (.ofNat 1099), (.ofNat 1132), (.ofNat 1155), (.ofNat 1168), (.ofNat 1191), (.ofNat 1225), (.ofNat 1268), (.ofNat 1311), (.ofNat 1344), (.ofNat 1397), (.ofNat 1440), (.ofNat 1483), (.ofNat 1516), (.ofNat 1559), (.ofNat 1602), (.ofNat 1636), (.ofNat 1699), (.ofNat 1732), (.ofNat 1765)], 191), (224, .aload 1, 1), (225, .aload 0, 1), (226, .iload 3, 1), (227, .iconst (.ofNat 1), 1), (228, .iadd, 1), (229, .iaload, 1), (230, .aload 0, 1), (231, .iload 3, 1), (232, .iconst (.ofNat 2), 1), (233, .iadd, 1), (234, .iaload, 1), (235, .invokevirtual 2398993, 3), (238, .aload 2, 1), (239, .aload 0, 1), (240, .iload 3, 1), (241, .iconst (.ofNat 1), 1), (242, .iadd, 1), (243, .iaload, 1), (244, .aload 0, 1), (245, .iload 3, 1), (246, .iconst (.ofNat 2), 1), (247, .iadd, 1), (248, .iaload, 1), (249, .invokevirtual 4266897, 3), (252, .if_icmp .eq (.ofNat 1778), 3), (255, .iconst (.ofNat 0), 1), (256, .ireturn, 1), (257, .aload 1, 1), (258, .aload 0, 1), (259, .iload 3, 1), (260, .iconst (.ofNat 1), 1), (261, .iadd, 1), (262, .iaload, 1), (263, .invokevirtual 2462473, 3), (266, .aload 2, 1), (267, .aload 0, 1), (268, .iload 3, 1), (269, .iconst (.ofNat 1), 1), (270, .iadd, 1), (271, .iaload, 1), (272, .invokevirtual 4363145, 3), (275, .if_icmp .eq (.ofNat 1778), 3), (278, .iconst (.ofNat 0), 1), (279, .ireturn, 1), (280, .aload 1, 1), (281, .aload 0, 1), (282, .iload 3, 1), (283, .iconst (.ofNat 1), 1), (284, .iadd, 1), (285, .iaload, 1), (286, .aload 0, 1), (287, .iload 3, 1), (288, .iconst (.ofNat 2), 1), (289, .iadd, 1), (290, .iaload, 1), (291, .aload 0, 1), (292, .iload 3, 1), (293, .iconst (.ofNat 3), 1), (294, .iadd, 1), (295, .iaload, 1), (296, .invokevirtual 2499353, 3), (299, .aload 2, 1), (300, .aload 0, 1), (301, .iload 3, 1), (302, .iconst (.ofNat 1), 1), (303, .iadd, 1), (304, .iaload, 1), (305, .aload 0, 1), (306, .iload 3, 1), (307, .iconst (.ofNat 2), 1), (308, .iadd, 1), (309, .iaload, 1), (310, .aload 0, 1), (311, .iload 3, 1), (312, .iconst (.ofNat 3), 1), (313, .iadd, 1), (314, .iaload, 1), (315, .invokevirtual 4400025, 3), (318, .if_icmp .eq (.ofNat 1778), 3), (321, .iconst (.ofNat 0), 1), (322, .ireturn, 1), (323, .aload 1, 1), (324, .aload 0, 1), (325, .iload 3, 1), (326, .iconst (.ofNat 1), 1), (327, .iadd, 1), (328, .iaload, 1), (329, .aload 0, 1), (330, .iload 3, 1), (331, .iconst (.ofNat 2), 1), (332, .iadd, 1), (333, .iaload, 1), (334, .aload 0, 1), (335, .iload 3, 1), (336, .iconst (.ofNat 3), 1), (337, .iadd, 1), (338, .iaload, 1), (339, .invokevirtual 2532121, 3), (342, .aload 2, 1), (343, .aload 0, 1), (344, .iload 3, 1), (345, .iconst (.ofNat 1), 1), (346, .iadd, 1), (347, .iaload, 1), (348, .aload 0, 1), (349, .iload 3, 1), (350, .iconst (.ofNat 2), 1), (351, .iadd, 1), (352, .iaload, 1), (353, .aload 0, 1), (354, .iload 3, 1), (355, .iconst (.ofNat 3), 1), (356, .iadd, 1), (357, .iaload, 1), (358, .invokevirtual 4563865, 3), (361, .if_icmp .eq (.ofNat 1778), 3), (364, .iconst (.ofNat 0), 1), (365, .ireturn, 1), (366, .aload 1, 1), (367, .aload 0, 1), (368, .iload 3, 1), (369, .iconst (.ofNat 1), 1), (370, .iadd, 1), (371, .iaload, 1), (372, .aload 0, 1), (373, .iload 3, 1), (374, .iconst (.ofNat 2), 1), (375, .iadd, 1), (376, .iaload, 1), (377, .invokevirtual 2562833, 3), (380, .aload 2, 1), (381, .aload 0, 1), (382, .iload 3, 1), (383, .iconst (.ofNat 1), 1), (384, .iadd, 1), (385, .iaload, 1), (386, .aload 0, 1), (387, .iload 3, 1), (388, .iconst (.ofNat 2), 1), (389, .iadd, 1), (390, .iaload, 1), (391, .invokevirtual 4594577, 3), (394, .if_icmp .eq (.ofNat 1778), 3), (397, .iconst (.ofNat 0), 1), (398, .ireturn, 1), (399, .aload 1, 1), (400, .aload 0, 1), (401, .iload 3, 1), (402, .iconst (.ofNat 1), 1), (403, .iadd, 1), (404, .iaload, 1), (405, .aload 0, 1), (406, .iload 3, 1), (407, .iconst (.ofNat 2), 1), (408, .iadd, 1), (409, .iaload, 1), (410, .invokevirtual 2595601, 3), (413, .aload 2, 1), (414, .aload 0, 1), (415, .iload 3, 1), (416, .iconst (.ofNat 1), 1), (417, .iadd, 1), (418, .iaload, 1), (419, .aload 0, 1), (420, .iload 3, 1), (421, .iconst (.ofNat 2), 1), (422, .iadd, 1), (423, .iaload, 1), (424, .invokevirtual 4627345, 3), (427, .if_icmp .eq (.ofNat 1778), 3), (430, .iconst (.ofNat 0), 1), (431, .ireturn, 1), (432, .aload 1, 1), (433, .aload 0, 1), (434, .iload 3, 1), (435, .iconst (.ofNat 1), 1), (436, .iadd, 1), (437, .iaload, 1), (438, .invokevirtual 2626313, 3), (441, .aload 2, 1), (442, .aload 0, 1), (443, .iload 3, 1), (444, .iconst (.ofNat 1), 1), (445, .iadd, 1), (446, .iaload, 1), (447, .invokevirtual 4821897, 3), (450, .if_icmp .eq (.ofNat 1778), 3), (453, .iconst (.ofNat 0), 1), (454, .ireturn, 1), (455, .aload 1, 1), (456, .aload 0, 1), (457, .iload 3, 1), (458, .iconst (.ofNat 1), 1), (459, .iadd, 1), (460, .iaload, 1), (461, .aload 0, 1), (462, .iload 3, 1), (463, .iconst (.ofNat 2), 1), (464, .iadd, 1), (465, .iaload, 1), (466, .invokevirtual 2661137, 3), (469, .aload 2, 1), (470, .aload 0, 1), (471, .iload 3, 1), (472, .iconst (.ofNat 1), 1), (473, .iadd, 1), (474, .iaload, 1), (475, .aload 0, 1), (476, .iload 3, 1), (477, .iconst (.ofNat 2), 1), (478, .iadd, 1), (479, .iaload, 1), (480, .invokevirtual 4955025, 3), (483, .if_icmp .eq (.ofNat 1778), 3), (486, .iconst (.ofNat 0), 1), (487, .ireturn, 1), (488, .aload 1, 1), (489, .aload 0, 1), (490, .iload 3, 1), (491, .iconst (.ofNat 1), 1), (492, .iadd, 1), (493, .iaload, 1), (494, .aload 0, 1), (495, .iload 3, 1), (496, .iconst (.ofNat 2), 1), (497, .iadd, 1), (498, .iaload, 1), (499, .invokevirtual 2693905, 3), (502, .aload 2, 1), (503, .aload 0, 1), (504, .iload 3, 1), (505, .iconst (.ofNat 1), 1), (506, .iadd, 1), (507, .iaload, 1), (508, .aload 0, 1), (509, .iload 3, 1), (510, .iconst (.ofNat 2), 1), (511, .iadd, 1), (512, .iaload, 1), (513, .invokevirtual 5020561, 3), (516, .if_icmp .eq (.ofNat 1778), 3), (519, .iconst (.ofNat 0), 1), (520, .ireturn, 1), (521, .aload 1, 1), (522, .aload 0, 1), (523, .iload 3, 1), (524, .iconst (.ofNat 1), 1), (525, .iadd, 1), (526, .iaload, 1), (527, .aload 0, 1), (528, .iload 3, 1), (529, .iconst (.ofNat 2), 1), (530, .iadd, 1), (531, .iaload, 1), (532, .aload 0, 1), (533, .iload 3, 1), (534, .iconst (.ofNat 3), 1), (535, .iadd, 1), (536, .iaload, 1), (537, .invokevirtual 2728729, 3), (540, .aload 2, 1), (541, .aload 0, 1), (542, .iload 3, 1), (543, .iconst (.ofNat 1), 1), (544, .iadd, 1), (545, .iaload, 1), (546, .aload 0, 1), (547, .iload 3, 1), (548, .iconst (.ofNat 2), 1), (549, .iadd, 1), (550, .iaload, 1), (551, .aload 0, 1), (552, .iload 3, 1), (553, .iconst (.ofNat 3), 1), (554, .iadd, 1), (555, .iaload, 1), (556, .invokevirtual 5055385, 3), (559, .if_icmp .eq (.ofNat 1778), 3), (562, .iconst (.ofNat 0), 1), (563, .ireturn, 1), (564, .aload 1, 1), (565, .aload 0, 1), (566, .iload 3, 1), (567, .iconst (.ofNat 1), 1), (568, .iadd, 1), (569, .iaload, 1), (570, .aload 0, 1), (571, .iload 3, 1), (572, .iconst (.ofNat 2), 1), (573, .iadd, 1), (574, .iaload, 1), (575, .aload 0, 1), (576, .iload 3, 1), (577, .iconst (.ofNat 3), 1), (578, .iadd, 1), (579, .iaload, 1), (580, .invokevirtual 2794265, 3), (583, .aload 2, 1), (584, .aload 0, 1), (585, .iload 3, 1), (586, .iconst (.ofNat 1), 1), (587, .iadd, 1), (588, .iaload, 1), (589, .aload 0, 1), (590, .iload 3, 1), (591, .iconst (.ofNat 2), 1), (592, .iadd, 1), (593, .iaload, 1), (594, .aload 0, 1), (595, .iload 3, 1), (596, .iconst (.ofNat 3), 1), (597, .iadd, 1), (598, .iaload, 1), (599, .invokevirtual 5120921, 3), (602, .if_icmp .eq (.ofNat 1778), 3), (605, .iconst (.ofNat 0), 1), (606, .ireturn, 1), (607, .aload 1, 1), (608, .aload 0, 1), (609, .iload 3, 1), (610, .iconst (.ofNat 1), 1), (611, .iadd, 1), (612, .iaload, 1), (613, .aload 0, 1), (614, .iload 3, 1), (615, .iconst (.ofNat 2), 1), (616, .iadd, 1), (617, .iaload, 1), (618, .aload 0, 1), (619, .iload 3, 1), (620, .iconst (.ofNat 3), 1), (621, .iadd, 1), (622, .iaload, 1), (623, .invokevirtual 2827033, 3), (626, .aload 2, 1), (627, .aload 0, 1), (628, .iload 3, 1), (629, .iconst (.ofNat 1), 1), (630, .iadd, 1), (631, .iaload, 1), (632, .aload 0, 1), (633, .iload 3, 1), (634, .iconst (.ofNat 2), 1), (635, .iadd, 1), (636, .iaload, 1), (637, .aload 0, 1), (638, .iload 3, 1), (639, .iconst (.ofNat 3), 1), (640, .iadd, 1), (641, .iaload, 1), (642, .invokevirtual 5153689, 3), (645, .if_icmp .eq (.ofNat 1778), 3), (648, .iconst (.ofNat 0), 1), (649, .ireturn, 1), (650, .aload 1, 1), (651, .aload 0, 1), (652, .iload 3, 1), (653, .iconst (.ofNat 1), 1), (654, .iadd, 1), (655, .iaload, 1), (656, .invokevirtual 2855689, 3), (659, .aload 2, 1), (660, .aload 0, 1), (661, .iload 3, 1), (662, .iconst (.ofNat 1), 1), (663, .iadd, 1), (664, .iaload, 1), (665, .invokevirtual 5215113, 3), (668, .if_icmp .eq (.ofNat 1778), 3), (671, .iconst (.ofNat 0), 1), (672, .ireturn, 1), (673, .aload 1, 1), (674, .invokevirtual 2886401, 3), (677, .aload 2, 1), (678, .invokevirtual 5245825, 3), (681, .if_icmp .eq (.ofNat 1778), 3), (684, .iconst (.ofNat 0), 1), (685, .ireturn, 1), (686, .aload 1, 1), (687, .aload 0, 1), (688, .iload 3, 1), (689, .iconst (.ofNat 1), 1), (690, .iadd, 1), (691, .iaload, 1), (692, .invokevirtual 2921225, 3), (695, .aload 2, 1), (696, .aload 0, 1), (697, .iload 3, 1), (698, .iconst (.ofNat 1), 1), (699, .iadd, 1), (700, .iaload, 1), (701, .invokevirtual 5280649, 3), (704, .if_icmp .eq (.ofNat 1778), 3), (707, .iconst (.ofNat 0), 1), (708, .ireturn, 1), (709, .aload 1, 1), (710, .aload 0, 1), (711, .iload 3, 1), (712, .iconst (.ofNat 1), 1), (713, .iadd, 1), (714, .iaload, 1), (715, .invokevirtual 2986761, 3), (718, .aload 2, 1), (719, .aload 0, 1), (720, .iload 3, 1), (721, .iconst (.ofNat 1), 1), (722, .iadd, 1), (723, .iaload, 1), (724, .invokevirtual 5673865, 3), (727, .if_icmp .eq (.ofNat 1778), 3), (730, .iconst (.ofNat 0), 1), (731, .ireturn, 1), (732, .aload 1, 1), (733, .aload 0, 1), (734, .iload 3, 1), (735, .iconst (.ofNat 1), 1), (736, .iadd, 1), (737, .iaload, 1), (738, .aload 0, 1), (739, .iload 3, 1), (740, .iconst (.ofNat 2), 1), (741, .iadd, 1), (742, .iaload, 1), (743, .aload 0, 1), (744, .iload 3, 1), (745, .iconst (.ofNat 3), 1), (746, .iadd, 1), (747, .iaload, 1), (748, .aload 0, 1), (749, .iload 3, 1), (750, .iconst (.ofNat 4), 1), (751, .iadd, 1), (752, .iaload, 1), (753, .invokevirtual 3025697, 3), (756, .aload 2, 1), (757, .aload 0, 1), (758, .iload 3, 1), (759, .iconst (.ofNat 1), 1), (760, .iadd, 1), (761, .iaload, 1), (762, .aload 0, 1), (763, .iload 3, 1), (764, .iconst (.ofNat 2), 1), (765, .iadd, 1), (766, .iaload, 1), (767, .aload 0, 1), (768, .iload 3, 1), (769, .iconst (.ofNat 3), 1), (770, .iadd, 1), (771, .iaload, 1), (772, .aload 0, 1), (773, .iload 3, 1), (774, .iconst (.ofNat 4), 1), (775, .iadd, 1), (776, .iaload, 1), (777, .invokevirtual 5712801, 3), (780, .if_icmp .eq (.ofNat 1778), 3), (783, .iconst (.ofNat 0), 1), (784, .ireturn, 1), (785, .aload 1, 1), (786, .aload 0, 1), (787, .iload 3, 1), (788, .iconst (.ofNat 1), 1), (789, .iadd, 1), (790, .iaload, 1), (791, .aload 0, 1), (792, .iload 3, 1), (793, .iconst (.ofNat 2), 1), (794, .iadd, 1), (795, .iaload, 1), (796, .aload 0, 1), (797, .iload 3, 1), (798, .iconst (.ofNat 3), 1), (799, .iadd, 1), (800, .iaload, 1), (801, .invokevirtual 3121945, 3), (804, .aload 2, 1), (805, .aload 0, 1), (806, .iload 3, 1), (807, .iconst (.ofNat 1), 1), (808, .iadd, 1), (809, .iaload, 1), (810, .aload 0, 1), (811, .iload 3, 1), (812, .iconst (.ofNat 2), 1), (813, .iadd, 1), (814, .iaload, 1), (815, .aload 0, 1), (816, .iload 3, 1), (817, .iconst (.ofNat 3), 1), (818, .iadd, 1), (819, .iaload, 1), (820, .invokevirtual 5776281, 3), (823, .if_icmp .eq (.ofNat 1778), 3), (826, .iconst (.ofNat 0), 1), (827, .ireturn, 1), (828, .aload 1, 1), (829, .aload 0, 1), (830, .iload 3, 1), (831, .iconst (.ofNat 1), 1), (832, .iadd, 1), (833, .iaload, 1), (834, .aload 0, 1), (835, .iload 3, 1), (836, .iconst (.ofNat 2), 1), (837, .iadd, 1), (838, .iaload, 1), (839, .invokevirtual 3152657, 3), (842, .aload 2, 1), (843, .aload 0, 1), (844, .iload 3, 1), (845, .iconst (.ofNat 1), 1), (846, .iadd, 1), (847, .iaload, 1), (848, .aload 0, 1), (849, .iload 3, 1), (850, .iconst (.ofNat 2), 1), (851, .iadd, 1), (852, .iaload, 1), (853, .invokevirtual 5806993, 3), (856, .if_icmp .eq (.ofNat 1778), 3), (859, .iconst (.ofNat 0), 1), (860, .ireturn, 1), (861, .aload 1, 1), (862, .aload 0, 1), (863, .iload 3, 1), (864, .iconst (.ofNat 1), 1), (865, .iadd, 1), (866, .iaload, 1), (867, .aload 0, 1), (868, .iload 3, 1), (869, .iconst (.ofNat 2), 1), (870, .iadd, 1), (871, .iaload, 1), (872, .aload 0, 1), (873, .iload 3, 1), (874, .iconst (.ofNat 3), 1), (875, .iadd, 1), (876, .iaload, 1), (877, .invokevirtual 3187481, 3), (880, .aload 2, 1), (881, .aload 0, 1), (882, .iload 3, 1), (883, .iconst (.ofNat 1), 1), (884, .iadd, 1), (885, .iaload, 1), (886, .aload 0, 1), (887, .iload 3, 1), (888, .iconst (.ofNat 2), 1), (889, .iadd, 1), (890, .iaload, 1), (891, .aload 0, 1), (892, .iload 3, 1), (893, .iconst (.ofNat 3), 1), (894, .iadd, 1), (895, .iaload, 1), (896, .invokevirtual 5907353, 3), (899, .if_icmp .eq (.ofNat 1778), 3), (902, .iconst (.ofNat 0), 1), (903, .ireturn, 1), (904, .aload 1, 1), (905, .aload 0, 1), (906, .iload 3, 1), (907, .iconst (.ofNat 1), 1), (908, .iadd, 1), (909, .iaload, 1), (910, .aload 0, 1), (911, .iload 3, 1), (912, .iconst (.ofNat 2), 1), (913, .iadd, 1), (914, .iaload, 1), (915, .invokevirtual 3218193, 3), (918, .aload 2, 1), (919, .aload 0, 1), (920, .iload 3, 1), (921, .iconst (.ofNat 1), 1), (922, .iadd, 1), (923, .iaload, 1), (924, .aload 0, 1), (925, .iload 3, 1), (926, .iconst (.ofNat 2), 1), (927, .iadd, 1), (928, .iaload, 1), (929, .invokevirtual 5938065, 3), (932, .if_icmp .eq (.ofNat 1778), 3), (935, .iconst (.ofNat 0), 1), (936, .ireturn, 1), (937, .aload 1, 1), (938, .aload 0, 1), (939, .iload 3, 1), (940, .iconst (.ofNat 1), 1), (941, .iadd, 1), (942, .iaload, 1), (943, .aload 0, 1), (944, .iload 3, 1), (945, .iconst (.ofNat 2), 1), (946, .iadd, 1), (947, .iaload, 1), (948, .aload 0, 1), (949, .iload 3, 1), (950, .iconst (.ofNat 3), 1), (951, .iadd, 1), (952, .iaload, 1), (953, .invokevirtual 3285785, 3), (956, .aload 2, 1), (957, .aload 0, 1), (958, .iload 3, 1), (959, .iconst (.ofNat 1), 1), (960, .iadd, 1), (961, .iaload, 1), (962, .aload 0, 1), (963, .iload 3, 1), (964, .iconst (.ofNat 2), 1), (965, .iadd, 1), (966, .iaload, 1), (967, .aload 0, 1), (968, .iload 3, 1), (969, .iconst (.ofNat 3), 1), (970, .iadd, 1), (971, .iaload, 1), (972, .invokevirtual 6169497, 3), (975, .if_icmp .eq (.ofNat 1778), 3), (978, .iconst (.ofNat 0), 1), (979, .ireturn, 1), (980, .aload 1, 1), (981, .aload 0, 1), (982, .iload 3, 1), (983, .iconst (.ofNat 1), 1), (984, .iadd, 1), (985, .iaload, 1), (986, .aload 0, 1), (987, .iload 3, 1), (988, .iconst (.ofNat 2), 1), (989, .iadd, 1), (990, .iaload, 1), (991, .aload 0, 1), (992, .iload 3, 1), (993, .iconst (.ofNat 3), 1), (994, .iadd, 1), (995, .iaload, 1), (996, .invokevirtual 3318553, 3), (999, .aload 2, 1), (1000, .aload 0, 1), (1001, .iload 3, 1), (1002, .iconst (.ofNat 1), 1), (1003, .iadd, 1), (1004, .iaload, 1), (1005, .aload 0, 1), (1006, .iload 3, 1), (1007, .iconst (.ofNat 2), 1), (1008, .iadd, 1), (1009, .iaload, 1), (1010, .aload 0, 1), (1011, .iload 3, 1), (1012, .iconst (.ofNat 3), 1), (1013, .iadd, 1), (1014, .iaload, 1), (1015, .invokevirtual 6202265, 3), (1018, .if_icmp .eq (.ofNat 1778), 3), (1021, .iconst (.ofNat 0), 1), (1022, .ireturn, 1), (1023, .aload 1, 1), (1024, .aload 0, 1), (1025, .iload 3, 1), (1026, .iconst (.ofNat 1), 1), (1027, .iadd, 1), (1028, .iaload, 1), (1029, .aload 0, 1), (1030, .iload 3, 1), (1031, .iconst (.ofNat 2), 1), (1032, .iadd, 1), (1033, .iaload, 1), (1034, .aload 0, 1), (1035, .iload 3, 1), (1036, .iconst (.ofNat 3), 1), (1037, .iadd, 1), (1038, .iaload, 1), (1039, .invokevirtual 3351321, 3), (1042, .aload 2, 1), (1043, .aload 0, 1), (1044, .iload 3, 1), (1045, .iconst (.ofNat 1), 1), (1046, .iadd, 1), (1047, .iaload, 1), (1048, .aload 0, 1), (1049, .iload 3, 1), (1050, .iconst (.ofNat 2), 1), (1051, .iadd, 1), (1052, .iaload, 1), (1053, .aload 0, 1), (1054, .iload 3, 1), (1055, .iconst (.ofNat 3), 1), (1056, .iadd, 1), (1057, .iaload, 1), (1058, .invokevirtual 6235033, 3), (1061, .if_icmp .eq (.ofNat 1778), 3), (1064, .iconst (.ofNat 0), 1), (1065, .ireturn, 1), (1066, .aload 1, 1), (1067, .aload 0, 1), (1068, .iload 3, 1), (1069, .iconst (.ofNat 1), 1), (1070, .iadd, 1), (1071, .iaload, 1), (1072, .aload 0, 1), (1073, .iload 3, 1), (1074, .iconst (.ofNat 2), 1), (1075, .iadd, 1), (1076, .iaload, 1), (1077, .invokevirtual 3382033, 3), (1080, .aload 2, 1), (1081, .aload 0, 1), (1082, .iload 3, 1), (1083, .iconst (.ofNat 1), 1), (1084, .iadd, 1), (1085, .iaload, 1), (1086, .aload 0, 1), (1087, .iload 3, 1), (1088, .iconst (.ofNat 2), 1), (1089, .iadd, 1), (1090, .iaload, 1), (1091, .invokevirtual 6265745, 3), (1094, .if_icmp .eq (.ofNat 1778), 3), (1097, .iconst (.ofNat 0), 1), (1098, .ireturn, 1), (1099, .aload 1, 1), (1100, .aload 0, 1), (1101, .iload 3, 1), (1102, .iconst (.ofNat 1), 1), (1103, .iadd, 1), (1104, .iaload, 1), (1105, .aload 0, 1), (1106, .iload 3, 1), (1107, .iconst (.ofNat 2), 1), (1108, .iadd, 1), (1109, .iaload, 1), (1110, .invokevirtual 3414801, 3), (1113, .aload 2, 1), (1114, .aload 0, 1), (1115, .iload 3, 1), (1116, .iconst (.ofNat 1), 1), (1117, .iadd, 1), (1118, .iaload, 1), (1119, .aload 0, 1), (1120, .iload 3, 1), (1121, .iconst (.ofNat 2), 1), (1122, .iadd, 1), (1123, .iaload, 1), (1124, .invokevirtual 6298513, 3), (1127, .if_icmp .eq (.ofNat 1778), 3), (1130, .iconst (.ofNat 0), 1), (1131, .ireturn, 1), (1132, .aload 1, 1), (1133, .aload 0, 1), (1134, .iload 3, 1), (1135, .iconst (.ofNat 1), 1), (1136, .iadd, 1), (1137, .iaload, 1), (1138, .invokevirtual 3445513, 3), (1141, .aload 2, 1), (1142, .aload 0, 1), (1143, .iload 3, 1), (1144, .iconst (.ofNat 1), 1), (1145, .iadd, 1), (1146, .iaload, 1), (1147, .invokevirtual 6329225, 3), (1150, .if_icmp .eq (.ofNat 1778), 3), (1153, .iconst (.ofNat 0), 1), (1154, .ireturn, 1), (1155, .aload 1, 1), (1156, .invokevirtual 3476225, 3), (1159, .aload 2, 1), (1160, .invokevirtual 6359937, 3), (1163, .if_icmp .eq (.ofNat 1778), 3), (1166, .iconst (.ofNat 0), 1), (1167, .ireturn, 1), (1168, .aload 1, 1), (1169, .aload 0, 1), (1170, .iload 3, 1), (1171, .iconst (.ofNat 1), 1), (1172, .iadd, 1), (1173, .iaload, 1), (1174, .invokevirtual 3511049, 3), (1177, .aload 2, 1), (1178, .aload 0, 1), (1179, .iload 3, 1), (1180, .iconst (.ofNat 1), 1), (1181, .iadd, 1), (1182, .iaload, 1), (1183, .invokevirtual 6394761, 3), (1186, .if_icmp .eq (.ofNat 1778), 3), (1189, .iconst (.ofNat 0), 1), (1190, .ireturn, 1), (1191, .aload 1, 1), (1192, .aload 0, 1), (1193, .iload 3, 1), (1194, .iconst (.ofNat 1), 1), (1195, .iadd, 1), (1196, .iaload, 1), (1197, .aload 0, 1), (1198, .iload 3, 1), (1199, .iconst (.ofNat 2), 1), (1200, .iadd, 1), (1201, .iaload, 1), (1202, .invokevirtual 3545874, 3), (1205, .aload 2, 1), (1206, .aload 0, 1), (1207, .iload 3, 1), (1208, .iconst (.ofNat 1), 1), (1209, .iadd, 1), (1210, .iaload, 1), (1211, .aload 0, 1), (1212, .iload 3, 1), (1213, .iconst (.ofNat 2), 1), (1214, .iadd, 1), (1215, .iaload, 1), (1216, .invokevirtual 6527890, 3), (1219, .lcmp, 1), (1220, .ifCond .eq (.ofNat 1778), 3), (1223, .iconst (.ofNat 0), 1), (1224, .ireturn, 1), (1225, .aload 1, 1), (1226, .aload 0, 1), (1227, .iload 3, 1), (1228, .iconst (.ofNat 1), 1), (1229, .iadd, 1), (1230, .iaload, 1), (1231, .aload 0, 1), (1232, .iload 3, 1), (1233, .iconst (.ofNat 2), 1), (1234, .iadd, 1), (1235, .iaload, 1), (1236, .aload 0, 1), (1237, .iload 3, 1), (1238, .iconst (.ofNat 3), 1), (1239, .iadd, 1), (1240, .iaload, 1), (1241, .invokevirtual 3580697, 3), (1244, .aload 2, 1), (1245, .aload 0, 1), (1246, .iload 3, 1), (1247, .iconst (.ofNat 1), 1), (1248, .iadd, 1), (1249, .iaload, 1), (1250, .aload 0, 1), (1251, .iload 3, 1), (1252, .iconst (.ofNat 2), 1), (1253, .iadd, 1), (1254, .iaload, 1), (1255, .aload 0, 1), (1256, .iload 3, 1), (1257, .iconst (.ofNat 3), 1), (1258, .iadd, 1), (1259, .iaload, 1), (1260, .invokevirtual 6562713, 3), (1263, .if_icmp .eq (.ofNat 1778), 3), (1266, .iconst (.ofNat 0), 1), (1267, .ireturn, 1), (1268, .aload 1, 1), (1269, .aload 0, 1), (1270, .iload 3, 1), (1271, .iconst (.ofNat 1), 1), (1272, .iadd, 1), (1273, .iaload, 1), (1274, .aload 0, 1), (1275, .iload 3, 1), (1276, .iconst (.ofNat 2), 1), (1277, .iadd, 1), (1278, .iaload, 1), (1279, .aload 0, 1), (1280, .iload 3, 1), (1281, .iconst (.ofNat 3), 1), (1282, .iadd, 1), (1283, .iaload, 1), (1284, .invokevirtual 3646233, 3), (1287, .aload 2, 1), (1288, .aload 0, 1), (1289, .iload 3, 1), (1290, .iconst (.ofNat 1), 1), (1291, .iadd, 1), (1292, .iaload, 1), (1293, .aload 0, 1), (1294, .iload 3, 1), (1295, .iconst (.ofNat 2), 1), (1296, .iadd, 1), (1297, .iaload, 1), (1298, .aload 0, 1), (1299, .iload 3, 1), (1300, .iconst (.ofNat 3), 1), (1301, .iadd, 1), (1302, .iaload, 1), (1303, .invokevirtual 6792089, 3), (1306, .if_icmp .eq (.ofNat 1778), 3), (1309, .iconst (.ofNat 0), 1), (1310, .ireturn, 1), (1311, .aload 1, 1), (1312, .aload 0, 1), (1313, .iload 3, 1), (1314, .iconst (.ofNat 1), 1), (1315, .iadd, 1), (1316, .iaload, 1), (1317, .aload 0, 1), (1318, .iload 3, 1), (1319, .iconst (.ofNat 2), 1), (1320, .iadd, 1), (1321, .iaload, 1), (1322, .invokevirtual 3676945, 3), (1325, .aload 2, 1), (1326, .aload 0, 1), (1327, .iload 3, 1), (1328, .iconst (.ofNat 1), 1), (1329, .iadd, 1), (1330, .iaload, 1), (1331, .aload 0, 1), (1332, .iload 3, 1), (1333, .iconst (.ofNat 2), 1), (1334, .iadd, 1), (1335, .iaload, 1), (1336, .invokevirtual 6822801, 3), (1339, .if_icmp .eq (.ofNat 1778), 3), (1342, .iconst (.ofNat 0), 1), (1343, .ireturn, 1), (1344, .aload 1, 1), (1345, .aload 0, 1), (1346, .iload 3, 1), (1347, .iconst (.ofNat 1), 1), (1348, .iadd, 1), (1349, .iaload, 1), (1350, .aload 0, 1), (1351, .iload 3, 1), (1352, .iconst (.ofNat 2), 1), (1353, .iadd, 1), (1354, .iaload, 1), (1355, .aload 0, 1), (1356, .iload 3, 1), (1357, .iconst (.ofNat 3), 1), (1358, .iadd, 1), (1359, .iaload, 1), (1360, .aload 0, 1), (1361, .iload 3, 1), (1362, .iconst (.ofNat 4), 1), (1363, .iadd, 1), (1364, .iaload, 1), (1365, .invokevirtual 3713825, 3), (1368, .aload 2, 1), (1369, .aload 0, 1), (1370, .iload 3, 1), (1371, .iconst (.ofNat 1), 1), (1372, .iadd, 1), (1373, .iaload, 1), (1374, .aload 0, 1), (1375, .iload 3, 1), (1376, .iconst (.ofNat 2), 1), (1377, .iadd, 1), (1378, .iaload, 1), (1379, .aload 0, 1), (1380, .iload 3, 1), (1381, .iconst (.ofNat 3), 1), (1382, .iadd, 1), (1383, .iaload, 1), (1384, .aload 0, 1), (1385, .iload 3, 1), (1386, .iconst (.ofNat 4), 1), (1387, .iadd, 1), (1388, .iaload, 1), (1389, .invokevirtual 6859681, 3), (1392, .if_icmp .eq (.ofNat 1778), 3), (1395, .iconst (.ofNat 0), 1), (1396, .ireturn, 1), (1397, .aload 1, 1), (1398, .aload 0, 1), (1399, .iload 3, 1), (1400, .iconst (.ofNat 1), 1), (1401, .iadd, 1), (1402, .iaload, 1), (1403, .aload 0, 1), (1404, .iload 3, 1), (1405, .iconst (.ofNat 2), 1), (1406, .iadd, 1), (1407, .iaload, 1), (1408, .aload 0, 1), (1409, .iload 3, 1), (1410, .iconst (.ofNat 3), 1), (1411, .iadd, 1), (1412, .iaload, 1), (1413, .invokevirtual 3744537, 3), (1416, .aload 2, 1), (1417, .aload 0, 1), (1418, .iload 3, 1), (1419, .iconst (.ofNat 1), 1), (1420, .iadd, 1), (1421, .iaload, 1), (1422, .aload 0, 1), (1423, .iload 3, 1), (1424, .iconst (.ofNat 2), 1), (1425, .iadd, 1), (1426, .iaload, 1), (1427, .aload 0, 1), (1428, .iload 3, 1), (1429, .iconst (.ofNat 3), 1), (1430, .iadd, 1), (1431, .iaload, 1), (1432, .invokevirtual 6923161, 3), (1435, .if_icmp .eq (.ofNat 1778), 3), (1438, .iconst (.ofNat 0), 1), (1439, .ireturn, 1), (1440, .aload 1, 1), (1441, .aload 0, 1), (1442, .iload 3, 1), (1443, .iconst (.ofNat 1), 1), (1444, .iadd, 1), (1445, .iaload, 1), (1446, .aload 0, 1), (1447, .iload 3, 1), (1448, .iconst (.ofNat 2), 1), (1449, .iadd, 1), (1450, .iaload, 1), (1451, .aload 0, 1), (1452, .iload 3, 1), (1453, .iconst (.ofNat 3), 1), (1454, .iadd, 1), (1455, .iaload, 1), (1456, .invokevirtual 3810073, 3), (1459, .aload 2, 1), (1460, .aload 0, 1), (1461, .iload 3, 1), (1462, .iconst (.ofNat 1), 1), (1463, .iadd, 1), (1464, .iaload, 1), (1465, .aload 0, 1), (1466, .iload 3, 1), (1467, .iconst (.ofNat 2), 1), (1468, .iadd, 1), (1469, .iaload, 1), (1470, .aload 0, 1), (1471, .iload 3, 1), (1472, .iconst (.ofNat 3), 1), (1473, .iadd, 1), (1474, .iaload, 1), (1475, .invokevirtual 6955929, 3), (1478, .if_icmp .eq (.ofNat 1778), 3), (1481, .iconst (.ofNat 0), 1), (1482, .ireturn, 1), (1483, .aload 1, 1), (1484, .aload 0, 1), (1485, .iload 3, 1), (1486, .iconst (.ofNat 1), 1), (1487, .iadd, 1), (1488, .iaload, 1), (1489, .aload 0, 1), (1490, .iload 3, 1), (1491, .iconst (.ofNat 2), 1), (1492, .iadd, 1), (1493, .iaload, 1), (1494, .invokevirtual 3873553, 3), (1497, .aload 2, 1), (1498, .aload 0, 1), (1499, .iload 3, 1), (1500, .iconst (.ofNat 1), 1), (1501, .iadd, 1), (1502, .iaload, 1), (1503, .aload 0, 1), (1504, .iload 3, 1), (1505, .iconst (.ofNat 2), 1), (1506, .iadd, 1), (1507, .iaload, 1), (1508, .invokevirtual 6986641, 3), (1511, .if_icmp .eq (.ofNat 1778), 3), (1514, .iconst (.ofNat 0), 1), (1515, .ireturn, 1), (1516, .aload 1, 1), (1517, .aload 0, 1), (1518, .iload 3, 1), (1519, .iconst (.ofNat 1), 1), (1520, .iadd, 1), (1521, .iaload, 1), (1522, .aload 0, 1), (1523, .iload 3, 1), (1524, .iconst (.ofNat 2), 1), (1525, .iadd, 1), (1526, .iaload, 1), (1527, .aload 0, 1), (1528, .iload 3, 1), (1529, .iconst (.ofNat 3), 1), (1530, .iadd, 1), (1531, .iaload, 1), (1532, .invokevirtual 3908377, 3), (1535, .aload 2, 1), (1536, .aload 0, 1), (1537, .iload 3, 1), (1538, .iconst (.ofNat 1), 1), (1539, .iadd, 1), (1540, .iaload, 1), (1541, .aload 0, 1), (1542, .iload 3, 1), (1543, .iconst (.ofNat 2), 1), (1544, .iadd, 1), (1545, .iaload, 1), (1546, .aload 0, 1), (1547, .iload 3, 1), (1548, .iconst (.ofNat 3), 1), (1549, .iadd, 1), (1550, .iaload, 1), (1551, .invokevirtual 7021465, 3), (1554, .if_icmp .eq (.ofNat 1778), 3), (1557, .iconst (.ofNat 0), 1), (1558, .ireturn, 1), (1559, .aload 1, 1), (1560, .aload 0, 1), (1561, .iload 3, 1), (1562, .iconst (.ofNat 1), 1), (1563, .iadd, 1), (1564, .iaload, 1), (1565, .aload 0, 1), (1566, .iload 3, 1), (1567, .iconst (.ofNat 2), 1), (1568, .iadd, 1), (1569, .iaload, 1), (1570, .aload 0, 1), (1571, .iload 3, 1), (1572, .iconst (.ofNat 3), 1), (1573, .iadd, 1), (1574, .iaload, 1), (1575, .invokevirtual 3973913, 3), (1578, .aload 2, 1), (1579, .aload 0, 1), (1580, .iload 3, 1), (1581, .iconst (.ofNat 1), 1), (1582, .iadd, 1), (1583, .iaload, 1), (1584, .aload 0, 1), (1585, .iload 3, 1), (1586, .iconst (.ofNat 2), 1), (1587, .iadd, 1), (1588, .iaload, 1), (1589, .aload 0, 1), (1590, .iload 3, 1), (1591, .iconst (.ofNat 3), 1), (1592, .iadd, 1), (1593, .iaload, 1), (1594, .invokevirtual 7087001, 3), (1597, .if_icmp .eq (.ofNat 1778), 3), (1600, .iconst (.ofNat 0), 1), (1601, .ireturn, 1), (1602, .aload 1, 1), (1603, .aload 0, 1), (1604, .iload 3, 1), (1605, .iconst (.ofNat 1), 1), (1606, .iadd, 1), (1607, .iaload, 1), (1608, .aload 0, 1), (1609, .iload 3, 1), (1610, .iconst (.ofNat 2), 1), (1611, .iadd, 1), (1612, .iaload, 1), (1613, .invokevirtual 4004626, 3), (1616, .aload 2, 1), (1617, .aload 0, 1), (1618, .iload 3, 1), (1619, .iconst (.ofNat 1), 1), (1620, .iadd, 1), (1621, .iaload, 1), (1622, .aload 0, 1), (1623, .iload 3, 1), (1624, .iconst (.ofNat 2), 1), (1625, .iadd, 1), (1626, .iaload, 1), (1627, .invokevirtual 7150482, 3), (1630, .lcmp, 1), (1631, .ifCond .eq (.ofNat 1778), 3), (1634, .iconst (.ofNat 0), 1), (1635, .ireturn, 1), (1636, .aload 1, 1), (1637, .aload 0, 1), (1638, .iload 3, 1), (1639, .iconst (.ofNat 1), 1), (1640, .iadd, 1), (1641, .iaload, 1), (1642, .aload 0, 1), (1643, .iload 3, 1), (1644, .iconst (.ofNat 2), 1), (1645, .iadd, 1), (1646, .iaload, 1), (1647, .aload 0, 1), (1648, .iload 3, 1), (1649, .iconst (.ofNat 3), 1), (1650, .iadd, 1), (1651, .iaload, 1), (1652, .aload 0, 1), (1653, .iload 3, 1), (1654, .iconst (.ofNat 4), 1), (1655, .iadd, 1), (1656, .iaload, 1), (1657, .aload 0, 1), (1658, .iload 3, 1), (1659, .iconst (.ofNat 5), 1), (1660, .iadd, 1), (1661, .iaload, 1), (1662, .invokevirtual 4043561, 3), (1665, .aload 2, 1), (1666, .aload 0, 1), (1667, .iload 3, 1), (1668, .iconst (.ofNat 1), 1), (1669, .iadd, 1), (1670, .iaload, 1), (1671, .aload 0, 1), (1672, .iload 3, 1), (1673, .iconst (.ofNat 2), 1), (1674, .iadd, 1), (1675, .iaload, 1), (1676, .aload 0, 1), (1677, .iload 3, 1), (1678, .iconst (.ofNat 3), 1), (1679, .iadd, 1), (1680, .iaload, 1), (1681, .aload 0, 1), (1682, .iload 3, 1), (1683, .iconst (.ofNat 4), 1), (1684, .iadd, 1), (1685, .iaload, 1), (1686, .aload 0, 1), (1687, .iload 3, 1), (1688, .iconst (.ofNat 5), 1), (1689, .iadd, 1), (1690, .iaload, 1), (1691, .invokevirtual 7189417, 3), (1694, .if_icmp .eq (.ofNat 1778), 3), (1697, .iconst (.ofNat 0), 1), (1698, .ireturn, 1), (1699, .aload 1, 1), (1700, .aload 0, 1), (1701, .iload 3, 1), (1702, .iconst (.ofNat 1), 1), (1703, .iadd, 1), (1704, .iaload, 1), (1705, .aload 0, 1), (1706, .iload 3, 1), (1707, .iconst (.ofNat 2), 1), (1708, .iadd, 1), (1709, .iaload, 1), (1710, .invokevirtual 4070161, 3), (1713, .aload 2, 1), (1714, .aload 0, 1), (1715, .iload 3, 1), (1716, .iconst (.ofNat 1), 1), (1717, .iadd, 1), (1718, .iaload, 1), (1719, .aload 0, 1), (1720, .iload 3, 1), (1721, .iconst (.ofNat 2), 1), (1722, .iadd, 1), (1723, .iaload, 1), (1724, .invokevirtual 7216017, 3), (1727, .if_icmp .eq (.ofNat 1778), 3), (1730, .iconst (.ofNat 0), 1), (1731, .ireturn, 1), (1732, .aload 1, 1), (1733, .aload 0, 1), (1734, .iload 3, 1), (1735, .iconst (.ofNat 1), 1), (1736, .iadd, 1), (1737, .iaload, 1), (1738, .aload 0, 1), (1739, .iload 3, 1), (1740, .iconst (.ofNat 2), 1), (1741, .iadd, 1), (1742, .iaload, 1), (1743, .invokevirtual 4102929, 3), (1746, .aload 2, 1), (1747, .aload 0, 1), (1748, .iload 3, 1), (1749, .iconst (.ofNat 1), 1), (1750, .iadd, 1), (1751, .iaload, 1), (1752, .aload 0, 1), (1753, .iload 3, 1), (1754, .iconst (.ofNat 2), 1), (1755, .iadd, 1), (1756, .iaload, 1), (1757, .invokevirtual 7248785, 3), (1760, .if_icmp .eq (.ofNat 1778), 3), (1763, .iconst (.ofNat 0), 1), (1764, .ireturn, 1), (1765, .aload 1, 1), (1766, .invokevirtual 4131585, 3), (1769, .aload 2, 1), (1770, .invokevirtual 7277441, 3), (1773, .if_icmp .eq (.ofNat 1778), 3), (1776, .iconst (.ofNat 0), 1), (1777, .ireturn, 1), (1778, .iinc 3 (.ofNat 6), 3), (1781, .goto (.ofNat 18), 3), (1784, .iconst (.ofNat 1), 1), (1785, .ireturn, 1)]
abbrev Mt : Type := MethodName × ByteArray × Nat × Option FieldType × Nat × List En
def Ms : List Mt := [
  (⟨"ImplicationAlgebras$Formula", "<init>", "()V"⟩, prog_2_method_1_code, 1, none, 0, E_F_init),
  (⟨"ImplicationAlgebras$Formula", "replaceSigns", "(I[I)V"⟩, prog_2_method_3_code, 4, none, 0, E_F_replaceSigns),
  (⟨"ImplicationAlgebras$Formula", "isMissing", "()Z"⟩, prog_2_method_2_code, 1, some .boolean, 0, E_F_isMissing),
  (⟨"ImplicationAlgebras$Formula", "occurrences", "(I)I"⟩, prog_2_method_4_code, 4, some .int, 0, E_F_occurrences),
  (⟨"ImplicationAlgebras$Formula", "currentBits", "(LImplicationAlgebras$Poset;)I"⟩, prog_2_method_7_code, 3, some .int, 0, E_F_currentBits),
  (⟨"ImplicationAlgebras$Formula", "bitsOfValue", "(LImplicationAlgebras$Poset;)I"⟩, prog_2_method_11_code, 5, some .int, 0, E_F_bitsOfValue),
  (⟨"ImplicationAlgebras$Formula", "joined", "(LImplicationAlgebras$Poset;III)I"⟩, prog_2_method_12_code, 4, some .int, 0, E_F_joined),
  (⟨"ImplicationAlgebras$Formula", "valuations", "(LImplicationAlgebras$Poset;)I"⟩, prog_2_method_6_code, 4, some .int, 0, E_F_valuations),
  (⟨"ImplicationAlgebras$Formula", "choices", "(LImplicationAlgebras$Poset;I)I"⟩, prog_2_method_5_code, 3, some .int, 0, E_F_choices),
  (⟨"ImplicationAlgebras$Formula", "firstRefutation", "(LImplicationAlgebras$Poset;)I"⟩, prog_2_method_8_code, 9, some .int, 0, E_F_firstRefutation),
  (⟨"ImplicationAlgebras$Formula", "unpack", "(II)I"⟩, prog_2_method_9_code, 4, some .int, 0, E_F_unpack),
  (⟨"ImplicationAlgebras$Formula", "valuationsWith", "(LImplicationAlgebras$Poset;I)I"⟩, prog_2_method_10_code, 10, some .int, 0, E_F_valuationsWith),
  (⟨"ImplicationAlgebras$MapSearch", "<init>", "(LImplicationAlgebras$Poset;LImplicationAlgebras$Poset;IZ)V"⟩, prog_3_method_1_code, 5, none, 1, E_S_init),
  (⟨"ImplicationAlgebras$MapSearch", "countIfAccepted", "()V"⟩, prog_3_method_4_code, 2, none, 1, E_S_countIfAccepted),
  (⟨"ImplicationAlgebras$MapSearch", "isBounded", "()Z"⟩, prog_3_method_5_code, 2, some .boolean, 1, E_S_isBounded),
  (⟨"ImplicationAlgebras$MapSearch", "imagesOf", "(I)I"⟩, prog_3_method_6_code, 4, some .int, 1, E_S_imagesOf),
  (⟨"ImplicationAlgebras$MapSearch", "fitsEarlier", "(I)Z"⟩, prog_3_method_2_code, 3, some .boolean, 1, E_S_fitsEarlier),
  (⟨"ImplicationAlgebras$MapSearch", "fitsOneWay", "(II)Z"⟩, prog_3_method_3_code, 5, some .boolean, 1, E_S_fitsOneWay),
  (⟨"ImplicationAlgebras$MapSearch", "digits", "()I"⟩, prog_3_method_7_code, 3, some .int, 1, E_S_digits),
  (⟨"ImplicationAlgebras$Poset", "<init>", "()V"⟩, prog_4_method_1_code, 1, none, 2, E_P_init),
  (⟨"ImplicationAlgebras$Poset", "refresh", "()V"⟩, prog_4_method_8_code, 2, none, 2, E_P_refresh),
  (⟨"ImplicationAlgebras$Poset", "findDownSets", "()V"⟩, prog_4_method_9_code, 5, none, 2, E_P_findDownSets),
  (⟨"ImplicationAlgebras$Poset", "pointsBelow", "(I)I"⟩, prog_4_method_10_code, 4, some .int, 2, E_P_pointsBelow),
  (⟨"ImplicationAlgebras$Poset", "below", "(II)Z"⟩, prog_4_method_5_code, 3, some .boolean, 2, E_P_below),
  (⟨"ImplicationAlgebras$Poset", "findElements", "()V"⟩, prog_4_method_11_code, 3, none, 2, E_P_findElements),
  (⟨"ImplicationAlgebras$Poset", "allPoints", "()I"⟩, prog_4_method_2_code, 1, some .int, 2, E_P_allPoints),
  (⟨"ImplicationAlgebras$Poset", "numberSet", "(I)V"⟩, prog_4_method_12_code, 3, none, 2, E_P_numberSet),
  (⟨"ImplicationAlgebras$Poset", "replaceOrder", "(I[I)V"⟩, prog_4_method_6_code, 4, none, 2, E_P_replaceOrder),
  (⟨"ImplicationAlgebras$Poset", "extendOrder", "(II)I"⟩, prog_4_method_7_code, 4, some .int, 2, E_P_extendOrder),
  (⟨"ImplicationAlgebras$Poset", "hasPoint", "(I)Z"⟩, prog_4_method_3_code, 2, some .boolean, 2, E_P_hasPoint),
  (⟨"ImplicationAlgebras$Poset", "properPairs", "()I"⟩, prog_4_method_26_code, 3, some .int, 2, E_P_properPairs),
  (⟨"ImplicationAlgebras$Poset", "greaterPoints", "(I)I"⟩, prog_4_method_16_code, 2, some .int, 2, E_P_greaterPoints),
  (⟨"ImplicationAlgebras$Poset", "coversOf", "(I)I"⟩, prog_4_method_15_code, 5, some .int, 2, E_P_coversOf),
  (⟨"ImplicationAlgebras$Poset", "largestChain", "()I"⟩, prog_4_method_18_code, 3, some .int, 2, E_P_largestChain),
  (⟨"ImplicationAlgebras$Poset", "isChain", "(I)Z"⟩, prog_4_method_19_code, 3, some .boolean, 2, E_P_isChain),
  (⟨"ImplicationAlgebras$Poset", "relatedPoints", "(I)I"⟩, prog_4_method_17_code, 2, some .int, 2, E_P_relatedPoints),
  (⟨"ImplicationAlgebras$Poset", "largestAntichain", "()I"⟩, prog_4_method_20_code, 3, some .int, 2, E_P_largestAntichain),
  (⟨"ImplicationAlgebras$Poset", "isAntichain", "(I)Z"⟩, prog_4_method_21_code, 3, some .boolean, 2, E_P_isAntichain),
  (⟨"ImplicationAlgebras$Poset", "minimalPoints", "()I"⟩, prog_4_method_22_code, 3, some .int, 2, E_P_minimalPoints),
  (⟨"ImplicationAlgebras$Poset", "maximalPoints", "()I"⟩, prog_4_method_23_code, 3, some .int, 2, E_P_maximalPoints),
  (⟨"ImplicationAlgebras$Poset", "components", "()I"⟩, prog_4_method_24_code, 4, some .int, 2, E_P_components),
  (⟨"ImplicationAlgebras$Poset", "componentOf", "(I)I"⟩, prog_4_method_25_code, 6, some .int, 2, E_P_componentOf),
  (⟨"ImplicationAlgebras$Poset", "hasElement", "(I)Z"⟩, prog_4_method_4_code, 2, some .boolean, 2, E_P_hasElement),
  (⟨"ImplicationAlgebras$Poset", "resultOf", "(III)I"⟩, prog_4_method_14_code, 6, some .int, 2, E_P_resultOf),
  (⟨"ImplicationAlgebras$Poset", "implication", "(II)I"⟩, prog_4_method_13_code, 4, some .int, 2, E_P_implication),
  (⟨"ImplicationAlgebras$Poset", "elementsWithin", "(I)I"⟩, prog_4_method_27_code, 4, some .int, 2, E_P_elementsWithin),
  (⟨"ImplicationAlgebras$Poset", "hasLeastPoint", "(I)Z"⟩, prog_4_method_28_code, 3, some .boolean, 2, E_P_hasLeastPoint),
  (⟨"ImplicationAlgebras$Row", "<init>", "()V"⟩, prog_5_method_1_code, 1, none, 3, E_R_init),
  (⟨"ImplicationAlgebras$Row", "replaceRow", "(II)V"⟩, prog_5_method_5_code, 4, none, 3, E_R_replaceRow),
  (⟨"ImplicationAlgebras$Row", "isMissing", "()Z"⟩, prog_5_method_2_code, 1, some .boolean, 3, E_R_isMissing),
  (⟨"ImplicationAlgebras$Row", "hasIndex", "(I)Z"⟩, prog_5_method_3_code, 2, some .boolean, 3, E_R_hasIndex),
  (⟨"ImplicationAlgebras$Row", "narrowed", "(I)I"⟩, prog_5_method_6_code, 2, some .int, 3, E_R_narrowed),
  (⟨"ImplicationAlgebras$Row", "hasRange", "(II)Z"⟩, prog_5_method_4_code, 3, some .boolean, 3, E_R_hasRange),
  (⟨"ImplicationAlgebras$Subalgebra", "<init>", "()V"⟩, prog_6_method_1_code, 1, none, 4, E_A_init),
  (⟨"ImplicationAlgebras$Subalgebra", "start", "(LImplicationAlgebras$Poset;)V"⟩, prog_6_method_2_code, 3, none, 4, E_A_start),
  (⟨"ImplicationAlgebras$Subalgebra", "findCosts", "(LImplicationAlgebras$Poset;)V"⟩, prog_6_method_3_code, 5, none, 4, E_A_findCosts),
  (⟨"ImplicationAlgebras$Subalgebra", "cheapestLeft", "()I"⟩, prog_6_method_4_code, 3, some .int, 4, E_A_cheapestLeft),
  (⟨"ImplicationAlgebras$Subalgebra", "offerAll", "(LImplicationAlgebras$Poset;II)V"⟩, prog_6_method_5_code, 6, none, 4, E_A_offerAll),
  (⟨"ImplicationAlgebras$Subalgebra", "offer", "(IJ)V"⟩, prog_6_method_6_code, 4, none, 4, E_A_offer),
  (⟨"ImplicationAlgebras$Subalgebra", "findSteps", "(LImplicationAlgebras$Poset;)V"⟩, prog_6_method_7_code, 5, none, 4, E_A_findSteps),
  (⟨"ImplicationAlgebras$Subalgebra", "noteStep", "(IIII)V"⟩, prog_6_method_8_code, 6, none, 4, E_A_noteStep),
  (⟨"ImplicationAlgebras$Text", "<init>", "()V"⟩, prog_7_method_1_code, 1, none, 5, E_T_init),
  (⟨"ImplicationAlgebras$Text", "readFormula", "()I"⟩, prog_7_method_2_code, 3, some .int, 5, E_T_readFormula),
  (⟨"ImplicationAlgebras$Text", "takeInFactor", "(I)Z"⟩, prog_7_method_3_code, 3, some .boolean, 5, E_T_takeInFactor),
  (⟨"ImplicationAlgebras$Text", "leafOf", "(I)I"⟩, prog_7_method_10_code, 1, some .int, 5, E_T_leafOf),
  (⟨"ImplicationAlgebras$Text", "emit", "(I)V"⟩, prog_7_method_8_code, 2, none, 5, E_T_emit),
  (⟨"ImplicationAlgebras$Text", "endFactor", "()V"⟩, prog_7_method_6_code, 1, none, 5, E_T_endFactor),
  (⟨"ImplicationAlgebras$Text", "hold", "(I)V"⟩, prog_7_method_9_code, 2, none, 5, E_T_hold),
  (⟨"ImplicationAlgebras$Text", "takeBehindFactor", "(I)Z"⟩, prog_7_method_4_code, 3, some .boolean, 5, E_T_takeBehindFactor),
  (⟨"ImplicationAlgebras$Text", "closeParenthesis", "()Z"⟩, prog_7_method_5_code, 1, some .boolean, 5, E_T_closeParenthesis),
  (⟨"ImplicationAlgebras$Text", "releaseAbove", "(I)V"⟩, prog_7_method_7_code, 2, none, 5, E_T_releaseAbove),
  (⟨"ImplicationAlgebras$Text", "operatorOf", "(I)I"⟩, prog_7_method_11_code, 1, some .int, 5, E_T_operatorOf),
  (⟨"ImplicationAlgebras", "<init>", "()V"⟩, prog_1_method_1_code, 2, none, 6, E_C_init),
  (⟨"ImplicationAlgebras", "reset", "(II)I"⟩, prog_1_method_2_code, 6, some .int, 6, E_C_reset),
  (⟨"ImplicationAlgebras", "posetAt", "(I)LImplicationAlgebras$Poset;"⟩, prog_1_method_46_code, 2, some (.object "ImplicationAlgebras$Poset"), 6, E_C_posetAt),
  (⟨"ImplicationAlgebras", "points", "(I)I"⟩, prog_1_method_3_code, 3, some .int, 6, E_C_points),
  (⟨"ImplicationAlgebras", "relate", "(III)I"⟩, prog_1_method_4_code, 5, some .int, 6, E_C_relate),
  (⟨"ImplicationAlgebras", "isBelow", "(III)I"⟩, prog_1_method_5_code, 5, some .int, 6, E_C_isBelow),
  (⟨"ImplicationAlgebras", "covers", "(II)I"⟩, prog_1_method_6_code, 4, some .int, 6, E_C_covers),
  (⟨"ImplicationAlgebras", "property", "(II)I"⟩, prog_1_method_7_code, 4, some .int, 6, E_C_property),
  (⟨"ImplicationAlgebras", "elementCount", "(I)I"⟩, prog_1_method_8_code, 3, some .int, 6, E_C_elementCount),
  (⟨"ImplicationAlgebras", "elementBits", "(II)I"⟩, prog_1_method_9_code, 4, some .int, 6, E_C_elementBits),
  (⟨"ImplicationAlgebras", "elementOf", "(II)I"⟩, prog_1_method_10_code, 4, some .int, 6, E_C_elementOf),
  (⟨"ImplicationAlgebras", "meet", "(III)I"⟩, prog_1_method_11_code, 4, some .int, 6, E_C_meet),
  (⟨"ImplicationAlgebras", "combine", "(IIII)I"⟩, prog_1_method_50_code, 6, some .int, 6, E_C_combine),
  (⟨"ImplicationAlgebras", "join", "(III)I"⟩, prog_1_method_12_code, 4, some .int, 6, E_C_join),
  (⟨"ImplicationAlgebras", "implies", "(III)I"⟩, prog_1_method_13_code, 4, some .int, 6, E_C_implies),
  (⟨"ImplicationAlgebras", "append", "(I)I"⟩, prog_1_method_14_code, 2, some .int, 6, E_C_append),
  (⟨"ImplicationAlgebras", "clearText", "()I"⟩, prog_1_method_15_code, 2, some .int, 6, E_C_clearText),
  (⟨"ImplicationAlgebras", "parse", "(I)I"⟩, prog_1_method_16_code, 4, some .int, 6, E_C_parse),
  (⟨"ImplicationAlgebras", "formulaAt", "(I)LImplicationAlgebras$Formula;"⟩, prog_1_method_47_code, 2, some (.object "ImplicationAlgebras$Formula"), 6, E_C_formulaAt),
  (⟨"ImplicationAlgebras", "formulaSize", "(I)I"⟩, prog_1_method_17_code, 3, some .int, 6, E_C_formulaSize),
  (⟨"ImplicationAlgebras", "substitute", "(IIII)I"⟩, prog_1_method_18_code, 9, some .int, 6, E_C_substitute),
  (⟨"ImplicationAlgebras", "isVariable", "(I)Z"⟩, prog_1_method_49_code, 1, some .boolean, 6, E_C_isVariable),
  (⟨"ImplicationAlgebras", "draftSubstitution", "(LImplicationAlgebras$Formula;ILImplicationAlgebras$Formula;)V"⟩, prog_1_method_52_code, 8, none, 6, E_C_draftSubstitution),
  (⟨"ImplicationAlgebras", "setValue", "(III)I"⟩, prog_1_method_19_code, 6, some .int, 6, E_C_setValue),
  (⟨"ImplicationAlgebras", "value", "(II)I"⟩, prog_1_method_20_code, 5, some .int, 6, E_C_value),
  (⟨"ImplicationAlgebras", "isForced", "(III)I"⟩, prog_1_method_21_code, 6, some .int, 6, E_C_isForced),
  (⟨"ImplicationAlgebras", "isValid", "(II)I"⟩, prog_1_method_22_code, 6, some .int, 6, E_C_isValid),
  (⟨"ImplicationAlgebras", "refusalToSearch", "(LImplicationAlgebras$Poset;LImplicationAlgebras$Formula;)I"⟩, prog_1_method_51_code, 2, some .int, 6, E_C_refusalToSearch),
  (⟨"ImplicationAlgebras", "refutation", "(III)I"⟩, prog_1_method_23_code, 8, some .int, 6, E_C_refutation),
  (⟨"ImplicationAlgebras", "countValuations", "(III)I"⟩, prog_1_method_24_code, 7, some .int, 6, E_C_countValuations),
  (⟨"ImplicationAlgebras", "filterClass", "(III)I"⟩, prog_1_method_25_code, 4, some .int, 6, E_C_filterClass),
  (⟨"ImplicationAlgebras", "quotientSize", "(II)I"⟩, prog_1_method_26_code, 4, some .int, 6, E_C_quotientSize),
  (⟨"ImplicationAlgebras", "isPrime", "(II)I"⟩, prog_1_method_27_code, 4, some .int, 6, E_C_isPrime),
  (⟨"ImplicationAlgebras", "addGenerator", "(I)I"⟩, prog_1_method_28_code, 2, some .int, 6, E_C_addGenerator),
  (⟨"ImplicationAlgebras", "clearGenerators", "()I"⟩, prog_1_method_29_code, 2, some .int, 6, E_C_clearGenerators),
  (⟨"ImplicationAlgebras", "generate", "(I)I"⟩, prog_1_method_30_code, 4, some .int, 6, E_C_generate),
  (⟨"ImplicationAlgebras", "term", "(II)J"⟩, prog_1_method_31_code, 3, some .long, 6, E_C_term),
  (⟨"ImplicationAlgebras", "countMaps", "(III)I"⟩, prog_1_method_32_code, 7, some .int, 6, E_C_countMaps),
  (⟨"ImplicationAlgebras", "searchMaps", "(LImplicationAlgebras$MapSearch;I)V"⟩, prog_1_method_55_code, 3, none, 6, E_C_searchMaps),
  (⟨"ImplicationAlgebras", "firstMap", "(III)I"⟩, prog_1_method_33_code, 7, some .int, 6, E_C_firstMap),
  (⟨"ImplicationAlgebras", "isIsomorphic", "(II)I"⟩, prog_1_method_34_code, 6, some .int, 6, E_C_isIsomorphic),
  (⟨"ImplicationAlgebras", "sum", "(IIII)I"⟩, prog_1_method_35_code, 11, some .int, 6, E_C_sum),
  (⟨"ImplicationAlgebras", "product", "(III)I"⟩, prog_1_method_36_code, 10, some .int, 6, E_C_product),
  (⟨"ImplicationAlgebras", "pairsAbove", "(LImplicationAlgebras$Poset;ILImplicationAlgebras$Poset;I)I"⟩, prog_1_method_53_code, 6, some .int, 6, E_C_pairsAbove),
  (⟨"ImplicationAlgebras", "restrict", "(III)I"⟩, prog_1_method_37_code, 9, some .int, 6, E_C_restrict),
  (⟨"ImplicationAlgebras", "renumbered", "(II)I"⟩, prog_1_method_54_code, 5, some .int, 6, E_C_renumbered),
  (⟨"ImplicationAlgebras", "dual", "(II)I"⟩, prog_1_method_38_code, 7, some .int, 6, E_C_dual),
  (⟨"ImplicationAlgebras", "allocate", "(III)I"⟩, prog_1_method_39_code, 5, some .int, 6, E_C_allocate),
  (⟨"ImplicationAlgebras", "rowAt", "(I)LImplicationAlgebras$Row;"⟩, prog_1_method_48_code, 2, some (.object "ImplicationAlgebras$Row"), 6, E_C_rowAt),
  (⟨"ImplicationAlgebras", "put", "(III)I"⟩, prog_1_method_40_code, 5, some .int, 6, E_C_put),
  (⟨"ImplicationAlgebras", "rowElement", "(II)J"⟩, prog_1_method_41_code, 4, some .long, 6, E_C_rowElement),
  (⟨"ImplicationAlgebras", "copyElements", "(IIIII)I"⟩, prog_1_method_42_code, 8, some .int, 6, E_C_copyElements),
  (⟨"ImplicationAlgebras", "storeElements", "(II)I"⟩, prog_1_method_43_code, 7, some .int, 6, E_C_storeElements),
  (⟨"ImplicationAlgebras", "loadOrder", "(II)I"⟩, prog_1_method_44_code, 8, some .int, 6, E_C_loadOrder),
  (⟨"ImplicationAlgebras", "failure", "()I"⟩, prog_1_method_45_code, 1, some .int, 6, E_C_failure),
  (⟨"ImplicationAlgebrasModel", "<init>", "()V"⟩, prog_9_method_1_code, 2, none, 7, E_M_init),
  (⟨"ImplicationAlgebrasModel", "empties", "(II)V"⟩, prog_9_method_8_code, 4, none, 7, E_M_empties),
  (⟨"ImplicationAlgebrasModel", "unvalues", "(I)V"⟩, prog_9_method_9_code, 3, none, 7, E_M_unvalues),
  (⟨"ImplicationAlgebrasModel", "reset", "(II)I"⟩, prog_9_method_10_code, 4, some .int, 7, E_M_reset),
  (⟨"ImplicationAlgebrasModel", "isPoset", "(I)Z"⟩, prog_9_method_4_code, 1, some .boolean, 7, E_M_isPoset),
  (⟨"ImplicationAlgebrasModel", "isBetween", "(JJJ)Z"⟩, prog_9_method_2_code, 6, some .boolean, 7, E_M_isBetween),
  (⟨"ImplicationAlgebrasModel", "points", "(I)I"⟩, prog_9_method_11_code, 2, some .int, 7, E_M_points),
  (⟨"ImplicationAlgebrasModel", "relate", "(III)I"⟩, prog_9_method_13_code, 5, some .int, 7, E_M_relate),
  (⟨"ImplicationAlgebrasModel", "isPoint", "(II)Z"⟩, prog_9_method_5_code, 3, some .boolean, 7, E_M_isPoint),
  (⟨"ImplicationAlgebrasModel", "isLess", "(III)Z"⟩, prog_9_method_6_code, 4, some .boolean, 7, E_M_isLess),
  (⟨"ImplicationAlgebrasModel", "pairs", "(I)I"⟩, prog_9_method_12_code, 4, some .int, 7, E_M_pairs),
  (⟨"ImplicationAlgebrasModel", "bits", "(I)I"⟩, prog_9_method_3_code, 3, some .int, 7, E_M_bits),
  (⟨"ImplicationAlgebrasModel", "isBelow", "(III)I"⟩, prog_9_method_14_code, 4, some .int, 7, E_M_isBelow),
  (⟨"ImplicationAlgebrasModel", "covers", "(II)I"⟩, prog_9_method_15_code, 6, some .int, 7, E_M_covers),
  (⟨"ImplicationAlgebrasModel", "property", "(II)I"⟩, prog_9_method_20_code, 3, some .int, 7, E_M_property),
  (⟨"ImplicationAlgebrasModel", "largest", "(IZ)I"⟩, prog_9_method_17_code, 8, some .int, 7, E_M_largest),
  (⟨"ImplicationAlgebrasModel", "allOf", "(I)I"⟩, prog_9_method_7_code, 2, some .int, 7, E_M_allOf),
  (⟨"ImplicationAlgebrasModel", "areRelated", "(III)Z"⟩, prog_9_method_16_code, 4, some .boolean, 7, E_M_areRelated),
  (⟨"ImplicationAlgebrasModel", "ends", "(IZ)I"⟩, prog_9_method_19_code, 7, some .int, 7, E_M_ends),
  (⟨"ImplicationAlgebrasModel", "components", "(I)I"⟩, prog_9_method_18_code, 9, some .int, 7, E_M_components),
  (⟨"ImplicationAlgebrasModel", "elementCount", "(I)I"⟩, prog_9_method_27_code, 2, some .int, 7, E_M_elementCount),
  (⟨"ImplicationAlgebrasModel", "isFound", "(I)Z"⟩, prog_9_method_23_code, 2, some .boolean, 7, E_M_isFound),
  (⟨"ImplicationAlgebrasModel", "finds", "(I)V"⟩, prog_9_method_22_code, 4, none, 7, E_M_finds),
  (⟨"ImplicationAlgebrasModel", "isUpSet", "(II)Z"⟩, prog_9_method_21_code, 4, some .boolean, 7, E_M_isUpSet),
  (⟨"ImplicationAlgebrasModel", "elementBits", "(II)I"⟩, prog_9_method_28_code, 3, some .int, 7, E_M_elementBits),
  (⟨"ImplicationAlgebrasModel", "isElement", "(I)Z"⟩, prog_9_method_24_code, 2, some .boolean, 7, E_M_isElement),
  (⟨"ImplicationAlgebrasModel", "elementOf", "(II)I"⟩, prog_9_method_29_code, 3, some .int, 7, E_M_elementOf),
  (⟨"ImplicationAlgebrasModel", "meet", "(III)I"⟩, prog_9_method_30_code, 4, some .int, 7, E_M_meet),
  (⟨"ImplicationAlgebrasModel", "areElements", "(III)Z"⟩, prog_9_method_25_code, 4, some .boolean, 7, E_M_areElements),
  (⟨"ImplicationAlgebrasModel", "join", "(III)I"⟩, prog_9_method_31_code, 4, some .int, 7, E_M_join),
  (⟨"ImplicationAlgebrasModel", "implies", "(III)I"⟩, prog_9_method_32_code, 4, some .int, 7, E_M_implies),
  (⟨"ImplicationAlgebrasModel", "impliedBits", "(III)I"⟩, prog_9_method_26_code, 6, some .int, 7, E_M_impliedBits),
  (⟨"ImplicationAlgebrasModel", "append", "(I)I"⟩, prog_9_method_33_code, 2, some .int, 7, E_M_append),
  (⟨"ImplicationAlgebrasModel", "clearText", "()I"⟩, prog_9_method_34_code, 2, some .int, 7, E_M_clearText),
  (⟨"ImplicationAlgebrasModel", "parse", "(I)I"⟩, prog_9_method_46_code, 3, some .int, 7, E_M_parse),
  (⟨"ImplicationAlgebrasModel", "isFormula", "(I)Z"⟩, prog_9_method_36_code, 1, some .boolean, 7, E_M_isFormula),
  (⟨"ImplicationAlgebrasModel", "takesText", "()Z"⟩, prog_9_method_44_code, 2, some .boolean, 7, E_M_takesText),
  (⟨"ImplicationAlgebrasModel", "takesFactor", "()Z"⟩, prog_9_method_40_code, 1, some .boolean, 7, E_M_takesFactor),
  (⟨"ImplicationAlgebrasModel", "next", "()I"⟩, prog_9_method_35_code, 1, some .int, 7, E_M_next),
  (⟨"ImplicationAlgebrasModel", "atomOf", "(I)I"⟩, prog_9_method_39_code, 1, some .int, 7, E_M_atomOf),
  (⟨"ImplicationAlgebrasModel", "makes", "(I)V"⟩, prog_9_method_37_code, 2, none, 7, E_M_makes),
  (⟨"ImplicationAlgebrasModel", "makesFrom", "(I)V"⟩, prog_9_method_38_code, 2, none, 7, E_M_makesFrom),
  (⟨"ImplicationAlgebrasModel", "closes", "()V"⟩, prog_9_method_42_code, 1, none, 7, E_M_closes),
  (⟨"ImplicationAlgebrasModel", "hasParen", "()Z"⟩, prog_9_method_41_code, 2, some .boolean, 7, E_M_hasParen),
  (⟨"ImplicationAlgebrasModel", "deedOf", "(I)I"⟩, prog_9_method_43_code, 1, some .int, 7, E_M_deedOf),
  (⟨"ImplicationAlgebrasModel", "stores", "(I)V"⟩, prog_9_method_45_code, 3, none, 7, E_M_stores),
  (⟨"ImplicationAlgebrasModel", "formulaSize", "(I)I"⟩, prog_9_method_47_code, 2, some .int, 7, E_M_formulaSize),
  (⟨"ImplicationAlgebrasModel", "substitute", "(IIII)I"⟩, prog_9_method_49_code, 9, some .int, 7, E_M_substitute),
  (⟨"ImplicationAlgebrasModel", "isVariable", "(I)Z"⟩, prog_9_method_48_code, 1, some .boolean, 7, E_M_isVariable),
  (⟨"ImplicationAlgebrasModel", "setValue", "(III)I"⟩, prog_9_method_51_code, 5, some .int, 7, E_M_setValue),
  (⟨"ImplicationAlgebrasModel", "value", "(II)I"⟩, prog_9_method_53_code, 3, some .int, 7, E_M_value),
  (⟨"ImplicationAlgebrasModel", "presentBits", "(II)I"⟩, prog_9_method_52_code, 4, some .int, 7, E_M_presentBits),
  (⟨"ImplicationAlgebrasModel", "valueBits", "(II)I"⟩, prog_9_method_50_code, 6, some .int, 7, E_M_valueBits),
  (⟨"ImplicationAlgebrasModel", "isForced", "(III)I"⟩, prog_9_method_54_code, 4, some .int, 7, E_M_isForced),
  (⟨"ImplicationAlgebrasModel", "isValid", "(II)I"⟩, prog_9_method_61_code, 4, some .int, 7, E_M_isValid),
  (⟨"ImplicationAlgebrasModel", "notAsked", "(II)I"⟩, prog_9_method_57_code, 3, some .int, 7, E_M_notAsked),
  (⟨"ImplicationAlgebrasModel", "countsValuations", "(I)V"⟩, prog_9_method_56_code, 3, none, 7, E_M_countsValuations),
  (⟨"ImplicationAlgebrasModel", "variablesOf", "(I)I"⟩, prog_9_method_55_code, 4, some .int, 7, E_M_variablesOf),
  (⟨"ImplicationAlgebrasModel", "refuting", "(II)I"⟩, prog_9_method_60_code, 4, some .int, 7, E_M_refuting),
  (⟨"ImplicationAlgebrasModel", "bitsBy", "(III)I"⟩, prog_9_method_59_code, 5, some .int, 7, E_M_bitsBy),
  (⟨"ImplicationAlgebrasModel", "elementIn", "(II)I"⟩, prog_9_method_58_code, 5, some .int, 7, E_M_elementIn),
  (⟨"ImplicationAlgebrasModel", "refutation", "(III)I"⟩, prog_9_method_62_code, 6, some .int, 7, E_M_refutation),
  (⟨"ImplicationAlgebrasModel", "countValuations", "(III)I"⟩, prog_9_method_63_code, 7, some .int, 7, E_M_countValuations),
  (⟨"ImplicationAlgebrasModel", "filterClass", "(III)I"⟩, prog_9_method_64_code, 5, some .int, 7, E_M_filterClass),
  (⟨"ImplicationAlgebrasModel", "quotientSize", "(II)I"⟩, prog_9_method_65_code, 7, some .int, 7, E_M_quotientSize),
  (⟨"ImplicationAlgebrasModel", "isPrime", "(II)I"⟩, prog_9_method_66_code, 5, some .int, 7, E_M_isPrime),
  (⟨"ImplicationAlgebrasModel", "addGenerator", "(I)I"⟩, prog_9_method_67_code, 2, some .int, 7, E_M_addGenerator),
  (⟨"ImplicationAlgebrasModel", "clearGenerators", "()I"⟩, prog_9_method_68_code, 2, some .int, 7, E_M_clearGenerators),
  (⟨"ImplicationAlgebrasModel", "generate", "(I)I"⟩, prog_9_method_72_code, 5, some .int, 7, E_M_generate),
  (⟨"ImplicationAlgebrasModel", "lowers", "(I)Z"⟩, prog_9_method_70_code, 9, some .boolean, 7, E_M_lowers),
  (⟨"ImplicationAlgebrasModel", "done", "(IIII)I"⟩, prog_9_method_69_code, 7, some .int, 7, E_M_done),
  (⟨"ImplicationAlgebrasModel", "findsSteps", "(I)V"⟩, prog_9_method_71_code, 6, none, 7, E_M_findsSteps),
  (⟨"ImplicationAlgebrasModel", "term", "(II)J"⟩, prog_9_method_73_code, 3, some .long, 7, E_M_term),
  (⟨"ImplicationAlgebrasModel", "countMaps", "(III)I"⟩, prog_9_method_80_code, 4, some .int, 7, E_M_countMaps),
  (⟨"ImplicationAlgebrasModel", "mapsOf", "(IIIZ)I"⟩, prog_9_method_79_code, 10, some .int, 7, E_M_mapsOf),
  (⟨"ImplicationAlgebrasModel", "isOfKind", "(III)Z"⟩, prog_9_method_78_code, 4, some .boolean, 7, E_M_isOfKind),
  (⟨"ImplicationAlgebrasModel", "keepsOrder", "(II)Z"⟩, prog_9_method_74_code, 5, some .boolean, 7, E_M_keepsOrder),
  (⟨"ImplicationAlgebrasModel", "isBounded", "(II)Z"⟩, prog_9_method_75_code, 6, some .boolean, 7, E_M_isBounded),
  (⟨"ImplicationAlgebrasModel", "reachesAll", "(II)Z"⟩, prog_9_method_76_code, 5, some .boolean, 7, E_M_reachesAll),
  (⟨"ImplicationAlgebrasModel", "reflectsOrder", "(II)Z"⟩, prog_9_method_77_code, 5, some .boolean, 7, E_M_reflectsOrder),
  (⟨"ImplicationAlgebrasModel", "firstMap", "(III)I"⟩, prog_9_method_81_code, 6, some .int, 7, E_M_firstMap),
  (⟨"ImplicationAlgebrasModel", "isIsomorphic", "(II)I"⟩, prog_9_method_82_code, 3, some .int, 7, E_M_isIsomorphic),
  (⟨"ImplicationAlgebrasModel", "sum", "(IIII)I"⟩, prog_9_method_84_code, 8, some .int, 7, E_M_sum),
  (⟨"ImplicationAlgebrasModel", "settles", "(I)V"⟩, prog_9_method_83_code, 3, none, 7, E_M_settles),
  (⟨"ImplicationAlgebrasModel", "product", "(III)I"⟩, prog_9_method_85_code, 8, some .int, 7, E_M_product),
  (⟨"ImplicationAlgebrasModel", "restrict", "(III)I"⟩, prog_9_method_86_code, 10, some .int, 7, E_M_restrict),
  (⟨"ImplicationAlgebrasModel", "dual", "(II)I"⟩, prog_9_method_87_code, 6, some .int, 7, E_M_dual),
  (⟨"ImplicationAlgebrasModel", "allocate", "(III)I"⟩, prog_9_method_90_code, 5, some .int, 7, E_M_allocate),
  (⟨"ImplicationAlgebrasModel", "isRow", "(I)Z"⟩, prog_9_method_88_code, 1, some .boolean, 7, E_M_isRow),
  (⟨"ImplicationAlgebrasModel", "put", "(III)I"⟩, prog_9_method_91_code, 4, some .int, 7, E_M_put),
  (⟨"ImplicationAlgebrasModel", "puts", "(III)V"⟩, prog_9_method_89_code, 4, none, 7, E_M_puts),
  (⟨"ImplicationAlgebrasModel", "rowElement", "(II)J"⟩, prog_9_method_92_code, 3, some .long, 7, E_M_rowElement),
  (⟨"ImplicationAlgebrasModel", "copyElements", "(IIIII)I"⟩, prog_9_method_93_code, 7, some .int, 7, E_M_copyElements),
  (⟨"ImplicationAlgebrasModel", "storeElements", "(II)I"⟩, prog_9_method_94_code, 4, some .int, 7, E_M_storeElements),
  (⟨"ImplicationAlgebrasModel", "loadOrder", "(II)I"⟩, prog_9_method_95_code, 5, some .int, 7, E_M_loadOrder),
  (⟨"ImplicationAlgebrasModel", "failure", "()I"⟩, prog_9_method_96_code, 1, some .int, 7, E_M_failure),
  (⟨"java/lang/Integer", "bitCount", "(I)I"⟩, prog_10_method_49_code, 1, some .int, 9, E_I_bitCount),
  (⟨"ImplicationAlgebrasLaw", "law", "([I)Z"⟩, code, 4, some .boolean, 8, E_L_law)]
abbrev m_F_init : Nat := 0
abbrev m_F_replaceSigns : Nat := 1
abbrev m_F_isMissing : Nat := 2
abbrev m_F_occurrences : Nat := 3
abbrev m_F_currentBits : Nat := 4
abbrev m_F_bitsOfValue : Nat := 5
abbrev m_F_joined : Nat := 6
abbrev m_F_valuations : Nat := 7
abbrev m_F_choices : Nat := 8
abbrev m_F_firstRefutation : Nat := 9
abbrev m_F_unpack : Nat := 10
abbrev m_F_valuationsWith : Nat := 11
abbrev m_S_init : Nat := 12
abbrev m_S_countIfAccepted : Nat := 13
abbrev m_S_isBounded : Nat := 14
abbrev m_S_imagesOf : Nat := 15
abbrev m_S_fitsEarlier : Nat := 16
abbrev m_S_fitsOneWay : Nat := 17
abbrev m_S_digits : Nat := 18
abbrev m_P_init : Nat := 19
abbrev m_P_refresh : Nat := 20
abbrev m_P_findDownSets : Nat := 21
abbrev m_P_pointsBelow : Nat := 22
abbrev m_P_below : Nat := 23
abbrev m_P_findElements : Nat := 24
abbrev m_P_allPoints : Nat := 25
abbrev m_P_numberSet : Nat := 26
abbrev m_P_replaceOrder : Nat := 27
abbrev m_P_extendOrder : Nat := 28
abbrev m_P_hasPoint : Nat := 29
abbrev m_P_properPairs : Nat := 30
abbrev m_P_greaterPoints : Nat := 31
abbrev m_P_coversOf : Nat := 32
abbrev m_P_largestChain : Nat := 33
abbrev m_P_isChain : Nat := 34
abbrev m_P_relatedPoints : Nat := 35
abbrev m_P_largestAntichain : Nat := 36
abbrev m_P_isAntichain : Nat := 37
abbrev m_P_minimalPoints : Nat := 38
abbrev m_P_maximalPoints : Nat := 39
abbrev m_P_components : Nat := 40
abbrev m_P_componentOf : Nat := 41
abbrev m_P_hasElement : Nat := 42
abbrev m_P_resultOf : Nat := 43
abbrev m_P_implication : Nat := 44
abbrev m_P_elementsWithin : Nat := 45
abbrev m_P_hasLeastPoint : Nat := 46
abbrev m_R_init : Nat := 47
abbrev m_R_replaceRow : Nat := 48
abbrev m_R_isMissing : Nat := 49
abbrev m_R_hasIndex : Nat := 50
abbrev m_R_narrowed : Nat := 51
abbrev m_R_hasRange : Nat := 52
abbrev m_A_init : Nat := 53
abbrev m_A_start : Nat := 54
abbrev m_A_findCosts : Nat := 55
abbrev m_A_cheapestLeft : Nat := 56
abbrev m_A_offerAll : Nat := 57
abbrev m_A_offer : Nat := 58
abbrev m_A_findSteps : Nat := 59
abbrev m_A_noteStep : Nat := 60
abbrev m_T_init : Nat := 61
abbrev m_T_readFormula : Nat := 62
abbrev m_T_takeInFactor : Nat := 63
abbrev m_T_leafOf : Nat := 64
abbrev m_T_emit : Nat := 65
abbrev m_T_endFactor : Nat := 66
abbrev m_T_hold : Nat := 67
abbrev m_T_takeBehindFactor : Nat := 68
abbrev m_T_closeParenthesis : Nat := 69
abbrev m_T_releaseAbove : Nat := 70
abbrev m_T_operatorOf : Nat := 71
abbrev m_C_init : Nat := 72
abbrev m_C_reset : Nat := 73
abbrev m_C_posetAt : Nat := 74
abbrev m_C_points : Nat := 75
abbrev m_C_relate : Nat := 76
abbrev m_C_isBelow : Nat := 77
abbrev m_C_covers : Nat := 78
abbrev m_C_property : Nat := 79
abbrev m_C_elementCount : Nat := 80
abbrev m_C_elementBits : Nat := 81
abbrev m_C_elementOf : Nat := 82
abbrev m_C_meet : Nat := 83
abbrev m_C_combine : Nat := 84
abbrev m_C_join : Nat := 85
abbrev m_C_implies : Nat := 86
abbrev m_C_append : Nat := 87
abbrev m_C_clearText : Nat := 88
abbrev m_C_parse : Nat := 89
abbrev m_C_formulaAt : Nat := 90
abbrev m_C_formulaSize : Nat := 91
abbrev m_C_substitute : Nat := 92
abbrev m_C_isVariable : Nat := 93
abbrev m_C_draftSubstitution : Nat := 94
abbrev m_C_setValue : Nat := 95
abbrev m_C_value : Nat := 96
abbrev m_C_isForced : Nat := 97
abbrev m_C_isValid : Nat := 98
abbrev m_C_refusalToSearch : Nat := 99
abbrev m_C_refutation : Nat := 100
abbrev m_C_countValuations : Nat := 101
abbrev m_C_filterClass : Nat := 102
abbrev m_C_quotientSize : Nat := 103
abbrev m_C_isPrime : Nat := 104
abbrev m_C_addGenerator : Nat := 105
abbrev m_C_clearGenerators : Nat := 106
abbrev m_C_generate : Nat := 107
abbrev m_C_term : Nat := 108
abbrev m_C_countMaps : Nat := 109
abbrev m_C_searchMaps : Nat := 110
abbrev m_C_firstMap : Nat := 111
abbrev m_C_isIsomorphic : Nat := 112
abbrev m_C_sum : Nat := 113
abbrev m_C_product : Nat := 114
abbrev m_C_pairsAbove : Nat := 115
abbrev m_C_restrict : Nat := 116
abbrev m_C_renumbered : Nat := 117
abbrev m_C_dual : Nat := 118
abbrev m_C_allocate : Nat := 119
abbrev m_C_rowAt : Nat := 120
abbrev m_C_put : Nat := 121
abbrev m_C_rowElement : Nat := 122
abbrev m_C_copyElements : Nat := 123
abbrev m_C_storeElements : Nat := 124
abbrev m_C_loadOrder : Nat := 125
abbrev m_C_failure : Nat := 126
abbrev m_M_init : Nat := 127
abbrev m_M_empties : Nat := 128
abbrev m_M_unvalues : Nat := 129
abbrev m_M_reset : Nat := 130
abbrev m_M_isPoset : Nat := 131
abbrev m_M_isBetween : Nat := 132
abbrev m_M_points : Nat := 133
abbrev m_M_relate : Nat := 134
abbrev m_M_isPoint : Nat := 135
abbrev m_M_isLess : Nat := 136
abbrev m_M_pairs : Nat := 137
abbrev m_M_bits : Nat := 138
abbrev m_M_isBelow : Nat := 139
abbrev m_M_covers : Nat := 140
abbrev m_M_property : Nat := 141
abbrev m_M_largest : Nat := 142
abbrev m_M_allOf : Nat := 143
abbrev m_M_areRelated : Nat := 144
abbrev m_M_ends : Nat := 145
abbrev m_M_components : Nat := 146
abbrev m_M_elementCount : Nat := 147
abbrev m_M_isFound : Nat := 148
abbrev m_M_finds : Nat := 149
abbrev m_M_isUpSet : Nat := 150
abbrev m_M_elementBits : Nat := 151
abbrev m_M_isElement : Nat := 152
abbrev m_M_elementOf : Nat := 153
abbrev m_M_meet : Nat := 154
abbrev m_M_areElements : Nat := 155
abbrev m_M_join : Nat := 156
abbrev m_M_implies : Nat := 157
abbrev m_M_impliedBits : Nat := 158
abbrev m_M_append : Nat := 159
abbrev m_M_clearText : Nat := 160
abbrev m_M_parse : Nat := 161
abbrev m_M_isFormula : Nat := 162
abbrev m_M_takesText : Nat := 163
abbrev m_M_takesFactor : Nat := 164
abbrev m_M_next : Nat := 165
abbrev m_M_atomOf : Nat := 166
abbrev m_M_makes : Nat := 167
abbrev m_M_makesFrom : Nat := 168
abbrev m_M_closes : Nat := 169
abbrev m_M_hasParen : Nat := 170
abbrev m_M_deedOf : Nat := 171
abbrev m_M_stores : Nat := 172
abbrev m_M_formulaSize : Nat := 173
abbrev m_M_substitute : Nat := 174
abbrev m_M_isVariable : Nat := 175
abbrev m_M_setValue : Nat := 176
abbrev m_M_value : Nat := 177
abbrev m_M_presentBits : Nat := 178
abbrev m_M_valueBits : Nat := 179
abbrev m_M_isForced : Nat := 180
abbrev m_M_isValid : Nat := 181
abbrev m_M_notAsked : Nat := 182
abbrev m_M_countsValuations : Nat := 183
abbrev m_M_variablesOf : Nat := 184
abbrev m_M_refuting : Nat := 185
abbrev m_M_bitsBy : Nat := 186
abbrev m_M_elementIn : Nat := 187
abbrev m_M_refutation : Nat := 188
abbrev m_M_countValuations : Nat := 189
abbrev m_M_filterClass : Nat := 190
abbrev m_M_quotientSize : Nat := 191
abbrev m_M_isPrime : Nat := 192
abbrev m_M_addGenerator : Nat := 193
abbrev m_M_clearGenerators : Nat := 194
abbrev m_M_generate : Nat := 195
abbrev m_M_lowers : Nat := 196
abbrev m_M_done : Nat := 197
abbrev m_M_findsSteps : Nat := 198
abbrev m_M_term : Nat := 199
abbrev m_M_countMaps : Nat := 200
abbrev m_M_mapsOf : Nat := 201
abbrev m_M_isOfKind : Nat := 202
abbrev m_M_keepsOrder : Nat := 203
abbrev m_M_isBounded : Nat := 204
abbrev m_M_reachesAll : Nat := 205
abbrev m_M_reflectsOrder : Nat := 206
abbrev m_M_firstMap : Nat := 207
abbrev m_M_isIsomorphic : Nat := 208
abbrev m_M_sum : Nat := 209
abbrev m_M_settles : Nat := 210
abbrev m_M_product : Nat := 211
abbrev m_M_restrict : Nat := 212
abbrev m_M_dual : Nat := 213
abbrev m_M_allocate : Nat := 214
abbrev m_M_isRow : Nat := 215
abbrev m_M_put : Nat := 216
abbrev m_M_puts : Nat := 217
abbrev m_M_rowElement : Nat := 218
abbrev m_M_copyElements : Nat := 219
abbrev m_M_storeElements : Nat := 220
abbrev m_M_loadOrder : Nat := 221
abbrev m_M_failure : Nat := 222
abbrev m_I_bitCount : Nat := 223
abbrev m_L_law : Nat := 224
def owN : List String := ["ImplicationAlgebras$Formula", "ImplicationAlgebras$MapSearch", "ImplicationAlgebras$Poset", "ImplicationAlgebras$Row", "ImplicationAlgebras$Subalgebra", "ImplicationAlgebras$Text", "ImplicationAlgebras", "ImplicationAlgebrasModel", "ImplicationAlgebrasLaw", "java/lang/Integer", "java/lang/Math"]
def fldT : List (Nat × Nat × Nat) := [(5, 9, 1280), (6, 126, 1280), (5, 15, 1285), (6, 129, 1285), (5, 19, 1288), (6, 139, 1288), (5, 22, 1293), (6, 142, 1293), (5, 25, 1297), (5, 28, 1300), (5, 31, 1304), (5, 34, 1308), (5, 37, 1314), (4, 9, 1024), (6, 207, 1024), (4, 15, 1029), (6, 194, 1029), (4, 19, 1033), (6, 214, 1033), (4, 23, 1037), (6, 217, 1037), (4, 26, 1041), (6, 220, 1041), (4, 29, 1044), (6, 204, 1044), (4, 32, 1049), (4, 35, 1053), (2, 27, 512), (6, 65, 512), (1, 54, 512), (2, 9, 517), (1, 57, 517), (6, 238, 517), (2, 15, 521), (6, 248, 521), (4, 39, 524), (2, 34, 524), (0, 29, 524), (6, 107, 524), (2, 18, 529), (0, 38, 529), (6, 113, 529), (2, 21, 533), (6, 119, 533), (2, 24, 537), (0, 41, 537), (6, 163, 537), (0, 9, 0), (6, 148, 0), (0, 15, 5), (6, 298, 5), (0, 19, 9), (0, 22, 13), (3, 11, 768), (6, 273, 768), (3, 15, 772), (6, 285, 772), (3, 18, 777), (6, 263, 777), (6, 11, 1537), (6, 17, 1541), (6, 23, 1545), (6, 30, 1549), (6, 34, 1553), (6, 38, 1556), (6, 45, 1561), (6, 49, 1564), (6, 52, 1569), (6, 55, 1573), (1, 19, 257), (6, 299, 257), (1, 23, 261), (6, 306, 261), (1, 26, 264), (1, 29, 270), (6, 315, 270), (1, 9, 273), (6, 309, 273), (1, 15, 276), (6, 232, 276), (7, 7, 1793), (7, 13, 1797), (7, 16, 1801), (7, 19, 1805), (7, 22, 1809), (7, 130, 1812), (7, 25, 1817), (7, 156, 1820), (7, 159, 1824), (7, 28, 1829), (7, 31, 1833), (7, 34, 1837), (7, 37, 1841), (7, 162, 1844), (7, 165, 1848), (7, 168, 1852), (7, 40, 1857), (7, 43, 1861), (7, 219, 1864), (7, 222, 1868), (7, 46, 1873), (7, 49, 1877), (7, 52, 1881), (7, 55, 1885), (7, 58, 1889), (7, 242, 1892), (7, 62, 1896), (7, 66, 1901), (7, 69, 1905), (7, 72, 1909), (7, 75, 1913), (7, 78, 1917), (7, 298, 1920)]
def calV : List (Nat × Nat × Nat) := [(2, 31, 657664), (2, 49, 690432), (2, 55, 725257), (2, 41, 760081), (2, 52, 788736), (2, 59, 821505), (2, 67, 856328), (8, 13, 2398993), (6, 61, 2429707), (6, 68, 891152), (8, 18, 2462473), (8, 23, 2499353), (6, 72, 923921), (2, 37, 954633), (2, 45, 985345), (2, 75, 1020169), (8, 28, 2532121), (6, 76, 954633), (6, 80, 760081), (8, 32, 2562833), (6, 84, 1052937), (8, 36, 2595601), (6, 88, 1083649), (2, 78, 1118473), (2, 86, 1151241), (6, 92, 1181953), (2, 89, 1216777), (6, 95, 1247489), (6, 98, 1280257), (6, 101, 1313025), (2, 92, 1347849), (6, 104, 985345), (8, 40, 2626313), (8, 44, 2661137), (6, 110, 1380617), (8, 48, 2693905), (6, 116, 821505), (8, 52, 2728729), (6, 122, 2763553), (6, 291, 1417497), (2, 71, 1448209), (8, 56, 2794265), (8, 60, 2827033), (8, 64, 2855689), (8, 68, 2886401), (8, 73, 2921225), (6, 132, 2953995), (6, 136, 2034305), (5, 41, 2069129), (5, 56, 2134664), (5, 59, 2165376), (5, 62, 2200200), (5, 45, 2232969), (5, 65, 2263681), (5, 48, 2298504), (6, 145, 38928), (8, 77, 2986761), (6, 149, 67585), (8, 81, 3025697), (6, 156, 102409), (6, 159, 3089176), (8, 86, 3121945), (8, 90, 3152657), (6, 166, 135177), (0, 44, 167945), (0, 48, 821505), (0, 52, 1448209), (8, 94, 3187481), (8, 98, 3218193), (6, 295, 233481), (0, 34, 268305), (0, 25, 102409), (6, 174, 299017), (8, 102, 3285785), (8, 106, 3318553), (6, 180, 366609), (8, 110, 3351321), (8, 114, 3382033), (6, 184, 1478921), (8, 118, 3414801), (6, 187, 1511689), (8, 122, 3445513), (8, 126, 3476225), (8, 130, 3511049), (6, 190, 1774088), (6, 198, 1806856), (4, 42, 1837569), (4, 46, 1876504), (4, 50, 1417497), (4, 54, 1909264), (6, 201, 1937928), (4, 58, 1976864), (8, 134, 3545874), (8, 139, 3580697), (6, 303, 428160), (1, 42, 460929), (1, 50, 495753), (1, 46, 821505), (6, 312, 528521), (1, 33, 563345), (1, 37, 760081), (8, 143, 3646233), (6, 235, 592001), (8, 147, 3676945), (8, 151, 3713825), (8, 155, 3744537), (8, 159, 3810073), (8, 163, 3873553), (8, 167, 3908377), (6, 251, 3937035), (6, 255, 1579408), (8, 171, 3973913), (6, 259, 1608065), (6, 260, 1642889), (6, 266, 1675657), (8, 175, 4004626), (8, 179, 4043561), (6, 276, 1710481), (8, 184, 4070161), (8, 188, 4102929), (8, 192, 4131585), (7, 81, 4201360), (7, 85, 4232072), (8, 17, 4266897), (8, 22, 4363145), (8, 27, 4400025), (7, 103, 4430737), (7, 107, 4465561), (7, 111, 4494217), (8, 31, 4563865), (8, 35, 4594577), (8, 39, 4627345), (7, 120, 4660113), (7, 114, 4690825), (7, 117, 4727705), (7, 124, 4758417), (7, 127, 4789129), (8, 43, 4821897), (7, 139, 4854665), (7, 136, 4887432), (7, 133, 4922257), (8, 47, 4955025), (7, 142, 4985737), (8, 51, 5020561), (8, 55, 5055385), (7, 145, 5088153), (8, 59, 5120921), (8, 63, 5153689), (7, 148, 5186457), (8, 67, 5215113), (8, 72, 5245825), (8, 76, 5280649), (7, 200, 5344129), (7, 188, 5376897), (7, 174, 5409665), (7, 171, 5477256), (7, 181, 5510024), (7, 191, 5540736), (7, 184, 5573505), (7, 203, 5641096), (8, 80, 5673865), (8, 85, 5712801), (8, 89, 5776281), (8, 93, 5806993), (7, 213, 5839761), (7, 209, 5872529), (8, 97, 5907353), (8, 101, 5938065), (7, 234, 5970833), (7, 225, 6001544), (7, 216, 6034313), (7, 237, 6069137), (7, 231, 6103961), (7, 228, 6134673), (8, 105, 6169497), (8, 109, 6202265), (8, 113, 6235033), (8, 117, 6265745), (8, 121, 6298513), (8, 125, 6329225), (8, 129, 6359937), (8, 133, 6394761), (7, 249, 6427529), (7, 245, 6466465), (7, 252, 6493064), (8, 138, 6527890), (8, 142, 6562713), (7, 278, 6597537), (7, 275, 6628249), (7, 263, 6658961), (7, 266, 6691729), (7, 269, 6724497), (7, 272, 6757265), (8, 146, 6792089), (8, 150, 6822801), (8, 154, 6859681), (7, 282, 6886280), (8, 158, 6923161), (8, 162, 6955929), (8, 166, 6986641), (8, 170, 7021465), (8, 174, 7087001), (7, 290, 7119768), (8, 178, 7150482), (8, 183, 7189417), (8, 187, 7216017), (8, 191, 7248785), (7, 301, 4400025), (8, 195, 7277441)]
def calS : List (Nat × Nat × Nat) := [(2, 62, 7311241), (5, 52, 2099849), (5, 69, 2329225), (6, 153, 3050249), (0, 56, 204833), (6, 170, 3248913), (6, 177, 331793), (6, 228, 3609360), (6, 241, 3777313), (6, 245, 3838737), (7, 89, 4295561), (7, 95, 4338585), (7, 99, 4524937), (7, 197, 5311369), (7, 178, 5442441), (7, 194, 5606281), (7, 206, 5737353), (7, 285, 7048073)]
def calI : List (Nat × Nat × Nat) := [(8, 9, 2362112), (6, 58, 624896), (6, 225, 403616), (8, 12, 4164480)]
def nesT : List (Nat × Nat × Nat) := [(6, 29, 2001536), (6, 44, 1739264), (6, 59, 2048), (6, 60, 1542528)]
def objT : List (Nat × Nat × Nat) := [(6, 1, 9999), (5, 3, 9999), (4, 3, 9999), (2, 3, 9999), (0, 3, 9999), (3, 3, 9999), (1, 3, 9999), (7, 1, 9999)]
def cpyT : List (Nat × Nat × Nat) := [(6, 279, 9998)]
def mxxT : List (Nat × Nat × Nat) := [(2, 81, 9997)]
def mnnT : List (Nat × Nat × Nat) := [(6, 286, 9996)]
def clsT : List (Nat × Nat × Nat) := [(8, 7, 6), (6, 9, 2), (6, 15, 0), (6, 21, 3), (6, 27, 5), (6, 42, 4), (6, 223, 1), (8, 10, 7)]
def cstT : List (Nat × Nat × Int) := [(9, 265, (.ofNat 1431655765)), (9, 266, (.ofNat 858993459)), (9, 267, (.ofNat 252645135))]
def csLT : List (Nat × Nat × Int) := [(6, 208, (.negSucc 0)), (6, 210, (.negSucc 1)), (6, 212, (.negSucc 5)), (6, 271, (.negSucc 9223372036854775807)), (7, 93, (.ofNat 6)), (7, 152, (.ofNat 33)), (7, 154, (.ofNat 126)), (7, 240, (.ofNat 63)), (7, 255, (.negSucc 0)), (7, 257, (.ofNat 3)), (7, 259, (.negSucc 1)), (7, 261, (.negSucc 5)), (7, 288, (.ofNat 2)), (7, 296, (.negSucc 9223372036854775807))]
end
section
/-! resolution of operands -/
def lk {α : Type} (t : List (Nat × Nat × α)) (own idx : Nat) : Option α := match t with
  | [] => none
  | q :: l => bif Nat.beq q.1 own && Nat.beq q.2.1 idx then some q.2.2 else lk l own idx
def finF (r : Nat) : Bool := match vwCl[r / 256]? with
  | some c => (c.2.1 (r / 4 % 64)).2.2.2
  | none => true
def resI (own : Nat) (ini : Bool) (pc : Nat) (i : Instr) : Option Instr := match i with
  | .iload_n k => some (.iload k.val)
  | .iload k => some (.iload k)
  | .lload_n k => some (.lload k.val)
  | .lload k => some (.lload k)
  | .aload_n k => some (.aload k.val)
  | .aload k => some (.aload k)
  | .istore_n k => some (.istore k.val)
  | .istore k => some (.istore k)
  | .lstore_n k => some (.lstore k.val)
  | .lstore k => some (.lstore k)
  | .astore_n k => some (.astore k.val)
  | .astore k => some (.astore k)
  | .iconst n => some (.iconst n)
  | .bipush n => if (Int8.ofInt n).toInt32 = Int32.ofInt n then some (.iconst n) else none
  | .sipush n => if (Int16.ofInt n).toInt32 = Int32.ofInt n then some (.iconst n) else none
  | .ldc_w k => (lk cstT own k).map .iconst
  | .lconst n => some (.sipush (.ofNat n.val))
  | .ldc2_w k => (lk csLT own k).map .sipush
  | .goto o => some (.goto (pc + o))
  | .if_icmp c o => some (.if_icmp c (pc + o))
  | .ifCond c o => some (.ifCond c (pc + o))
  | .ifnull o => some (.ifnull (pc + o))
  | .ifnonnull o => some (.ifnonnull (pc + o))
  | .tableswitch dt lo hi offs => if lo + offs.size = hi + 1 ∧ -2147483648 ≤ lo ∧ hi < 2147483648 then some (.tableswitch (pc + dt) lo hi (offs.map fun o => pc + o)) else none
  | .lookupswitch dt ps => if (ps.toList.zip (ps.toList.drop 1)).all (fun (a, next) => a.1 < next.1) = true ∧ ps.toList.all (fun q => -2147483648 ≤ q.1 && q.1 < 2147483648) = true then some (.lookupswitch (pc + dt) (ps.map fun q => (q.1, pc + q.2))) else none
  | .getfield k => (lk fldT own k).map .getfield
  | .putfield k => match lk fldT own k with
    | some r => bif finF r && !(ini && Nat.beq own (r / 256)) then none else some (.putfield r)
    | none => none
  | .invokevirtual k => (lk calV own k).map .invokevirtual
  | .invokestatic k => match lk calS own k with
    | some e => some (.invokestatic e)
    | none => match lk cpyT own k with
      | some e => some (.invokestatic e)
      | none => match lk mxxT own k with
        | some e => some (.invokestatic e)
        | none => (lk mnnT own k).map .invokestatic
  | .invokespecial k => match lk calI own k with
    | some e => some (.invokespecial e)
    | none => match lk nesT own k with
      | some e => some (.invokespecial e)
      | none => (lk objT own k).map .invokespecial
  | .new k => (lk clsT own k).map .new
  | .newarray .int => some (.anewarray 0)
  | .newarray .long => some (.anewarray 1)
  | .newarray .boolean => some (.anewarray 2)
  | .anewarray k => match lk clsT own k with
    | some 2 => some (.anewarray 3)
    | some 0 => some (.anewarray 4)
    | some 3 => some (.anewarray 5)
    | _ => none
  | .iinc k n => some (.iinc k n)
  | .aconst_null => some .aconst_null
  | .dup => some .dup
  | .dup2 => some .dup2
  | .pop => some .pop
  | .iadd => some .iadd
  | .isub => some .isub
  | .imul => some .imul
  | .idiv => some .idiv
  | .irem => some .irem
  | .iand => some .iand
  | .ior => some .ior
  | .ixor => some .ixor
  | .ishl => some .ishl
  | .ishr => some .ishr
  | .iushr => some .iushr
  | .ladd => some .ladd
  | .lcmp => some .lcmp
  | .i2l => some .i2l
  | .i2b => some .i2b
  | .i2s => some .i2s
  | .iaload => some .iaload
  | .iastore => some .iastore
  | .laload => some .laload
  | .lastore => some .lastore
  | .baload => some .baload
  | .bastore => some .bastore
  | .aaload => some .aaload
  | .aastore => some .aastore
  | .arraylength => some .arraylength
  | .ireturn => some .ireturn
  | .lreturn => some .lreturn
  | .areturn => some .areturn
  | .return_ => some .return_
  | _ => none
def nxOK (pc : Nat) (l : List En) : Bool := match l with
  | [] => true
  | e :: _ => Nat.beq e.1 pc
/-- the length of an instruction in its plain form -/
def lnI (i : Instr) (n : Nat) : Nat := match i with
  | .aload _ => 2
  | .iload _ => 2
  | .lload _ => 2
  | .istore _ => 2
  | .lstore _ => 2
  | .astore _ => 2
  | .bipush _ => 2
  | .newarray _ => 2
  | .sipush _ => 3
  | .ldc_w _ => 3
  | .ldc2_w _ => 3
  | .goto _ => 3
  | .if_icmp _ _ => 3
  | .ifCond _ _ => 3
  | .ifnull _ => 3
  | .ifnonnull _ => 3
  | .getfield _ => 3
  | .putfield _ => 3
  | .invokevirtual _ => 3
  | .invokestatic _ => 3
  | .invokespecial _ => 3
  | .new _ => 3
  | .anewarray _ => 3
  | .iinc _ _ => 3
  | .tableswitch _ _ _ _ => n
  | .lookupswitch _ _ => n
  | _ => 1
/-- an entry is the code's: decoded, resolved, its length the code's own -/
def chk1 (own : Nat) (ini : Bool) (cc : ByteArray) (e : En) : Bool := match e.2.2 with
  | 0 => true
  | _ => match decode cc e.1 with
    | .ok (i, n) => Nat.beq n e.2.2 && Nat.beq n (lnI i n) && decide (resI own ini e.1 i = some e.2.1)
    | .error _ => false
def adjE : List En → Bool
  | [] => true
  | e :: l => nxOK (e.1 + e.2.2) l && adjE l
def chkE (own : Nat) (ini : Bool) (cc : ByteArray) (l : List En) : Bool := l.all (chk1 own ini cc) && adjE l
def iniM (q : Mt) : Bool := decide (q.1.name = "<init>")
theorem all_step {α : Type} (p : α → Bool) (n : Nat) (L : List α) (h1 : (L.take n).all p = true) (h2 : (L.drop n).all p = true) : L.all p = true := by
  have h : (L.take n ++ L.drop n).all p = true := by rw [List.all_append, h1, h2]; rfl
  rwa [List.take_append_drop] at h
end
section
theorem ca_F_init : E_F_init.all (chk1 0 true prog_2_method_1_code) = true := by decide +kernel
theorem ca_F_replaceSigns : E_F_replaceSigns.all (chk1 0 false prog_2_method_3_code) = true := by decide +kernel
theorem ca_F_isMissing : E_F_isMissing.all (chk1 0 false prog_2_method_2_code) = true := by decide +kernel
theorem ca_F_occurrences : E_F_occurrences.all (chk1 0 false prog_2_method_4_code) = true := by decide +kernel
theorem ca_F_currentBits : E_F_currentBits.all (chk1 0 false prog_2_method_7_code) = true := by decide +kernel
theorem ca_F_bitsOfValue : E_F_bitsOfValue.all (chk1 0 false prog_2_method_11_code) = true := by decide +kernel
theorem ca_F_joined : E_F_joined.all (chk1 0 false prog_2_method_12_code) = true := by decide +kernel
theorem ca_F_valuations : E_F_valuations.all (chk1 0 false prog_2_method_6_code) = true := by decide +kernel
theorem ca_F_choices : E_F_choices.all (chk1 0 false prog_2_method_5_code) = true := by decide +kernel
theorem ca_F_firstRefutation : E_F_firstRefutation.all (chk1 0 false prog_2_method_8_code) = true := by decide +kernel
theorem ca_F_unpack : E_F_unpack.all (chk1 0 false prog_2_method_9_code) = true := by decide +kernel
theorem ca_F_valuationsWith : E_F_valuationsWith.all (chk1 0 false prog_2_method_10_code) = true := by decide +kernel
theorem ca_S_init : E_S_init.all (chk1 1 true prog_3_method_1_code) = true := by decide +kernel
theorem ca_S_countIfAccepted : E_S_countIfAccepted.all (chk1 1 false prog_3_method_4_code) = true := by decide +kernel
theorem ca_S_isBounded : E_S_isBounded.all (chk1 1 false prog_3_method_5_code) = true := by decide +kernel
theorem ca_S_imagesOf : E_S_imagesOf.all (chk1 1 false prog_3_method_6_code) = true := by decide +kernel
theorem ca_S_fitsEarlier : E_S_fitsEarlier.all (chk1 1 false prog_3_method_2_code) = true := by decide +kernel
theorem ca_S_fitsOneWay : E_S_fitsOneWay.all (chk1 1 false prog_3_method_3_code) = true := by decide +kernel
theorem ca_S_digits : E_S_digits.all (chk1 1 false prog_3_method_7_code) = true := by decide +kernel
theorem ca_P_init : E_P_init.all (chk1 2 true prog_4_method_1_code) = true := by decide +kernel
theorem ca_P_refresh : E_P_refresh.all (chk1 2 false prog_4_method_8_code) = true := by decide +kernel
theorem ca_P_findDownSets : E_P_findDownSets.all (chk1 2 false prog_4_method_9_code) = true := by decide +kernel
theorem ca_P_pointsBelow : E_P_pointsBelow.all (chk1 2 false prog_4_method_10_code) = true := by decide +kernel
theorem ca_P_below : E_P_below.all (chk1 2 false prog_4_method_5_code) = true := by decide +kernel
theorem ca_P_findElements : E_P_findElements.all (chk1 2 false prog_4_method_11_code) = true := by decide +kernel
theorem ca_P_allPoints : E_P_allPoints.all (chk1 2 false prog_4_method_2_code) = true := by decide +kernel
theorem ca_P_numberSet : E_P_numberSet.all (chk1 2 false prog_4_method_12_code) = true := by decide +kernel
theorem ca_P_replaceOrder : E_P_replaceOrder.all (chk1 2 false prog_4_method_6_code) = true := by decide +kernel
theorem ca_P_extendOrder : E_P_extendOrder.all (chk1 2 false prog_4_method_7_code) = true := by decide +kernel
theorem ca_P_hasPoint : E_P_hasPoint.all (chk1 2 false prog_4_method_3_code) = true := by decide +kernel
theorem ca_P_properPairs : E_P_properPairs.all (chk1 2 false prog_4_method_26_code) = true := by decide +kernel
theorem ca_P_greaterPoints : E_P_greaterPoints.all (chk1 2 false prog_4_method_16_code) = true := by decide +kernel
theorem ca_P_coversOf : E_P_coversOf.all (chk1 2 false prog_4_method_15_code) = true := by decide +kernel
theorem ca_P_largestChain : E_P_largestChain.all (chk1 2 false prog_4_method_18_code) = true := by decide +kernel
theorem ca_P_isChain : E_P_isChain.all (chk1 2 false prog_4_method_19_code) = true := by decide +kernel
theorem ca_P_relatedPoints : E_P_relatedPoints.all (chk1 2 false prog_4_method_17_code) = true := by decide +kernel
theorem ca_P_largestAntichain : E_P_largestAntichain.all (chk1 2 false prog_4_method_20_code) = true := by decide +kernel
theorem ca_P_isAntichain : E_P_isAntichain.all (chk1 2 false prog_4_method_21_code) = true := by decide +kernel
theorem ca_P_minimalPoints : E_P_minimalPoints.all (chk1 2 false prog_4_method_22_code) = true := by decide +kernel
theorem ca_P_maximalPoints : E_P_maximalPoints.all (chk1 2 false prog_4_method_23_code) = true := by decide +kernel
theorem ca_P_components : E_P_components.all (chk1 2 false prog_4_method_24_code) = true := by decide +kernel
theorem ca_P_componentOf : E_P_componentOf.all (chk1 2 false prog_4_method_25_code) = true := by decide +kernel
theorem ca_P_hasElement : E_P_hasElement.all (chk1 2 false prog_4_method_4_code) = true := by decide +kernel
theorem ca_P_resultOf : E_P_resultOf.all (chk1 2 false prog_4_method_14_code) = true := by decide +kernel
theorem ca_P_implication : E_P_implication.all (chk1 2 false prog_4_method_13_code) = true := by decide +kernel
theorem ca_P_elementsWithin : E_P_elementsWithin.all (chk1 2 false prog_4_method_27_code) = true := by decide +kernel
theorem ca_P_hasLeastPoint : E_P_hasLeastPoint.all (chk1 2 false prog_4_method_28_code) = true := by decide +kernel
theorem ca_R_init : E_R_init.all (chk1 3 true prog_5_method_1_code) = true := by decide +kernel
theorem ca_R_replaceRow : E_R_replaceRow.all (chk1 3 false prog_5_method_5_code) = true := by decide +kernel
theorem ca_R_isMissing : E_R_isMissing.all (chk1 3 false prog_5_method_2_code) = true := by decide +kernel
theorem ca_R_hasIndex : E_R_hasIndex.all (chk1 3 false prog_5_method_3_code) = true := by decide +kernel
theorem ca_R_narrowed : E_R_narrowed.all (chk1 3 false prog_5_method_6_code) = true := by decide +kernel
theorem ca_R_hasRange : E_R_hasRange.all (chk1 3 false prog_5_method_4_code) = true := by decide +kernel
theorem ca_A_init : E_A_init.all (chk1 4 true prog_6_method_1_code) = true := by decide +kernel
theorem ca_A_start : E_A_start.all (chk1 4 false prog_6_method_2_code) = true := by decide +kernel
theorem ca_A_findCosts : E_A_findCosts.all (chk1 4 false prog_6_method_3_code) = true := by decide +kernel
theorem ca_A_cheapestLeft : E_A_cheapestLeft.all (chk1 4 false prog_6_method_4_code) = true := by decide +kernel
theorem ca_A_offerAll : E_A_offerAll.all (chk1 4 false prog_6_method_5_code) = true := by decide +kernel
theorem ca_A_offer : E_A_offer.all (chk1 4 false prog_6_method_6_code) = true := by decide +kernel
theorem ca_A_findSteps : E_A_findSteps.all (chk1 4 false prog_6_method_7_code) = true := by decide +kernel
theorem ca_A_noteStep : E_A_noteStep.all (chk1 4 false prog_6_method_8_code) = true := by decide +kernel
theorem ca_T_init : E_T_init.all (chk1 5 true prog_7_method_1_code) = true := by decide +kernel
theorem ca_T_readFormula : E_T_readFormula.all (chk1 5 false prog_7_method_2_code) = true := by decide +kernel
theorem ca_T_takeInFactor : E_T_takeInFactor.all (chk1 5 false prog_7_method_3_code) = true := by decide +kernel
theorem ca_T_leafOf : E_T_leafOf.all (chk1 5 false prog_7_method_10_code) = true := by decide +kernel
theorem ca_T_emit : E_T_emit.all (chk1 5 false prog_7_method_8_code) = true := by decide +kernel
theorem ca_T_endFactor : E_T_endFactor.all (chk1 5 false prog_7_method_6_code) = true := by decide +kernel
theorem ca_T_hold : E_T_hold.all (chk1 5 false prog_7_method_9_code) = true := by decide +kernel
theorem ca_T_takeBehindFactor : E_T_takeBehindFactor.all (chk1 5 false prog_7_method_4_code) = true := by decide +kernel
theorem ca_T_closeParenthesis : E_T_closeParenthesis.all (chk1 5 false prog_7_method_5_code) = true := by decide +kernel
theorem ca_T_releaseAbove : E_T_releaseAbove.all (chk1 5 false prog_7_method_7_code) = true := by decide +kernel
theorem ca_T_operatorOf : E_T_operatorOf.all (chk1 5 false prog_7_method_11_code) = true := by decide +kernel
end
section
theorem ca_C_init : E_C_init.all (chk1 6 true prog_1_method_1_code) = true := by decide +kernel
theorem ca_C_reset : E_C_reset.all (chk1 6 false prog_1_method_2_code) = true := by decide +kernel
theorem ca_C_posetAt : E_C_posetAt.all (chk1 6 false prog_1_method_46_code) = true := by decide +kernel
theorem ca_C_points : E_C_points.all (chk1 6 false prog_1_method_3_code) = true := by decide +kernel
theorem ca_C_relate : E_C_relate.all (chk1 6 false prog_1_method_4_code) = true := by decide +kernel
theorem ca_C_isBelow : E_C_isBelow.all (chk1 6 false prog_1_method_5_code) = true := by decide +kernel
theorem ca_C_covers : E_C_covers.all (chk1 6 false prog_1_method_6_code) = true := by decide +kernel
theorem ca_C_property : E_C_property.all (chk1 6 false prog_1_method_7_code) = true := by decide +kernel
theorem ca_C_elementCount : E_C_elementCount.all (chk1 6 false prog_1_method_8_code) = true := by decide +kernel
theorem ca_C_elementBits : E_C_elementBits.all (chk1 6 false prog_1_method_9_code) = true := by decide +kernel
theorem ca_C_elementOf : E_C_elementOf.all (chk1 6 false prog_1_method_10_code) = true := by decide +kernel
theorem ca_C_meet : E_C_meet.all (chk1 6 false prog_1_method_11_code) = true := by decide +kernel
theorem ca_C_combine : E_C_combine.all (chk1 6 false prog_1_method_50_code) = true := by decide +kernel
theorem ca_C_join : E_C_join.all (chk1 6 false prog_1_method_12_code) = true := by decide +kernel
theorem ca_C_implies : E_C_implies.all (chk1 6 false prog_1_method_13_code) = true := by decide +kernel
theorem ca_C_append : E_C_append.all (chk1 6 false prog_1_method_14_code) = true := by decide +kernel
theorem ca_C_clearText : E_C_clearText.all (chk1 6 false prog_1_method_15_code) = true := by decide +kernel
theorem ca_C_parse : E_C_parse.all (chk1 6 false prog_1_method_16_code) = true := by decide +kernel
theorem ca_C_formulaAt : E_C_formulaAt.all (chk1 6 false prog_1_method_47_code) = true := by decide +kernel
theorem ca_C_formulaSize : E_C_formulaSize.all (chk1 6 false prog_1_method_17_code) = true := by decide +kernel
theorem ca_C_substitute : E_C_substitute.all (chk1 6 false prog_1_method_18_code) = true := by decide +kernel
theorem ca_C_isVariable : E_C_isVariable.all (chk1 6 false prog_1_method_49_code) = true := by decide +kernel
theorem ca_C_draftSubstitution : E_C_draftSubstitution.all (chk1 6 false prog_1_method_52_code) = true := by decide +kernel
theorem ca_C_setValue : E_C_setValue.all (chk1 6 false prog_1_method_19_code) = true := by decide +kernel
theorem ca_C_value : E_C_value.all (chk1 6 false prog_1_method_20_code) = true := by decide +kernel
theorem ca_C_isForced : E_C_isForced.all (chk1 6 false prog_1_method_21_code) = true := by decide +kernel
theorem ca_C_isValid : E_C_isValid.all (chk1 6 false prog_1_method_22_code) = true := by decide +kernel
theorem ca_C_refusalToSearch : E_C_refusalToSearch.all (chk1 6 false prog_1_method_51_code) = true := by decide +kernel
theorem ca_C_refutation : E_C_refutation.all (chk1 6 false prog_1_method_23_code) = true := by decide +kernel
theorem ca_C_countValuations : E_C_countValuations.all (chk1 6 false prog_1_method_24_code) = true := by decide +kernel
theorem ca_C_filterClass : E_C_filterClass.all (chk1 6 false prog_1_method_25_code) = true := by decide +kernel
theorem ca_C_quotientSize : E_C_quotientSize.all (chk1 6 false prog_1_method_26_code) = true := by decide +kernel
theorem ca_C_isPrime : E_C_isPrime.all (chk1 6 false prog_1_method_27_code) = true := by decide +kernel
theorem ca_C_addGenerator : E_C_addGenerator.all (chk1 6 false prog_1_method_28_code) = true := by decide +kernel
theorem ca_C_clearGenerators : E_C_clearGenerators.all (chk1 6 false prog_1_method_29_code) = true := by decide +kernel
theorem ca_C_generate : E_C_generate.all (chk1 6 false prog_1_method_30_code) = true := by decide +kernel
theorem ca_C_term : E_C_term.all (chk1 6 false prog_1_method_31_code) = true := by decide +kernel
theorem ca_C_countMaps : E_C_countMaps.all (chk1 6 false prog_1_method_32_code) = true := by decide +kernel
theorem ca_C_searchMaps : E_C_searchMaps.all (chk1 6 false prog_1_method_55_code) = true := by decide +kernel
theorem ca_C_firstMap : E_C_firstMap.all (chk1 6 false prog_1_method_33_code) = true := by decide +kernel
theorem ca_C_isIsomorphic : E_C_isIsomorphic.all (chk1 6 false prog_1_method_34_code) = true := by decide +kernel
theorem ca_C_sum : E_C_sum.all (chk1 6 false prog_1_method_35_code) = true := by decide +kernel
theorem ca_C_product : E_C_product.all (chk1 6 false prog_1_method_36_code) = true := by decide +kernel
theorem ca_C_pairsAbove : E_C_pairsAbove.all (chk1 6 false prog_1_method_53_code) = true := by decide +kernel
theorem ca_C_restrict : E_C_restrict.all (chk1 6 false prog_1_method_37_code) = true := by decide +kernel
theorem ca_C_renumbered : E_C_renumbered.all (chk1 6 false prog_1_method_54_code) = true := by decide +kernel
theorem ca_C_dual : E_C_dual.all (chk1 6 false prog_1_method_38_code) = true := by decide +kernel
theorem ca_C_allocate : E_C_allocate.all (chk1 6 false prog_1_method_39_code) = true := by decide +kernel
theorem ca_C_rowAt : E_C_rowAt.all (chk1 6 false prog_1_method_48_code) = true := by decide +kernel
theorem ca_C_put : E_C_put.all (chk1 6 false prog_1_method_40_code) = true := by decide +kernel
theorem ca_C_rowElement : E_C_rowElement.all (chk1 6 false prog_1_method_41_code) = true := by decide +kernel
theorem ca_C_copyElements : E_C_copyElements.all (chk1 6 false prog_1_method_42_code) = true := by decide +kernel
theorem ca_C_storeElements : E_C_storeElements.all (chk1 6 false prog_1_method_43_code) = true := by decide +kernel
theorem ca_C_loadOrder : E_C_loadOrder.all (chk1 6 false prog_1_method_44_code) = true := by decide +kernel
theorem ca_C_failure : E_C_failure.all (chk1 6 false prog_1_method_45_code) = true := by decide +kernel
end
section
theorem ca_M_init : E_M_init.all (chk1 7 true prog_9_method_1_code) = true := by decide +kernel
theorem ca_M_empties : E_M_empties.all (chk1 7 false prog_9_method_8_code) = true := by decide +kernel
theorem ca_M_unvalues : E_M_unvalues.all (chk1 7 false prog_9_method_9_code) = true := by decide +kernel
theorem ca_M_reset : E_M_reset.all (chk1 7 false prog_9_method_10_code) = true := by decide +kernel
theorem ca_M_isPoset : E_M_isPoset.all (chk1 7 false prog_9_method_4_code) = true := by decide +kernel
theorem ca_M_isBetween : E_M_isBetween.all (chk1 7 false prog_9_method_2_code) = true := by decide +kernel
theorem ca_M_points : E_M_points.all (chk1 7 false prog_9_method_11_code) = true := by decide +kernel
theorem ca_M_relate : E_M_relate.all (chk1 7 false prog_9_method_13_code) = true := by decide +kernel
theorem ca_M_isPoint : E_M_isPoint.all (chk1 7 false prog_9_method_5_code) = true := by decide +kernel
theorem ca_M_isLess : E_M_isLess.all (chk1 7 false prog_9_method_6_code) = true := by decide +kernel
theorem ca_M_pairs : E_M_pairs.all (chk1 7 false prog_9_method_12_code) = true := by decide +kernel
theorem ca_M_bits : E_M_bits.all (chk1 7 false prog_9_method_3_code) = true := by decide +kernel
theorem ca_M_isBelow : E_M_isBelow.all (chk1 7 false prog_9_method_14_code) = true := by decide +kernel
theorem ca_M_covers : E_M_covers.all (chk1 7 false prog_9_method_15_code) = true := by decide +kernel
theorem ca_M_property : E_M_property.all (chk1 7 false prog_9_method_20_code) = true := by decide +kernel
theorem ca_M_largest : E_M_largest.all (chk1 7 false prog_9_method_17_code) = true := by decide +kernel
theorem ca_M_allOf : E_M_allOf.all (chk1 7 false prog_9_method_7_code) = true := by decide +kernel
theorem ca_M_areRelated : E_M_areRelated.all (chk1 7 false prog_9_method_16_code) = true := by decide +kernel
theorem ca_M_ends : E_M_ends.all (chk1 7 false prog_9_method_19_code) = true := by decide +kernel
theorem ca_M_components : E_M_components.all (chk1 7 false prog_9_method_18_code) = true := by decide +kernel
theorem ca_M_elementCount : E_M_elementCount.all (chk1 7 false prog_9_method_27_code) = true := by decide +kernel
theorem ca_M_isFound : E_M_isFound.all (chk1 7 false prog_9_method_23_code) = true := by decide +kernel
theorem ca_M_finds : E_M_finds.all (chk1 7 false prog_9_method_22_code) = true := by decide +kernel
theorem ca_M_isUpSet : E_M_isUpSet.all (chk1 7 false prog_9_method_21_code) = true := by decide +kernel
theorem ca_M_elementBits : E_M_elementBits.all (chk1 7 false prog_9_method_28_code) = true := by decide +kernel
theorem ca_M_isElement : E_M_isElement.all (chk1 7 false prog_9_method_24_code) = true := by decide +kernel
theorem ca_M_elementOf : E_M_elementOf.all (chk1 7 false prog_9_method_29_code) = true := by decide +kernel
theorem ca_M_meet : E_M_meet.all (chk1 7 false prog_9_method_30_code) = true := by decide +kernel
theorem ca_M_areElements : E_M_areElements.all (chk1 7 false prog_9_method_25_code) = true := by decide +kernel
theorem ca_M_join : E_M_join.all (chk1 7 false prog_9_method_31_code) = true := by decide +kernel
theorem ca_M_implies : E_M_implies.all (chk1 7 false prog_9_method_32_code) = true := by decide +kernel
theorem ca_M_impliedBits : E_M_impliedBits.all (chk1 7 false prog_9_method_26_code) = true := by decide +kernel
theorem ca_M_append : E_M_append.all (chk1 7 false prog_9_method_33_code) = true := by decide +kernel
theorem ca_M_clearText : E_M_clearText.all (chk1 7 false prog_9_method_34_code) = true := by decide +kernel
theorem ca_M_parse : E_M_parse.all (chk1 7 false prog_9_method_46_code) = true := by decide +kernel
theorem ca_M_isFormula : E_M_isFormula.all (chk1 7 false prog_9_method_36_code) = true := by decide +kernel
theorem ca_M_takesText : E_M_takesText.all (chk1 7 false prog_9_method_44_code) = true := by decide +kernel
theorem ca_M_takesFactor : E_M_takesFactor.all (chk1 7 false prog_9_method_40_code) = true := by decide +kernel
theorem ca_M_next : E_M_next.all (chk1 7 false prog_9_method_35_code) = true := by decide +kernel
theorem ca_M_atomOf : E_M_atomOf.all (chk1 7 false prog_9_method_39_code) = true := by decide +kernel
theorem ca_M_makes : E_M_makes.all (chk1 7 false prog_9_method_37_code) = true := by decide +kernel
theorem ca_M_makesFrom : E_M_makesFrom.all (chk1 7 false prog_9_method_38_code) = true := by decide +kernel
theorem ca_M_closes : E_M_closes.all (chk1 7 false prog_9_method_42_code) = true := by decide +kernel
theorem ca_M_hasParen : E_M_hasParen.all (chk1 7 false prog_9_method_41_code) = true := by decide +kernel
theorem ca_M_deedOf : E_M_deedOf.all (chk1 7 false prog_9_method_43_code) = true := by decide +kernel
theorem ca_M_stores : E_M_stores.all (chk1 7 false prog_9_method_45_code) = true := by decide +kernel
theorem ca_M_formulaSize : E_M_formulaSize.all (chk1 7 false prog_9_method_47_code) = true := by decide +kernel
theorem ca_M_substitute : E_M_substitute.all (chk1 7 false prog_9_method_49_code) = true := by decide +kernel
theorem ca_M_isVariable : E_M_isVariable.all (chk1 7 false prog_9_method_48_code) = true := by decide +kernel
theorem ca_M_setValue : E_M_setValue.all (chk1 7 false prog_9_method_51_code) = true := by decide +kernel
theorem ca_M_value : E_M_value.all (chk1 7 false prog_9_method_53_code) = true := by decide +kernel
theorem ca_M_presentBits : E_M_presentBits.all (chk1 7 false prog_9_method_52_code) = true := by decide +kernel
theorem ca_M_valueBits : E_M_valueBits.all (chk1 7 false prog_9_method_50_code) = true := by decide +kernel
theorem ca_M_isForced : E_M_isForced.all (chk1 7 false prog_9_method_54_code) = true := by decide +kernel
theorem ca_M_isValid : E_M_isValid.all (chk1 7 false prog_9_method_61_code) = true := by decide +kernel
theorem ca_M_notAsked : E_M_notAsked.all (chk1 7 false prog_9_method_57_code) = true := by decide +kernel
theorem ca_M_countsValuations : E_M_countsValuations.all (chk1 7 false prog_9_method_56_code) = true := by decide +kernel
theorem ca_M_variablesOf : E_M_variablesOf.all (chk1 7 false prog_9_method_55_code) = true := by decide +kernel
theorem ca_M_refuting : E_M_refuting.all (chk1 7 false prog_9_method_60_code) = true := by decide +kernel
theorem ca_M_bitsBy : E_M_bitsBy.all (chk1 7 false prog_9_method_59_code) = true := by decide +kernel
theorem ca_M_elementIn : E_M_elementIn.all (chk1 7 false prog_9_method_58_code) = true := by decide +kernel
theorem ca_M_refutation : E_M_refutation.all (chk1 7 false prog_9_method_62_code) = true := by decide +kernel
theorem ca_M_countValuations : E_M_countValuations.all (chk1 7 false prog_9_method_63_code) = true := by decide +kernel
theorem ca_M_filterClass : E_M_filterClass.all (chk1 7 false prog_9_method_64_code) = true := by decide +kernel
theorem ca_M_quotientSize : E_M_quotientSize.all (chk1 7 false prog_9_method_65_code) = true := by decide +kernel
theorem ca_M_isPrime : E_M_isPrime.all (chk1 7 false prog_9_method_66_code) = true := by decide +kernel
theorem ca_M_addGenerator : E_M_addGenerator.all (chk1 7 false prog_9_method_67_code) = true := by decide +kernel
theorem ca_M_clearGenerators : E_M_clearGenerators.all (chk1 7 false prog_9_method_68_code) = true := by decide +kernel
theorem ca_M_generate : E_M_generate.all (chk1 7 false prog_9_method_72_code) = true := by decide +kernel
theorem ca_M_lowers : E_M_lowers.all (chk1 7 false prog_9_method_70_code) = true := by decide +kernel
theorem ca_M_done : E_M_done.all (chk1 7 false prog_9_method_69_code) = true := by decide +kernel
theorem ca_M_findsSteps : E_M_findsSteps.all (chk1 7 false prog_9_method_71_code) = true := by decide +kernel
theorem ca_M_term : E_M_term.all (chk1 7 false prog_9_method_73_code) = true := by decide +kernel
theorem ca_M_countMaps : E_M_countMaps.all (chk1 7 false prog_9_method_80_code) = true := by decide +kernel
theorem ca_M_mapsOf : E_M_mapsOf.all (chk1 7 false prog_9_method_79_code) = true := by decide +kernel
theorem ca_M_isOfKind : E_M_isOfKind.all (chk1 7 false prog_9_method_78_code) = true := by decide +kernel
theorem ca_M_keepsOrder : E_M_keepsOrder.all (chk1 7 false prog_9_method_74_code) = true := by decide +kernel
theorem ca_M_isBounded : E_M_isBounded.all (chk1 7 false prog_9_method_75_code) = true := by decide +kernel
theorem ca_M_reachesAll : E_M_reachesAll.all (chk1 7 false prog_9_method_76_code) = true := by decide +kernel
theorem ca_M_reflectsOrder : E_M_reflectsOrder.all (chk1 7 false prog_9_method_77_code) = true := by decide +kernel
theorem ca_M_firstMap : E_M_firstMap.all (chk1 7 false prog_9_method_81_code) = true := by decide +kernel
theorem ca_M_isIsomorphic : E_M_isIsomorphic.all (chk1 7 false prog_9_method_82_code) = true := by decide +kernel
theorem ca_M_sum : E_M_sum.all (chk1 7 false prog_9_method_84_code) = true := by decide +kernel
theorem ca_M_settles : E_M_settles.all (chk1 7 false prog_9_method_83_code) = true := by decide +kernel
theorem ca_M_product : E_M_product.all (chk1 7 false prog_9_method_85_code) = true := by decide +kernel
theorem ca_M_restrict : E_M_restrict.all (chk1 7 false prog_9_method_86_code) = true := by decide +kernel
theorem ca_M_dual : E_M_dual.all (chk1 7 false prog_9_method_87_code) = true := by decide +kernel
theorem ca_M_allocate : E_M_allocate.all (chk1 7 false prog_9_method_90_code) = true := by decide +kernel
theorem ca_M_isRow : E_M_isRow.all (chk1 7 false prog_9_method_88_code) = true := by decide +kernel
theorem ca_M_put : E_M_put.all (chk1 7 false prog_9_method_91_code) = true := by decide +kernel
theorem ca_M_puts : E_M_puts.all (chk1 7 false prog_9_method_89_code) = true := by decide +kernel
theorem ca_M_rowElement : E_M_rowElement.all (chk1 7 false prog_9_method_92_code) = true := by decide +kernel
theorem ca_M_copyElements : E_M_copyElements.all (chk1 7 false prog_9_method_93_code) = true := by decide +kernel
theorem ca_M_storeElements : E_M_storeElements.all (chk1 7 false prog_9_method_94_code) = true := by decide +kernel
theorem ca_M_loadOrder : E_M_loadOrder.all (chk1 7 false prog_9_method_95_code) = true := by decide +kernel
theorem ca_M_failure : E_M_failure.all (chk1 7 false prog_9_method_96_code) = true := by decide +kernel
end
section
theorem ca_I_bitCount : E_I_bitCount.all (chk1 9 false prog_10_method_49_code) = true := by decide +kernel
theorem ca_L_law_0 : ((E_L_law).take 40).all (chk1 8 false code) = true := by decide +kernel
theorem ca_L_law_1 : ((E_L_law.drop 40).take 40).all (chk1 8 false code) = true := by decide +kernel
theorem ca_L_law_2 : ((E_L_law.drop 80).take 40).all (chk1 8 false code) = true := by decide +kernel
theorem ca_L_law_3 : ((E_L_law.drop 120).take 40).all (chk1 8 false code) = true := by decide +kernel
theorem ca_L_law_4 : ((E_L_law.drop 160).take 40).all (chk1 8 false code) = true := by decide +kernel
theorem ca_L_law_5 : ((E_L_law.drop 200).take 40).all (chk1 8 false code) = true := by decide +kernel
theorem ca_L_law_6 : ((E_L_law.drop 240).take 40).all (chk1 8 false code) = true := by decide +kernel
theorem ca_L_law_7 : ((E_L_law.drop 280).take 40).all (chk1 8 false code) = true := by decide +kernel
theorem ca_L_law_8 : ((E_L_law.drop 320).take 40).all (chk1 8 false code) = true := by decide +kernel
theorem ca_L_law_9 : ((E_L_law.drop 360).take 40).all (chk1 8 false code) = true := by decide +kernel
theorem ca_L_law_10 : ((E_L_law.drop 400).take 40).all (chk1 8 false code) = true := by decide +kernel
theorem ca_L_law_11 : ((E_L_law.drop 440).take 40).all (chk1 8 false code) = true := by decide +kernel
theorem ca_L_law_12 : ((E_L_law.drop 480).take 40).all (chk1 8 false code) = true := by decide +kernel
theorem ca_L_law_13 : ((E_L_law.drop 520).take 40).all (chk1 8 false code) = true := by decide +kernel
theorem ca_L_law_14 : ((E_L_law.drop 560).take 40).all (chk1 8 false code) = true := by decide +kernel
theorem ca_L_law_15 : ((E_L_law.drop 600).take 40).all (chk1 8 false code) = true := by decide +kernel
theorem ca_L_law_16 : ((E_L_law.drop 640).take 40).all (chk1 8 false code) = true := by decide +kernel
theorem ca_L_law_17 : ((E_L_law.drop 680).take 40).all (chk1 8 false code) = true := by decide +kernel
theorem ca_L_law_18 : ((E_L_law.drop 720).take 40).all (chk1 8 false code) = true := by decide +kernel
theorem ca_L_law_19 : ((E_L_law.drop 760).take 40).all (chk1 8 false code) = true := by decide +kernel
theorem ca_L_law_20 : ((E_L_law.drop 800).take 40).all (chk1 8 false code) = true := by decide +kernel
theorem ca_L_law_21 : ((E_L_law.drop 840).take 40).all (chk1 8 false code) = true := by decide +kernel
theorem ca_L_law_22 : ((E_L_law.drop 880).take 40).all (chk1 8 false code) = true := by decide +kernel
theorem ca_L_law_23 : ((E_L_law.drop 920).take 40).all (chk1 8 false code) = true := by decide +kernel
theorem ca_L_law_24 : ((E_L_law.drop 960).take 40).all (chk1 8 false code) = true := by decide +kernel
theorem ca_L_law_25 : ((E_L_law.drop 1000).take 40).all (chk1 8 false code) = true := by decide +kernel
theorem ca_L_law_26 : ((E_L_law.drop 1040).take 40).all (chk1 8 false code) = true := by decide +kernel
theorem ca_L_law_27 : ((E_L_law.drop 1080).take 40).all (chk1 8 false code) = true := by decide +kernel
theorem ca_L_law_28 : ((E_L_law.drop 1120).take 40).all (chk1 8 false code) = true := by decide +kernel
theorem ca_L_law_29 : ((E_L_law.drop 1160).take 40).all (chk1 8 false code) = true := by decide +kernel
theorem ca_L_law_30 : ((E_L_law.drop 1200).take 40).all (chk1 8 false code) = true := by decide +kernel
theorem ca_L_law_31 : ((E_L_law.drop 1240).take 40).all (chk1 8 false code) = true := by decide +kernel
theorem ca_L_law_32 : (E_L_law.drop 1280).all (chk1 8 false code) = true := by decide +kernel
theorem cb_L_law_31 : (E_L_law.drop 1240).all (chk1 8 false code) = true := all_step _ 40 _ ca_L_law_31 (by rw [List.drop_drop]; exact ca_L_law_32)
theorem cb_L_law_30 : (E_L_law.drop 1200).all (chk1 8 false code) = true := all_step _ 40 _ ca_L_law_30 (by rw [List.drop_drop]; exact cb_L_law_31)
theorem cb_L_law_29 : (E_L_law.drop 1160).all (chk1 8 false code) = true := all_step _ 40 _ ca_L_law_29 (by rw [List.drop_drop]; exact cb_L_law_30)
theorem cb_L_law_28 : (E_L_law.drop 1120).all (chk1 8 false code) = true := all_step _ 40 _ ca_L_law_28 (by rw [List.drop_drop]; exact cb_L_law_29)
theorem cb_L_law_27 : (E_L_law.drop 1080).all (chk1 8 false code) = true := all_step _ 40 _ ca_L_law_27 (by rw [List.drop_drop]; exact cb_L_law_28)
theorem cb_L_law_26 : (E_L_law.drop 1040).all (chk1 8 false code) = true := all_step _ 40 _ ca_L_law_26 (by rw [List.drop_drop]; exact cb_L_law_27)
theorem cb_L_law_25 : (E_L_law.drop 1000).all (chk1 8 false code) = true := all_step _ 40 _ ca_L_law_25 (by rw [List.drop_drop]; exact cb_L_law_26)
theorem cb_L_law_24 : (E_L_law.drop 960).all (chk1 8 false code) = true := all_step _ 40 _ ca_L_law_24 (by rw [List.drop_drop]; exact cb_L_law_25)
theorem cb_L_law_23 : (E_L_law.drop 920).all (chk1 8 false code) = true := all_step _ 40 _ ca_L_law_23 (by rw [List.drop_drop]; exact cb_L_law_24)
theorem cb_L_law_22 : (E_L_law.drop 880).all (chk1 8 false code) = true := all_step _ 40 _ ca_L_law_22 (by rw [List.drop_drop]; exact cb_L_law_23)
theorem cb_L_law_21 : (E_L_law.drop 840).all (chk1 8 false code) = true := all_step _ 40 _ ca_L_law_21 (by rw [List.drop_drop]; exact cb_L_law_22)
theorem cb_L_law_20 : (E_L_law.drop 800).all (chk1 8 false code) = true := all_step _ 40 _ ca_L_law_20 (by rw [List.drop_drop]; exact cb_L_law_21)
theorem cb_L_law_19 : (E_L_law.drop 760).all (chk1 8 false code) = true := all_step _ 40 _ ca_L_law_19 (by rw [List.drop_drop]; exact cb_L_law_20)
theorem cb_L_law_18 : (E_L_law.drop 720).all (chk1 8 false code) = true := all_step _ 40 _ ca_L_law_18 (by rw [List.drop_drop]; exact cb_L_law_19)
theorem cb_L_law_17 : (E_L_law.drop 680).all (chk1 8 false code) = true := all_step _ 40 _ ca_L_law_17 (by rw [List.drop_drop]; exact cb_L_law_18)
theorem cb_L_law_16 : (E_L_law.drop 640).all (chk1 8 false code) = true := all_step _ 40 _ ca_L_law_16 (by rw [List.drop_drop]; exact cb_L_law_17)
theorem cb_L_law_15 : (E_L_law.drop 600).all (chk1 8 false code) = true := all_step _ 40 _ ca_L_law_15 (by rw [List.drop_drop]; exact cb_L_law_16)
theorem cb_L_law_14 : (E_L_law.drop 560).all (chk1 8 false code) = true := all_step _ 40 _ ca_L_law_14 (by rw [List.drop_drop]; exact cb_L_law_15)
theorem cb_L_law_13 : (E_L_law.drop 520).all (chk1 8 false code) = true := all_step _ 40 _ ca_L_law_13 (by rw [List.drop_drop]; exact cb_L_law_14)
theorem cb_L_law_12 : (E_L_law.drop 480).all (chk1 8 false code) = true := all_step _ 40 _ ca_L_law_12 (by rw [List.drop_drop]; exact cb_L_law_13)
theorem cb_L_law_11 : (E_L_law.drop 440).all (chk1 8 false code) = true := all_step _ 40 _ ca_L_law_11 (by rw [List.drop_drop]; exact cb_L_law_12)
theorem cb_L_law_10 : (E_L_law.drop 400).all (chk1 8 false code) = true := all_step _ 40 _ ca_L_law_10 (by rw [List.drop_drop]; exact cb_L_law_11)
theorem cb_L_law_9 : (E_L_law.drop 360).all (chk1 8 false code) = true := all_step _ 40 _ ca_L_law_9 (by rw [List.drop_drop]; exact cb_L_law_10)
theorem cb_L_law_8 : (E_L_law.drop 320).all (chk1 8 false code) = true := all_step _ 40 _ ca_L_law_8 (by rw [List.drop_drop]; exact cb_L_law_9)
theorem cb_L_law_7 : (E_L_law.drop 280).all (chk1 8 false code) = true := all_step _ 40 _ ca_L_law_7 (by rw [List.drop_drop]; exact cb_L_law_8)
theorem cb_L_law_6 : (E_L_law.drop 240).all (chk1 8 false code) = true := all_step _ 40 _ ca_L_law_6 (by rw [List.drop_drop]; exact cb_L_law_7)
theorem cb_L_law_5 : (E_L_law.drop 200).all (chk1 8 false code) = true := all_step _ 40 _ ca_L_law_5 (by rw [List.drop_drop]; exact cb_L_law_6)
theorem cb_L_law_4 : (E_L_law.drop 160).all (chk1 8 false code) = true := all_step _ 40 _ ca_L_law_4 (by rw [List.drop_drop]; exact cb_L_law_5)
theorem cb_L_law_3 : (E_L_law.drop 120).all (chk1 8 false code) = true := all_step _ 40 _ ca_L_law_3 (by rw [List.drop_drop]; exact cb_L_law_4)
theorem cb_L_law_2 : (E_L_law.drop 80).all (chk1 8 false code) = true := all_step _ 40 _ ca_L_law_2 (by rw [List.drop_drop]; exact cb_L_law_3)
theorem cb_L_law_1 : (E_L_law.drop 40).all (chk1 8 false code) = true := all_step _ 40 _ ca_L_law_1 (by rw [List.drop_drop]; exact cb_L_law_2)
theorem ca_L_law : E_L_law.all (chk1 8 false code) = true := all_step _ 40 _ ca_L_law_0 cb_L_law_1
end
section
/-! the abstract machine: heap, values, weakest preconditions over the program's data -/
abbrev AH : Type := List (Nat × Nat) × (Nat → Nat → Int32) × (Nat → Nat → Int64) × (Nat → Nat → Option Nat)
def hs (h : AH) (a : Nat) : Option (Nat × Nat) := h.1[a]?
def mi (h : AH) (a i : Nat) : Int32 := h.2.1 a i
def ml (h : AH) (a i : Nat) : Int64 := h.2.2.1 a i
def mr (h : AH) (a i : Nat) : Option Nat := h.2.2.2 a i
def wi (h : AH) (a i : Nat) (v : Int32) : AH := (h.1, fun x j => if x = a ∧ j = i then v else h.2.1 x j, h.2.2.1, h.2.2.2)
def wl (h : AH) (a i : Nat) (v : Int64) : AH := (h.1, h.2.1, fun x j => if x = a ∧ j = i then v else h.2.2.1 x j, h.2.2.2)
def wr (h : AH) (a i : Nat) (v : Nat) : AH := (h.1, h.2.1, h.2.2.1, fun x j => if x = a ∧ j = i then some v else h.2.2.2 x j)
def wa (h : AH) (a : Nat) (f : Nat → Int32) : AH := (h.1, fun x j => if x = a then f j else h.2.1 x j, h.2.2.1, h.2.2.2)
def hn (h : AH) (t n : Nat) : AH := (h.1 ++ [(t, n)], fun x j => if x = h.1.length then 0 else h.2.1 x j, fun x j => if x = h.1.length then 0 else h.2.2.1 x j, fun x j => if x = h.1.length then none else h.2.2.2 x j)
def Ext (h h' : AH) : Prop := (∃ l, h'.1 = h.1 ++ l) ∧ ∀ a k j, a < h.1.length → mr h a k = some j → mr h' a k = some j
def cI (n : Int) : Int32 := match n with
  | .ofNat k => nI k
  | .negSucc k => Int32.ofInt (.negSucc k)
def cL (n : Int) : Int64 := Int64.ofInt n
abbrev unk : Value := .float 0
def gL : List Value → Nat → Value
  | [], _ => unk
  | v :: _, 0 => v
  | _ :: l, k + 1 => gL l k
def kl2 (v : Value) : Value := bif Nat.beq v.category 2 then unk else v
def stL : List Value → Nat → Value → List Value
  | [], 0, v => [v]
  | [], k + 1, v => unk :: stL [] k v
  | _ :: l, 0, v => v :: l
  | a :: l, 1, v => kl2 a :: stL l 0 v
  | a :: l, k + 2, v => a :: stL l (k + 1) v
def keepL : List Value → Nat → List Value
  | [], _ => []
  | v :: l, m => bif Nat.beq m 0 then [] else (bif Nat.beq (m % 2) 1 then v else unk) :: keepL l (m / 2)
def pV : List Value → (Value → List Value → Prop) → Prop
  | v :: s, K => K v s
  | [], _ => False
def pI : List Value → (Int32 → List Value → Prop) → Prop
  | .int x :: s, K => K x s
  | _, _ => False
def pJ : List Value → (Int64 → List Value → Prop) → Prop
  | .long x :: s, K => K x s
  | _, _ => False
def pR : List Value → (Nat → List Value → Prop) → Prop
  | .ref x :: s, K => K x s
  | _, _ => False
def lI : Value → (Int32 → Prop) → Prop
  | .int x, K => K x
  | _, _ => False
def lJ : Value → (Int64 → Prop) → Prop
  | .long x, K => K x
  | _, _ => False
def lA (v : Value) (K : Value → Prop) : Prop := match v with
  | .ref a => K (.ref a)
  | .null => K .null
  | _ => False
def pN : Nat → List Value → (List Value → List Value → Prop) → Prop
  | 0, st, K => K [] st
  | k + 1, v :: st, K => pN k st fun as s => K (as ++ [v]) s
  | _ + 1, [], _ => False
def nil0 (st : List Value) (P : Prop) : Prop := match st with
  | [] => P
  | _ => False
def wsum : List Value → Nat
  | [] => 0
  | v :: l => v.category + wsum l
def cj (c : ClassFile.Cond) (x y : Int32) (T F : Prop) : Prop := match c with
  | .eq => (x = y → T) ∧ (¬ x = y → F)
  | .ne => (¬ x = y → T) ∧ (x = y → F)
  | .lt => (x < y → T) ∧ (¬ x < y → F)
  | .ge => (y ≤ x → T) ∧ (¬ y ≤ x → F)
  | .gt => (y < x → T) ∧ (¬ y < x → F)
  | .le => (x ≤ y → T) ∧ (¬ x ≤ y → F)
def swT (x : Int32) (K : Int → Prop) : Int → List Int → Prop
  | _, [] => True
  | lo, o :: l => (x = cI lo → K o) ∧ swT x K (lo + 1) l
def lsw (x : Int32) (K : Int → Prop) (d : Int) : List (Int × Int) → Prop
  | [] => K d
  | q :: l => (x = cI q.1 → K q.2) ∧ (¬ x = cI q.1 → lsw x K d l)
abbrev PQ : Type := Value → AH → Prop
def asI (K : Int32 → AH → Prop) : PQ := fun v h => match v with
  | .int x => K x h
  | _ => False
def asL (K : Int64 → AH → Prop) : PQ := fun v h => match v with
  | .long x => K x h
  | _ => False
def asV (K : AH → Prop) : PQ := fun v h => match v with
  | .retAddr _ => K h
  | _ => False
def asR (K : Option Nat → AH → Prop) : PQ := fun v h => match v with
  | .ref a => K (some a) h
  | .null => K none h
  | _ => False
def isB (x : Int32) : Bool := x == 0 || x == 1
/-- the part of a value's check that the return type asks for -/
def rOK (rt : Option FieldType) (x : Int32) (P : Prop) : Prop := match rt with
  | some .int => P
  | some .boolean => isB x = true ∧ P
  | _ => False
def fRef (kd : Nat) : Bool := Nat.beq kd 1
def exL : List Value → List Value
  | [] => []
  | v :: l => bif Nat.beq v.category 2 then v :: unk :: exL l else v :: exL l
abbrev EvT : Type := Nat → Nat → Nat → Nat → Nat → List Value → List Value → AH → PQ → Prop
/-- a call: callee e % 8 kind of answer, e / 8 % 16 parameters, e / 128 % 16 class, e / 2048 % 16 words of the arguments, e / 32768 method -/
def cal (Ev : EvT) (d g g' e : Nat) (av : List Value) (h : AH) (s : List Value) (nx : Nat → List Value → AH → Prop) : Prop :=
  bif Nat.ble (wsum s) 8 && Nat.ble (wsum av) (e / 2048 % 16) then (match d with
    | 0 => False
    | d1 + 1 => ∃ g1, (g' ≤ g1 ∧ g1 ≤ g) ∧ Ev d1 g g1 (e / 32768) 0 (exL av) [] h (match e % 8 with
      | 0 => asV fun h1 => Ext h h1 → nx g1 s h1
      | 1 => asI fun x h1 => Ext h h1 → nx g1 (.int x :: s) h1
      | 2 => asL fun x h1 => Ext h h1 → nx g1 (.long x :: s) h1
      | _ => asR fun r h1 => Ext h h1 → (r = none → nx g1 (.null :: s) h1) ∧ (∀ a, r = some a → nx g1 (.ref a :: s) h1)))
  else False
def lenOf (t : Nat) : Nat := match t with
  | 0 => 4
  | 1 => 6
  | 2 => 7
  | 3 => 3
  | 4 => 8
  | 5 => 9
  | 6 => 10
  | _ => 33
/-- one instruction: nx goes on behind it, jp at a target -/
def stp (Ev : EvT) (d g' : Nat) (rt : Option FieldType) (Q : PQ) (nx : Nat → List Value → List Value → AH → Prop) (jp : Int → Nat → List Value → List Value → AH → Prop) (g : Nat) (ls st : List Value) (h : AH) (i : Instr) : Prop := match i with
  | .iload k => lI (gL ls k) fun x => nx g ls (.int x :: st) h
  | .lload k => lJ (gL ls k) fun x => nx g ls (.long x :: st) h
  | .aload k => lA (gL ls k) fun v => nx g ls (v :: st) h
  | .istore k => pI st fun x s => nx g (stL ls k (.int x)) s h
  | .lstore k => pJ st fun x s => nx g (stL (stL ls (k + 1) unk) k (.long x)) s h
  | .astore k => pV st fun v s => lA v fun v => nx g (stL ls k v) s h
  | .iconst n => nx g ls (.int (cI n) :: st) h
  | .sipush n => nx g ls (.long (cL n) :: st) h
  | .aconst_null => nx g ls (.null :: st) h
  | .dup => pV st fun v s => bif Nat.beq v.category 1 then nx g ls (v :: v :: s) h else False
  | .dup2 => pV st fun v s => pV s fun w s => bif Nat.beq v.category 1 && Nat.beq w.category 1 then nx g ls (v :: w :: v :: w :: s) h else False
  | .pop => pV st fun v s => bif Nat.beq v.category 1 then nx g ls s h else False
  | .iadd => pI st fun y s => pI s fun x s => nx g ls (.int (x + y) :: s) h
  | .isub => pI st fun y s => pI s fun x s => nx g ls (.int (x - y) :: s) h
  | .imul => pI st fun y s => pI s fun x s => nx g ls (.int (x * y) :: s) h
  | .idiv => pI st fun y s => pI s fun x s => (¬ y = 0) ∧ nx g ls (.int (x / y) :: s) h
  | .irem => pI st fun y s => pI s fun x s => (¬ y = 0) ∧ nx g ls (.int (x - x / y * y) :: s) h
  | .iand => pI st fun y s => pI s fun x s => nx g ls (.int (x &&& y) :: s) h
  | .ior => pI st fun y s => pI s fun x s => nx g ls (.int (x ||| y) :: s) h
  | .ixor => pI st fun y s => pI s fun x s => nx g ls (.int (x ^^^ y) :: s) h
  | .ishl => pI st fun y s => pI s fun x s => nx g ls (.int (x <<< (y &&& 31)) :: s) h
  | .ishr => pI st fun y s => pI s fun x s => nx g ls (.int (x >>> (y &&& 31)) :: s) h
  | .iushr => pI st fun y s => pI s fun x s => nx g ls (.int (x.toUInt32 >>> (y.toUInt32 &&& Int32.toUInt32 31)).toInt32 :: s) h
  | .ladd => pJ st fun y s => pJ s fun x s => nx g ls (.long (x + y) :: s) h
  | .lcmp => pJ st fun y s => pJ s fun x s => nx g ls (.int (lg_cmp x y) :: s) h
  | .i2l => pI st fun x s => nx g ls (.long x.toInt64 :: s) h
  | .i2b => pI st fun x s => nx g ls (.int x.toInt8.toInt32 :: s) h
  | .i2s => pI st fun x s => nx g ls (.int x.toInt16.toInt32 :: s) h
  | .iinc k n => lI (gL ls k) fun x => nx g (stL ls k (.int (x + cI n))) st h
  | .if_icmp c t => pI st fun y s => pI s fun x s => cj c x y (jp t g ls s h) (nx g ls s h)
  | .ifCond c t => pI st fun x s => cj c x 0 (jp t g ls s h) (nx g ls s h)
  | .ifnull t => pV st fun v s => match v with
    | .null => jp t g ls s h
    | .ref _ => nx g ls s h
    | _ => False
  | .ifnonnull t => pV st fun v s => match v with
    | .null => nx g ls s h
    | .ref _ => jp t g ls s h
    | _ => False
  | .goto t => jp t g ls st h
  | .tableswitch dt lo hi offs => pI st fun x s => swT x (fun t => jp t g ls s h) lo offs.toList ∧ ((x.toInt < lo ∨ hi < x.toInt) → jp dt g ls s h)
  | .lookupswitch dt ps => pI st fun x s => lsw x (fun t => jp t g ls s h) dt ps.toList
  | .getfield r => pR st fun a s => hs h a = some (10 + r / 256, lenOf (r / 256)) ∧ (bif fRef (r % 4) then (∃ j, mr h a (r / 4 % 64) = some j ∧ nx g ls (.ref j :: s) h) else nx g ls (.int (mi h a (r / 4 % 64)) :: s) h)
  | .putfield r => (match r % 4 with
    | 0 => pI st fun x s => pR s fun a s => hs h a = some (10 + r / 256, lenOf (r / 256)) ∧ nx g ls s (wi h a (r / 4 % 64) x)
    | 1 => pR st fun j s => pR s fun a s => hs h a = some (10 + r / 256, lenOf (r / 256)) ∧ mr h a (r / 4 % 64) = none ∧ nx g ls s (wr h a (r / 4 % 64) j)
    | _ => pI st fun x s => pR s fun a s => hs h a = some (10 + r / 256, lenOf (r / 256)) ∧ isB x = true ∧ nx g ls s (wi h a (r / 4 % 64) x))
  | .iaload => pI st fun i s => pR s fun a s => (∃ t n, hs h a = some (t, n) ∧ (t = 0 ∨ t = 9) ∧ vp_in i n) ∧ nx g ls (.int (mi h a i.toNatClampNeg) :: s) h
  | .iastore => pI st fun x s => pI s fun i s => pR s fun a s => (∃ n, hs h a = some (0, n) ∧ vp_in i n) ∧ nx g ls s (wi h a i.toNatClampNeg x)
  | .laload => pI st fun i s => pR s fun a s => (∃ n, hs h a = some (1, n) ∧ vp_in i n) ∧ nx g ls (.long (ml h a i.toNatClampNeg) :: s) h
  | .lastore => pJ st fun x s => pI s fun i s => pR s fun a s => (∃ n, hs h a = some (1, n) ∧ vp_in i n) ∧ nx g ls s (wl h a i.toNatClampNeg x)
  | .baload => pI st fun i s => pR s fun a s => (∃ n, hs h a = some (2, n) ∧ vp_in i n) ∧ nx g ls (.int (mi h a i.toNatClampNeg) :: s) h
  | .bastore => pI st fun x s => pI s fun i s => pR s fun a s => (∃ n, hs h a = some (2, n) ∧ vp_in i n) ∧ nx g ls s (wi h a i.toNatClampNeg (x &&& 1))
  | .aaload => pI st fun i s => pR s fun a s => (∃ t n, hs h a = some (t, n) ∧ (t = 3 ∨ t = 4 ∨ t = 5) ∧ vp_in i n) ∧ ∃ j, mr h a i.toNatClampNeg = some j ∧ nx g ls (.ref j :: s) h
  | .aastore => pR st fun j s => pI s fun i s => pR s fun a s => (∃ t n, hs h a = some (t, n) ∧ vp_in i n ∧ ((t = 3 ∧ hs h j = some (12, 7)) ∨ (t = 4 ∧ hs h j = some (10, 4)) ∨ (t = 5 ∧ hs h j = some (13, 3)))) ∧ mr h a i.toNatClampNeg = none ∧ nx g ls s (wr h a i.toNatClampNeg j)
  | .arraylength => pR st fun a s => ∃ n, hs h a = some (9, n) ∧ nx g ls (.int (nI n) :: s) h
  | .new c => match g with
    | 0 => False
    | g1 + 1 => g' ≤ g1 ∧ nx g1 ls (.ref h.1.length :: st) (hn h (10 + c) (lenOf c))
  | .anewarray t => pI st fun x s => (¬ x < 0 ∧ x.toNatClampNeg ≤ 400) ∧ match g with
    | 0 => False
    | g1 + 1 => g' ≤ g1 ∧ nx g1 ls (.ref h.1.length :: s) (hn h t x.toNatClampNeg)
  | .invokespecial e => bif Nat.beq e 9999 then (pR st fun _ s => bif Nat.ble (wsum s) 8 then (match d with
      | 0 => False
      | _ + 1 => nx g ls s h) else False) else (pN (e / 8 % 16) st fun av s => pR s fun a s => cal Ev d g g' e (.ref a :: av) h s fun g s h => nx g ls s h)
  | .invokevirtual e => pN (e / 8 % 16) st fun av s => pR s fun a s => hs h a = some (10 + e / 128 % 16, lenOf (e / 128 % 16)) ∧ cal Ev d g g' e (.ref a :: av) h s fun g s h => nx g ls s h
  | .invokestatic e => bif Nat.beq e 9997 then (pI st fun y s => pI s fun x s => bif Nat.ble (wsum s) 8 then (match d with
      | 0 => False
      | _ + 1 => nx g ls (.int (if x < y then y else x) :: s) h) else False)
    else bif Nat.beq e 9996 then (pI st fun y s => pI s fun x s => bif Nat.ble (wsum s) 8 then (match d with
      | 0 => False
      | _ + 1 => nx g ls (.int (if y < x then y else x) :: s) h) else False)
    else bif Nat.beq e 9998 then (pI st fun n s => pI s fun dp s => pR s fun a1 s => pI s fun sp s => pR s fun a0 s => bif Nat.ble (wsum s) 8 then (match d with
      | 0 => False
      | _ + 1 => (∃ n0 n1, hs h a0 = some (0, n0) ∧ hs h a1 = some (0, n1) ∧ ¬ sp < 0 ∧ ¬ dp < 0 ∧ ¬ n < 0 ∧ sp.toNatClampNeg + n.toNatClampNeg ≤ n0 ∧ dp.toNatClampNeg + n.toNatClampNeg ≤ n1) ∧ nx g ls s (wa h a1 (va_cpy (h.2.1 a0) (h.2.1 a1) sp.toNatClampNeg dp.toNatClampNeg n.toNatClampNeg))) else False)
    else (pN (e / 8 % 16) st fun av s => cal Ev d g g' e av h s fun g s h => nx g ls s h)
  | .ireturn => pI st fun x s => nil0 s (rOK rt x (Q (.int x) h))
  | .lreturn => pJ st fun x s => nil0 s (rt = some .long ∧ Q (.long x) h)
  | .areturn => pV st fun v s => lA v fun v => nil0 s ((∃ C, rt = some (.object C)) ∧ Q v h)
  | .return_ => nil0 st (rt = none ∧ Q (.retAddr 0) h)
  | _ => False
def sufAt : List En → Nat → List En
  | [], _ => []
  | e :: l, pc => bif Nat.beq e.1 pc then e :: l else sufAt l pc
/-- the weakest precondition of the code from rem on, up to calls and loop heads -/
def wp (Ev : EvT) (d g' y : Nat) (rt : Option FieldType) (E : List En) (Q : PQ) : Nat → List En → Nat → List Value → List Value → AH → Prop
  | 0, _, _, _, _, _ => False
  | n + 1, rem, g, ls, st, h => match rem with
    | [] => False
    | (pc, i, len) :: rest => match len with
      | 0 => (match i with
        | .iload msk => Ev d g g' y pc (keepL ls msk) st h Q
        | _ => False)
      | _ + 1 => stp Ev d g' rt Q (fun g ls st h => wp Ev d g' y rt E Q n rest g ls st h) (fun t g ls st h => wp Ev d g' y rt E Q n (sufAt E t.toNat) g ls st h) g ls st h i
def skipM : List En → List En
  | (pc, i, 0) :: l => l
  | l => l
end
section
def mt0 : Mt := (⟨"", "", ""⟩, ⟨#[]⟩, 0, none, 0, [])
def mn (y : Nat) : MethodName := (Ms.getD y mt0).1
def ow (i : Nat) : String := owN.getD i ""
def fT (r : Nat) : String × String × String × Bool := match vwCl[r / 256]? with
  | some c => c.2.1 (r / 4 % 64)
  | none => ("", "", "", true)
def tabAt (p : Nat × Nat) : Option Cond := match p.1 with
  | 0 => (k2_sels lw_privs)[p.2]?
  | 1 => tables_1_1[p.2]?
  | 2 => tables_1_2[p.2]?
  | 3 => tables_1_3[p.2]?
  | 4 => tables_1_4[p.2]?
  | 5 => tables_1_5[p.2]?
  | _ => tables_1_6[p.2]?
theorem tabAt_in {p : Nat × Nat} {w : Cond} (h : tabAt p = some w) : w ∈ lw_tbl := by
  unfold lw_tbl tables_1
  obtain ⟨i, j⟩ := p
  unfold tabAt at h
  simp only [List.mem_append]
  split at h <;> have h := List.mem_of_getElem? h <;> simp only [h, true_or, or_true]
theorem pl_in {α : Type} {l : List α} {f : α → Cond} {ps : List (Nat × Nat)} (h : l.map (fun q => some (f q)) = ps.map tabAt) : ∀ q ∈ l, f q ∈ lw_tbl := by
  intro q hq
  have h1 : some (f q) ∈ l.map (fun q => some (f q)) := List.mem_map.mpr ⟨q, hq, rfl⟩
  rw [h] at h1
  obtain ⟨p, -, hp⟩ := List.mem_map.mp h1
  exact tabAt_in hp
set_option maxRecDepth 100000 in
theorem wd_code_0 : ∀ q ∈ ((Ms.drop 0).take 16), Cond.code q.1 q.2.1 q.2.2.1 q.2.2.2.1 ∈ lw_tbl := pl_in (f := fun (q : Mt) => Cond.code q.1 q.2.1 q.2.2.1 q.2.2.2.1) (ps := [(1, 181), (2, 199), (2, 207), (2, 218), (2, 237), (3, 1), (3, 6), (3, 21), (3, 25), (3, 30), (3, 37), (3, 45), (3, 122), (3, 154), (3, 158), (3, 162)]) rfl
set_option maxRecDepth 100000 in
theorem wd_code_16 : ∀ q ∈ ((Ms.drop 16).take 16), Cond.code q.1 q.2.1 q.2.2.1 q.2.2.2.1 ∈ lw_tbl := pl_in (f := fun (q : Mt) => Cond.code q.1 q.2.1 q.2.2.1 q.2.2.2.1) (ps := [(3, 167), (3, 171), (3, 180), (1, 107), (1, 112), (1, 116), (1, 120), (1, 124), (1, 128), (1, 132), (1, 142), (2, 18), (2, 30), (2, 34), (2, 38), (2, 42)]) rfl
set_option maxRecDepth 100000 in
theorem wd_code_32 : ∀ q ∈ ((Ms.drop 32).take 16), Cond.code q.1 q.2.1 q.2.2.1 q.2.2.2.1 ∈ lw_tbl := pl_in (f := fun (q : Mt) => Cond.code q.1 q.2.1 q.2.2.1 q.2.2.2.1) (ps := [(2, 56), (2, 64), (2, 68), (2, 72), (2, 79), (2, 83), (2, 87), (2, 91), (2, 95), (2, 99), (2, 112), (2, 129), (2, 133), (3, 57), (3, 65), (1, 201)]) rfl
set_option maxRecDepth 100000 in
theorem wd_code_48 : ∀ q ∈ ((Ms.drop 48).take 16), Cond.code q.1 q.2.1 q.2.2.1 q.2.2.2.1 ∈ lw_tbl := pl_in (f := fun (q : Mt) => Cond.code q.1 q.2.1 q.2.2.1 q.2.2.2.1) (ps := [(3, 218), (3, 226), (3, 230), (3, 234), (4, 7), (1, 69), (3, 81), (3, 85), (3, 89), (3, 93), (3, 98), (3, 102), (3, 106), (1, 30), (2, 161), (2, 165)]) rfl
set_option maxRecDepth 100000 in
theorem wd_code_64 : ∀ q ∈ ((Ms.drop 64).take 16), Cond.code q.1 q.2.1 q.2.2.1 q.2.2.2.1 ∈ lw_tbl := pl_in (f := fun (q : Mt) => Cond.code q.1 q.2.1 q.2.2.1 q.2.2.2.1) (ps := [(2, 168), (2, 172), (2, 176), (2, 180), (2, 184), (2, 188), (2, 192), (2, 195), (1, 16), (2, 10), (2, 14), (2, 22), (2, 26), (2, 46), (2, 52), (2, 60)]) rfl
set_option maxRecDepth 100000 in
theorem wd_code_80 : ∀ q ∈ ((Ms.drop 80).take 16), Cond.code q.1 q.2.1 q.2.2.1 q.2.2.2.1 ∈ lw_tbl := pl_in (f := fun (q : Mt) => Cond.code q.1 q.2.1 q.2.2.1 q.2.2.2.1) (ps := [(2, 104), (2, 108), (2, 116), (2, 121), (2, 125), (2, 137), (2, 141), (2, 145), (2, 149), (2, 153), (2, 157), (2, 203), (2, 211), (2, 214), (2, 222), (2, 229)]) rfl
set_option maxRecDepth 100000 in
theorem wd_code_96 : ∀ q ∈ ((Ms.drop 96).take 16), Cond.code q.1 q.2.1 q.2.2.1 q.2.2.2.1 ∈ lw_tbl := pl_in (f := fun (q : Mt) => Cond.code q.1 q.2.1 q.2.2.1 q.2.2.2.1) (ps := [(2, 233), (3, 10), (3, 14), (3, 17), (3, 34), (3, 41), (3, 49), (3, 53), (3, 61), (3, 69), (3, 73), (3, 77), (3, 110), (3, 117), (3, 150), (3, 176)]) rfl
set_option maxRecDepth 100000 in
theorem wd_code_112 : ∀ q ∈ ((Ms.drop 112).take 16), Cond.code q.1 q.2.1 q.2.2.1 q.2.2.2.1 ∈ lw_tbl := pl_in (f := fun (q : Mt) => Cond.code q.1 q.2.1 q.2.2.1 q.2.2.2.1) (ps := [(3, 184), (3, 188), (3, 192), (3, 195), (3, 199), (3, 202), (3, 206), (3, 210), (3, 214), (3, 222), (3, 238), (4, 3), (4, 11), (4, 18), (4, 22), (4, 27)]) rfl
set_option maxRecDepth 100000 in
theorem wd_code_128 : ∀ q ∈ ((Ms.drop 128).take 16), Cond.code q.1 q.2.1 q.2.2.1 q.2.2.2.1 ∈ lw_tbl := pl_in (f := fun (q : Mt) => Cond.code q.1 q.2.1 q.2.2.1 q.2.2.2.1) (ps := [(4, 32), (4, 36), (4, 140), (4, 143), (4, 147), (4, 151), (4, 155), (4, 159), (4, 163), (4, 167), (4, 170), (4, 174), (4, 178), (4, 182), (4, 186), (4, 190)]) rfl
set_option maxRecDepth 100000 in
theorem wd_code_144 : ∀ q ∈ ((Ms.drop 144).take 16), Cond.code q.1 q.2.1 q.2.2.1 q.2.2.2.1 ∈ lw_tbl := pl_in (f := fun (q : Mt) => Cond.code q.1 q.2.1 q.2.2.1 q.2.2.2.1) (ps := [(4, 194), (4, 198), (4, 202), (4, 206), (4, 210), (4, 214), (4, 218), (4, 222), (4, 226), (4, 230), (4, 234), (4, 238), (5, 2), (5, 6), (5, 10), (5, 14)]) rfl
set_option maxRecDepth 100000 in
theorem wd_code_160 : ∀ q ∈ ((Ms.drop 160).take 16), Cond.code q.1 q.2.1 q.2.2.1 q.2.2.2.1 ∈ lw_tbl := pl_in (f := fun (q : Mt) => Cond.code q.1 q.2.1 q.2.2.1 q.2.2.2.1) (ps := [(5, 20), (5, 24), (5, 27), (5, 31), (5, 35), (5, 39), (5, 42), (5, 46), (5, 50), (5, 54), (5, 58), (5, 61), (5, 65), (5, 69), (5, 73), (5, 76)]) rfl
set_option maxRecDepth 100000 in
theorem wd_code_176 : ∀ q ∈ ((Ms.drop 176).take 16), Cond.code q.1 q.2.1 q.2.2.1 q.2.2.2.1 ∈ lw_tbl := pl_in (f := fun (q : Mt) => Cond.code q.1 q.2.1 q.2.2.1 q.2.2.2.1) (ps := [(5, 80), (5, 84), (5, 88), (5, 92), (5, 96), (5, 100), (5, 104), (5, 108), (5, 112), (5, 116), (5, 120), (5, 124), (5, 128), (5, 132), (5, 136), (5, 140)]) rfl
set_option maxRecDepth 100000 in
theorem wd_code_192 : ∀ q ∈ ((Ms.drop 192).take 16), Cond.code q.1 q.2.1 q.2.2.1 q.2.2.2.1 ∈ lw_tbl := pl_in (f := fun (q : Mt) => Cond.code q.1 q.2.1 q.2.2.1 q.2.2.2.1) (ps := [(5, 144), (5, 148), (5, 153), (5, 157), (5, 161), (5, 165), (5, 169), (5, 173), (5, 181), (5, 185), (5, 189), (5, 193), (5, 197), (5, 201), (5, 205), (5, 209)]) rfl
set_option maxRecDepth 100000 in
theorem wd_code_208 : ∀ q ∈ ((Ms.drop 208).take 16), Cond.code q.1 q.2.1 q.2.2.1 q.2.2.2.1 ∈ lw_tbl := pl_in (f := fun (q : Mt) => Cond.code q.1 q.2.1 q.2.2.1 q.2.2.2.1) (ps := [(5, 213), (5, 217), (5, 221), (5, 225), (5, 229), (5, 233), (5, 237), (6, 0), (6, 5), (6, 9), (6, 13), (6, 18), (6, 22), (6, 26), (6, 31), (1, 135)]) rfl
theorem wd_code : ∀ (y : Nat) (q : Mt), y < 224 → Ms[y]? = some q → Cond.code q.1 q.2.1 q.2.2.1 q.2.2.2.1 ∈ lw_tbl := by
  intro y q hy hq
  by_cases h0 : y < 16
  · exact wd_code_0 q (List.mem_of_getElem? (i := y - 0) (by rw [List.getElem?_take_of_lt (by omega), List.getElem?_drop, show 0 + (y - 0) = y by omega]; exact hq))
  by_cases h16 : y < 32
  · exact wd_code_16 q (List.mem_of_getElem? (i := y - 16) (by rw [List.getElem?_take_of_lt (by omega), List.getElem?_drop, show 16 + (y - 16) = y by omega]; exact hq))
  by_cases h32 : y < 48
  · exact wd_code_32 q (List.mem_of_getElem? (i := y - 32) (by rw [List.getElem?_take_of_lt (by omega), List.getElem?_drop, show 32 + (y - 32) = y by omega]; exact hq))
  by_cases h48 : y < 64
  · exact wd_code_48 q (List.mem_of_getElem? (i := y - 48) (by rw [List.getElem?_take_of_lt (by omega), List.getElem?_drop, show 48 + (y - 48) = y by omega]; exact hq))
  by_cases h64 : y < 80
  · exact wd_code_64 q (List.mem_of_getElem? (i := y - 64) (by rw [List.getElem?_take_of_lt (by omega), List.getElem?_drop, show 64 + (y - 64) = y by omega]; exact hq))
  by_cases h80 : y < 96
  · exact wd_code_80 q (List.mem_of_getElem? (i := y - 80) (by rw [List.getElem?_take_of_lt (by omega), List.getElem?_drop, show 80 + (y - 80) = y by omega]; exact hq))
  by_cases h96 : y < 112
  · exact wd_code_96 q (List.mem_of_getElem? (i := y - 96) (by rw [List.getElem?_take_of_lt (by omega), List.getElem?_drop, show 96 + (y - 96) = y by omega]; exact hq))
  by_cases h112 : y < 128
  · exact wd_code_112 q (List.mem_of_getElem? (i := y - 112) (by rw [List.getElem?_take_of_lt (by omega), List.getElem?_drop, show 112 + (y - 112) = y by omega]; exact hq))
  by_cases h128 : y < 144
  · exact wd_code_128 q (List.mem_of_getElem? (i := y - 128) (by rw [List.getElem?_take_of_lt (by omega), List.getElem?_drop, show 128 + (y - 128) = y by omega]; exact hq))
  by_cases h144 : y < 160
  · exact wd_code_144 q (List.mem_of_getElem? (i := y - 144) (by rw [List.getElem?_take_of_lt (by omega), List.getElem?_drop, show 144 + (y - 144) = y by omega]; exact hq))
  by_cases h160 : y < 176
  · exact wd_code_160 q (List.mem_of_getElem? (i := y - 160) (by rw [List.getElem?_take_of_lt (by omega), List.getElem?_drop, show 160 + (y - 160) = y by omega]; exact hq))
  by_cases h176 : y < 192
  · exact wd_code_176 q (List.mem_of_getElem? (i := y - 176) (by rw [List.getElem?_take_of_lt (by omega), List.getElem?_drop, show 176 + (y - 176) = y by omega]; exact hq))
  by_cases h192 : y < 208
  · exact wd_code_192 q (List.mem_of_getElem? (i := y - 192) (by rw [List.getElem?_take_of_lt (by omega), List.getElem?_drop, show 192 + (y - 192) = y by omega]; exact hq))
  by_cases h208 : y < 224
  · exact wd_code_208 q (List.mem_of_getElem? (i := y - 208) (by rw [List.getElem?_take_of_lt (by omega), List.getElem?_drop, show 208 + (y - 208) = y by omega]; exact hq))
  omega
theorem wd_linkV : ∀ q ∈ calV, Cond.methodLink (ow q.1) q.2.1 (mn (q.2.2 / 32768)) ∈ lw_tbl := pl_in (f := fun (q : Nat × Nat × Nat) => Cond.methodLink (ow q.1) q.2.1 (mn (q.2.2 / 32768))) (ps := [(1, 109), (1, 113), (1, 117), (1, 121), (1, 125), (1, 129), (1, 139), (2, 7), (2, 11), (2, 15), (2, 19), (2, 23), (2, 27), (2, 31), (2, 35), (2, 39), (2, 43), (2, 47), (2, 48), (2, 49), (2, 53), (2, 57), (2, 61), (2, 65), (2, 69), (2, 76), (2, 80), (2, 84), (2, 88), (2, 92), (2, 96), (2, 100), (2, 101), (2, 105), (2, 109), (2, 113), (2, 117), (2, 118), (2, 122), (2, 126), (2, 130), (2, 134), (2, 138), (2, 142), (2, 146), (2, 150), (2, 154), (2, 158), (2, 162), (2, 169), (2, 173), (2, 177), (2, 181), (2, 185), (2, 189), (2, 196), (2, 200), (2, 204), (2, 208), (2, 215), (2, 219), (2, 226), (2, 230), (2, 234), (2, 238), (3, 2), (3, 3), (3, 7), (3, 11), (3, 18), (3, 22), (3, 26), (3, 27), (3, 31), (3, 38), (3, 42), (3, 46), (3, 50), (3, 54), (3, 58), (3, 62), (3, 66), (3, 70), (3, 74), (3, 78), (3, 82), (3, 86), (3, 90), (3, 94), (3, 95), (3, 99), (3, 103), (3, 107), (3, 114), (3, 151), (3, 155), (3, 159), (3, 163), (3, 164), (3, 168), (3, 172), (3, 173), (3, 177), (3, 181), (3, 185), (3, 189), (3, 196), (3, 203), (3, 207), (3, 211), (3, 215), (3, 219), (3, 223), (3, 227), (3, 231), (3, 235), (4, 0), (4, 4), (4, 8), (4, 15), (4, 19), (4, 29), (4, 33), (4, 137), (4, 148), (4, 152), (4, 156), (4, 160), (4, 164), (4, 171), (4, 175), (4, 179), (4, 183), (4, 187), (4, 191), (4, 195), (4, 199), (4, 203), (4, 207), (4, 211), (4, 215), (4, 219), (4, 223), (4, 227), (4, 231), (4, 235), (4, 239), (5, 3), (5, 7), (5, 11), (5, 17), (5, 21), (5, 28), (5, 32), (5, 36), (5, 43), (5, 47), (5, 51), (5, 55), (5, 62), (5, 66), (5, 70), (5, 77), (5, 81), (5, 85), (5, 89), (5, 93), (5, 97), (5, 101), (5, 105), (5, 109), (5, 113), (5, 117), (5, 121), (5, 125), (5, 129), (5, 133), (5, 137), (5, 141), (5, 145), (5, 150), (5, 154), (5, 158), (5, 162), (5, 166), (5, 170), (5, 178), (5, 182), (5, 186), (5, 190), (5, 194), (5, 198), (5, 202), (5, 206), (5, 210), (5, 214), (5, 218), (5, 222), (5, 226), (5, 230), (5, 234), (6, 2), (6, 6), (6, 10), (6, 15), (6, 19), (6, 23), (6, 27), (6, 28)]) (by decide +kernel)
theorem wd_instV : ∀ q ∈ calV, Cond.instanceMethod (mn (q.2.2 / 32768)) ∈ lw_tbl := pl_in (f := fun (q : Nat × Nat × Nat) => Cond.instanceMethod (mn (q.2.2 / 32768))) (ps := [(1, 111), (1, 115), (1, 119), (1, 122), (1, 127), (1, 130), (1, 141), (2, 8), (2, 13), (2, 16), (2, 20), (2, 24), (2, 28), (2, 32), (2, 36), (2, 41), (2, 44), (2, 32), (1, 122), (2, 50), (2, 54), (2, 58), (2, 62), (2, 67), (2, 71), (2, 77), (2, 82), (2, 85), (2, 89), (2, 93), (2, 98), (2, 36), (2, 102), (2, 106), (2, 110), (2, 114), (1, 130), (2, 119), (2, 124), (2, 127), (2, 131), (2, 135), (2, 139), (2, 143), (2, 147), (2, 151), (2, 156), (2, 159), (2, 164), (2, 171), (2, 175), (2, 179), (2, 183), (2, 187), (2, 191), (2, 197), (2, 201), (2, 205), (2, 209), (2, 216), (2, 221), (2, 227), (2, 231), (2, 235), (3, 0), (1, 130), (2, 131), (3, 8), (3, 12), (3, 19), (3, 24), (2, 216), (3, 28), (3, 32), (3, 39), (3, 43), (3, 47), (3, 51), (3, 55), (3, 59), (3, 63), (3, 67), (3, 71), (3, 75), (3, 79), (3, 83), (3, 88), (3, 92), (2, 127), (3, 97), (3, 100), (3, 105), (3, 108), (3, 115), (3, 152), (3, 157), (3, 161), (1, 130), (3, 165), (3, 170), (1, 122), (3, 174), (3, 178), (3, 182), (3, 186), (3, 190), (3, 197), (3, 204), (3, 208), (3, 213), (3, 216), (3, 220), (3, 224), (3, 228), (3, 232), (3, 236), (4, 1), (4, 5), (4, 9), (4, 16), (4, 20), (4, 31), (4, 35), (4, 138), (4, 149), (4, 153), (4, 158), (4, 162), (4, 166), (4, 172), (4, 176), (4, 180), (4, 185), (4, 189), (4, 193), (4, 197), (4, 201), (4, 204), (4, 209), (4, 213), (4, 217), (4, 220), (4, 225), (4, 228), (4, 232), (4, 237), (5, 0), (5, 4), (5, 9), (5, 12), (5, 18), (5, 22), (5, 30), (5, 34), (5, 38), (5, 45), (5, 49), (5, 53), (5, 57), (5, 64), (5, 67), (5, 71), (5, 78), (5, 82), (5, 87), (5, 91), (5, 94), (5, 98), (5, 103), (5, 107), (5, 111), (5, 115), (5, 119), (5, 123), (5, 126), (5, 130), (5, 134), (5, 138), (5, 142), (5, 146), (5, 151), (5, 155), (5, 160), (5, 164), (5, 168), (5, 171), (5, 179), (5, 184), (5, 188), (5, 192), (5, 196), (5, 200), (5, 204), (5, 207), (5, 211), (5, 215), (5, 220), (5, 223), (5, 227), (5, 231), (5, 235), (6, 3), (6, 8), (6, 11), (6, 16), (6, 20), (6, 24), (4, 153), (6, 29)]) (by decide +kernel)
theorem wd_sel : ∀ q ∈ calV, Cond.selects (mn (q.2.2 / 32768)).cls (mn (q.2.2 / 32768)) (mn (q.2.2 / 32768)) ∈ lw_tbl := pl_in (f := fun (q : Nat × Nat × Nat) => Cond.selects (mn (q.2.2 / 32768)).cls (mn (q.2.2 / 32768)) (mn (q.2.2 / 32768))) (ps := [(0, 0), (0, 1), (0, 2), (1, 123), (0, 3), (1, 131), (0, 4), (2, 9), (0, 5), (2, 17), (2, 21), (2, 25), (2, 29), (2, 33), (2, 37), (0, 6), (2, 45), (2, 33), (1, 123), (2, 51), (2, 55), (2, 59), (2, 63), (0, 7), (0, 8), (2, 78), (0, 9), (2, 86), (2, 90), (2, 94), (0, 10), (2, 37), (2, 103), (2, 107), (2, 111), (2, 115), (1, 131), (2, 120), (0, 11), (2, 128), (2, 132), (2, 136), (2, 140), (2, 144), (2, 148), (2, 152), (0, 12), (2, 160), (0, 13), (0, 14), (0, 15), (0, 16), (0, 17), (0, 18), (0, 19), (2, 198), (2, 202), (2, 206), (2, 210), (2, 217), (0, 20), (2, 228), (2, 232), (2, 236), (0, 21), (1, 131), (2, 132), (3, 9), (3, 13), (3, 20), (0, 22), (2, 217), (3, 29), (3, 33), (3, 40), (3, 44), (3, 48), (3, 52), (3, 56), (3, 60), (3, 64), (3, 68), (3, 72), (3, 76), (3, 80), (3, 84), (0, 23), (0, 24), (2, 128), (0, 25), (3, 101), (0, 26), (3, 109), (3, 116), (3, 153), (0, 27), (0, 28), (1, 131), (3, 166), (0, 29), (1, 123), (3, 175), (3, 179), (3, 183), (3, 187), (3, 191), (3, 198), (3, 205), (3, 209), (0, 30), (3, 217), (3, 221), (3, 225), (3, 229), (3, 233), (3, 237), (4, 2), (4, 6), (4, 10), (4, 17), (4, 21), (0, 31), (0, 32), (4, 139), (4, 150), (4, 154), (0, 33), (0, 34), (0, 35), (4, 173), (4, 177), (4, 181), (0, 36), (0, 37), (0, 38), (0, 39), (0, 40), (4, 205), (0, 41), (0, 42), (0, 43), (4, 221), (0, 44), (4, 229), (4, 233), (0, 45), (5, 1), (5, 5), (0, 46), (5, 13), (5, 19), (5, 23), (0, 47), (0, 48), (0, 49), (0, 50), (0, 51), (0, 52), (0, 53), (0, 54), (5, 68), (5, 72), (5, 79), (5, 83), (0, 55), (0, 56), (5, 95), (5, 99), (0, 57), (0, 58), (0, 59), (0, 60), (0, 61), (0, 62), (5, 127), (5, 131), (5, 135), (5, 139), (5, 143), (5, 147), (5, 152), (5, 156), (0, 63), (0, 64), (0, 65), (5, 172), (5, 180), (0, 66), (0, 67), (0, 68), (0, 69), (0, 70), (0, 71), (5, 208), (5, 212), (5, 216), (0, 72), (5, 224), (5, 228), (5, 232), (5, 236), (6, 4), (0, 73), (6, 12), (6, 17), (6, 21), (6, 25), (4, 154), (6, 30)]) (by decide +kernel)
theorem wd_iniV : ∀ q ∈ calV, Cond.initialized (mn (q.2.2 / 32768)).cls ∈ lw_tbl := pl_in (f := fun (q : Nat × Nat × Nat) => Cond.initialized (mn (q.2.2 / 32768)).cls) (ps := [(1, 4), (1, 4), (1, 4), (1, 4), (1, 4), (1, 4), (1, 4), (1, 1), (1, 1), (1, 4), (1, 1), (1, 1), (1, 4), (1, 4), (1, 4), (1, 4), (1, 1), (1, 4), (1, 4), (1, 1), (1, 4), (1, 1), (1, 4), (1, 4), (1, 4), (1, 4), (1, 4), (1, 4), (1, 4), (1, 4), (1, 4), (1, 4), (1, 1), (1, 1), (1, 4), (1, 1), (1, 4), (1, 1), (1, 1), (1, 4), (1, 4), (1, 1), (1, 1), (1, 1), (1, 1), (1, 1), (1, 1), (1, 2), (1, 2), (1, 2), (1, 2), (1, 2), (1, 2), (1, 2), (1, 2), (1, 6), (1, 1), (1, 6), (1, 1), (1, 6), (1, 1), (1, 1), (1, 1), (1, 6), (1, 6), (1, 4), (1, 4), (1, 1), (1, 1), (1, 6), (1, 6), (1, 6), (1, 6), (1, 1), (1, 1), (1, 6), (1, 1), (1, 1), (1, 4), (1, 1), (1, 4), (1, 1), (1, 1), (1, 1), (1, 3), (1, 3), (1, 3), (1, 3), (1, 4), (1, 3), (1, 3), (1, 3), (1, 1), (1, 1), (1, 11), (1, 11), (1, 11), (1, 4), (1, 11), (1, 11), (1, 4), (1, 1), (1, 11), (1, 1), (1, 1), (1, 1), (1, 1), (1, 1), (1, 1), (1, 1), (1, 7), (1, 1), (1, 7), (1, 7), (1, 7), (1, 1), (1, 1), (1, 7), (1, 1), (1, 1), (1, 1), (1, 8), (1, 8), (1, 8), (1, 8), (1, 8), (1, 8), (1, 8), (1, 8), (1, 8), (1, 8), (1, 8), (1, 8), (1, 8), (1, 8), (1, 8), (1, 8), (1, 8), (1, 8), (1, 8), (1, 8), (1, 8), (1, 8), (1, 8), (1, 8), (1, 8), (1, 8), (1, 8), (1, 8), (1, 8), (1, 8), (1, 8), (1, 8), (1, 8), (1, 8), (1, 8), (1, 8), (1, 8), (1, 8), (1, 8), (1, 8), (1, 8), (1, 8), (1, 8), (1, 8), (1, 8), (1, 8), (1, 8), (1, 8), (1, 8), (1, 8), (1, 8), (1, 8), (1, 8), (1, 8), (1, 8), (1, 8), (1, 8), (1, 8), (1, 8), (1, 8), (1, 8), (1, 8), (1, 8), (1, 8), (1, 8), (1, 8), (1, 8), (1, 8), (1, 8), (1, 8), (1, 8), (1, 8), (1, 8), (1, 8), (1, 8), (1, 8), (1, 8), (1, 8), (1, 8), (1, 8), (1, 8), (1, 8), (1, 8), (1, 8), (1, 8), (1, 8), (1, 8), (1, 8)]) (by decide +kernel)
theorem wd_linkS : ∀ q ∈ calS, Cond.methodLink (ow q.1) q.2.1 (mn (q.2.2 / 32768)) ∈ lw_tbl := pl_in (f := fun (q : Nat × Nat × Nat) => Cond.methodLink (ow q.1) q.2.1 (mn (q.2.2 / 32768))) (ps := [(1, 133), (2, 166), (2, 193), (2, 212), (3, 4), (3, 15), (3, 35), (3, 148), (3, 193), (3, 200), (4, 141), (4, 145), (4, 168), (5, 25), (5, 40), (5, 59), (5, 74), (5, 238)]) (by decide +kernel)
theorem wd_stat : ∀ q ∈ calS, Cond.static (mn (q.2.2 / 32768)) ∈ lw_tbl := pl_in (f := fun (q : Nat × Nat × Nat) => Cond.static (mn (q.2.2 / 32768))) (ps := [(1, 134), (2, 167), (2, 194), (2, 213), (3, 5), (3, 16), (3, 36), (3, 149), (3, 194), (3, 201), (4, 142), (4, 146), (4, 169), (5, 26), (5, 41), (5, 60), (5, 75), (5, 239)]) (by decide +kernel)
theorem wd_iniS : ∀ q ∈ calS, Cond.initialized (mn (q.2.2 / 32768)).cls ∈ lw_tbl := pl_in (f := fun (q : Nat × Nat × Nat) => Cond.initialized (mn (q.2.2 / 32768)).cls) (ps := [(1, 5), (1, 2), (1, 2), (1, 1), (1, 6), (1, 1), (1, 6), (1, 1), (1, 1), (1, 1), (1, 8), (1, 8), (1, 8), (1, 8), (1, 8), (1, 8), (1, 8), (1, 8)]) (by decide +kernel)
theorem wd_linkI : ∀ q ∈ calI, Cond.methodLink (ow q.1) q.2.1 (mn (q.2.2 / 32768)) ∈ lw_tbl := pl_in (f := fun (q : Nat × Nat × Nat) => Cond.methodLink (ow q.1) q.2.1 (mn (q.2.2 / 32768))) (ps := [(1, 14), (1, 105), (3, 120), (4, 25)]) (by decide +kernel)
theorem wd_instI : ∀ q ∈ calI, Cond.instanceMethod (mn (q.2.2 / 32768)) ∈ lw_tbl := pl_in (f := fun (q : Nat × Nat × Nat) => Cond.instanceMethod (mn (q.2.2 / 32768))) (ps := [(1, 15), (1, 106), (3, 121), (4, 26)]) (by decide +kernel)
theorem wd_iniI : ∀ q ∈ calI, Cond.initialized (mn (q.2.2 / 32768)).cls ∈ lw_tbl := pl_in (f := fun (q : Nat × Nat × Nat) => Cond.initialized (mn (q.2.2 / 32768)).cls) (ps := [(1, 1), (1, 4), (1, 11), (1, 8)]) (by decide +kernel)
theorem wd_nest : ∀ q ∈ nesT, Cond.methodLinkNest (ow q.1) q.2.1 (mn (q.2.2 / 32768)) "ImplicationAlgebras" ∈ lw_tbl := pl_in (f := fun (q : Nat × Nat × Nat) => Cond.methodLinkNest (ow q.1) q.2.1 (mn (q.2.2 / 32768)) "ImplicationAlgebras") (ps := [(1, 28), (1, 67), (1, 179), (1, 199)]) (by decide +kernel)
theorem wd_nestI : ∀ q ∈ nesT, Cond.instanceMethod (mn (q.2.2 / 32768)) ∈ lw_tbl := pl_in (f := fun (q : Nat × Nat × Nat) => Cond.instanceMethod (mn (q.2.2 / 32768))) (ps := [(1, 29), (1, 68), (1, 180), (1, 200)]) (by decide +kernel)
theorem wd_nestN : ∀ q ∈ nesT, Cond.initialized (mn (q.2.2 / 32768)).cls ∈ lw_tbl := pl_in (f := fun (q : Nat × Nat × Nat) => Cond.initialized (mn (q.2.2 / 32768)).cls) (ps := [(1, 2), (1, 3), (1, 6), (1, 7)]) (by decide +kernel)
theorem wd_fld : ∀ q ∈ fldT, Cond.fieldLink (ow q.1) q.2.1 (fT q.2.2).1 (fT q.2.2).2.1 (fT q.2.2).2.2.1 ∈ lw_tbl := pl_in (f := fun (q : Nat × Nat × Nat) => Cond.fieldLink (ow q.1) q.2.1 (fT q.2.2).1 (fT q.2.2).2.1 (fT q.2.2).2.2.1) (ps := [(1, 32), (1, 33), (1, 34), (1, 35), (1, 36), (1, 37), (1, 38), (1, 39), (1, 40), (1, 41), (1, 42), (1, 43), (1, 44), (1, 71), (1, 72), (1, 73), (1, 74), (1, 75), (1, 76), (1, 77), (1, 78), (1, 79), (1, 80), (1, 81), (1, 82), (1, 83), (1, 84), (1, 143), (1, 144), (1, 145), (1, 146), (1, 147), (1, 148), (1, 149), (1, 150), (1, 151), (1, 152), (1, 153), (1, 154), (1, 155), (1, 156), (1, 157), (1, 158), (1, 159), (1, 160), (1, 161), (1, 162), (1, 183), (1, 184), (1, 185), (1, 186), (1, 187), (1, 188), (1, 203), (1, 204), (1, 205), (1, 206), (1, 207), (1, 208), (1, 216), (1, 217), (1, 218), (1, 219), (1, 220), (1, 221), (1, 222), (1, 223), (1, 224), (1, 225), (3, 124), (3, 125), (3, 126), (3, 127), (3, 128), (3, 129), (3, 130), (3, 131), (3, 132), (3, 133), (3, 134), (4, 37), (4, 38), (4, 39), (4, 40), (4, 41), (4, 42), (4, 43), (4, 44), (4, 45), (4, 46), (4, 47), (4, 48), (4, 49), (4, 50), (4, 51), (4, 52), (4, 53), (4, 54), (4, 55), (4, 56), (4, 57), (4, 58), (4, 59), (4, 60), (4, 61), (4, 62), (4, 63), (4, 64), (4, 65), (4, 66), (4, 67), (4, 68), (4, 69)]) (by decide +kernel)
theorem wd_cls : ∀ q ∈ clsT, Cond.classLink (ow q.1) q.2.1 (ow q.2.2) ∈ lw_tbl := pl_in (f := fun (q : Nat × Nat × Nat) => Cond.classLink (ow q.1) q.2.1 (ow q.2.2)) (ps := [(1, 12), (1, 20), (1, 22), (1, 24), (1, 26), (1, 65), (3, 118), (4, 23)]) (by decide +kernel)
theorem wd_ins : ∀ q ∈ clsT, Cond.instantiable (ow q.2.2) (lenOf q.2.2) ∈ lw_tbl := pl_in (f := fun (q : Nat × Nat × Nat) => Cond.instantiable (ow q.2.2) (lenOf q.2.2)) (ps := [(1, 13), (1, 104), (1, 178), (1, 198), (1, 27), (1, 66), (3, 119), (4, 24)]) (by decide +kernel)
theorem wd_clsN : ∀ q ∈ clsT, Cond.initialized (ow q.2.2) ∈ lw_tbl := pl_in (f := fun (q : Nat × Nat × Nat) => Cond.initialized (ow q.2.2)) (ps := [(1, 1), (1, 4), (1, 6), (1, 7), (1, 2), (1, 3), (1, 11), (1, 8)]) (by decide +kernel)
theorem wd_cst : ∀ q ∈ cstT, Cond.constant (ow q.1) q.2.1 (cI q.2.2) ∈ lw_tbl := pl_in (f := fun (q : Nat × Nat × Int) => Cond.constant (ow q.1) q.2.1 (cI q.2.2)) (ps := [(1, 136), (1, 137), (1, 138)]) (by decide +kernel)
theorem wd_csl : ∀ q ∈ csLT, Cond.constantLong (ow q.1) q.2.1 (cL q.2.2) ∈ lw_tbl := pl_in (f := fun (q : Nat × Nat × Int) => Cond.constantLong (ow q.1) q.2.1 (cL q.2.2)) (ps := [(3, 111), (3, 112), (3, 113), (3, 239), (4, 144), (5, 15), (5, 16), (5, 149), (5, 174), (5, 175), (5, 176), (5, 177), (6, 1), (6, 14)]) (by decide +kernel)
theorem wd_obj : ∀ q ∈ objT, Cond.methodLink (ow q.1) q.2.1 objectInit ∈ lw_tbl := pl_in (f := fun (q : Nat × Nat × Nat) => Cond.methodLink (ow q.1) q.2.1 objectInit) (ps := [(1, 17), (1, 31), (1, 70), (1, 108), (1, 182), (1, 202), (3, 123), (4, 28)]) (by decide +kernel)
def acpy : MethodName := ⟨"java/lang/System", "arraycopy", "(Ljava/lang/Object;ILjava/lang/Object;II)V"⟩
theorem wd_cpy : ∀ q ∈ cpyT, Cond.methodLink (ow q.1) q.2.1 acpy ∈ lw_tbl := pl_in (f := fun (q : Nat × Nat × Nat) => Cond.methodLink (ow q.1) q.2.1 acpy) (ps := [(2, 223)]) (by decide +kernel)
theorem wd_mx : ∀ q ∈ mxxT, Cond.methodLink (ow q.1) q.2.1 Lib.Math.max.name ∈ lw_tbl := pl_in (f := fun (q : Nat × Nat × Nat) => Cond.methodLink (ow q.1) q.2.1 Lib.Math.max.name) (ps := [(2, 73)]) (by decide +kernel)
theorem wd_mn : ∀ q ∈ mnnT, Cond.methodLink (ow q.1) q.2.1 Lib.Math.min.name ∈ lw_tbl := pl_in (f := fun (q : Nat × Nat × Nat) => Cond.methodLink (ow q.1) q.2.1 Lib.Math.min.name) (ps := [(4, 12)]) (by decide +kernel)
theorem wd_mxs : Cond.static Lib.Math.max.name ∈ lw_tbl := tabAt_in (p := (2, 74)) (by decide +kernel)
theorem wd_mns : Cond.static Lib.Math.min.name ∈ lw_tbl := tabAt_in (p := (4, 13)) (by decide +kernel)
theorem wd_mxc : Cond.code Lib.Math.max.name Lib.Math.max.code 2 (some .int) ∈ lw_tbl := tabAt_in (p := (2, 75)) (by decide +kernel)
theorem wd_mnc : Cond.code Lib.Math.min.name Lib.Math.min.code 2 (some .int) ∈ lw_tbl := tabAt_in (p := (4, 14)) (by decide +kernel)
theorem wd_mi : Cond.initialized "java/lang/Math" ∈ lw_tbl := tabAt_in (p := (1, 9)) (by decide +kernel)
theorem wd_oi : Cond.instanceMethod objectInit ∈ lw_tbl := tabAt_in (p := (1, 18)) (by decide +kernel)
theorem wd_oc : Cond.code objectInit ⟨#[0xb1]⟩ 1 none ∈ lw_tbl := tabAt_in (p := (1, 19)) (by decide +kernel)
theorem wd_cs : Cond.static acpy ∈ lw_tbl := tabAt_in (p := (2, 224)) (by decide +kernel)
theorem wd_cn : Cond.native acpy ∈ lw_tbl := tabAt_in (p := (2, 225)) (by decide +kernel)
theorem wd_ci : Cond.initialized "java/lang/System" ∈ lw_tbl := tabAt_in (p := (1, 10)) (by decide +kernel)
theorem wd_arr_int : Cond.arrayClass .int ∈ lw_tbl := tabAt_in (p := (1, 64)) (by decide +kernel)
theorem wd_arr_long : Cond.arrayClass .long ∈ lw_tbl := tabAt_in (p := (1, 102)) (by decide +kernel)
theorem wd_arr_boolean : Cond.arrayClass .boolean ∈ lw_tbl := tabAt_in (p := (1, 103)) (by decide +kernel)
theorem wd_ov2 : Cond.arrayOver (.object "ImplicationAlgebras$Poset") ∈ lw_tbl := tabAt_in (p := (1, 21)) (by decide +kernel)
theorem wd_ov0 : Cond.arrayOver (.object "ImplicationAlgebras$Formula") ∈ lw_tbl := tabAt_in (p := (1, 23)) (by decide +kernel)
theorem wd_ov3 : Cond.arrayOver (.object "ImplicationAlgebras$Row") ∈ lw_tbl := tabAt_in (p := (1, 25)) (by decide +kernel)
theorem wd_lay0 : ∀ w ∈ u_ws RX0 TX0 4, w ∈ lw_tbl := fun w h => by
  have h1 := pl_in (l := List.range 4) (f := u_lay RX0 TX0) (ps := [(1, 189), (1, 191), (1, 193), (1, 195)]) (by decide +kernel)
  obtain ⟨k, hk, rfl⟩ := List.mem_map.mp h
  exact h1 k hk
theorem wd_in0 : Cond.instantiable RX0 4 ∈ lw_tbl := tabAt_in (p := (1, 178)) (by decide +kernel)
theorem wd_lay1 : ∀ w ∈ u_ws RX1 TX1 6, w ∈ lw_tbl := fun w h => by
  have h1 := pl_in (l := List.range 6) (f := u_lay RX1 TX1) (ps := [(3, 135), (3, 137), (3, 139), (3, 141), (3, 143), (3, 145)]) (by decide +kernel)
  obtain ⟨k, hk, rfl⟩ := List.mem_map.mp h
  exact h1 k hk
theorem wd_in1 : Cond.instantiable RX1 6 ∈ lw_tbl := tabAt_in (p := (3, 119)) (by decide +kernel)
theorem wd_lay2 : ∀ w ∈ u_ws RX2 TX2 7, w ∈ lw_tbl := fun w h => by
  have h1 := pl_in (l := List.range 7) (f := u_lay RX2 TX2) (ps := [(1, 163), (1, 165), (1, 167), (1, 169), (1, 171), (1, 173), (1, 175)]) (by decide +kernel)
  obtain ⟨k, hk, rfl⟩ := List.mem_map.mp h
  exact h1 k hk
theorem wd_in2 : Cond.instantiable RX2 7 ∈ lw_tbl := tabAt_in (p := (1, 104)) (by decide +kernel)
theorem wd_lay3 : ∀ w ∈ u_ws RX3 TX3 3, w ∈ lw_tbl := fun w h => by
  have h1 := pl_in (l := List.range 3) (f := u_lay RX3 TX3) (ps := [(1, 209), (1, 211), (1, 213)]) (by decide +kernel)
  obtain ⟨k, hk, rfl⟩ := List.mem_map.mp h
  exact h1 k hk
theorem wd_in3 : Cond.instantiable RX3 3 ∈ lw_tbl := tabAt_in (p := (1, 198)) (by decide +kernel)
theorem wd_lay4 : ∀ w ∈ u_ws RX4 TX4 8, w ∈ lw_tbl := fun w h => by
  have h1 := pl_in (l := List.range 8) (f := u_lay RX4 TX4) (ps := [(1, 85), (1, 87), (1, 89), (1, 91), (1, 93), (1, 95), (1, 97), (1, 99)]) (by decide +kernel)
  obtain ⟨k, hk, rfl⟩ := List.mem_map.mp h
  exact h1 k hk
theorem wd_in4 : Cond.instantiable RX4 8 ∈ lw_tbl := tabAt_in (p := (1, 66)) (by decide +kernel)
theorem wd_lay5 : ∀ w ∈ u_ws RX5 TX5 9, w ∈ lw_tbl := fun w h => by
  have h1 := pl_in (l := List.range 9) (f := u_lay RX5 TX5) (ps := [(1, 45), (1, 47), (1, 49), (1, 51), (1, 53), (1, 55), (1, 57), (1, 59), (1, 61)]) (by decide +kernel)
  obtain ⟨k, hk, rfl⟩ := List.mem_map.mp h
  exact h1 k hk
theorem wd_in5 : Cond.instantiable RX5 9 ∈ lw_tbl := tabAt_in (p := (1, 27)) (by decide +kernel)
theorem wd_lay6 : ∀ w ∈ u_ws RX6 TX6 10, w ∈ lw_tbl := fun w h => by
  have h1 := pl_in (l := List.range 10) (f := u_lay RX6 TX6) (ps := [(1, 226), (1, 228), (1, 230), (1, 232), (1, 234), (1, 236), (1, 238), (2, 0), (2, 2), (2, 4)]) (by decide +kernel)
  obtain ⟨k, hk, rfl⟩ := List.mem_map.mp h
  exact h1 k hk
theorem wd_in6 : Cond.instantiable RX6 10 ∈ lw_tbl := tabAt_in (p := (1, 13)) (by decide +kernel)
theorem wd_lay7 : ∀ w ∈ u_ws RX7 TX7 33, w ∈ lw_tbl := fun w h => by
  have h1 := pl_in (l := List.range 33) (f := u_lay RX7 TX7) (ps := [(4, 70), (4, 72), (4, 74), (4, 76), (4, 78), (4, 80), (4, 82), (4, 84), (4, 86), (4, 88), (4, 90), (4, 92), (4, 94), (4, 96), (4, 98), (4, 100), (4, 102), (4, 104), (4, 106), (4, 108), (4, 110), (4, 112), (4, 114), (4, 116), (4, 118), (4, 120), (4, 122), (4, 124), (4, 126), (4, 128), (4, 130), (4, 132), (4, 134)]) (by decide +kernel)
  obtain ⟨k, hk, rfl⟩ := List.mem_map.mp h
  exact h1 k hk
theorem wd_in7 : Cond.instantiable RX7 33 ∈ lw_tbl := tabAt_in (p := (4, 24)) (by decide +kernel)
/-- what the number of a callee must say of it -/
def eOK (e : Nat) : Bool := match Ms[e / 32768]? with
  | some q => Nat.blt (e / 32768) 224 && decide ((parseMethodDescriptor q.1.desc).map (fun d => d.parameters.length) = some (e / 8 % 16)) && (match e % 8, q.2.2.2.1 with
    | 0, none => true
    | 1, some .int => true
    | 1, some .boolean => true
    | 2, some .long => true
    | 3, some (.object _) => true
    | _, _ => false) && plainName q.1.cls && decide (q.1.cls ≠ "java/lang/invoke/MethodHandle") && decide (q.1.cls ≠ "java/lang/invoke/VarHandle") && Nat.ble q.2.2.1 30 && Nat.ble (e / 2048 % 16) q.2.2.1
  | none => false
def eOKV (e : Nat) : Bool := eOK e && decide ((vwCl[e / 128 % 16]?).map (fun c => c.1) = some (mn (e / 32768)).cls)
def eOKI (e : Nat) : Bool := eOK e && decide ((mn (e / 32768)).name = "<init>") && Nat.beq (e % 8) 0 && !(Nat.beq e 9999)
theorem ok_V : calV.all (fun q => eOKV q.2.2) = true := by decide +kernel
theorem ok_S : calS.all (fun q => eOK q.2.2 && !(Nat.beq q.2.2 9998) && !(Nat.beq q.2.2 9997) && !(Nat.beq q.2.2 9996)) = true := by decide +kernel
theorem ok_I : calI.all (fun q => eOKI q.2.2) = true := by decide +kernel
theorem ok_N : nesT.all (fun q => eOKI q.2.2) = true := by decide +kernel
theorem ok_O : objT.all (fun q => Nat.beq q.2.2 9999) = true := by decide +kernel
theorem ok_X : mxxT.all (fun q => Nat.beq q.2.2 9997) = true := by decide +kernel
theorem ok_M : mnnT.all (fun q => Nat.beq q.2.2 9996) = true := by decide +kernel
theorem ok_C : cpyT.all (fun q => Nat.beq q.2.2 9998) = true := by decide +kernel
theorem ok_own : Ms.all (fun q => decide (q.1.cls = ow q.2.2.2.2.1)) = true := by decide +kernel
/-- the field that a number means: its class, its place, its kind -/
def fOK (r : Nat) : Bool := match vwCl[r / 256]? with
  | some c => Nat.blt (r / 4 % 64) c.2.2 && Nat.beq c.2.2 (lenOf (r / 256)) && Nat.blt (r / 256) 8 && decide (c.1 = ow (r / 256)) && decide ((c.2.1 (r / 4 % 64)).1 = c.1) && (match parseFieldDescriptor (c.2.1 (r / 4 % 64)).2.2.1, r % 4 with
    | some .int, 0 => true
    | some (.array _), 1 => true
    | some (.object _), 1 => true
    | some .boolean, 2 => true
    | _, _ => false)
  | none => false
theorem ok_F : fldT.all (fun q => fOK q.2.2) = true := by decide +kernel
theorem ok_K : clsT.all (fun q => Nat.blt q.2.2 8) = true := by decide +kernel
end
section
/-! the relation of the abstract machine to the machine, and Ev -/
def rho (b B a : Nat) : Nat := match a with
  | 0 => b
  | i + 1 => B + i
def trV (b B : Nat) (v : Value) : Value := match v with
  | .ref a => .ref (rho b B a)
  | v => v
def isU (v : Value) : Bool := match v with
  | .float _ => true
  | _ => false
theorem trV_cat (b B : Nat) (v : Value) : (trV b B v).category = v.category := by cases v <;> rfl
def tyA (ci k : Nat) : FieldType := match ci with
  | 0 => tyX0 k
  | 1 => tyX1 k
  | 2 => tyX2 k
  | 3 => tyX3 k
  | 4 => tyX4 k
  | 5 => tyX5 k
  | 6 => tyX6 k
  | _ => tyX7 k
def isRefT (t : FieldType) : Bool := match t with
  | .object _ => true
  | .array _ => true
  | _ => false
def fvl (b B : Nat) (h : AH) (a ci k : Nat) : Value := bif isRefT (tyA ci k) then va_rf ((h.2.2.2 a k).map (rho b B)) else .int (h.2.1 a k)
def eOf (cA : Nat → ClassId) (b B : Nat) (h : AH) (a : Nat) (q : Nat × Nat) : va_E := match q.1 with
  | 0 => .inl (cA 0, q.2, .inl (h.2.1 a))
  | 1 => .inl (cA 1, q.2, .inr (.inl (h.2.2.1 a)))
  | 2 => .inl (cA 2, q.2, .inl (h.2.1 a))
  | 3 => .inl (cA 3, q.2, .inr (.inr (.inr (.inr fun j => (h.2.2.2 a j).map (rho b B)))))
  | 4 => .inl (cA 4, q.2, .inr (.inr (.inr (.inr fun j => (h.2.2.2 a j).map (rho b B)))))
  | 5 => .inl (cA 5, q.2, .inr (.inr (.inr (.inr fun j => (h.2.2.2 a j).map (rho b B)))))
  | t => .inr (t - 10, (List.range q.2).map (fvl b B h a (t - 10)))
def scrR (cS : ClassId) (b : Nat) (h : AH) (H : Heap) : Prop := ∃ (L : Nat) (scr : Cell), h.1[0]? = some (9, L) ∧ H[b]? = some scr ∧ scr.cls = cS ∧ scr.vm ≠ .unknown ∧ (∀ k, scr.vm ≠ .statics k) ∧ scr.slots.size = L ∧ ∀ j, j < L → scr.slots[j]? = some (.int (h.2.1 0 j))
def HR (D : va_G) (cA : Nat → ClassId) (cS : ClassId) (b B : Nat) (h : AH) (H : Heap) : Prop :=
  H.size + 1 = B + h.1.length ∧ b < B ∧ scrR cS b h H ∧ ∀ (a : Nat) (q : Nat × Nat), h.1[a + 1]? = some q → q.1 ≠ 9 ∧ va_at D vwCl (B + a, eOf cA b B h (a + 1) q) H
def tysL (cA : Nat → ClassId) : List (ClassId × FieldType) := [(cA 0, .int), (cA 1, .long), (cA 2, .boolean), (cA 3, .object RX2), (cA 4, .object RX0), (cA 5, .object RX3)]
def TB (D : va_G) (cA : Nat → ClassId) (cS : ClassId) (U : State) : Prop :=
  va_K D vwCl (tysL cA) U ∧ (∀ q ∈ nesT, va_Nw (.methodLinkNest (ow q.1) q.2.1 (mn (q.2.2 / 32768)) "ImplicationAlgebras") U) ∧ (va_AO RX2 U ∧ va_AO RX0 U ∧ va_AO RX3 U) ∧ ∃ (k : Class) (comp : ClassId), U.vm.classes[cS]? = some k ∧ k.kind = .array comp .int
theorem TB.moved {D : va_G} {cA : Nat → ClassId} {cS : ClassId} {u U : State} (hW : u.WarmedH U.vm) (h : TB D cA cS u) : TB D cA cS U := by
  obtain ⟨h1, h2, ⟨h3, h4, h5⟩, k, comp, h6, h7⟩ := h
  have hvm := hW.alike
  obtain ⟨k', hk', he⟩ := hvm.2.2 _ _ h6
  exact ⟨va_K.moved hvm h1, fun q hq => va_Nw.warmM hW (h2 q hq), ⟨h3.moved hvm, h4.moved hvm, h5.moved hvm⟩, k', comp, hk', by rw [he]; exact h7⟩
theorem TB.same {D : va_G} {cA : Nat → ClassId} {cS : ClassId} {u U : State} (hvm : u.vm = U.vm) (h : TB D cA cS u) : TB D cA cS U := by
  obtain ⟨h1, h2, ⟨h3, h4, h5⟩, k, comp, h6, h7⟩ := h
  have ha : u.vm.Alike U.vm := by rw [hvm]; exact Vm.Alike.refl _
  exact ⟨va_K.moved ha h1, fun q hq => va_Nw.same rfl hvm (h2 q hq), ⟨h3.moved ha, h4.moved ha, h5.moved ha⟩, k, comp, by rw [← hvm]; exact h6, h7⟩
def GWL : List Cond := lw_tbl.filter goodWord
theorem gw_in {w : Cond} (h : w ∈ lw_tbl) (hg : goodWord w = true) : w ∈ GWL := List.mem_filter.mpr ⟨h, hg⟩
theorem gw_good : ∀ w ∈ GWL, (w.onTables && w.keeps) = true ∨ ∃ ty, w = .arrayClass ty := fun w h => good_of_word (List.mem_filter.mp h).2
def CX (p : Program) (s : State) (m : MethodId) (args : Array Value) (meth : Method) (c : Code) (q : Mt) : Prop :=
  p.tables.exec = Jvm.exec ∧ c.code = q.2.1 ∧ c.maxLocals = q.2.2.1 ∧ meth.sig.returnType = q.2.2.2.1 ∧ s.vm.findClass (ow q.2.2.2.2.1) = some m.cls ∧ (q.1.name = "<init>" → meth.name = "<init>") ∧ meth.locks = false ∧ ∀ w ∈ GWL, w.before args s = true
def enL (b B : Nat) : Nat → List Value → List (Nat × Value)
  | _, [] => []
  | i, v :: l => bif isU v then enL b B (i + 1) l else (i, trV b B v) :: enL b B (i + 1) l
def LR (b B : Nat) (lsC : Array Slot) (n : Nat) (ls : List Value) : Prop := lv_has lsC n (enL b B 0 ls)
def retI (v : Value) : Instr := match v with
  | .int _ => .ireturn
  | .long _ => .lreturn
  | .retAddr _ => .return_
  | _ => .areturn
def retS (b B : Nat) (v : Value) : List Value := match v with
  | .retAddr _ => []
  | v => [trV b B v]
def vOK (rt : Option FieldType) (v : Value) : Prop := match v with
  | .int x => rt = some .int ∨ (rt = some .boolean ∧ isB x = true)
  | .long _ => rt = some .long
  | .retAddr _ => rt = none
  | .ref _ => ∃ C, rt = some (.object C)
  | .null => ∃ C, rt = some (.object C)
  | _ => False
/-- from this point of method y, with the locals, the stack and the heap, the method ends, and Q holds of its answer and its heap -/
def Ev (d g g' y pc : Nat) (ls st : List Value) (h : AH) (Q : PQ) : Prop :=
  ∀ (q : Mt) (l : Launch) (D : va_G) (cA : Nat → ClassId) (cS : ClassId) (b B : Nat) (p : Program) (e : Env) (R : Room) (s : State) (m : MethodId) (args : Array Value) (below : List Frame) (meth : Method) (c : Code) (H : Heap) (locs : List Loc) (cells slots : Nat) (Z : State → Prop) (mc ms : Nat) (lsC : Array Slot) (h0 : AH),
    Ms[y]? = some q → CX p s m args meth c q → TB D cA cS s → HR D cA cS b B h H → (∀ x ∈ locs, B ≤ x.base) → Ext h0 h → LR b B lsC q.2.2.1 ls → d ≤ R.frames → 60 * d ≤ R.locals → g' ≤ g → cells + (g - g') ≤ mc → slots + 400 * (g - g') ≤ ms → mc ≤ R.cells → ms ≤ R.slots →
    (∀ (v : Value) (h1 : AH) (H1 : Heap) (locs1 : List Loc) (pc1 : Nat) (lsC1 : Array Slot), Q v h1 → Ext h0 h1 → HR D cA cS b B h1 H1 → (∀ x ∈ locs1, B ≤ x.base) → vOK q.2.2.2.1 v → decode q.2.1 pc1 = .ok (retI v, 1) → W p l e R s m args below meth c H1 locs1 mc ms Z (F0 m pc1 lsC1 (retS b B v))) →
    W p l e R s m args below meth c H locs cells slots Z (F0 m pc lsC (st.map (trV b B)))
/-! locals -/
theorem enL_mem {b B : Nat} {j : Nat} {w : Value} : ∀ (l : List Value) (i : Nat), (j, w) ∈ enL b B i l ↔ ∃ k v, l[k]? = some v ∧ isU v = false ∧ j = i + k ∧ w = trV b B v
  | [], i => by simp [enL]
  | a :: l, i => by
    have ih := enL_mem (b := b) (B := B) (j := j) (w := w) l (i + 1)
    unfold enL
    cases hu : isU a with
    | true =>
      simp only [cond_true]
      rw [ih]
      constructor
      · rintro ⟨k, v, h1, h2, h3, h4⟩
        exact ⟨k + 1, v, by simpa using h1, h2, by omega, h4⟩
      · rintro ⟨k, v, h1, h2, h3, h4⟩
        cases k with
        | zero => simp at h1; subst h1; rw [hu] at h2; cases h2
        | succ k => exact ⟨k, v, by simpa using h1, h2, by omega, h4⟩
    | false =>
      simp only [cond_false, List.mem_cons]
      rw [ih]
      constructor
      · rintro (h | ⟨k, v, h1, h2, h3, h4⟩)
        · cases h
          exact ⟨0, a, rfl, hu, by omega, rfl⟩
        · exact ⟨k + 1, v, by simpa using h1, h2, by omega, h4⟩
      · rintro ⟨k, v, h1, h2, h3, h4⟩
        cases k with
        | zero =>
          simp at h1
          subst h1
          left
          simp only [Nat.add_zero] at h3
          rw [h3, h4]
        | succ k => exact Or.inr ⟨k, v, by simpa using h1, h2, by omega, h4⟩
theorem gL_get : ∀ (ls : List Value) (k : Nat), isU (gL ls k) = false → ls[k]? = some (gL ls k)
  | [], k, h => by simp [gL, isU] at h
  | v :: l, 0, h => rfl
  | v :: l, k + 1, h => by
    have := gL_get l k h
    simpa [gL] using this
theorem LR.get {b B n k : Nat} {lsC : Array Slot} {ls : List Value} {v : Value} (h : LR b B lsC n ls) (hg : gL ls k = v) (hv : isU v = false) : lsC[k]? = some (.val (trV b B v)) := by
  have h1 := gL_get ls k (by rw [hg]; exact hv)
  rw [hg] at h1
  exact h.2.2 (k, trV b B v) ((enL_mem ls 0).mpr ⟨k, v, h1, hv, by omega, rfl⟩)
theorem stL_get (v : Value) : ∀ (k : Nat) (ls : List Value) (j : Nat) (w : Value), (stL ls k v)[j]? = some w → isU w = false → (j = k ∧ w = v) ∨ (j ≠ k ∧ ls[j]? = some w ∧ ¬ (j + 1 = k ∧ w.category = 2)) := by
  intro k
  induction k with
  | zero =>
    intro ls j w h hu
    cases ls with
    | nil =>
      cases j with
      | zero => simp [stL] at h; exact Or.inl ⟨rfl, h.symm⟩
      | succ j => simp [stL] at h
    | cons a l =>
      cases j with
      | zero => simp [stL] at h; exact Or.inl ⟨rfl, h.symm⟩
      | succ j => exact Or.inr ⟨by omega, by simpa [stL] using h, by omega⟩
  | succ k ih =>
    intro ls j w h hu
    cases ls with
    | nil =>
      cases j with
      | zero => simp [stL] at h; subst h; simp [isU] at hu
      | succ j =>
        have h1 : (stL [] k v)[j]? = some w := by simpa [stL] using h
        rcases ih [] j w h1 hu with h2 | h2
        · exact Or.inl ⟨by omega, h2.2⟩
        · simp at h2
    | cons a l =>
      cases k with
      | zero =>
        cases j with
        | zero =>
          have h1 : kl2 a = w := by simpa [stL] using h
          unfold kl2 at h1
          cases hc : Nat.beq a.category 2 with
          | true => rw [hc] at h1; simp only [cond_true] at h1; subst h1; simp [isU] at hu
          | false =>
            rw [hc] at h1
            simp only [cond_false] at h1
            subst h1
            exact Or.inr ⟨by omega, rfl, fun q => by rw [q.2] at hc; cases hc⟩
        | succ j =>
          have h1 : (stL l 0 v)[j]? = some w := by simpa [stL] using h
          rcases ih l j w h1 hu with h2 | h2
          · exact Or.inl ⟨by omega, h2.2⟩
          · exact Or.inr ⟨by omega, by simpa using h2.2.1, fun q => h2.2.2 ⟨by omega, q.2⟩⟩
      | succ k =>
        cases j with
        | zero => exact Or.inr ⟨by omega, by simpa [stL] using h, by omega⟩
        | succ j =>
          have h1 : (stL l (k + 1) v)[j]? = some w := by simpa [stL] using h
          rcases ih l j w h1 hu with h2 | h2
          · exact Or.inl ⟨by omega, h2.2⟩
          · exact Or.inr ⟨by omega, by simpa using h2.2.1, fun q => h2.2.2 ⟨by omega, q.2⟩⟩
theorem keepL_get : ∀ (ls : List Value) (m j : Nat) (w : Value), (keepL ls m)[j]? = some w → isU w = false → ls[j]? = some w
  | [], m, j, w, h, hu => by simp [keepL] at h
  | a :: l, m, j, w, h, hu => by
    unfold keepL at h
    cases h0 : Nat.beq m 0 with
    | true => rw [h0] at h; simp at h
    | false =>
      rw [h0] at h
      simp only [cond_false] at h
      cases j with
      | zero =>
        simp only [List.getElem?_cons_zero, Option.some.injEq] at h
        cases h1 : Nat.beq (m % 2) 1 with
        | true => rw [h1] at h; simp only [cond_true] at h; rw [← h]; rfl
        | false => rw [h1] at h; simp only [cond_false] at h; subst h; simp [isU] at hu
      | succ j =>
        simp only [List.getElem?_cons_succ] at h ⊢
        exact keepL_get l (m / 2) j w h hu
theorem lv_has.sub {lsC : Array Slot} {n : Nat} {l l' : List (Nat × Value)} (h : lv_has lsC n l) (hs : ∀ q ∈ l', q ∈ l) : lv_has lsC n l' := ⟨h.1, h.2.1, fun q hq => h.2.2 q (hs q hq)⟩
theorem LR.keep {b B n m : Nat} {lsC : Array Slot} {ls : List Value} (h : LR b B lsC n ls) : LR b B lsC n (keepL ls m) := by
  refine lv_has.sub h fun q hq => ?_
  obtain ⟨j, w⟩ := q
  obtain ⟨k, v, h1, h2, h3, h4⟩ := (enL_mem _ 0).mp hq
  exact (enL_mem _ 0).mpr ⟨k, v, keepL_get _ _ _ _ h1 h2, h2, h3, h4⟩
theorem LR.st1 {b B n k : Nat} {ls : List Value} {v : Value} {lsC' : Array Slot} (h : lv_has lsC' n ((k, trV b B v) :: (enL b B 0 ls).filter (fun q => !(q.1 == k) && !(q.1 + 1 == k && q.2.category == 2)))) : LR b B lsC' n (stL ls k v) := by
  refine lv_has.sub h fun q hq => ?_
  obtain ⟨j, w⟩ := q
  obtain ⟨i, u, h1, h2, h3, h4⟩ := (enL_mem _ 0).mp hq
  have hj : j = i := by omega
  subst hj
  rcases stL_get v k ls j u h1 h2 with ⟨e1, e2⟩ | ⟨e1, e2, e3⟩
  · rw [e1, h4, e2]
    exact List.mem_cons_self
  · refine List.mem_cons_of_mem _ (List.mem_filter.mpr ⟨(enL_mem _ 0).mpr ⟨j, u, e2, h2, by omega, h4⟩, ?_⟩)
    have e4 : (j == k) = false := by simpa using e1
    simp only [e4, Bool.not_false, Bool.true_and, Bool.not_eq_true', Bool.and_eq_false_imp]
    intro e5
    have e5 : j + 1 = k := by simpa using e5
    rw [h4, trV_cat]
    simpa using fun e6 => e3 ⟨e5, e6⟩
theorem LR.st2 {b B n k : Nat} {ls : List Value} {x : Int64} {lsC' : Array Slot} (h : lv_has lsC' n ((k, Value.long x) :: (enL b B 0 ls).filter (fun q => !(q.1 == k) && (!(q.1 == k + 1) && !(q.1 + 1 == k && q.2.category == 2))))) : LR b B lsC' n (stL (stL ls (k + 1) unk) k (.long x)) := by
  refine lv_has.sub h fun q hq => ?_
  obtain ⟨j, w⟩ := q
  obtain ⟨i, u, h1, h2, h3, h4⟩ := (enL_mem _ 0).mp hq
  have hj : j = i := by omega
  subst hj
  rcases stL_get _ k _ j u h1 h2 with ⟨e1, e2⟩ | ⟨e1, e2, e3⟩
  · rw [e1, h4, e2]
    exact List.mem_cons_self
  · rcases stL_get _ (k + 1) _ j u e2 h2 with ⟨f1, f2⟩ | ⟨f1, f2, f3⟩
    · rw [f2] at h2
      cases h2
    · refine List.mem_cons_of_mem _ (List.mem_filter.mpr ⟨(enL_mem _ 0).mpr ⟨j, u, f2, h2, by omega, h4⟩, ?_⟩)
      have e4 : (j == k) = false := by simpa using e1
      have f4 : (j == k + 1) = false := by simpa using f1
      simp only [e4, f4, Bool.not_false, Bool.true_and, Bool.not_eq_true', Bool.and_eq_false_imp]
      intro e5
      have e5 : j + 1 = k := by simpa using e5
      rw [h4, trV_cat]
      simpa using fun e6 => e3 ⟨e5, e6⟩
theorem exL_args {b B : Nat} : ∀ (av : List Value) (i : Nat), ∀ q ∈ enL b B i (exL av), q ∈ lv_args i (av.map (trV b B))
  | [], i, q, h => by simp [exL, enL] at h
  | v :: l, i, q, h => by
    unfold exL at h
    cases hc : Nat.beq v.category 2 with
    | true =>
      have hc2 : v.category = 2 := Nat.eq_of_beq_eq_true hc
      rw [hc] at h
      simp only [cond_true] at h
      have hv : isU v = false := by cases v <;> first | rfl | (simp [Value.category] at hc2)
      have e : enL b B i (v :: unk :: exL l) = (i, trV b B v) :: enL b B (i + 2) (exL l) := by
        show (bif isU v then _ else _) = _
        rw [hv]
        rfl
      rw [e] at h
      simp only [List.map_cons, lv_args, trV_cat, hc2, if_true, List.mem_cons]
      rcases List.mem_cons.mp h with h | h
      · exact Or.inl h
      · exact Or.inr (exL_args l (i + 2) q h)
    | false =>
      rw [hc] at h
      simp only [cond_false] at h
      have hc2 : ¬ v.category = 2 := fun e => by rw [e] at hc; cases hc
      simp only [List.map_cons, lv_args, trV_cat, if_neg hc2, List.mem_cons]
      unfold enL at h
      cases hu : isU v with
      | true => rw [hu] at h; simp only [cond_true] at h; exact Or.inr (exL_args l (i + 1) q h)
      | false =>
        rw [hu] at h
        simp only [cond_false, List.mem_cons] at h
        rcases h with h | h
        · exact Or.inl h
        · exact Or.inr (exL_args l (i + 1) q h)
theorem sl_len {b B : Nat} : ∀ (av : List Value), (lg_sl (av.map (trV b B))).length = wsum av
  | [] => rfl
  | v :: l => by
    have ih := sl_len (b := b) (B := B) l
    simp only [lg_sl, List.map_cons, List.flatMap_cons, List.length_append, wsum, trV_cat] at ih ⊢
    rw [ih]
    have h12 : v.category = 2 ∨ v.category = 1 := by cases v <;> simp [Value.category]
    rcases h12 with h | h <;> simp [h]
theorem wsum_map {b B : Nat} : ∀ (s : List Value), ((s.map (trV b B)).map fun v => v.category).sum = wsum s
  | [] => rfl
  | v :: l => by simp only [List.map_cons, List.sum_cons, wsum, trV_cat, wsum_map l]
end
section
/-! the heap's relation under reads, writes, makings -/
theorem Ext.rfl' {h : AH} : Ext h h := ⟨⟨[], by simp⟩, fun _ _ _ _ e => e⟩
theorem Ext.trans {h h1 h2 : AH} (a : Ext h h1) (b : Ext h1 h2) : Ext h h2 := by
  obtain ⟨⟨l, e⟩, f⟩ := a
  obtain ⟨⟨l2, e2⟩, f2⟩ := b
  refine ⟨⟨l ++ l2, by rw [e2, e, List.append_assoc]⟩, fun a k j ha e3 => f2 a k j ?_ (f a k j ha e3)⟩
  rw [e, List.length_append]
  omega
theorem Ext.shp {h h1 : AH} (x : Ext h h1) {a : Nat} {q : Nat × Nat} (e : hs h a = some q) : hs h1 a = some q := by
  obtain ⟨⟨l, e1⟩, -⟩ := x
  unfold hs at e ⊢
  rw [e1, List.getElem?_append_left (List.getElem?_eq_some_iff.mp e).1]
  exact e
theorem hs_lt {h : AH} {a : Nat} {q : Nat × Nat} (e : hs h a = some q) : a < h.1.length := (List.getElem?_eq_some_iff.mp e).1
theorem Ext.rfs {h h1 : AH} (x : Ext h h1) {a k j : Nat} {q : Nat × Nat} (e : hs h a = some q) (f : mr h a k = some j) : mr h1 a k = some j := x.2 a k j (hs_lt e) f
theorem ext_wi (h : AH) (a i : Nat) (v : Int32) : Ext h (wi h a i v) := ⟨⟨[], by simp [wi]⟩, fun _ _ _ _ e => e⟩
theorem ext_wl (h : AH) (a i : Nat) (v : Int64) : Ext h (wl h a i v) := ⟨⟨[], by simp [wl]⟩, fun _ _ _ _ e => e⟩
theorem ext_wa (h : AH) (a : Nat) (f : Nat → Int32) : Ext h (wa h a f) := ⟨⟨[], by simp [wa]⟩, fun _ _ _ _ e => e⟩
theorem ext_wr {h : AH} {a i : Nat} (v : Nat) (e : mr h a i = none) : Ext h (wr h a i v) := by
  refine ⟨⟨[], by simp [wr]⟩, fun x k j _ e1 => ?_⟩
  show (if x = a ∧ k = i then some v else h.2.2.2 x k) = some j
  by_cases hc : x = a ∧ k = i
  · rw [hc.1, hc.2] at e1
    rw [e] at e1
    cases e1
  · rw [if_neg hc]
    exact e1
theorem ext_hn (h : AH) (t n : Nat) : Ext h (hn h t n) := by
  refine ⟨⟨[(t, n)], rfl⟩, fun x k j hx e1 => ?_⟩
  show (if x = h.1.length then none else h.2.2.2 x k) = some j
  rw [if_neg (by omega)]
  exact e1
section HRS
variable {D : va_G} {cA : Nat → ClassId} {cS : ClassId} {b B : Nat} {h : AH} {H : Heap}
theorem HR.pos (hR : HR D cA cS b B h H) {a : Nat} {q : Nat × Nat} (e : hs h a = some q) (h9 : q.1 ≠ 9) : ∃ i, a = i + 1 := by
  cases a with
  | zero =>
    obtain ⟨L, scr, h1, -⟩ := hR.2.2.1
    have h1 : hs h 0 = some (9, L) := h1
    rw [e] at h1
    cases h1
    exact absurd rfl h9
  | succ i => exact ⟨i, rfl⟩
theorem HR.at (hR : HR D cA cS b B h H) {a : Nat} {q : Nat × Nat} (e : hs h a = some q) (h9 : q.1 ≠ 9) : va_at D vwCl (rho b B a, eOf cA b B h a q) H ∧ B ≤ rho b B a := by
  obtain ⟨i, rfl⟩ := hR.pos e h9
  exact ⟨(hR.2.2.2 i q e).2, Nat.le_add_right _ _⟩
theorem HR.P (hR : HR D cA cS b B h H) {a : Nat} {q : Nat × Nat} {E : va_E} (e : hs h a = some q) (h9 : q.1 ≠ 9) (hE : eOf cA b B h a q = E) : va_P D vwCl [(rho b B a, E)] H := by
  intro k x hx
  cases k with
  | zero => cases hx; rw [← hE]; exact (hR.at e h9).1
  | succ k => simp at hx
theorem va_P.one {E : va_E} {x : Nat} (h : va_at D vwCl (x, E) H) : va_P D vwCl [(x, E)] H := by
  intro k y hy
  cases k with
  | zero => cases hy; exact h
  | succ k => simp at hy
/-- one cell has changed -/
theorem HR.upd (hR : HR D cA cS b B h H) {a : Nat} {q : Nat × Nat} (e : hs h a = some q) (h9 : q.1 ≠ 9) {h1 : AH} {H1 : Heap} (z : H1.size = H.size) (o : ∀ x, x ≠ rho b B a → H1[x]? = H[x]?) (e1 : h1.1 = h.1) (ho : ∀ a' q', a' ≠ a → eOf cA b B h1 a' q' = eOf cA b B h a' q') (h00 : a ≠ 0 → h1.2.1 0 = h.2.1 0) (hn : va_at D vwCl (rho b B a, eOf cA b B h1 a q) H1) : HR D cA cS b B h1 H1 := by
  obtain ⟨i, rfl⟩ := hR.pos e h9
  obtain ⟨r1, r2, ⟨L, scr, s1, s2, s3, s4, s5, s6, s7⟩, r4⟩ := hR
  refine ⟨by rw [z, e1]; exact r1, r2, ⟨L, scr, by rw [e1]; exact s1, ?_, s3, s4, s5, s6, fun j hj => by rw [h00 (by omega)]; exact s7 j hj⟩, fun x q' hx => ?_⟩
  · rw [o b (by show b ≠ B + i; omega)]
    exact s2
  · rw [e1] at hx
    by_cases hxi : x = i
    · subst hxi
      have hq : q' = q := Option.some.inj (hx.symm.trans e)
      subst hq
      exact ⟨h9, hn⟩
    · refine ⟨(r4 x q' hx).1, ?_⟩
      rw [ho (x + 1) q' (by omega)]
      exact (r4 x q' hx).2.kept (o (B + x) (by show B + x ≠ B + i; omega))
theorem eOf_wi {a i a' : Nat} {v : Int32} (q : Nat × Nat) (hne : a' ≠ a) : eOf cA b B (wi h a i v) a' q = eOf cA b B h a' q := by
  have e1 : (wi h a i v).2.1 a' = h.2.1 a' := by funext j; simp [wi, hne]
  have e4 : ∀ t, fvl b B (wi h a i v) a' t = fvl b B h a' t := by
    intro t
    funext k
    unfold fvl
    rw [e1]
    rfl
  unfold eOf
  rw [e1]
  split <;> first | rfl | (rw [e4])
theorem eOf_wl {a i a' : Nat} {v : Int64} (q : Nat × Nat) (hne : a' ≠ a) : eOf cA b B (wl h a i v) a' q = eOf cA b B h a' q := by
  have e1 : (wl h a i v).2.2.1 a' = h.2.2.1 a' := by funext j; simp [wl, hne]
  unfold eOf
  rw [e1]
  split <;> rfl
theorem eOf_wr {a i a' v : Nat} (q : Nat × Nat) (hne : a' ≠ a) : eOf cA b B (wr h a i v) a' q = eOf cA b B h a' q := by
  have e1 : (wr h a i v).2.2.2 a' = h.2.2.2 a' := by funext j; simp [wr, hne]
  have e4 : ∀ t, fvl b B (wr h a i v) a' t = fvl b B h a' t := by
    intro t
    funext k
    unfold fvl
    rw [e1]
    rfl
  unfold eOf
  rw [e1]
  split <;> first | rfl | (rw [e4])
theorem eOf_wa {a a' : Nat} {f : Nat → Int32} (q : Nat × Nat) (hne : a' ≠ a) : eOf cA b B (wa h a f) a' q = eOf cA b B h a' q := by
  have e1 : (wa h a f).2.1 a' = h.2.1 a' := by funext j; simp [wa, hne]
  have e4 : ∀ t, fvl b B (wa h a f) a' t = fvl b B h a' t := by
    intro t
    funext k
    unfold fvl
    rw [e1]
    rfl
  unfold eOf
  rw [e1]
  split <;> first | rfl | (rw [e4])
theorem eOf_hn {a' t n : Nat} (q : Nat × Nat) (hne : a' ≠ h.1.length) : eOf cA b B (hn h t n) a' q = eOf cA b B h a' q := by
  have e1 : (hn h t n).2.1 a' = h.2.1 a' := by funext j; simp [hn, hne]
  have e2 : (hn h t n).2.2.1 a' = h.2.2.1 a' := by funext j; simp [hn, hne]
  have e3 : (hn h t n).2.2.2 a' = h.2.2.2 a' := by funext j; simp [hn, hne]
  have e4 : ∀ t', fvl b B (hn h t n) a' t' = fvl b B h a' t' := by
    intro t'
    funext k
    unfold fvl
    rw [e1, e3]
  unfold eOf
  rw [e1, e2, e3]
  split <;> first | rfl | (rw [e4])
/-- a cell has been made -/
theorem HR.new (hR : HR D cA cS b B h H) {t n : Nat} {H1 : Heap} (z : H1.size = H.size + 1) (o : ∀ x, x < H.size → H1[x]? = H[x]?) (h9 : t ≠ 9) (hn1 : va_at D vwCl (H.size, eOf cA b B (hn h t n) h.1.length (t, n)) H1) : HR D cA cS b B (hn h t n) H1 ∧ rho b B h.1.length = H.size := by
  obtain ⟨r1, r2, ⟨L, scr, s1, s2, s3, s4, s5, s6, s7⟩, r4⟩ := hR
  have hl : 0 < h.1.length := (List.getElem?_eq_some_iff.mp s1).1
  obtain ⟨len, hlen⟩ : ∃ len, h.1.length = len + 1 := ⟨h.1.length - 1, by omega⟩
  have hrho : rho b B h.1.length = H.size := by rw [hlen]; show B + len = _; omega
  refine ⟨⟨by rw [z]; show _ = B + (h.1 ++ [(t, n)]).length; rw [List.length_append]; simp; omega, r2, ⟨L, scr, ?_, ?_, s3, s4, s5, s6, fun j hj => ?_⟩, fun x q' hx => ?_⟩, hrho⟩
  · show (h.1 ++ [(t, n)])[0]? = _
    rw [List.getElem?_append_left hl]
    exact s1
  · rw [o b (by omega)]
    exact s2
  · show scr.slots[j]? = some (.int (if 0 = h.1.length then 0 else h.2.1 0 j))
    rw [if_neg (by omega)]
    exact s7 j hj
  · have hx : (h.1 ++ [(t, n)])[x + 1]? = some q' := hx
    by_cases hxl : x + 1 < h.1.length
    · rw [List.getElem?_append_left hxl] at hx
      refine ⟨(r4 x q' hx).1, ?_⟩
      rw [eOf_hn q' (by omega)]
      have h2 := (r4 x q' hx).2
      exact h2.kept (o (B + x) (by have := h2.lt; exact this))
    · rw [List.getElem?_append_right (by omega)] at hx
      have hz : x + 1 - h.1.length = 0 := by
        by_cases hz : x + 1 - h.1.length = 0
        · exact hz
        · rw [List.getElem?_eq_none (by simp; omega)] at hx
          cases hx
      rw [hz] at hx
      cases hx
      have hx2 : x + 1 = h.1.length := by omega
      refine ⟨h9, ?_⟩
      rw [hx2, show B + x = H.size by omega]
      exact hn1
end HRS
end
section
/-! inversion of the stack's words -/
theorem pI_inv {st : List Value} {K : Int32 → List Value → Prop} (h : pI st K) : ∃ x s, st = .int x :: s ∧ K x s := by
  cases st with
  | nil => exact h.elim
  | cons v s => cases v <;> first | exact ⟨_, _, rfl, h⟩ | exact h.elim
theorem pJ_inv {st : List Value} {K : Int64 → List Value → Prop} (h : pJ st K) : ∃ x s, st = .long x :: s ∧ K x s := by
  cases st with
  | nil => exact h.elim
  | cons v s => cases v <;> first | exact ⟨_, _, rfl, h⟩ | exact h.elim
theorem pR_inv {st : List Value} {K : Nat → List Value → Prop} (h : pR st K) : ∃ x s, st = .ref x :: s ∧ K x s := by
  cases st with
  | nil => exact h.elim
  | cons v s => cases v <;> first | exact ⟨_, _, rfl, h⟩ | exact h.elim
theorem pV_inv {st : List Value} {K : Value → List Value → Prop} (h : pV st K) : ∃ x s, st = x :: s ∧ K x s := by
  cases st with
  | nil => exact h.elim
  | cons v s => exact ⟨_, _, rfl, h⟩
theorem lI_inv {v : Value} {K : Int32 → Prop} (h : lI v K) : ∃ x, v = .int x ∧ K x := by
  cases v <;> first | exact ⟨_, rfl, h⟩ | exact h.elim
theorem lJ_inv {v : Value} {K : Int64 → Prop} (h : lJ v K) : ∃ x, v = .long x ∧ K x := by
  cases v <;> first | exact ⟨_, rfl, h⟩ | exact h.elim
theorem lA_inv {v : Value} {K : Value → Prop} (h : lA v K) : (∃ a, v = .ref a ∧ K (.ref a)) ∨ (v = .null ∧ K .null) := by
  cases v <;> first | exact Or.inl ⟨_, rfl, h⟩ | exact Or.inr ⟨rfl, h⟩ | exact h.elim
theorem pN_inv : ∀ {n : Nat} {st : List Value} {K : List Value → List Value → Prop}, pN n st K → ∃ av s, st = av.reverse ++ s ∧ av.length = n ∧ K av s
  | 0, st, K, h => ⟨[], st, rfl, rfl, h⟩
  | n + 1, [], K, h => h.elim
  | n + 1, v :: st, K, h => by
    obtain ⟨as, s, h1, h2, h3⟩ := pN_inv (n := n) (st := st) h
    exact ⟨as ++ [v], s, by rw [h1]; simp, by simp [h2], h3⟩
theorem nil0_inv {st : List Value} {P : Prop} (h : nil0 st P) : st = [] ∧ P := by
  cases st with
  | nil => exact ⟨rfl, h⟩
  | cons v s => exact h.elim
theorem bif_inv {c : Bool} {P : Prop} (h : bif c then P else False) : c = true ∧ P := by
  cases c with
  | true => exact ⟨rfl, h⟩
  | false => exact h.elim
theorem cI_eq (n : Int) : Int32.ofInt n = cI n := by
  cases n with
  | ofNat k => exact Int32.ofInt_eq_ofNat
  | negSucc k => rfl
theorem cL_nat (n : Nat) : Int64.ofNat n = cL (.ofNat n) := Int64.ofInt_eq_ofNat.symm
theorem lk_mem {α : Type} {own idx : Nat} {e : α} : ∀ {t : List (Nat × Nat × α)}, lk t own idx = some e → (own, idx, e) ∈ t
  | [], h => by simp [lk] at h
  | q :: l, h => by
    unfold lk at h
    cases hc : (Nat.beq q.1 own && Nat.beq q.2.1 idx) with
    | true =>
      rw [hc] at h
      simp only [cond_true, Option.some.injEq] at h
      rw [Bool.and_eq_true] at hc
      have h1 := Nat.eq_of_beq_eq_true hc.1
      have h2 := Nat.eq_of_beq_eq_true hc.2
      rw [← h1, ← h2, ← h]
      exact List.mem_cons_self
    | false =>
      rw [hc] at h
      exact List.mem_cons_of_mem _ (lk_mem h)
theorem swT_get {x : Int32} {K : Int → Prop} : ∀ (l : List Int) (lo : Int) (j : Nat) (t : Int), swT x K lo l → l[j]? = some t → x = cI (lo + j) → K t
  | [], lo, j, t, h, e, _ => by simp at e
  | o :: l, lo, 0, t, h, e, hx => by
    simp only [List.getElem?_cons_zero, Option.some.injEq] at e
    rw [← e]
    exact h.1 (by simpa using hx)
  | o :: l, lo, j + 1, t, h, e, hx => by
    refine swT_get l (lo + 1) j t h.2 (by simpa using e) ?_
    rw [hx]
    congr 1
    omega
theorem lsw_get {x : Int32} {K : Int → Prop} {pc d : Int} : ∀ (l : List (Int × Int)), (∀ q ∈ l, -2147483648 ≤ q.1 ∧ q.1 < 2147483648) → lsw x K (pc + d) (l.map fun q => (q.1, pc + q.2)) → K (pc + Op.lookupswitch.offset l d x.toInt)
  | [], _, h => h
  | (a, o) :: l, hr, h => by
    rw [Op.lookupswitch.offset_cons]
    obtain ⟨h1, h2⟩ := h
    have hra := hr (a, o) List.mem_cons_self
    by_cases he : a = x.toInt
    · rw [if_pos he]
      exact h1 (by rw [← cI_eq]; show x = Int32.ofInt a; rw [he, Int32.ofInt_toInt])
    · rw [if_neg he]
      refine lsw_get l (fun q hq => hr q (List.mem_cons_of_mem _ hq)) (h2 fun e => he ?_)
      rw [← cI_eq] at e
      rw [e]
      exact (Int32.toInt_ofInt_of_le hra.1 hra.2).symm
/-- what the data's entries must keep of locals and targets -/
def stoOK (mL : Nat) (i : Instr) : Bool := match i with
  | .istore k => Nat.blt k mL
  | .astore k => Nat.blt k mL
  | .lstore k => Nat.blt (k + 1) mL
  | .iinc k _ => Nat.blt k mL
  | .goto t => decide (0 ≤ t)
  | .if_icmp _ t => decide (0 ≤ t)
  | .ifCond _ t => decide (0 ≤ t)
  | .ifnull t => decide (0 ≤ t)
  | .ifnonnull t => decide (0 ≤ t)
  | .tableswitch dt _ _ offs => decide (0 ≤ dt) && offs.toList.all fun t => decide (0 ≤ t)
  | .lookupswitch dt ps => decide (0 ≤ dt) && ps.toList.all fun t => decide (0 ≤ t.2)
  | _ => true
theorem lay_in {ci : Nat} {C : String} {T : u_T} {N : Nat} (h : vwCl[ci]? = some (C, T, N)) : ∀ w ∈ u_ws C T N, w ∈ GWL := by
  intro w hw
  have hg : goodWord w = true := by
    obtain ⟨k, -, rfl⟩ := List.mem_map.mp hw
    unfold u_lay
    split <;> rfl
  refine gw_in ?_ hg
  match ci, h with
  | 0, h => cases h; exact wd_lay0 w hw
  | 1, h => cases h; exact wd_lay1 w hw
  | 2, h => cases h; exact wd_lay2 w hw
  | 3, h => cases h; exact wd_lay3 w hw
  | 4, h => cases h; exact wd_lay4 w hw
  | 5, h => cases h; exact wd_lay5 w hw
  | 6, h => cases h; exact wd_lay6 w hw
  | 7, h => cases h; exact wd_lay7 w hw
  | k + 8, h => simp at h
theorem ty_ok {ci : Nat} {C : String} {T : u_T} {N : Nat} (h : vwCl[ci]? = some (C, T, N)) : (∀ k, k < N → parseFieldDescriptor (T k).2.2.1 = some (tyA ci k)) ∧ (∀ a, a < N → ∀ b, b < N → a ≠ b → (T a).2.1 ≠ (T b).2.1) := by
  match ci, h with
  | 0, h => cases h; exact ⟨tyX0_ok, nmX0⟩
  | 1, h => cases h; exact ⟨tyX1_ok, nmX1⟩
  | 2, h => cases h; exact ⟨tyX2_ok, nmX2⟩
  | 3, h => cases h; exact ⟨tyX3_ok, nmX3⟩
  | 4, h => cases h; exact ⟨tyX4_ok, nmX4⟩
  | 5, h => cases h; exact ⟨tyX5_ok, nmX5⟩
  | 6, h => cases h; exact ⟨tyX6_ok, nmX6⟩
  | 7, h => cases h; exact ⟨tyX7_ok, nmX7⟩
  | k + 8, h => simp at h
/-- what the number of a field says -/
theorem fld_ok {own idx r : Nat} (h : (own, idx, r) ∈ fldT) : ∃ (C : String) (T : u_T) (N : Nat), vwCl[r / 256]? = some (C, T, N) ∧ r / 4 % 64 < N ∧ N = lenOf (r / 256) ∧ r / 256 < 8 ∧ C = ow (r / 256) ∧ (T (r / 4 % 64)).1 = C ∧ Cond.fieldLink (ow own) idx (T (r / 4 % 64)).1 (T (r / 4 % 64)).2.1 (T (r / 4 % 64)).2.2.1 ∈ GWL ∧ ((tyA (r / 256) (r / 4 % 64) = .int ∧ r % 4 = 0) ∨ (isRefT (tyA (r / 256) (r / 4 % 64)) = true ∧ r % 4 = 1) ∨ (tyA (r / 256) (r / 4 % 64) = .boolean ∧ r % 4 = 2)) := by
  have h1 := List.all_eq_true.mp ok_F _ h
  have h2 := wd_fld _ h
  dsimp only at h1 h2
  unfold fOK at h1
  unfold fT at h2
  cases hc : vwCl[r / 256]? with
  | none => rw [hc] at h1; cases h1
  | some c =>
    obtain ⟨C, T, N⟩ := c
    rw [hc] at h1 h2
    simp only [Bool.and_eq_true, decide_eq_true_eq] at h1
    obtain ⟨⟨⟨⟨⟨a1, a2⟩, a3⟩, a4⟩, a5⟩, a6⟩ := h1
    have a1 : r / 4 % 64 < N := Nat.lt_of_lt_of_le (Nat.lt_succ_self _) (Nat.le_of_ble_eq_true a1)
    have a2 : N = lenOf (r / 256) := Nat.eq_of_beq_eq_true a2
    have a3 : r / 256 < 8 := Nat.lt_of_lt_of_le (Nat.lt_succ_self _) (Nat.le_of_ble_eq_true a3)
    refine ⟨C, T, N, rfl, a1, a2, a3, a4, a5, gw_in h2 rfl, ?_⟩
    rw [(ty_ok hc).1 _ a1] at a6
    revert a6
    generalize tyA (r / 256) (r / 4 % 64) = ty
    generalize r % 4 = kd
    intro a6
    cases ty <;> (match kd, a6 with
      | 0, a6 => first | exact Or.inl ⟨rfl, rfl⟩ | cases a6
      | 1, a6 => first | exact Or.inr (Or.inl ⟨rfl, rfl⟩) | cases a6
      | 2, a6 => first | exact Or.inr (Or.inr ⟨rfl, rfl⟩) | cases a6
      | k + 3, a6 => cases a6)
end
section
/-! memory instructions over the relation -/
theorem eOf_obj (cA : Nat → ClassId) (b B : Nat) (h : AH) (a ci n : Nat) : eOf cA b B h a (10 + ci, n) = .inr (ci, (List.range n).map (fvl b B h a ci)) := by
  rw [Nat.add_comm]
  show (Sum.inr (ci + 10 - 10, (List.range n).map (fvl b B h a (ci + 10 - 10))) : va_E) = _
  rw [Nat.add_sub_cancel]
section MEM
variable {D : va_G} {cA : Nat → ClassId} {cS : ClassId} {b B : Nat} {h : AH} {p : Program} {l : Launch} {e : Env} {R : Room} {s : State} {m : MethodId} {args : Array Value} {below : List Frame} {meth : Method} {c : Code} {H : Heap} {locs : List Loc} {cells slots : Nat} {Z : State → Prop} {q : Mt} {pc idx r a : Nat} {lsC : Array Slot} {rest : List Value}
theorem sd_get (hCX : CX p s m args meth c q) (hTB : TB D cA cS s) (hdec : decode q.2.1 pc = .ok (.getfield idx, 3)) (hl : lk fldT q.2.2.2.2.1 idx = some r) (hH : HR D cA cS b B h H) (e1 : hs h a = some (10 + r / 256, lenOf (r / 256))) {v : Value} (hv : fvl b B h a (r / 256) (r / 4 % 64) = v)
    (kk : W p l e R s m args below meth c H locs cells slots Z (F0 m (pc + 3) lsC (v :: rest))) : W p l e R s m args below meth c H locs cells slots Z (F0 m pc lsC (.ref (rho b B a) :: rest)) := by
  obtain ⟨hex, hb, hml, hrt, hown, hnm, hlk, hts⟩ := hCX
  obtain ⟨C, T, N, hc, hk, hN, h8, hC, hT1, hw, hty⟩ := fld_ok (lk_mem hl)
  have hP := hH.P e1 (by simp; omega) (eOf_obj cA b B h a _ _)
  refine va_get (C := C) (T := T) (N := N) (ci := r / 256) (ref := (T (r / 4 % 64)).1) hex hb hts (lay_in hc) hown hTB.1 hP 0 rfl hc (r / 4 % 64) hk (hts _ hw) (fun _ h9 => h9) (v := v) ?_ hdec kk
  rw [List.getElem?_map, List.getElem?_range (by rw [← hN]; exact hk), ← hv]
  rfl
theorem sd_put (hCX : CX p s m args meth c q) (hTB : TB D cA cS s) (hdec : decode q.2.1 pc = .ok (.putfield idx, 3)) (hl : lk fldT q.2.2.2.2.1 idx = some r) (hfin : (finF r && !(decide (q.1.name = "<init>") && Nat.beq q.2.2.2.2.1 (r / 256))) = false) (hH : HR D cA cS b B h H) (e1 : hs h a = some (10 + r / 256, lenOf (r / 256))) {v : Value} (hnw : narrow (tyA (r / 256) (r / 4 % 64)) v = v) (hft : fits (tyA (r / 256) (r / 4 % 64)) v = true)
    (kk : ∀ (H1 : Heap) (locs1 : List Loc), H1.size = H.size → (∀ x, x ≠ rho b B a → H1[x]? = H[x]?) → (∀ x ∈ locs1, x ∈ locs ∨ x.base = rho b B a) → va_at D vwCl (rho b B a, .inr (r / 256, ((List.range (lenOf (r / 256))).map (fvl b B h a (r / 256))).set (r / 4 % 64) v)) H1 → W p l e R s m args below meth c H1 locs1 cells slots Z (F0 m (pc + 3) lsC rest)) : W p l e R s m args below meth c H locs cells slots Z (F0 m pc lsC (v :: .ref (rho b B a) :: rest)) := by
  obtain ⟨hex, hb, hml, hrt, hown, hnm, hlk, hts⟩ := hCX
  obtain ⟨C, T, N, hc, hk, hN, h8, hC, hT1, hw, hty⟩ := fld_ok (lk_mem hl)
  obtain ⟨ht, hn⟩ := ty_ok hc
  have hP := hH.P e1 (by simp; omega) (eOf_obj cA b B h a _ _)
  have hin := lay_in hc
  have hap := va_apart (own := C) hts hin (tyA (r / 256)) ht hn hTB.1 hc
  obtain ⟨rr, h1, cell, q1, q2, q3, q4⟩ := hP 0 _ rfl
  have hr : rr = (C, T, N) := Option.some.inj (h1.symm.trans hc)
  subst hr
  obtain ⟨hS, hfc, kC, hkC, hkind⟩ := hTB.1.1 _ _ hc
  obtain ⟨cf, kf, fi, f, hi, hsl⟩ := hS _ hk
  have hlay := hts _ (hin _ (u_in_lay hk))
  unfold u_lay at hlay
  have hst := (u_facts hfc hkC (u_lays hts hin hk) hi).1
  have hd := ht _ hk
  have hfs : r / 4 % 64 < ((List.range (lenOf (r / 256))).map (fvl b B h a (r / 256))).length := by rw [List.length_map, List.length_range, ← hN]; exact hk
  have hF : finF r = (T (r / 4 % 64)).2.2.2 := by unfold finF; rw [hc]
  cases hfb : (T (r / 4 % 64)).2.2.2 with
  | false =>
    rw [if_neg (by rw [hfb]; decide)] at hlay
    have h6 := u_store hfc hkC hkind hlay hi hd hnw hft
    refine W.putK hex hb (f := f) ⟨hown, hts _ hw, ⟨_, _, _, hi⟩, hst⟩ (by rw [q2]; exact h6) q1 q3 (by rw [hsl]; exact k2_hasslot (q4 _ hk)) rfl rfl hdec fun H' e1 e2 e3 => ?_
    rw [hsl] at e1 ⊢
    exact kk H' _ e2 e3 (fun x hx => (List.mem_append.mp hx).elim Or.inl fun hx => Or.inr (by rw [List.mem_singleton.mp hx])) ⟨_, hc, t_OB.to (V := updV (vp_V _) _ v) ⟨_, e1, q2, q3, t_set q4 hap hk v⟩ (fun j _ => vp_updV_set hfs v j)⟩
  | true =>
    rw [if_pos hfb] at hlay
    rw [hF, hfb, Bool.true_and, Bool.not_eq_false', Bool.and_eq_true] at hfin
    have hini : q.1.name = "<init>" := by simpa using hfin.1
    have hoo : q.2.2.2.2.1 = r / 256 := Nat.eq_of_beq_eq_true hfin.2
    have hcf : m.cls = cf := by
      obtain ⟨_, _, c', _, _, _, -, -, hf', -, -, -, hown2, -⟩ := Cond.laysFinal_spec hlay
      have e1 : c' = cf := by have := hi.symm.trans hf'; simp at this; exact this.1.symm
      rw [hT1, hC, ← hoo] at hown2
      rw [← e1]; exact Option.some.inj (hown.symm.trans hown2)
    have h6 := u_fits hfc hkC hkind (Or.inr hlay) hi hd hnw hft
    refine W.putFinK hex hb hown (hts _ hw) hi hst hcf (hnm hini) (by rw [q2]; exact h6) q1 q3 (by rw [hsl]; exact k2_hasslot (q4 _ hk)) rfl rfl hdec fun H' e1 e2 e3 => ?_
    rw [hsl] at e1 ⊢
    exact kk H' _ e2 e3 (fun x hx => (List.mem_append.mp hx).elim Or.inl fun hx => Or.inr (by rw [List.mem_singleton.mp hx])) ⟨_, hc, t_OB.to (V := updV (vp_V _) _ v) ⟨_, e1, q2, q3, t_set q4 hap hk v⟩ (fun j _ => vp_updV_set hfs v j)⟩
theorem fs_set {n k : Nat} {f g : Nat → Value} {v : Value} (hk : k < n) (h1 : g k = v) (h2 : ∀ j, j ≠ k → g j = f j) : (List.range n).map g = ((List.range n).map f).set k v := by
  apply List.ext_getElem?
  intro j
  rw [List.getElem?_set]
  by_cases hj : j < n
  · by_cases hjk : k = j
    · subst hjk
      simp [hj, h1]
    · rw [if_neg hjk, List.getElem?_map, List.getElem?_map, List.getElem?_range hj]
      simp [h2 j (Ne.symm hjk)]
  · rw [List.getElem?_eq_none (by simp; omega)]
    split
    · rename_i hjk
      subst hjk
      simp
      omega
    · rw [List.getElem?_eq_none (by simp; omega)]
theorem hr_puti (hH : HR D cA cS b B h H) {ci k : Nat} {x : Int32} (hk : k < lenOf ci) (hci : isRefT (tyA ci k) = false) (e1 : hs h a = some (10 + ci, lenOf ci)) {H1 : Heap} (z : H1.size = H.size) (o : ∀ x, x ≠ rho b B a → H1[x]? = H[x]?) (hn : va_at D vwCl (rho b B a, .inr (ci, ((List.range (lenOf ci)).map (fvl b B h a ci)).set k (.int x))) H1) : HR D cA cS b B (wi h a k x) H1 := by
  refine hH.upd e1 (by simp; omega) z o rfl (fun a' q' hne => eOf_wi q' hne) (fun h0 => by funext j; simp [wi, Ne.symm h0]) ?_
  rw [eOf_obj, fs_set (f := fvl b B h a ci) (v := .int x) hk]
  · exact hn
  · unfold fvl
    rw [hci]
    simp [wi]
  · intro j hj
    unfold fvl
    have : (wi h a k x).2.1 a j = h.2.1 a j := by simp [wi, hj]
    rw [this]
    rfl
theorem hr_putr (hH : HR D cA cS b B h H) {ci k x : Nat} (hk : k < lenOf ci) (hci : isRefT (tyA ci k) = true) (e1 : hs h a = some (10 + ci, lenOf ci)) {H1 : Heap} (z : H1.size = H.size) (o : ∀ x, x ≠ rho b B a → H1[x]? = H[x]?) (hn : va_at D vwCl (rho b B a, .inr (ci, ((List.range (lenOf ci)).map (fvl b B h a ci)).set k (.ref (rho b B x)))) H1) : HR D cA cS b B (wr h a k x) H1 := by
  refine hH.upd e1 (by simp; omega) z o rfl (fun a' q' hne => eOf_wr q' hne) (fun h0 => rfl) ?_
  rw [eOf_obj, fs_set (f := fvl b B h a ci) (v := .ref (rho b B x)) hk]
  · exact hn
  · unfold fvl
    rw [hci]
    simp [wr, va_rf]
  · intro j hj
    unfold fvl
    have : (wr h a k x).2.2.2 a j = h.2.2.2 a j := by simp [wr, hj]
    rw [this]
    rfl
theorem isA {ty : FieldType} {t n : Nat} {f : Nat → Value} (hTB : TB D cA cS s) (ht : (tysL cA)[t]? = some (cA t, ty)) : s.isArrayOf (arrV (cA t) n f) ty := (hTB.1.2 t _ ht).1 n f
theorem loc_ok {locs1 : List Loc} {x0 : Nat} (h0 : ∀ x ∈ locs, B ≤ x.base) (h1 : ∀ x ∈ locs1, x ∈ locs ∨ x.base = x0) (hB : B ≤ x0) : ∀ x ∈ locs1, B ≤ x.base := fun x hx => (h1 x hx).elim (h0 x) fun e => by rw [e]; exact hB
theorem loc_app {x0 k : Nat} (h0 : ∀ x ∈ locs, B ≤ x.base) (hB : B ≤ x0) : ∀ x ∈ locs ++ [(⟨x0, k⟩ : Loc)], B ≤ x.base := fun x hx => (List.mem_append.mp hx).elim (h0 x) fun e => by rw [List.mem_singleton.mp e]; exact hB
theorem sd_iald (hCX : CX p s m args meth c q) (hTB : TB D cA cS s) (hdec : decode q.2.1 pc = .ok (.iaload, 1)) (hH : HR D cA cS b B h H) {i : Int32} {t n : Nat} (e1 : hs h a = some (t, n)) (ht : t = 0 ∨ t = 9) (hin : vp_in i n)
    (kk : W p l e R s m args below meth c H locs cells slots Z (F0 m (pc + 1) lsC (.int (mi h a i.toNatClampNeg) :: rest))) : W p l e R s m args below meth c H locs cells slots Z (F0 m pc lsC (.int i :: .ref (rho b B a) :: rest)) := by
  obtain ⟨hex, hb, -⟩ := hCX
  rcases ht with rfl | rfl
  · exact va_iald hex hb hTB.1 (hH.P e1 (by simp) rfl) 0 0 rfl rfl hin hdec kk
  · have h0 : a = 0 := by
      cases a with
      | zero => rfl
      | succ a => exact absurd rfl (hH.2.2.2 a _ e1).1
    subst h0
    obtain ⟨L, scr, s1, s2, s3, s4, s5, s6, s7⟩ := hH.2.2.1
    obtain ⟨-, -, -, k, comp, k1, k2⟩ := hTB
    have hL : L = n := by have := s1.symm.trans e1; simp at this; exact this
    subst hL
    have hlt : i.toNatClampNeg < L := Nat.not_le.mp fun q => hin (Or.inr q)
    exact W.iald hex hb s2 ⟨s5, k, by rw [s3]; exact k1, comp, k2⟩ s4 (by rw [s6]; exact hin) (s7 _ hlt) rfl rfl hdec kk
theorem sd_iast (hCX : CX p s m args meth c q) (hTB : TB D cA cS s) (hdec : decode q.2.1 pc = .ok (.iastore, 1)) (hH : HR D cA cS b B h H) (hlo : ∀ x ∈ locs, B ≤ x.base) {i x : Int32} {n : Nat} (e1 : hs h a = some (0, n)) (hin : vp_in i n)
    (kk : ∀ (H1 : Heap) (locs1 : List Loc), HR D cA cS b B (wi h a i.toNatClampNeg x) H1 → (∀ x ∈ locs1, B ≤ x.base) → W p l e R s m args below meth c H1 locs1 cells slots Z (F0 m (pc + 1) lsC rest)) : W p l e R s m args below meth c H locs cells slots Z (F0 m pc lsC (.int x :: .int i :: .ref (rho b B a) :: rest)) := by
  obtain ⟨hex, hb, -⟩ := hCX
  obtain ⟨hat, hB⟩ := hH.at e1 (by simp)
  refine W.iast hex hb hat (isA (t := 0) hTB rfl) (fun q => by cases q) (by show ¬ (i < 0 ∨ (arrV _ _ _).slots.size ≤ _); rw [arrV_size]; exact hin) rfl rfl hdec fun H1 e2 z oq => ?_
  refine kk H1 _ (hH.upd e1 (by simp) z oq rfl (fun a' q' hne => eOf_wi q' hne) (fun h0 => by funext j; simp [wi, Ne.symm h0]) ?_) (loc_app hlo hB)
  show H1[rho b B a]? = some (vp_cell _ _)
  rw [e2]
  show some ((vp_cell (cA 0) (n, .inl (h.2.1 a))).setSlot _ _) = some (vp_cell (cA 0) (n, .inl ((wi h a i.toNatClampNeg x).2.1 a)))
  rw [vp_cell_i, vp_cell_i, arrV_store]
  congr 2
  funext j
  by_cases hj : j = i.toNatClampNeg
  · subst hj
    simp [updV, wi]
  · simp [updV, wi, hj]
theorem sd_zast (hCX : CX p s m args meth c q) (hTB : TB D cA cS s) (hdec : decode q.2.1 pc = .ok (.bastore, 1)) (hH : HR D cA cS b B h H) (hlo : ∀ x ∈ locs, B ≤ x.base) {i x : Int32} {n : Nat} (e1 : hs h a = some (2, n)) (hin : vp_in i n)
    (kk : ∀ (H1 : Heap) (locs1 : List Loc), HR D cA cS b B (wi h a i.toNatClampNeg (x &&& 1)) H1 → (∀ x ∈ locs1, B ≤ x.base) → W p l e R s m args below meth c H1 locs1 cells slots Z (F0 m (pc + 1) lsC rest)) : W p l e R s m args below meth c H locs cells slots Z (F0 m pc lsC (.int x :: .int i :: .ref (rho b B a) :: rest)) := by
  obtain ⟨hex, hb, -⟩ := hCX
  obtain ⟨hat, hB⟩ := hH.at e1 (by simp)
  refine W.zast hex hb hat (isA (t := 2) hTB rfl) (fun q => by cases q) (by show ¬ (i < 0 ∨ (arrV _ _ _).slots.size ≤ _); rw [arrV_size]; exact hin) rfl rfl hdec fun H1 e2 z oq => ?_
  refine kk H1 _ (hH.upd e1 (by simp) z oq rfl (fun a' q' hne => eOf_wi q' hne) (fun h0 => by funext j; simp [wi, Ne.symm h0]) ?_) (loc_app hlo hB)
  show H1[rho b B a]? = some (vp_cell _ _)
  rw [e2]
  show some ((vp_cell (cA 2) (n, .inl (h.2.1 a))).setSlot _ (.int (x &&& 1))) = some (vp_cell (cA 2) (n, .inl ((wi h a i.toNatClampNeg (x &&& 1)).2.1 a)))
  rw [vp_cell_i, vp_cell_i, arrV_store]
  congr 2
  funext j
  by_cases hj : j = i.toNatClampNeg
  · subst hj
    simp [updV, wi]
  · simp [updV, wi, hj]
theorem sd_last (hCX : CX p s m args meth c q) (hTB : TB D cA cS s) (hdec : decode q.2.1 pc = .ok (.lastore, 1)) (hH : HR D cA cS b B h H) (hlo : ∀ x ∈ locs, B ≤ x.base) {i : Int32} {x : Int64} {n : Nat} (e1 : hs h a = some (1, n)) (hin : vp_in i n)
    (kk : ∀ (H1 : Heap) (locs1 : List Loc), HR D cA cS b B (wl h a i.toNatClampNeg x) H1 → (∀ x ∈ locs1, B ≤ x.base) → W p l e R s m args below meth c H1 locs1 cells slots Z (F0 m (pc + 1) lsC rest)) : W p l e R s m args below meth c H locs cells slots Z (F0 m pc lsC (.long x :: .int i :: .ref (rho b B a) :: rest)) := by
  obtain ⟨hex, hb, -⟩ := hCX
  obtain ⟨hat, hB⟩ := hH.at e1 (by simp)
  refine W.last hex hb hat (isA (t := 1) hTB rfl) (fun q => by cases q) (by show ¬ (i < 0 ∨ (arrV _ _ _).slots.size ≤ _); rw [arrV_size]; exact hin) rfl rfl hdec fun H1 e2 z oq => ?_
  refine kk H1 _ (hH.upd e1 (by simp) z oq rfl (fun a' q' hne => eOf_wl q' hne) (fun h0 => rfl) ?_) (loc_app hlo hB)
  show H1[rho b B a]? = some (vp_cell _ _)
  rw [e2]
  show some ((vp_cell (cA 1) (n, .inr (.inl (h.2.2.1 a)))).setSlot _ _) = some (vp_cell (cA 1) (n, .inr (.inl ((wl h a i.toNatClampNeg x).2.2.1 a))))
  rw [vp_cell_l, vp_cell_l, arrV_store]
  congr 2
  funext j
  by_cases hj : j = i.toNatClampNeg
  · subst hj
    simp [updV, wl]
  · simp [updV, wl, hj]
theorem sd_aald (hCX : CX p s m args meth c q) (hTB : TB D cA cS s) (hdec : decode q.2.1 pc = .ok (.aaload, 1)) (hH : HR D cA cS b B h H) {i : Int32} {t n j : Nat} (e1 : hs h a = some (t, n)) (ht : t = 3 ∨ t = 4 ∨ t = 5) (hin : vp_in i n) (hj : mr h a i.toNatClampNeg = some j)
    (kk : W p l e R s m args below meth c H locs cells slots Z (F0 m (pc + 1) lsC (.ref (rho b B j) :: rest))) : W p l e R s m args below meth c H locs cells slots Z (F0 m pc lsC (.int i :: .ref (rho b B a) :: rest)) := by
  obtain ⟨hex, hb, -⟩ := hCX
  have hj : h.2.2.2 a i.toNatClampNeg = some j := hj
  have e3 : va_rf ((h.2.2.2 a i.toNatClampNeg).map (rho b B)) = .ref (rho b B j) := by rw [hj]; rfl
  rcases ht with rfl | rfl | rfl
  · exact va_aldq hex hb hTB.1 (hH.P e1 (by simp) rfl) 0 3 rfl rfl hin hdec (by rw [e3]; exact kk)
  · exact va_aldq hex hb hTB.1 (hH.P e1 (by simp) rfl) 0 4 rfl rfl hin hdec (by rw [e3]; exact kk)
  · exact va_aldq hex hb hTB.1 (hH.P e1 (by simp) rfl) 0 5 rfl rfl hin hdec (by rw [e3]; exact kk)
theorem sd_aast1 (hCX : CX p s m args meth c q) (hTB : TB D cA cS s) (hdec : decode q.2.1 pc = .ok (.aastore, 1)) (hH : HR D cA cS b B h H) (hlo : ∀ x ∈ locs, B ≤ x.base) {i : Int32} {t n j ci : Nat} {C : String} {T : u_T} {N : Nat} (e1 : hs h a = some (t, n)) (h9 : t ≠ 9) (hE : ∀ h', eOf cA b B h' a (t, n) = .inl (cA t, n, .inr (.inr (.inr (.inr fun k => (h'.2.2.2 a k).map (rho b B)))))) (hc : vwCl[ci]? = some (C, T, N)) (hty : (tysL cA)[t]? = some (cA t, .object C)) (e2 : hs h j = some (10 + ci, lenOf ci)) (hin : vp_in i n)
    (kk : ∀ (H1 : Heap) (locs1 : List Loc), HR D cA cS b B (wr h a i.toNatClampNeg j) H1 → (∀ x ∈ locs1, B ≤ x.base) → W p l e R s m args below meth c H1 locs1 cells slots Z (F0 m (pc + 1) lsC rest)) : W p l e R s m args below meth c H locs cells slots Z (F0 m pc lsC (.ref (rho b B j) :: .int i :: .ref (rho b B a) :: rest)) := by
  obtain ⟨hex, hb, -⟩ := hCX
  obtain ⟨hat, hB⟩ := hH.at e1 h9
  rw [hE] at hat
  have hv := (hH.at e2 (by simp; omega)).1
  rw [eOf_obj] at hv
  obtain ⟨r', hr', cellV, g1, g2, g3, -⟩ := hv
  have hlt : i.toNatClampNeg < n := Nat.not_le.mp fun q => hin (Or.inr q)
  have h0 : ¬ i < 0 := fun q => hin (Or.inl q)
  have hcls := (hTB.1.1 ci _ hc).2
  obtain ⟨kA, comp, k1, k2, k3, -⟩ := (hTB.1.2 t _ hty).2
  have hcomp : comp = D.1 ci := Option.some.inj (k3.symm.trans hcls.1)
  subst hcomp
  obtain ⟨kC, hkC, -⟩ := hcls.2
  refine W.aast hex hb hat (fun q h => by cases h) (fun h => by cases h) k1 k2 rfl hkC ⟨h0, by show _ < (arrV _ _ _).slots.size; rw [arrV_size]; exact hlt⟩ g1 (fun q h => by rw [g3] at h; cases h) (by rw [g2]; exact hkC) (by rw [g2]; exact va_assign hcls) rfl rfl hdec fun H1 e3 z oq => ?_
  refine kk H1 _ (hH.upd e1 h9 z oq rfl (fun a' q' hne => eOf_wr q' hne) (fun h0 => rfl) ?_) (loc_app hlo hB)
  rw [hE]
  show H1[rho b B a]? = some (vp_cell _ _)
  rw [e3]
  show some ((vp_cell (cA t) (n, .inr (.inr (.inr (.inr fun k => (h.2.2.2 a k).map (rho b B)))))).setSlot _ _) = _
  rw [vp_cell_q, vp_cell_q, arrV_store]
  congr 2
  funext k
  by_cases hk : k = i.toNatClampNeg
  · subst hk
    simp [updV, wr, va_rf]
  · simp [updV, wr, hk]
theorem sd_aast (hCX : CX p s m args meth c q) (hTB : TB D cA cS s) (hdec : decode q.2.1 pc = .ok (.aastore, 1)) (hH : HR D cA cS b B h H) (hlo : ∀ x ∈ locs, B ≤ x.base) {i : Int32} {t n j : Nat} (e1 : hs h a = some (t, n)) (hin : vp_in i n) (ht : (t = 3 ∧ hs h j = some (12, 7)) ∨ (t = 4 ∧ hs h j = some (10, 4)) ∨ (t = 5 ∧ hs h j = some (13, 3)))
    (kk : ∀ (H1 : Heap) (locs1 : List Loc), HR D cA cS b B (wr h a i.toNatClampNeg j) H1 → (∀ x ∈ locs1, B ≤ x.base) → W p l e R s m args below meth c H1 locs1 cells slots Z (F0 m (pc + 1) lsC rest)) : W p l e R s m args below meth c H locs cells slots Z (F0 m pc lsC (.ref (rho b B j) :: .int i :: .ref (rho b B a) :: rest)) := by
  rcases ht with ⟨rfl, e2⟩ | ⟨rfl, e2⟩ | ⟨rfl, e2⟩
  · exact sd_aast1 (ci := 2) hCX hTB hdec hH hlo e1 (by simp) (fun _ => rfl) rfl rfl e2 hin kk
  · exact sd_aast1 (ci := 0) hCX hTB hdec hH hlo e1 (by simp) (fun _ => rfl) rfl rfl e2 hin kk
  · exact sd_aast1 (ci := 3) hCX hTB hdec hH hlo e1 (by simp) (fun _ => rfl) rfl rfl e2 hin kk
theorem sd_alen (hCX : CX p s m args meth c q) (hTB : TB D cA cS s) (hdec : decode q.2.1 pc = .ok (.arraylength, 1)) (hH : HR D cA cS b B h H) {n : Nat} (e1 : hs h a = some (9, n))
    (kk : W p l e R s m args below meth c H locs cells slots Z (F0 m (pc + 1) lsC (.int (nI n) :: rest))) : W p l e R s m args below meth c H locs cells slots Z (F0 m pc lsC (.ref (rho b B a) :: rest)) := by
  obtain ⟨hex, hb, -⟩ := hCX
  have h0 : a = 0 := by
    cases a with
    | zero => rfl
    | succ a => exact absurd rfl (hH.2.2.2 a _ e1).1
  subst h0
  obtain ⟨L, scr, s1, s2, s3, s4, s5, s6, s7⟩ := hH.2.2.1
  obtain ⟨-, -, -, k, comp, k1, k2⟩ := hTB
  have hL : L = n := by have := s1.symm.trans e1; simp at this; exact this
  subst hL
  exact W.alen hex hb s2 ⟨s5, k, by rw [s3]; exact k1, comp, k2⟩ (by rw [s6]; rfl) rfl rfl hdec kk
theorem sd_new (hCX : CX p s m args meth c q) (hTB : TB D cA cS s) (hdec : decode q.2.1 pc = .ok (.new idx, 3)) {ci : Nat} (hl : lk clsT q.2.2.2.2.1 idx = some ci) (hH : HR D cA cS b B h H) (hcells : cells + 1 ≤ R.cells) (hslots : slots + lenOf ci ≤ R.slots)
    (kk : ∀ (H1 : Heap), HR D cA cS b B (hn h (10 + ci) (lenOf ci)) H1 → W p l e R s m args below meth c H1 locs (cells + 1) (slots + lenOf ci) Z (F0 m (pc + 3) lsC (.ref (rho b B h.1.length) :: rest))) : W p l e R s m args below meth c H locs cells slots Z (F0 m pc lsC rest) := by
  obtain ⟨hex, hb, hml, hrt, hown, hnm, hlk, hts⟩ := hCX
  have hmem := lk_mem hl
  have h8 : ci < 8 := by
    have := List.all_eq_true.mp ok_K _ hmem
    exact Nat.lt_of_lt_of_le (Nat.lt_succ_self _) (Nat.le_of_ble_eq_true this)
  have w1 := hts _ (gw_in (wd_cls _ hmem) rfl)
  have w2 := hts _ (gw_in (wd_ins _ hmem) rfl)
  have w3 := hts _ (gw_in (wd_clsN _ hmem) rfl)
  obtain ⟨T, hc⟩ : ∃ T, vwCl[ci]? = some (ow ci, T, lenOf ci) := by
    match ci, h8 with
    | 0, _ => exact ⟨_, rfl⟩
    | 1, _ => exact ⟨_, rfl⟩
    | 2, _ => exact ⟨_, rfl⟩
    | 3, _ => exact ⟨_, rfl⟩
    | 4, _ => exact ⟨_, rfl⟩
    | 5, _ => exact ⟨_, rfl⟩
    | 6, _ => exact ⟨_, rfl⟩
    | 7, _ => exact ⟨_, rfl⟩
    | k + 8, h => omega
  have hKn := hTB.1.1 ci _ hc
  refine W.newcK hex hb hown w1 w2 w3 rfl hdec hcells hslots hKn.2.1 rfl fun H1 kC hkC e1 z1 o1 => ?_
  have hb1 := u_born (tyA ci) hts (lay_in hc) hKn hkC e1 (ty_ok hc).1
  obtain ⟨hH1, hrho⟩ := hH.new (t := 10 + ci) (n := lenOf ci) z1 o1 (by omega) (by
    rw [eOf_obj]
    refine ⟨_, hc, hb1.to fun k hk => ?_⟩
    have hk : k < lenOf ci := hk
    simp only [vp_V, List.getD_eq_getElem?_getD, List.getElem?_map, List.getElem?_range hk, Option.map_some, Option.getD_some]
    have i1 : (hn h (10 + ci) (lenOf ci)).2.1 h.1.length k = 0 := by simp [hn]
    have i2 : (hn h (10 + ci) (lenOf ci)).2.2.2 h.1.length k = none := by simp [hn]
    unfold fvl
    rw [i1, i2]
    have hnl : ¬ (tyA ci k = .long ∨ tyA ci k = .float ∨ tyA ci k = .double) := by
      revert hk
      have hall : (List.range 8).all (fun ci => (List.range (lenOf ci)).all fun k => decide (¬ (tyA ci k = .long ∨ tyA ci k = .float ∨ tyA ci k = .double))) = true := by decide +kernel
      intro hk
      have h1 := List.all_eq_true.mp hall ci (List.mem_range.mpr h8)
      have h2 := List.all_eq_true.mp h1 k (List.mem_range.mpr hk)
      exact of_decide_eq_true h2
    revert hnl
    generalize tyA ci k = ty
    intro hnl
    cases ty <;> first | rfl | (exact absurd (by simp) hnl))
  rw [← hrho]
  exact kk H1 hH1
theorem cls_find (hTB : TB D cA cS s) {t : Nat} {ty : FieldType} (ht : (tysL cA)[t]? = some (cA t, ty)) : s.vm.findClass ("[" ++ ty.toString) = some (cA t) := by
  have h := (hTB.1.2 t _ ht).2
  revert h
  generalize cA t = ca
  cases ty <;> intro h <;> first | exact h | (obtain ⟨kA, comp, -, -, -, h4⟩ := h; exact h4)
theorem sd_newp (hCX : CX p s m args meth c q) (hTB : TB D cA cS s) {at' : ArrayType} (hdec : decode q.2.1 pc = .ok (.newarray at', 2)) {t : Nat} (ht : (t = 0 ∧ at' = .int) ∨ (t = 1 ∧ at' = .long) ∨ (t = 2 ∧ at' = .boolean)) (hH : HR D cA cS b B h H) {x : Int32} (hx : ¬ x < 0) (hx4 : x.toNatClampNeg ≤ 400) (hcells : cells + 1 ≤ R.cells) (hslots : slots + x.toNatClampNeg ≤ R.slots)
    (kk : ∀ (H1 : Heap), HR D cA cS b B (hn h t x.toNatClampNeg) H1 → W p l e R s m args below meth c H1 locs (cells + 1) (slots + x.toNatClampNeg) Z (F0 m (pc + 2) lsC (.ref (rho b B h.1.length) :: rest))) : W p l e R s m args below meth c H locs cells slots Z (F0 m pc lsC (.int x :: rest)) := by
  obtain ⟨hex, hb, hml, hrt, hown, hnm, hlk, hts⟩ := hCX
  have i1 : (hn h t x.toNatClampNeg).2.1 h.1.length = fun _ => 0 := by funext j; simp [hn]
  have i3 : (hn h t x.toNatClampNeg).2.2.1 h.1.length = fun _ => 0 := by funext j; simp [hn]
  rcases ht with ⟨rfl, rfl⟩ | ⟨rfl, rfl⟩ | ⟨rfl, rfl⟩
  · refine va_newaK (atype := .int) hex hb (hts _ (gw_in wd_arr_int rfl)) rfl hdec rfl hx rfl (by show _ * 4 ≤ _; omega) hcells hslots rfl fun H1 ca e1 z1 o1 hAr hNm => ?_
    have hca : ca = cA 0 := Option.some.inj (hNm.symm.trans (cls_find (t := 0) hTB rfl))
    subst hca
    obtain ⟨hH1, hrho⟩ := hH.new (t := 0) (n := x.toNatClampNeg) z1 o1 (by omega) (by
      show H1[H.size]? = some (vp_cell (cA 0) (x.toNatClampNeg, .inl ((hn h 0 x.toNatClampNeg).2.1 h.1.length)))
      rw [i1, e1]
      rfl)
    rw [← hrho]
    exact kk H1 hH1
  · refine va_newaK (atype := .long) hex hb (hts _ (gw_in wd_arr_long rfl)) rfl hdec rfl hx rfl (by show _ * 8 ≤ _; omega) hcells hslots rfl fun H1 ca e1 z1 o1 hAr hNm => ?_
    have hca : ca = cA 1 := Option.some.inj (hNm.symm.trans (cls_find (t := 1) hTB rfl))
    subst hca
    obtain ⟨hH1, hrho⟩ := hH.new (t := 1) (n := x.toNatClampNeg) z1 o1 (by omega) (by
      show H1[H.size]? = some (vp_cell (cA 1) (x.toNatClampNeg, .inr (.inl ((hn h 1 x.toNatClampNeg).2.2.1 h.1.length))))
      rw [i3, e1]
      rfl)
    rw [← hrho]
    exact kk H1 hH1
  · refine va_newaK (atype := .boolean) hex hb (hts _ (gw_in wd_arr_boolean rfl)) rfl hdec rfl hx rfl (by show _ * 1 ≤ _; omega) hcells hslots rfl fun H1 ca e1 z1 o1 hAr hNm => ?_
    have hca : ca = cA 2 := Option.some.inj (hNm.symm.trans (cls_find (t := 2) hTB rfl))
    subst hca
    obtain ⟨hH1, hrho⟩ := hH.new (t := 2) (n := x.toNatClampNeg) z1 o1 (by omega) (by
      show H1[H.size]? = some (vp_cell (cA 2) (x.toNatClampNeg, .inl ((hn h 2 x.toNatClampNeg).2.1 h.1.length)))
      rw [i1, e1]
      rfl)
    rw [← hrho]
    exact kk H1 hH1
theorem sd_newr (hCX : CX p s m args meth c q) (hTB : TB D cA cS s) (hdec : decode q.2.1 pc = .ok (.anewarray idx, 3)) {t ci : Nat} {C : String} (hC : ow ci = C) (hl : lk clsT q.2.2.2.2.1 idx = some ci) (hao : va_AO C s) (hty : (tysL cA)[t]? = some (cA t, .object C)) (h9 : t ≠ 9) (hE : ∀ h' a n, eOf cA b B h' a (t, n) = .inl (cA t, n, .inr (.inr (.inr (.inr fun k => (h'.2.2.2 a k).map (rho b B)))))) (hH : HR D cA cS b B h H) {x : Int32} (hx : ¬ x < 0) (hx4 : x.toNatClampNeg ≤ 400) (hcells : cells + 1 ≤ R.cells) (hslots : slots + x.toNatClampNeg ≤ R.slots)
    (kk : ∀ (H1 : Heap), HR D cA cS b B (hn h t x.toNatClampNeg) H1 → W p l e R s m args below meth c H1 locs (cells + 1) (slots + x.toNatClampNeg) Z (F0 m (pc + 3) lsC (.ref (rho b B h.1.length) :: rest))) : W p l e R s m args below meth c H locs cells slots Z (F0 m pc lsC (.int x :: rest)) := by
  obtain ⟨hex, hb, hml, hrt, hown, hnm, hlk, hts⟩ := hCX
  have w1 := hts _ (gw_in (wd_cls _ (lk_mem hl)) rfl)
  dsimp only at w1
  rw [hC] at w1
  refine W.anew hex hb hown w1 (va_AO.use hao) rfl hdec rfl hx (by omega) hcells hslots fun ca kA comp f1 f2 f3 f4 => ?_
  have hca : ca = cA t := Option.some.inj (f1.symm.trans (cls_find (t := t) hTB hty))
  subst hca
  generalize hH1 : H.push ({ cls := cA t, slots := Array.replicate x.toNatClampNeg .null, vm := .none } : Cell) = H1
  have z1 : H1.size = H.size + 1 := by rw [← hH1, Array.size_push]
  have e1 : H1[H.size]? = some (arrV (cA t) x.toNatClampNeg (fun _ => .null)) := by rw [← hH1, Array.getElem?_push_size, ← arrV_new]
  have o1 : ∀ q : Nat, q < H.size → H1[q]? = H[q]? := fun q hq => by rw [← hH1, Array.getElem?_push, if_neg (Nat.ne_of_lt hq)]
  obtain ⟨hH2, hrho⟩ := hH.new (t := t) (n := x.toNatClampNeg) z1 o1 h9 (by
    rw [hE]
    show H1[H.size]? = some (vp_cell _ _)
    rw [vp_cell_q, e1]
    have i2 : ∀ k, (hn h t x.toNatClampNeg).2.2.2 h.1.length k = none := by intro k; simp [hn]
    simp only [i2]
    rfl)
  rw [← hrho]
  exact kk H1 hH2
end MEM
end
section
/-! calls -/
def rvO (b B : Nat) (v : Value) : Option Value := match v with
  | .retAddr _ => none
  | v => some (trV b B v)
def cPc (D : va_G) (cA : Nat → ClassId) (cS : ClassId) (b B : Nat) (av : List Value) (h : AH) : Array Value → State → Prop := fun v U => v = (av.map (trV b B)).toArray ∧ HR D cA cS b B h U.heap ∧ TB D cA cS U
def cQc (D : va_G) (cA : Nat → ClassId) (cS : ClassId) (b B : Nat) (rt : Option FieldType) (h : AH) (Q : PQ) : Array Value → State → Outcome → State → Prop := fun _ _ o t => ∃ (v : Value) (h1 : AH), o = .returned (rvO b B v) ∧ Q v h1 ∧ Ext h h1 ∧ HR D cA cS b B h1 t.heap ∧ vOK rt v
theorem met_of_ev {l : Launch} {D : va_G} {cA : Nat → ClassId} {cS : ClassId} {b B d g g1 y : Nat} {q : Mt} {av : List Value} {h : AH} {Q : PQ} (hq : Ms[y]? = some q) (hpl : plainName q.1.cls = true) (hE : Ev d g g1 y 0 (exL av) [] h Q) (hg : g1 ≤ g) (hw : wsum av ≤ q.2.2.1) :
    Met l q.1 (.code q.1 q.2.1 q.2.2.1 q.2.2.2.1 :: GWL) { frames := d, cells := g - g1, slots := 400 * (g - g1), locals := 60 * d } (cPc D cA cS b B av h) (cQc D cA cS b B q.2.2.2.1 h Q) (g - g1) (400 * (g - g1)) (fun x => B ≤ x) := by
  refine Met.ofW (cc := q.2.1) (maxL := q.2.2.1) (ret := q.2.2.2.1) hpl rfl ?_
  intro p e s m args below meth c s₁ B0 hml hv
  obtain ⟨rfl, hH, hT⟩ := hv
  have hts := atoms_spec (ws := .code q.1 q.2.1 q.2.2.1 q.2.2.2.1 :: GWL) B0.pre
  have hown : s.vm.findClass q.1.cls = some m.cls := findClass_of_methodNamed B0.named
  have how : q.1.cls = ow q.2.2.2.2.1 := by
    have := List.all_eq_true.mp ok_own q (List.mem_of_getElem? hq)
    exact of_decide_eq_true this
  have hname : meth.name = q.1.name := (name_of_methodNamed B0.named B0.method).1
  have hlk := B0.notSynchronized
  have hex := B0.exec
  have hbt := B0.bytes
  have hr := B0.returns
  have hl := lv_entry (av.map (trV b B)) (n := q.2.2.1) (by rw [sl_len]; exact hw)
  rw [lg_entry_eq]
  generalize (lg_sl (av.map (trV b B)) ++ List.replicate (q.2.2.1 - (lg_sl (av.map (trV b B))).length) Slot.unset).toArray = lsC at hl ⊢
  have hLR : LR b B lsC q.2.2.1 (exL av) := hl.sub (exL_args av 0)
  refine hE q l D cA cS b B p e _ s m _ below meth c s.heap [] 0 0 _ (g - g1) (400 * (g - g1)) lsC h hq ⟨hex, hbt, hml, hr, by rw [← how]; exact hown, fun hz => hname.trans hz, hlk, fun w hw => hts w (List.mem_cons_of_mem _ hw)⟩ hT hH (fun x hx => by cases hx) Ext.rfl' hLR (Nat.le_refl _) (Nat.le_refl _) hg (by omega) (by omega) (Nat.le_refl _) (Nat.le_refl _) ?_
  intro v h1 H1 locs1 pc1 lsC1 hQ hx hH1 hlo hok hdg
  have post : ∀ t : State, t.heap = H1 → s.WarmedH t.vm → cQc D cA cS b B q.2.2.2.1 h Q ((av.map (trV b B)).toArray) s (.returned (rvO b B v)) t := fun t ht _ => ⟨v, h1, rfl, hQ, hx, by rw [ht]; exact hH1, hok⟩
  cases v with
  | int x =>
    rcases hok with h2 | ⟨h2, h3⟩
    · exact W.iret hex hbt (hr.trans h2) post hlo hdg
    · refine W.zret (ty := .boolean) hex hbt (hr.trans h2) ?_ post hlo hdg
      unfold isB at h3
      rw [Bool.or_eq_true] at h3
      rcases h3 with h3 | h3
      · rw [eq_of_beq h3]; rfl
      · rw [eq_of_beq h3]; rfl
  | long x => exact W.lret hex hbt (hr.trans hok) post hlo hdg
  | retAddr x => exact W.vret hex hbt (hr.trans hok) post hlo hdg
  | ref x =>
    obtain ⟨C, hC⟩ := hok
    exact W.aret (rt := .object C) hex hbt (hr.trans hC) (Or.inl ⟨C, rfl⟩) (Or.inr ⟨_, rfl⟩) post hlo hdg
  | null =>
    obtain ⟨C, hC⟩ := hok
    exact W.aret (rt := .object C) hex hbt (hr.trans hC) (Or.inl ⟨C, rfl⟩) (Or.inl rfl) post hlo hdg
  | float x => exact hok.elim
  | double x => exact hok.elim
section CAL
variable {D : va_G} {cA : Nat → ClassId} {cS : ClassId} {b B : Nat} {h : AH} {p : Program} {l : Launch} {e : Env} {R : Room} {s : State} {m : MethodId} {args : Array Value} {below : List Frame} {meth : Method} {c : Code} {H : Heap} {locs : List Loc} {cells slots : Nat} {Z : State → Prop} {q : Mt} {pc idx : Nat} {lsC : Array Slot}
theorem run_then {mc ms : Nat} {rest st0 : List Value} {Qa : State → Outcome → State → Prop} {free : Addr → Prop} (hr : va_Run p l e R s m args below meth c H locs cells slots mc ms (F0 m pc lsC st0) rest Qa free)
    (kk : ∀ (v : Option Value) (st1 t : State) (L : List Loc), (∀ x ∈ L, free x.base) → Qa st1 (.returned v) t → W p l e R s m args below meth c t.heap (locs ++ L) (cells + mc) (slots + ms) Z (F0 m (pc + 3) lsC (v.toList ++ rest))) : W p l e R s m args below meth c H locs cells slots Z (F0 m pc lsC st0) := by
  intro T hT X
  obtain ⟨v, st₀, t, T', L, h0, X', hL, e1, e2, hq, st⟩ := hr T hT X
  obtain ⟨t2, a1, b1⟩ := kk v st₀ t L hL hq T' e1 X'
  exact ⟨t2, st t2 a1, b1⟩
theorem blind {av : List Value} : FrameBlind (cPc D cA cS b B av h) := by
  intro a U g mk hp
  exact ⟨hp.1, hp.2.1, TB.same (u := U) rfl hp.2.2⟩
theorem gin {ws : List Cond} {w : Cond} (hw : w ∈ GWL) : GoodIn GWL (w :: GWL) := fun x hx => (List.mem_cons.mp hx).elim (fun e => by rw [e]; exact ⟨hw, gw_good w hw⟩) (fun hx => ⟨hx, gw_good x hx⟩)
/-- what the number of a callee says -/
theorem cal_ok {ee : Nat} (hok : eOK ee = true) : ∃ qc : Mt, Ms[ee / 32768]? = some qc ∧ mn (ee / 32768) = qc.1 ∧ (parseMethodDescriptor qc.1.desc).map (fun d => d.parameters.length) = some (ee / 8 % 16) ∧ (match ee % 8, qc.2.2.2.1 with
    | 0, none => true
    | 1, some .int => true
    | 1, some .boolean => true
    | 2, some .long => true
    | 3, some (.object _) => true
    | _, _ => false) = true ∧ plainName qc.1.cls = true ∧ qc.1.cls ≠ "java/lang/invoke/MethodHandle" ∧ qc.1.cls ≠ "java/lang/invoke/VarHandle" ∧ qc.2.2.1 ≤ 30 ∧ ee / 2048 % 16 ≤ qc.2.2.1 ∧ Cond.code qc.1 qc.2.1 qc.2.2.1 qc.2.2.2.1 ∈ GWL := by
  unfold eOK at hok
  cases hM : Ms[ee / 32768]? with
  | none => rw [hM] at hok; cases hok
  | some qc =>
    rw [hM] at hok
    simp only [Bool.and_eq_true, decide_eq_true_eq] at hok
    obtain ⟨⟨⟨⟨⟨⟨⟨a1, a2⟩, a3⟩, a4⟩, a5⟩, a6⟩, a7⟩, a8⟩ := hok
    refine ⟨qc, rfl, ?_, a2, a3, a4, a5, a6, Nat.le_of_ble_eq_true a7, Nat.le_of_ble_eq_true a8, gw_in (wd_code _ qc (Nat.lt_of_lt_of_le (Nat.lt_succ_self _) (Nat.le_of_ble_eq_true a1)) hM) rfl⟩
    unfold mn
    rw [List.getD_eq_getElem?_getD, hM]
    rfl
/-- behind a call -/
theorem cal_then {ar : Array Value} {st0 : List Value} {g g1 g' mc ms mL ee : Nat} {qc : Mt} {sr : List Value} {ls : List Value} {h0 : AH} {nx : Nat → List Value → AH → Prop}
    (hkd : (match ee % 8, qc.2.2.2.1 with
    | 0, none => true
    | 1, some .int => true
    | 1, some .boolean => true
    | 2, some .long => true
    | 3, some (.object _) => true
    | _, _ => false) = true)
    (hlo : ∀ x ∈ locs, B ≤ x.base) (hx : Ext h0 h) (hL : LR b B lsC mL ls) (hgg : g' ≤ g1 ∧ g1 ≤ g) (hc : cells + (g - g') ≤ mc) (hsl : slots + 400 * (g - g') ≤ ms)
    (hnx : ∀ (g2 : Nat) (st : List Value) (h2 : AH), nx g2 st h2 → ∀ (H : Heap) (locs : List Loc) (cells slots : Nat), HR D cA cS b B h2 H → (∀ x ∈ locs, B ≤ x.base) → Ext h0 h2 → g' ≤ g2 → cells + (g2 - g') ≤ mc → slots + 400 * (g2 - g') ≤ ms → W p l e R s m args below meth c H locs cells slots Z (F0 m (pc + 3) lsC (st.map (trV b B))))
    (hr : va_Run p l e R s m args below meth c H locs cells slots (g - g1) (400 * (g - g1)) (F0 m pc lsC st0) (sr.map (trV b B)) (cQc D cA cS b B qc.2.2.2.1 h (match ee % 8 with
      | 0 => asV fun h1 => Ext h h1 → nx g1 sr h1
      | 1 => asI fun x h1 => Ext h h1 → nx g1 (.int x :: sr) h1
      | 2 => asL fun x h1 => Ext h h1 → nx g1 (.long x :: sr) h1
      | _ => asR fun r h1 => Ext h h1 → (r = none → nx g1 (.null :: sr) h1) ∧ (∀ a, r = some a → nx g1 (.ref a :: sr) h1)) ar) (fun x => B ≤ x)) :
    W p l e R s m args below meth c H locs cells slots Z (F0 m pc lsC st0) := by
  refine run_then hr fun v st1 t L hLo hq => ?_
  obtain ⟨w, h1, e1, hQ, hx1, hH1, hok⟩ := hq
  have e1 : v = rvO b B w := by cases e1; rfl
  subst e1
  have hlo1 : ∀ x ∈ locs ++ L, B ≤ x.base := fun x hx => (List.mem_append.mp hx).elim (hlo x) (hLo x)
  have hgo : ∀ st, nx g1 st h1 → W p l e R s m args below meth c t.heap (locs ++ L) (cells + (g - g1)) (slots + 400 * (g - g1)) Z (F0 m (pc + 3) lsC (st.map (trV b B))) := fun st hn => hnx g1 st h1 hn t.heap _ _ _ hH1 hlo1 (hx.trans hx1) hgg.1 (by omega) (by omega)
  revert hkd hQ hok
  generalize qc.2.2.2.1 = rt
  match ee % 8 with
  | 0 => intro hkd hQ hok; cases w <;> first | exact hQ.elim | exact hgo _ (hQ hx1)
  | 1 => intro hkd hQ hok; cases w <;> first | exact hQ.elim | exact hgo _ (hQ hx1)
  | 2 => intro hkd hQ hok; cases w <;> first | exact hQ.elim | exact hgo _ (hQ hx1)
  | 3 => intro hkd hQ hok; cases w <;> first | exact hQ.elim | exact hgo _ ((hQ hx1).2 _ rfl) | exact hgo _ ((hQ hx1).1 rfl)
  | k + 4 => intro hkd hQ hok; cases w <;> first | exact hQ.elim | exact hgo _ ((hQ hx1).2 _ rfl) | exact hgo _ ((hQ hx1).1 rfl)
end CAL
end
section
/-! one step of the abstract machine is sound -/
section CPY
variable {D : va_G} {cA : Nat → ClassId} {cS : ClassId} {b B : Nat} {h : AH} {p : Program} {l : Launch} {e : Env} {R : Room} {s : State} {m : MethodId} {args : Array Value} {below : List Frame} {meth : Method} {c : Code} {H : Heap} {locs : List Loc} {cells slots : Nat} {Z : State → Prop} {q : Mt} {pc idx : Nat} {lsC : Array Slot}
theorem sd_copy (hCX : CX p s m args meth c q) (hTB : TB D cA cS s) (hdec : decode q.2.1 pc = .ok (.invokestatic idx, 3)) {ee : Nat} (hl : lk cpyT q.2.2.2.2.1 idx = some ee) (hH : HR D cA cS b B h H) (hlo : ∀ x ∈ locs, B ≤ x.base) (hsz : lsC.size = q.2.2.1) {a0 a1 n0 n1 : Nat} (e0 : hs h a0 = some (0, n0)) (e1 : hs h a1 = some (0, n1)) {sp dp n : Int32} (h1 : ¬ sp < 0) (h2 : ¬ dp < 0) (h3 : ¬ n < 0) (h4 : sp.toNatClampNeg + n.toNatClampNeg ≤ n0) (h5 : dp.toNatClampNeg + n.toNatClampNeg ≤ n1) (hframes : 1 ≤ R.frames) (hlocals : 60 ≤ R.locals) {rest : List Value} (hrest : (rest.map fun v => v.category).sum ≤ 8)
    (kk : ∀ (H1 : Heap) (locs1 : List Loc), HR D cA cS b B (wa h a1 (va_cpy (h.2.1 a0) (h.2.1 a1) sp.toNatClampNeg dp.toNatClampNeg n.toNatClampNeg)) H1 → (∀ x ∈ locs1, B ≤ x.base) → W p l e R s m args below meth c H1 locs1 cells slots Z (F0 m (pc + 3) lsC rest)) : W p l e R s m args below meth c H locs cells slots Z (F0 m pc lsC (.int n :: .int dp :: .ref (rho b B a1) :: .int sp :: .ref (rho b B a0) :: rest)) := by
  obtain ⟨hex, hb, hml, hrt, hown, hnm, hlk, hts⟩ := hCX
  have w1 := hts _ (gw_in (wd_cpy _ (lk_mem hl)) rfl)
  have w2 := hts _ (gw_in wd_cn rfl)
  have w3 := hts _ (gw_in wd_cs rfl)
  have w4 := hts _ (gw_in wd_ci rfl)
  have nn : ∀ z : Int32, ¬ z < 0 → z.toInt = (z.toNatClampNeg : Int) := by
    intro z hz
    have hz0 : (0 : Int) ≤ z.toInt := by
      have := Int32.not_lt.mp hz
      simpa using Int32.le_iff_toInt_le.mp this
    show z.toInt = ((z.toInt.toNat : Nat) : Int)
    omega
  obtain ⟨hc0, -⟩ := hH.at e0 (by simp)
  obtain ⟨hc1, hB1⟩ := hH.at e1 (by simp)
  have hc0 : H[rho b B a0]? = some (vp_cell (cA 0) (n0, .inl (h.2.1 a0))) := hc0
  have hc1 : H[rho b B a1]? = some (vp_cell (cA 0) (n1, .inl (h.2.1 a1))) := hc1
  have hK := hTB.1
  intro T hT X
  obtain ⟨-, k0, hk0, cm0, hkk0⟩ := (hK.2 0 (cA 0, .int) rfl).1 n0 (fun j => .int (h.2.1 a0 j))
  obtain ⟨-, k1, hk1, cm1, hkk1⟩ := (hK.2 0 (cA 0, .int) rfl).1 n1 (fun j => .int (h.2.1 a1 j))
  obtain ⟨vm', X', step⟩ := X.arraycopy hex hown w1 w2 w3 w4 (src := rho b B a0) (dst := rho b B a1) (cs := vp_cell (cA 0) (n0, .inl (h.2.1 a0))) (cd := vp_cell (cA 0) (n1, .inl (h.2.1 a1))) (srcPos := sp) (destPos := dp) (n := n) (by rw [hT]; exact hc0) (by rw [hT]; exact hc1)
    (fun _ h => by cases h) (fun _ h => by cases h) (fun h => by cases h) (fun h => by cases h) hk0 hk1 hkk0 hkk1 (by simp [refKind]) h1 h2 h3
    (by rw [nn sp h1, nn n h3]; show ¬ _ > ((arrV (cA 0) n0 (fun j => .int (h.2.1 a0 j))).slots.size : Int); rw [arrV_size]; omega)
    (by rw [nn dp h2, nn n h3]; show ¬ _ > ((arrV (cA 0) n1 (fun j => .int (h.2.1 a1 j))).slots.size : Int); rw [arrV_size]; omega)
    (fun vm₁ _ i hi => by
      have e : (vp_cell (cA 0) (n0, .inl (h.2.1 a0))).slots.getD (sp.toNatClampNeg + i) .null = .int (h.2.1 a0 (sp.toNatClampNeg + i)) := by
        show (arrV (cA 0) n0 (fun j => .int (h.2.1 a0 j))).slots.getD _ _ = _
        rw [Array.getD_eq_getD_getElem?, arrV_read _ _ (by omega)]
        rfl
      refine ⟨?_, ?_⟩
      · rw [e]
        rfl
      · rw [e]
        exact trivial)
    (g := F0 m pc lsC (.int n :: .int dp :: .ref (rho b B a1) :: .int sp :: .ref (rho b B a0) :: rest)) rfl (by rw [hml]; exact hsz) (rest := rest) rfl (by rw [hb]; exact hdec) hframes (by show 2 * 0 + _ + (5 + 2 + 11) ≤ _; omega)
  have e2 : copied (vp_cell (cA 0) (n0, .inl (h.2.1 a0))) (vp_cell (cA 0) (n1, .inl (h.2.1 a1))) sp dp n = vp_cell (cA 0) (n1, .inl (va_cpy (h.2.1 a0) (h.2.1 a1) sp.toNatClampNeg dp.toNatClampNeg n.toNatClampNeg)) := va_copied (fun z => .int z) (cA 0) (cA 0) (h.2.1 a0) (h.2.1 a1) h4
  rw [e2] at X' step
  have hl : rho b B a1 < H.size := (Array.getElem?_eq_some_iff.mp hc1).1
  have hheap : ((T.setVm vm').setCell (rho b B a1) (vp_cell (cA 0) (n1, .inl (va_cpy (h.2.1 a0) (h.2.1 a1) sp.toNatClampNeg dp.toNatClampNeg n.toNatClampNeg)))).heap = H.setIfInBounds (rho b B a1) (vp_cell (cA 0) (n1, .inl (va_cpy (h.2.1 a0) (h.2.1 a1) sp.toNatClampNeg dp.toNatClampNeg n.toNatClampNeg))) := by rw [← hT]; rfl
  have oq : ∀ x : Nat, x ≠ rho b B a1 → (H.setIfInBounds (rho b B a1) (vp_cell (cA 0) (n1, .inl (va_cpy (h.2.1 a0) (h.2.1 a1) sp.toNatClampNeg dp.toNatClampNeg n.toNatClampNeg))))[x]? = H[x]? := fun x hx => by simp [Array.getElem?_setIfInBounds, Ne.symm hx]
  obtain ⟨t, b1, b2⟩ := kk _ _ (hH.upd e1 (by simp) (by simp) oq rfl (fun a' q' hne => eOf_wa q' hne) (fun h0 => by funext j; simp [wa, Ne.symm h0]) (by
      show (H.setIfInBounds (rho b B a1) _)[rho b B a1]? = some (vp_cell (cA 0) (n1, .inl ((wa h a1 (va_cpy (h.2.1 a0) (h.2.1 a1) sp.toNatClampNeg dp.toNatClampNeg n.toNatClampNeg)).2.1 a1)))
      have i1 : (wa h a1 (va_cpy (h.2.1 a0) (h.2.1 a1) sp.toNatClampNeg dp.toNatClampNeg n.toNatClampNeg)).2.1 a1 = va_cpy (h.2.1 a0) (h.2.1 a1) sp.toNatClampNeg dp.toNatClampNeg n.toNatClampNeg := by funext j; simp [wa]
      rw [i1]
      simp [Array.getElem?_setIfInBounds, hl])) (fun x hx => by
      rcases List.mem_append.mp hx with h | h
      · exact hlo x h
      · obtain ⟨z, -, hz⟩ := List.mem_map.mp h
        rw [← hz]
        exact hB1) _ hheap X'
  exact ⟨t, step t b1, b2⟩
end CPY
theorem cal_inv {d g g' ee : Nat} {av sr : List Value} {h : AH} {nx : Nat → List Value → AH → Prop} (hc : cal Ev d g g' ee av h sr nx) : wsum sr ≤ 8 ∧ wsum av ≤ ee / 2048 % 16 ∧ ∃ d1, d = d1 + 1 ∧ ∃ g1, (g' ≤ g1 ∧ g1 ≤ g) ∧ Ev d1 g g1 (ee / 32768) 0 (exL av) [] h (match ee % 8 with
      | 0 => asV fun h1 => Ext h h1 → nx g1 sr h1
      | 1 => asI fun x h1 => Ext h h1 → nx g1 (.int x :: sr) h1
      | 2 => asL fun x h1 => Ext h h1 → nx g1 (.long x :: sr) h1
      | _ => asR fun r h1 => Ext h h1 → (r = none → nx g1 (.null :: sr) h1) ∧ (∀ a, r = some a → nx g1 (.ref a :: sr) h1)) := by
  unfold cal at hc
  obtain ⟨h1, h2⟩ := bif_inv hc
  rw [Bool.and_eq_true] at h1
  refine ⟨Nat.le_of_ble_eq_true h1.1, Nat.le_of_ble_eq_true h1.2, ?_⟩
  cases d with
  | zero => exact h2.elim
  | succ d1 => exact ⟨d1, rfl, h2⟩
def AtW (D : va_G) (cA : Nat → ClassId) (cS : ClassId) (b B : Nat) (p : Program) (l : Launch) (e : Env) (R : Room) (s : State) (m : MethodId) (args : Array Value) (below : List Frame) (meth : Method) (c : Code) (Z : State → Prop) (mc ms : Nat) (h0 : AH) (mL g' pc g : Nat) (ls st : List Value) (h : AH) : Prop :=
  ∀ (H : Heap) (locs : List Loc) (cells slots : Nat) (lsC : Array Slot), HR D cA cS b B h H → (∀ x ∈ locs, B ≤ x.base) → Ext h0 h → LR b B lsC mL ls → g' ≤ g → cells + (g - g') ≤ mc → slots + 400 * (g - g') ≤ ms → W p l e R s m args below meth c H locs cells slots Z (F0 m pc lsC (st.map (trV b B)))
def RetK (D : va_G) (cA : Nat → ClassId) (cS : ClassId) (b B : Nat) (p : Program) (l : Launch) (e : Env) (R : Room) (s : State) (m : MethodId) (args : Array Value) (below : List Frame) (meth : Method) (c : Code) (Z : State → Prop) (mc ms : Nat) (h0 : AH) (q : Mt) (Q : PQ) : Prop :=
  ∀ (v : Value) (h1 : AH) (H1 : Heap) (locs1 : List Loc) (pc1 : Nat) (lsC1 : Array Slot), Q v h1 → Ext h0 h1 → HR D cA cS b B h1 H1 → (∀ x ∈ locs1, B ≤ x.base) → vOK q.2.2.2.1 v → decode q.2.1 pc1 = .ok (retI v, 1) → W p l e R s m args below meth c H1 locs1 mc ms Z (F0 m pc1 lsC1 (retS b B v))
theorem blt_lt {a b : Nat} (h : Nat.blt a b = true) : a < b := Nat.le_of_ble_eq_true h
theorem tnn {t : Int} (h : decide (0 ≤ t) = true) : t = (t.toNat : Int) := by
  have := of_decide_eq_true h
  omega
set_option maxRecDepth 10000 in
set_option maxHeartbeats 4000000 in
theorem stp_sound {D : va_G} {cA : Nat → ClassId} {cS : ClassId} {b B : Nat} {p : Program} {l : Launch} {e : Env} {R : Room} {s : State} {m : MethodId} {args : Array Value} {below : List Frame} {meth : Method} {c : Code} {Z : State → Prop} {mc ms : Nat} {h0 : AH} {q : Mt} {d g' : Nat} {Q : PQ} (hCX : CX p s m args meth c q) (hTB : TB D cA cS s) (hfr : d ≤ R.frames) (hlc : 60 * d ≤ R.locals) (hmc : mc ≤ R.cells) (hms : ms ≤ R.slots) (hret : RetK D cA cS b B p l e R s m args below meth c Z mc ms h0 q Q)
    {pc len : Nat} {i i' : Instr} (hdec : decode q.2.1 pc = .ok (i, len)) (hln : len = lnI i len) (hres : resI q.2.2.2.2.1 (iniM q) pc i = some i') (hsto : stoOK q.2.2.1 i' = true) {nx : Nat → List Value → List Value → AH → Prop} {jp : Int → Nat → List Value → List Value → AH → Prop}
    (hnx : ∀ g ls st h, nx g ls st h → AtW D cA cS b B p l e R s m args below meth c Z mc ms h0 q.2.2.1 g' (pc + len) g ls st h) (hjp : ∀ t g ls st h, jp t g ls st h → AtW D cA cS b B p l e R s m args below meth c Z mc ms h0 q.2.2.1 g' t.toNat g ls st h)
    {g : Nat} {ls st : List Value} {h : AH} (hstp : stp Ev d g' q.2.2.2.1 Q nx jp g ls st h i') : AtW D cA cS b B p l e R s m args below meth c Z mc ms h0 q.2.2.1 g' pc g ls st h := by
  intro H locs cells slots lsC hH hlo hx hL hg hc hsl
  have hCX' := hCX
  obtain ⟨hex, hb, hml, hrt, hown, hnm, hlk, hts⟩ := hCX'
  cases i with
  | iload_n k =>
    obtain rfl : len = 1 := hln
    obtain rfl : Instr.iload k.val = i' := Option.some.inj hres
    obtain ⟨x, h1, h2⟩ := lI_inv hstp
    exact lv_iload_n hex hb hdec rfl (hL.get h1 rfl) (hnx _ _ _ _ h2 H locs cells slots lsC hH hlo hx hL hg hc hsl)
  | iload k =>
    obtain rfl : len = 2 := hln
    obtain rfl : Instr.iload k = i' := Option.some.inj hres
    obtain ⟨x, h1, h2⟩ := lI_inv hstp
    exact lv_iload hex hb hdec (hL.get h1 rfl) (hnx _ _ _ _ h2 H locs cells slots lsC hH hlo hx hL hg hc hsl)
  | lload_n k =>
    obtain rfl : len = 1 := hln
    obtain rfl : Instr.lload k.val = i' := Option.some.inj hres
    obtain ⟨x, h1, h2⟩ := lJ_inv hstp
    exact lv_lload_n hex hb hdec rfl (hL.get h1 rfl) (hnx _ _ _ _ h2 H locs cells slots lsC hH hlo hx hL hg hc hsl)
  | lload k =>
    obtain rfl : len = 2 := hln
    obtain rfl : Instr.lload k = i' := Option.some.inj hres
    obtain ⟨x, h1, h2⟩ := lJ_inv hstp
    exact lv_lload hex hb hdec (hL.get h1 rfl) (hnx _ _ _ _ h2 H locs cells slots lsC hH hlo hx hL hg hc hsl)
  | aload_n k =>
    obtain rfl : len = 1 := hln
    obtain rfl : Instr.aload k.val = i' := Option.some.inj hres
    have h9 : lA (gL ls k.val) (fun v => nx g ls (v :: st) h) := hstp
    rcases lA_inv h9 with ⟨x, h1, h2⟩ | ⟨h1, h2⟩
    · exact lv_aload_n hex hb hdec rfl (hL.get h1 rfl) (hnx _ _ _ _ h2 H locs cells slots lsC hH hlo hx hL hg hc hsl)
    · exact lv_aload_nN hex hb hdec rfl (hL.get h1 rfl) (hnx _ _ _ _ h2 H locs cells slots lsC hH hlo hx hL hg hc hsl)
  | aload k =>
    obtain rfl : len = 2 := hln
    obtain rfl : Instr.aload k = i' := Option.some.inj hres
    have h9 : lA (gL ls k) (fun v => nx g ls (v :: st) h) := hstp
    rcases lA_inv h9 with ⟨x, h1, h2⟩ | ⟨h1, h2⟩
    · exact lv_aload hex hb hdec (hL.get h1 rfl) (hnx _ _ _ _ h2 H locs cells slots lsC hH hlo hx hL hg hc hsl)
    · exact lv_aloadN hex hb hdec (hL.get h1 rfl) (hnx _ _ _ _ h2 H locs cells slots lsC hH hlo hx hL hg hc hsl)
  | istore_n k =>
    obtain rfl : len = 1 := hln
    obtain rfl : Instr.istore k.val = i' := Option.some.inj hres
    obtain ⟨x, s1, rfl, h1⟩ := pI_inv hstp
    exact lv_istore_n hex hb hdec rfl hL (blt_lt hsto) rfl fun ls' hl' => hnx _ _ _ _ h1 H locs cells slots ls' hH hlo hx (LR.st1 hl') hg hc hsl
  | istore k =>
    obtain rfl : len = 2 := hln
    obtain rfl : Instr.istore k = i' := Option.some.inj hres
    obtain ⟨x, s1, rfl, h1⟩ := pI_inv hstp
    exact lv_istore hex hb hdec hL (blt_lt hsto) rfl fun ls' hl' => hnx _ _ _ _ h1 H locs cells slots ls' hH hlo hx (LR.st1 hl') hg hc hsl
  | lstore_n k =>
    obtain rfl : len = 1 := hln
    obtain rfl : Instr.lstore k.val = i' := Option.some.inj hres
    obtain ⟨x, s1, rfl, h1⟩ := pJ_inv hstp
    exact lv_lstore_n hex hb hdec rfl hL (blt_lt hsto) rfl fun ls' hl' => hnx _ _ _ _ h1 H locs cells slots ls' hH hlo hx (LR.st2 hl') hg hc hsl
  | lstore k =>
    obtain rfl : len = 2 := hln
    obtain rfl : Instr.lstore k = i' := Option.some.inj hres
    obtain ⟨x, s1, rfl, h1⟩ := pJ_inv hstp
    exact lv_lstore hex hb hdec hL (blt_lt hsto) rfl fun ls' hl' => hnx _ _ _ _ h1 H locs cells slots ls' hH hlo hx (LR.st2 hl') hg hc hsl
  | astore_n k =>
    obtain rfl : len = 1 := hln
    obtain rfl : Instr.astore k.val = i' := Option.some.inj hres
    obtain ⟨v, s1, rfl, h1⟩ := pV_inv hstp
    rcases lA_inv h1 with ⟨x, rfl, h2⟩ | ⟨rfl, h2⟩
    · exact lv_astore_n hex hb hdec rfl hL (blt_lt hsto) rfl fun ls' hl' => hnx _ _ _ _ h2 H locs cells slots ls' hH hlo hx (LR.st1 (v := .ref x) hl') hg hc hsl
    · exact lv_astore_nN hex hb hdec rfl hL (blt_lt hsto) rfl fun ls' hl' => hnx _ _ _ _ h2 H locs cells slots ls' hH hlo hx (LR.st1 (v := .null) hl') hg hc hsl
  | astore k =>
    obtain rfl : len = 2 := hln
    obtain rfl : Instr.astore k = i' := Option.some.inj hres
    obtain ⟨v, s1, rfl, h1⟩ := pV_inv hstp
    rcases lA_inv h1 with ⟨x, rfl, h2⟩ | ⟨rfl, h2⟩
    · exact lv_astore hex hb hdec hL (blt_lt hsto) rfl fun ls' hl' => hnx _ _ _ _ h2 H locs cells slots ls' hH hlo hx (LR.st1 (v := .ref x) hl') hg hc hsl
    · exact lv_astoreN hex hb hdec hL (blt_lt hsto) rfl fun ls' hl' => hnx _ _ _ _ h2 H locs cells slots ls' hH hlo hx (LR.st1 (v := .null) hl') hg hc hsl
  | iinc k n =>
    obtain rfl : len = 3 := hln
    obtain rfl : Instr.iinc k n = i' := Option.some.inj hres
    obtain ⟨x, h1, h2⟩ := lI_inv hstp
    have hm : (k, Value.int x) ∈ enL b B 0 ls := (enL_mem ls 0).mpr ⟨k, .int x, by have := gL_get ls k (by rw [h1]; rfl); rw [h1] at this; exact this, rfl, by omega, rfl⟩
    obtain ⟨j, hj⟩ := List.getElem?_of_mem hm
    exact lv_iinc hex hb hdec hL hj (by rw [cI_eq]) (blt_lt hsto) rfl fun ls' hl' => hnx _ _ _ _ h2 H locs cells slots ls' hH hlo hx (LR.st1 (v := .int (x + cI n)) hl') hg hc hsl
  | iconst n =>
    obtain rfl : len = 1 := hln
    obtain rfl : Instr.iconst n = i' := Option.some.inj hres
    exact lv_iconst hex hb hdec (cI_eq n) (hnx _ _ _ _ hstp H locs cells slots lsC hH hlo hx hL hg hc hsl)
  | bipush n =>
    obtain rfl : len = 2 := hln
    have hr : (if (Int8.ofInt n).toInt32 = Int32.ofInt n then some (Instr.iconst n) else none) = some i' := hres
    split at hr
    · rename_i hcd
      obtain rfl := Option.some.inj hr
      exact lv_bipush hex hb hdec (hcd.trans (cI_eq n)) (hnx _ _ _ _ hstp H locs cells slots lsC hH hlo hx hL hg hc hsl)
    · cases hr
  | sipush n =>
    obtain rfl : len = 3 := hln
    have hr : (if (Int16.ofInt n).toInt32 = Int32.ofInt n then some (Instr.iconst n) else none) = some i' := hres
    split at hr
    · rename_i hcd
      obtain rfl := Option.some.inj hr
      exact lv_sipush hex hb hdec (hcd.trans (cI_eq n)) (hnx _ _ _ _ hstp H locs cells slots lsC hH hlo hx hL hg hc hsl)
    · cases hr
  | ldc_w k =>
    obtain rfl : len = 3 := hln
    cases hk : lk cstT q.2.2.2.2.1 k with
    | none => simp [resI, hk] at hres
    | some n =>
      obtain rfl : Instr.iconst n = i' := by simpa [resI, hk] using hres
      exact lv_ldcw hex hb hown (hts _ (gw_in (wd_cst _ (lk_mem hk)) rfl)) hdec (hnx _ _ _ _ hstp H locs cells slots lsC hH hlo hx hL hg hc hsl)
  | ldc2_w k =>
    obtain rfl : len = 3 := hln
    cases hk : lk csLT q.2.2.2.2.1 k with
    | none => simp [resI, hk] at hres
    | some n =>
      obtain rfl : Instr.sipush n = i' := by simpa [resI, hk] using hres
      exact lv_ldc2 hex hb hown (hts _ (gw_in (wd_csl _ (lk_mem hk)) rfl)) hdec (hnx _ _ _ _ hstp H locs cells slots lsC hH hlo hx hL hg hc hsl)
  | lconst n =>
    obtain rfl : len = 1 := hln
    obtain rfl : Instr.sipush (.ofNat n.val) = i' := Option.some.inj hres
    exact lv_lconst hex hb hdec (cL_nat n.val) (hnx _ _ _ _ hstp H locs cells slots lsC hH hlo hx hL hg hc hsl)
  | aconst_null =>
    obtain rfl : len = 1 := hln
    obtain rfl : Instr.aconst_null = i' := Option.some.inj hres
    exact lv_null hex hb hdec (hnx _ _ _ _ hstp H locs cells slots lsC hH hlo hx hL hg hc hsl)
  | dup =>
    obtain rfl : len = 1 := hln
    obtain rfl : Instr.dup = i' := Option.some.inj hres
    obtain ⟨v, s1, rfl, h1⟩ := pV_inv hstp
    obtain ⟨h2, h3⟩ := bif_inv h1
    exact lv_dup hex hb hdec ((trV_cat b B v).trans (Nat.eq_of_beq_eq_true h2)) (hnx _ _ _ _ h3 H locs cells slots lsC hH hlo hx hL hg hc hsl)
  | pop =>
    obtain rfl : len = 1 := hln
    obtain rfl : Instr.pop = i' := Option.some.inj hres
    obtain ⟨v, s1, rfl, h1⟩ := pV_inv hstp
    obtain ⟨h2, h3⟩ := bif_inv h1
    exact lv_pop hex hb hdec ((trV_cat b B v).trans (Nat.eq_of_beq_eq_true h2)) (hnx _ _ _ _ h3 H locs cells slots lsC hH hlo hx hL hg hc hsl)
  | dup2 =>
    obtain rfl : len = 1 := hln
    obtain rfl : Instr.dup2 = i' := Option.some.inj hres
    obtain ⟨v, s1, rfl, h1⟩ := pV_inv hstp
    obtain ⟨w, s2, rfl, h1⟩ := pV_inv h1
    obtain ⟨h2, h3⟩ := bif_inv h1
    rw [Bool.and_eq_true] at h2
    exact lv_dup2_11 hex hb hdec ((trV_cat b B v).trans (Nat.eq_of_beq_eq_true h2.1)) ((trV_cat b B w).trans (Nat.eq_of_beq_eq_true h2.2)) (hnx _ _ _ _ h3 H locs cells slots lsC hH hlo hx hL hg hc hsl)
  | iadd =>
    obtain rfl : len = 1 := hln
    obtain rfl : Instr.iadd = i' := Option.some.inj hres
    obtain ⟨y, s1, rfl, h1⟩ := pI_inv hstp
    obtain ⟨x, s2, rfl, h2⟩ := pI_inv h1
    exact lv_iadd hex hb hdec (hnx _ _ _ _ h2 H locs cells slots lsC hH hlo hx hL hg hc hsl)
  | isub =>
    obtain rfl : len = 1 := hln
    obtain rfl : Instr.isub = i' := Option.some.inj hres
    obtain ⟨y, s1, rfl, h1⟩ := pI_inv hstp
    obtain ⟨x, s2, rfl, h2⟩ := pI_inv h1
    exact lv_isub hex hb hdec (hnx _ _ _ _ h2 H locs cells slots lsC hH hlo hx hL hg hc hsl)
  | imul =>
    obtain rfl : len = 1 := hln
    obtain rfl : Instr.imul = i' := Option.some.inj hres
    obtain ⟨y, s1, rfl, h1⟩ := pI_inv hstp
    obtain ⟨x, s2, rfl, h2⟩ := pI_inv h1
    exact lv_imul hex hb hdec (hnx _ _ _ _ h2 H locs cells slots lsC hH hlo hx hL hg hc hsl)
  | iand =>
    obtain rfl : len = 1 := hln
    obtain rfl : Instr.iand = i' := Option.some.inj hres
    obtain ⟨y, s1, rfl, h1⟩ := pI_inv hstp
    obtain ⟨x, s2, rfl, h2⟩ := pI_inv h1
    exact lv_iand hex hb hdec (hnx _ _ _ _ h2 H locs cells slots lsC hH hlo hx hL hg hc hsl)
  | ior =>
    obtain rfl : len = 1 := hln
    obtain rfl : Instr.ior = i' := Option.some.inj hres
    obtain ⟨y, s1, rfl, h1⟩ := pI_inv hstp
    obtain ⟨x, s2, rfl, h2⟩ := pI_inv h1
    exact lv_ior hex hb hdec (hnx _ _ _ _ h2 H locs cells slots lsC hH hlo hx hL hg hc hsl)
  | ixor =>
    obtain rfl : len = 1 := hln
    obtain rfl : Instr.ixor = i' := Option.some.inj hres
    obtain ⟨y, s1, rfl, h1⟩ := pI_inv hstp
    obtain ⟨x, s2, rfl, h2⟩ := pI_inv h1
    exact lv_ixor hex hb hdec (hnx _ _ _ _ h2 H locs cells slots lsC hH hlo hx hL hg hc hsl)
  | ishl =>
    obtain rfl : len = 1 := hln
    obtain rfl : Instr.ishl = i' := Option.some.inj hres
    obtain ⟨y, s1, rfl, h1⟩ := pI_inv hstp
    obtain ⟨x, s2, rfl, h2⟩ := pI_inv h1
    exact lv_ishl hex hb hdec (hnx _ _ _ _ h2 H locs cells slots lsC hH hlo hx hL hg hc hsl)
  | ishr =>
    obtain rfl : len = 1 := hln
    obtain rfl : Instr.ishr = i' := Option.some.inj hres
    obtain ⟨y, s1, rfl, h1⟩ := pI_inv hstp
    obtain ⟨x, s2, rfl, h2⟩ := pI_inv h1
    exact lv_ishr hex hb hdec (hnx _ _ _ _ h2 H locs cells slots lsC hH hlo hx hL hg hc hsl)
  | iushr =>
    obtain rfl : len = 1 := hln
    obtain rfl : Instr.iushr = i' := Option.some.inj hres
    obtain ⟨y, s1, rfl, h1⟩ := pI_inv hstp
    obtain ⟨x, s2, rfl, h2⟩ := pI_inv h1
    exact lv_iushr hex hb hdec rfl (hnx _ _ _ _ h2 H locs cells slots lsC hH hlo hx hL hg hc hsl)
  | idiv =>
    obtain rfl : len = 1 := hln
    obtain rfl : Instr.idiv = i' := Option.some.inj hres
    obtain ⟨y, s1, rfl, h1⟩ := pI_inv hstp
    obtain ⟨x, s2, rfl, h2, h3⟩ := pI_inv h1
    exact lv_idiv hex hb hdec h2 (hnx _ _ _ _ h3 H locs cells slots lsC hH hlo hx hL hg hc hsl)
  | irem =>
    obtain rfl : len = 1 := hln
    obtain rfl : Instr.irem = i' := Option.some.inj hres
    obtain ⟨y, s1, rfl, h1⟩ := pI_inv hstp
    obtain ⟨x, s2, rfl, h2, h3⟩ := pI_inv h1
    exact lv_irem hex hb hdec h2 (hnx _ _ _ _ h3 H locs cells slots lsC hH hlo hx hL hg hc hsl)
  | ladd =>
    obtain rfl : len = 1 := hln
    obtain rfl : Instr.ladd = i' := Option.some.inj hres
    obtain ⟨y, s1, rfl, h1⟩ := pJ_inv hstp
    obtain ⟨x, s2, rfl, h2⟩ := pJ_inv h1
    exact lv_ladd hex hb hdec (hnx _ _ _ _ h2 H locs cells slots lsC hH hlo hx hL hg hc hsl)
  | lcmp =>
    obtain rfl : len = 1 := hln
    obtain rfl : Instr.lcmp = i' := Option.some.inj hres
    obtain ⟨y, s1, rfl, h1⟩ := pJ_inv hstp
    obtain ⟨x, s2, rfl, h2⟩ := pJ_inv h1
    exact W.lcmp hex hb hdec (hnx _ _ _ _ h2 H locs cells slots lsC hH hlo hx hL hg hc hsl)
  | i2l =>
    obtain rfl : len = 1 := hln
    obtain rfl : Instr.i2l = i' := Option.some.inj hres
    obtain ⟨x, s1, rfl, h1⟩ := pI_inv hstp
    exact lv_i2l hex hb hdec rfl (hnx _ _ _ _ h1 H locs cells slots lsC hH hlo hx hL hg hc hsl)
  | i2b =>
    obtain rfl : len = 1 := hln
    obtain rfl : Instr.i2b = i' := Option.some.inj hres
    obtain ⟨x, s1, rfl, h1⟩ := pI_inv hstp
    exact lv_i2b hex hb hdec rfl (hnx _ _ _ _ h1 H locs cells slots lsC hH hlo hx hL hg hc hsl)
  | i2s =>
    obtain rfl : len = 1 := hln
    obtain rfl : Instr.i2s = i' := Option.some.inj hres
    obtain ⟨x, s1, rfl, h1⟩ := pI_inv hstp
    exact lv_i2s hex hb hdec rfl (hnx _ _ _ _ h1 H locs cells slots lsC hH hlo hx hL hg hc hsl)
  | goto t =>
    obtain rfl : len = 3 := hln
    obtain rfl : Instr.goto (pc + t) = i' := Option.some.inj hres
    exact lv_goto hex hb hdec (tnn hsto) (hjp _ _ _ _ _ hstp H locs cells slots lsC hH hlo hx hL hg hc hsl)
  | if_icmp c1 t =>
    obtain rfl : len = 3 := hln
    obtain rfl : Instr.if_icmp c1 (pc + t) = i' := Option.some.inj hres
    obtain ⟨y, s1, rfl, h1⟩ := pI_inv hstp
    obtain ⟨x, s2, rfl, h2⟩ := pI_inv h1
    cases c1
    · exact lv_icmp_eq hex hb hdec (tnn hsto) (fun e => hjp _ _ _ _ _ (h2.1 e) H locs cells slots lsC hH hlo hx hL hg hc hsl) (fun e => hnx _ _ _ _ (h2.2 e) H locs cells slots lsC hH hlo hx hL hg hc hsl)
    · exact lv_icmp_ne hex hb hdec (tnn hsto) (fun e => hjp _ _ _ _ _ (h2.1 e) H locs cells slots lsC hH hlo hx hL hg hc hsl) (fun e => hnx _ _ _ _ (h2.2 e) H locs cells slots lsC hH hlo hx hL hg hc hsl)
    · exact lv_icmp_lt hex hb hdec (tnn hsto) (fun e => hjp _ _ _ _ _ (h2.1 e) H locs cells slots lsC hH hlo hx hL hg hc hsl) (fun e => hnx _ _ _ _ (h2.2 e) H locs cells slots lsC hH hlo hx hL hg hc hsl)
    · exact lv_icmp_ge hex hb hdec (tnn hsto) (fun e => hjp _ _ _ _ _ (h2.1 e) H locs cells slots lsC hH hlo hx hL hg hc hsl) (fun e => hnx _ _ _ _ (h2.2 e) H locs cells slots lsC hH hlo hx hL hg hc hsl)
    · exact lv_icmp_gt hex hb hdec (tnn hsto) (fun e => hjp _ _ _ _ _ (h2.1 e) H locs cells slots lsC hH hlo hx hL hg hc hsl) (fun e => hnx _ _ _ _ (h2.2 e) H locs cells slots lsC hH hlo hx hL hg hc hsl)
    · exact lv_icmp_le hex hb hdec (tnn hsto) (fun e => hjp _ _ _ _ _ (h2.1 e) H locs cells slots lsC hH hlo hx hL hg hc hsl) (fun e => hnx _ _ _ _ (h2.2 e) H locs cells slots lsC hH hlo hx hL hg hc hsl)
  | ifCond c1 t =>
    obtain rfl : len = 3 := hln
    obtain rfl : Instr.ifCond c1 (pc + t) = i' := Option.some.inj hres
    obtain ⟨x, s1, rfl, h2⟩ := pI_inv hstp
    cases c1
    · exact lv_if_eq hex hb hdec (tnn hsto) (fun e => hjp _ _ _ _ _ (h2.1 e) H locs cells slots lsC hH hlo hx hL hg hc hsl) (fun e => hnx _ _ _ _ (h2.2 e) H locs cells slots lsC hH hlo hx hL hg hc hsl)
    · exact lv_if_ne hex hb hdec (tnn hsto) (fun e => hjp _ _ _ _ _ (h2.1 e) H locs cells slots lsC hH hlo hx hL hg hc hsl) (fun e => hnx _ _ _ _ (h2.2 e) H locs cells slots lsC hH hlo hx hL hg hc hsl)
    · exact lv_if_lt hex hb hdec (tnn hsto) (fun e => hjp _ _ _ _ _ (h2.1 e) H locs cells slots lsC hH hlo hx hL hg hc hsl) (fun e => hnx _ _ _ _ (h2.2 e) H locs cells slots lsC hH hlo hx hL hg hc hsl)
    · exact lv_if_ge hex hb hdec (tnn hsto) (fun e => hjp _ _ _ _ _ (h2.1 e) H locs cells slots lsC hH hlo hx hL hg hc hsl) (fun e => hnx _ _ _ _ (h2.2 e) H locs cells slots lsC hH hlo hx hL hg hc hsl)
    · exact lv_if_gt hex hb hdec (tnn hsto) (fun e => hjp _ _ _ _ _ (h2.1 e) H locs cells slots lsC hH hlo hx hL hg hc hsl) (fun e => hnx _ _ _ _ (h2.2 e) H locs cells slots lsC hH hlo hx hL hg hc hsl)
    · exact lv_if_le hex hb hdec (tnn hsto) (fun e => hjp _ _ _ _ _ (h2.1 e) H locs cells slots lsC hH hlo hx hL hg hc hsl) (fun e => hnx _ _ _ _ (h2.2 e) H locs cells slots lsC hH hlo hx hL hg hc hsl)
  | ifnull t =>
    obtain rfl : len = 3 := hln
    obtain rfl : Instr.ifnull (pc + t) = i' := Option.some.inj hres
    obtain ⟨v, s1, rfl, h1⟩ := pV_inv hstp
    cases v <;> first | exact h1.elim | exact lv_ifnullN hex hb hdec (tnn hsto) (hjp _ _ _ _ _ h1 H locs cells slots lsC hH hlo hx hL hg hc hsl) | exact lv_ifnull hex hb hdec (hnx _ _ _ _ h1 H locs cells slots lsC hH hlo hx hL hg hc hsl)
  | ifnonnull t =>
    obtain rfl : len = 3 := hln
    obtain rfl : Instr.ifnonnull (pc + t) = i' := Option.some.inj hres
    obtain ⟨v, s1, rfl, h1⟩ := pV_inv hstp
    cases v <;> first | exact h1.elim | exact lv_ifnonnullN hex hb hdec (hnx _ _ _ _ h1 H locs cells slots lsC hH hlo hx hL hg hc hsl) | exact lv_ifnonnull hex hb hdec (tnn hsto) (hjp _ _ _ _ _ h1 H locs cells slots lsC hH hlo hx hL hg hc hsl)
  | tableswitch dt lo hi offs =>
    have hr : (if lo + offs.size = hi + 1 ∧ -2147483648 ≤ lo ∧ hi < 2147483648 then some (Instr.tableswitch (pc + dt) lo hi (offs.map fun o => pc + o)) else none) = some i' := hres
    split at hr
    · rename_i hcd
      obtain rfl := Option.some.inj hr
      obtain ⟨x, s1, rfl, h1, h2⟩ := pI_inv hstp
      have hsto : (decide (0 ≤ (pc : Int) + dt) && (offs.map fun o => (pc : Int) + o).toList.all fun t => decide (0 ≤ t)) = true := hsto
      rw [Bool.and_eq_true] at hsto
      by_cases ho : x.toInt < lo ∨ hi < x.toInt
      · exact lv_tableOut hex hb hdec ho (tnn hsto.1) (hjp _ _ _ _ _ (h2 ho) H locs cells slots lsC hH hlo hx hL hg hc hsl)
      · have ho1 : ¬ x.toInt < lo := fun z => ho (Or.inl z)
        have ho2 : ¬ hi < x.toInt := fun z => ho (Or.inr z)
        have hlt : (x.toInt - lo).toNat < offs.size := by omega
        obtain ⟨off, hoff⟩ : ∃ off, offs[(x.toInt - lo).toNat]? = some off := ⟨offs[(x.toInt - lo).toNat], Array.getElem?_eq_getElem hlt⟩
        have hof2 : (offs.map fun o => (pc : Int) + o).toList[(x.toInt - lo).toNat]? = some (pc + off) := by
          rw [Array.getElem?_toList, Array.getElem?_map, hoff]
          rfl
        have hK := swT_get _ _ _ _ h1 hof2 (by rw [← cI_eq, show lo + ((x.toInt - lo).toNat : Int) = x.toInt by omega, Int32.ofInt_toInt])
        have hnn := List.all_eq_true.mp hsto.2 _ (List.mem_of_getElem? hof2)
        exact lv_tableIn hex hb hdec ho1 ho2 hoff (tnn hnn) (hjp _ _ _ _ _ hK H locs cells slots lsC hH hlo hx hL hg hc hsl)
    · cases hr
  | lookupswitch dt ps =>
    have hr : (if (ps.toList.zip (ps.toList.drop 1)).all (fun (a, next) => a.1 < next.1) = true ∧ ps.toList.all (fun q => -2147483648 ≤ q.1 && q.1 < 2147483648) = true then some (Instr.lookupswitch (pc + dt) (ps.map fun q => (q.1, pc + q.2))) else none) = some i' := hres
    split at hr
    · rename_i hcd
      obtain rfl := Option.some.inj hr
      obtain ⟨x, s1, rfl, h1⟩ := pI_inv hstp
      have hsto : (decide (0 ≤ (pc : Int) + dt) && (ps.map fun q => (q.1, (pc : Int) + q.2)).toList.all fun t => decide (0 ≤ t.2)) = true := hsto
      rw [Bool.and_eq_true] at hsto
      rw [Array.toList_map] at h1 hsto
      have hK := lsw_get ps.toList (fun q hq => by
        have := List.all_eq_true.mp hcd.2 q hq
        simpa using this) h1
      have hnn : (0 : Int) ≤ pc + Op.lookupswitch.offset ps.toList dt x.toInt := by
        have h3 := of_decide_eq_true hsto.1
        have h4 : ∀ q ∈ ps.toList, (0 : Int) ≤ pc + q.2 := fun q hq => of_decide_eq_true (List.all_eq_true.mp hsto.2 _ (List.mem_map.mpr ⟨q, hq, rfl⟩))
        revert h4
        generalize ps.toList = L
        intro h4
        induction L with
        | nil => exact h3
        | cons z L ih =>
          obtain ⟨a, o⟩ := z
          rw [Op.lookupswitch.offset_cons]
          split
          · exact h4 (a, o) List.mem_cons_self
          · exact ih fun q hq => h4 q (List.mem_cons_of_mem _ hq)
      exact lv_lookup hex hb hdec hcd.1 rfl (by omega) (hjp _ _ _ _ _ hK H locs cells slots lsC hH hlo hx hL hg hc hsl)
    · cases hr
  | getfield k =>
    obtain rfl : len = 3 := hln
    cases hk : lk fldT q.2.2.2.2.1 k with
    | none => simp [resI, hk] at hres
    | some r =>
      obtain rfl : Instr.getfield r = i' := by simpa [resI, hk] using hres
      obtain ⟨a, s1, rfl, h1, h2⟩ := pR_inv hstp
      obtain ⟨C, T, N, -, -, -, -, -, -, -, hty⟩ := fld_ok (lk_mem hk)
      have hkind : isRefT (tyA (r / 256) (r / 4 % 64)) = fRef (r % 4) := by
        rcases hty with ⟨t1, t2⟩ | ⟨t1, t2⟩ | ⟨t1, t2⟩ <;> rw [t1, t2] <;> rfl
      cases hf : fRef (r % 4) with
      | true =>
        rw [hf] at h2 hkind
        obtain ⟨j, h3, h4⟩ := h2
        have h3 : h.2.2.2 a (r / 4 % 64) = some j := h3
        exact sd_get hCX hTB hdec hk hH h1 (v := .ref (rho b B j)) (by unfold fvl; rw [hkind, h3]; rfl) (hnx _ _ _ _ h4 H locs cells slots lsC hH hlo hx hL hg hc hsl)
      | false =>
        rw [hf] at h2 hkind
        exact sd_get hCX hTB hdec hk hH h1 (v := .int (mi h a (r / 4 % 64))) (by unfold fvl; rw [hkind]; rfl) (hnx _ _ _ _ h2 H locs cells slots lsC hH hlo hx hL hg hc hsl)
  | putfield k =>
    obtain rfl : len = 3 := hln
    cases hk : lk fldT q.2.2.2.2.1 k with
    | none => simp [resI, hk] at hres
    | some r =>
      have hr : (bif finF r && !(iniM q && Nat.beq q.2.2.2.2.1 (r / 256)) then none else some (Instr.putfield r)) = some i' := by simpa [resI, hk] using hres
      cases hfin : (finF r && !(iniM q && Nat.beq q.2.2.2.2.1 (r / 256))) with
      | true => rw [hfin] at hr; cases hr
      | false =>
        rw [hfin] at hr
        obtain rfl := Option.some.inj hr
        obtain ⟨C, T, N, hcl, hkN, hN, -, -, -, -, hty⟩ := fld_ok (lk_mem hk)
        have hkl : r / 4 % 64 < lenOf (r / 256) := by rw [← hN]; exact hkN
        have hBa : ∀ a, hs h a = some (10 + r / 256, lenOf (r / 256)) → B ≤ rho b B a := fun a h1 => (hH.at h1 (by simp; omega)).2
        rcases hty with ⟨t1, t2⟩ | ⟨t1, t2⟩ | ⟨t1, t2⟩
        · have hstp : (match r % 4 with
            | 0 => pI st fun x s => pR s fun a s => hs h a = some (10 + r / 256, lenOf (r / 256)) ∧ nx g ls s (wi h a (r / 4 % 64) x)
            | 1 => pR st fun j s => pR s fun a s => hs h a = some (10 + r / 256, lenOf (r / 256)) ∧ mr h a (r / 4 % 64) = none ∧ nx g ls s (wr h a (r / 4 % 64) j)
            | _ => pI st fun x s => pR s fun a s => hs h a = some (10 + r / 256, lenOf (r / 256)) ∧ isB x = true ∧ nx g ls s (wi h a (r / 4 % 64) x)) := hstp
          rw [t2] at hstp
          obtain ⟨x, s1, rfl, h1⟩ := pI_inv hstp
          obtain ⟨a, s2, rfl, h1, h2⟩ := pR_inv h1
          exact sd_put hCX hTB hdec hk hfin hH h1 (by rw [t1]; rfl) (by rw [t1]; rfl) fun H1 locs1 z oo hl1 hat => hnx _ _ _ _ h2 H1 locs1 cells slots lsC (hr_puti hH hkl (by rw [t1]; rfl) h1 z oo hat) (loc_ok hlo hl1 (hBa a h1)) (hx.trans (ext_wi _ _ _ _)) hL hg hc hsl
        · have hstp : (match r % 4 with
            | 0 => pI st fun x s => pR s fun a s => hs h a = some (10 + r / 256, lenOf (r / 256)) ∧ nx g ls s (wi h a (r / 4 % 64) x)
            | 1 => pR st fun j s => pR s fun a s => hs h a = some (10 + r / 256, lenOf (r / 256)) ∧ mr h a (r / 4 % 64) = none ∧ nx g ls s (wr h a (r / 4 % 64) j)
            | _ => pI st fun x s => pR s fun a s => hs h a = some (10 + r / 256, lenOf (r / 256)) ∧ isB x = true ∧ nx g ls s (wi h a (r / 4 % 64) x)) := hstp
          rw [t2] at hstp
          obtain ⟨j, s1, rfl, h1⟩ := pR_inv hstp
          obtain ⟨a, s2, rfl, h1, h2, h3⟩ := pR_inv h1
          exact sd_put hCX hTB hdec hk hfin hH h1 (by generalize tyA (r / 256) (r / 4 % 64) = ty at t1; cases ty <;> first | rfl | cases t1) (by generalize tyA (r / 256) (r / 4 % 64) = ty at t1; cases ty <;> first | rfl | cases t1) fun H1 locs1 z oo hl1 hat => hnx _ _ _ _ h3 H1 locs1 cells slots lsC (hr_putr hH hkl t1 h1 z oo hat) (loc_ok hlo hl1 (hBa a h1)) (hx.trans (ext_wr _ h2)) hL hg hc hsl
        · have hstp : (match r % 4 with
            | 0 => pI st fun x s => pR s fun a s => hs h a = some (10 + r / 256, lenOf (r / 256)) ∧ nx g ls s (wi h a (r / 4 % 64) x)
            | 1 => pR st fun j s => pR s fun a s => hs h a = some (10 + r / 256, lenOf (r / 256)) ∧ mr h a (r / 4 % 64) = none ∧ nx g ls s (wr h a (r / 4 % 64) j)
            | _ => pI st fun x s => pR s fun a s => hs h a = some (10 + r / 256, lenOf (r / 256)) ∧ isB x = true ∧ nx g ls s (wi h a (r / 4 % 64) x)) := hstp
          rw [t2] at hstp
          obtain ⟨x, s1, rfl, h1⟩ := pI_inv hstp
          obtain ⟨a, s2, rfl, h1, h3, h2⟩ := pR_inv h1
          have hb01 : x = 0 ∨ x = 1 := by
            unfold isB at h3
            rw [Bool.or_eq_true] at h3
            exact h3.imp eq_of_beq eq_of_beq
          exact sd_put hCX hTB hdec hk hfin hH h1 (by rw [t1]; rcases hb01 with rfl | rfl <;> rfl) (by rw [t1]; rcases hb01 with rfl | rfl <;> rfl) fun H1 locs1 z oo hl1 hat => hnx _ _ _ _ h2 H1 locs1 cells slots lsC (hr_puti hH hkl (by rw [t1]; rfl) h1 z oo hat) (loc_ok hlo hl1 (hBa a h1)) (hx.trans (ext_wi _ _ _ _)) hL hg hc hsl
  | iaload =>
    obtain rfl : len = 1 := hln
    obtain rfl : Instr.iaload = i' := Option.some.inj hres
    obtain ⟨j, s1, rfl, h1⟩ := pI_inv hstp
    obtain ⟨a, s2, rfl, ⟨t, n, h1, h2, h3⟩, h4⟩ := pR_inv h1
    exact sd_iald hCX hTB hdec hH h1 h2 h3 (hnx _ _ _ _ h4 H locs cells slots lsC hH hlo hx hL hg hc hsl)
  | iastore =>
    obtain rfl : len = 1 := hln
    obtain rfl : Instr.iastore = i' := Option.some.inj hres
    obtain ⟨x, s1, rfl, h1⟩ := pI_inv hstp
    obtain ⟨j, s2, rfl, h1⟩ := pI_inv h1
    obtain ⟨a, s3, rfl, ⟨n, h1, h2⟩, h4⟩ := pR_inv h1
    exact sd_iast hCX hTB hdec hH hlo h1 h2 fun H1 locs1 hH1 hl1 => hnx _ _ _ _ h4 H1 locs1 cells slots lsC hH1 hl1 (hx.trans (ext_wi _ _ _ _)) hL hg hc hsl
  | laload =>
    obtain rfl : len = 1 := hln
    obtain rfl : Instr.laload = i' := Option.some.inj hres
    obtain ⟨j, s1, rfl, h1⟩ := pI_inv hstp
    obtain ⟨a, s2, rfl, ⟨n, h1, h2⟩, h4⟩ := pR_inv h1
    exact va_lald hex hb hTB.1 (hH.P h1 (by simp) rfl) 0 1 rfl rfl h2 hdec (hnx _ _ _ _ h4 H locs cells slots lsC hH hlo hx hL hg hc hsl)
  | lastore =>
    obtain rfl : len = 1 := hln
    obtain rfl : Instr.lastore = i' := Option.some.inj hres
    obtain ⟨x, s1, rfl, h1⟩ := pJ_inv hstp
    obtain ⟨j, s2, rfl, h1⟩ := pI_inv h1
    obtain ⟨a, s3, rfl, ⟨n, h1, h2⟩, h4⟩ := pR_inv h1
    exact sd_last hCX hTB hdec hH hlo h1 h2 fun H1 locs1 hH1 hl1 => hnx _ _ _ _ h4 H1 locs1 cells slots lsC hH1 hl1 (hx.trans (ext_wl _ _ _ _)) hL hg hc hsl
  | baload =>
    obtain rfl : len = 1 := hln
    obtain rfl : Instr.baload = i' := Option.some.inj hres
    obtain ⟨j, s1, rfl, h1⟩ := pI_inv hstp
    obtain ⟨a, s2, rfl, ⟨n, h1, h2⟩, h4⟩ := pR_inv h1
    exact va_zald hex hb hTB.1 (hH.P h1 (by simp) rfl) 0 2 rfl rfl h2 hdec (hnx _ _ _ _ h4 H locs cells slots lsC hH hlo hx hL hg hc hsl)
  | bastore =>
    obtain rfl : len = 1 := hln
    obtain rfl : Instr.bastore = i' := Option.some.inj hres
    obtain ⟨x, s1, rfl, h1⟩ := pI_inv hstp
    obtain ⟨j, s2, rfl, h1⟩ := pI_inv h1
    obtain ⟨a, s3, rfl, ⟨n, h1, h2⟩, h4⟩ := pR_inv h1
    exact sd_zast hCX hTB hdec hH hlo h1 h2 fun H1 locs1 hH1 hl1 => hnx _ _ _ _ h4 H1 locs1 cells slots lsC hH1 hl1 (hx.trans (ext_wi _ _ _ _)) hL hg hc hsl
  | aaload =>
    obtain rfl : len = 1 := hln
    obtain rfl : Instr.aaload = i' := Option.some.inj hres
    obtain ⟨j, s1, rfl, h1⟩ := pI_inv hstp
    obtain ⟨a, s2, rfl, ⟨t, n, h1, h2, h3⟩, k, h4, h5⟩ := pR_inv h1
    exact sd_aald hCX hTB hdec hH h1 h2 h3 h4 (hnx _ _ _ _ h5 H locs cells slots lsC hH hlo hx hL hg hc hsl)
  | aastore =>
    obtain rfl : len = 1 := hln
    obtain rfl : Instr.aastore = i' := Option.some.inj hres
    obtain ⟨k, s1, rfl, h1⟩ := pR_inv hstp
    obtain ⟨j, s2, rfl, h1⟩ := pI_inv h1
    obtain ⟨a, s3, rfl, ⟨t, n, h1, h2, h3⟩, h4, h5⟩ := pR_inv h1
    exact sd_aast hCX hTB hdec hH hlo h1 h2 h3 fun H1 locs1 hH1 hl1 => hnx _ _ _ _ h5 H1 locs1 cells slots lsC hH1 hl1 (hx.trans (ext_wr _ h4)) hL hg hc hsl
  | arraylength =>
    obtain rfl : len = 1 := hln
    obtain rfl : Instr.arraylength = i' := Option.some.inj hres
    obtain ⟨a, s1, rfl, n, h1, h2⟩ := pR_inv hstp
    exact sd_alen hCX hTB hdec hH h1 (hnx _ _ _ _ h2 H locs cells slots lsC hH hlo hx hL hg hc hsl)
  | new k =>
    obtain rfl : len = 3 := hln
    cases hk : lk clsT q.2.2.2.2.1 k with
    | none => simp [resI, hk] at hres
    | some ci =>
      obtain rfl : Instr.new ci = i' := by simpa [resI, hk] using hres
      have hle : lenOf ci ≤ 400 := by unfold lenOf; split <;> omega
      cases g with
      | zero => exact hstp.elim
      | succ g1 =>
        obtain ⟨h1, h2⟩ : g' ≤ g1 ∧ _ := hstp
        exact sd_new hCX hTB hdec hk hH (by omega) (by omega) fun H1 hH1 => W.widen (k := cells + 1) (n := slots + lenOf ci) (Nat.le_refl _) (Nat.le_refl _) (hnx _ _ _ _ h2 H1 locs _ _ lsC hH1 hlo (hx.trans (ext_hn _ _ _)) hL h1 (by omega) (by omega))
  | newarray k =>
    obtain rfl : len = 2 := hln
    have hcl : ∃ t, ((t = 0 ∧ k = .int) ∨ (t = 1 ∧ k = .long) ∨ (t = 2 ∧ k = .boolean)) ∧ Instr.anewarray t = i' := by
      cases k <;> first | (exact ⟨0, Or.inl ⟨rfl, rfl⟩, Option.some.inj hres⟩) | (exact ⟨1, Or.inr (Or.inl ⟨rfl, rfl⟩), Option.some.inj hres⟩) | (exact ⟨2, Or.inr (Or.inr ⟨rfl, rfl⟩), Option.some.inj hres⟩) | (cases hres)
    obtain ⟨t, ht, rfl⟩ := hcl
    obtain ⟨x, s1, rfl, ⟨h1, h2⟩, h3⟩ := pI_inv hstp
    cases g with
    | zero => exact h3.elim
    | succ g1 =>
      obtain ⟨h4, h5⟩ : g' ≤ g1 ∧ _ := h3
      exact sd_newp hCX hTB hdec ht hH h1 h2 (by omega) (by omega) fun H1 hH1 => hnx _ _ _ _ h5 H1 locs _ _ lsC hH1 hlo (hx.trans (ext_hn _ _ _)) hL h4 (by omega) (by omega)
  | anewarray k =>
    obtain rfl : len = 3 := hln
    cases hk : lk clsT q.2.2.2.2.1 k with
    | none => simp [resI, hk] at hres
    | some ci =>
      have hcl : ∃ t, ((t = 3 ∧ ci = 2) ∨ (t = 4 ∧ ci = 0) ∨ (t = 5 ∧ ci = 3)) ∧ Instr.anewarray t = i' := by
        have hr : (match some ci with
          | some 2 => some (Instr.anewarray 3)
          | some 0 => some (Instr.anewarray 4)
          | some 3 => some (Instr.anewarray 5)
          | _ => none) = some i' := by rw [← hk]; exact hres
        match ci, hr with
        | 0, hr => exact ⟨4, Or.inr (Or.inl ⟨rfl, rfl⟩), Option.some.inj hr⟩
        | 1, hr => cases hr
        | 2, hr => exact ⟨3, Or.inl ⟨rfl, rfl⟩, Option.some.inj hr⟩
        | 3, hr => exact ⟨5, Or.inr (Or.inr ⟨rfl, rfl⟩), Option.some.inj hr⟩
        | n + 4, hr => cases hr
      obtain ⟨t, ht, rfl⟩ := hcl
      obtain ⟨x, s1, rfl, ⟨h1, h2⟩, h3⟩ := pI_inv hstp
      obtain ⟨-, -, ⟨o1, o2, o3⟩, -⟩ := id hTB
      cases g with
      | zero => exact h3.elim
      | succ g1 =>
        obtain ⟨h4, h5⟩ : g' ≤ g1 ∧ _ := h3
        rcases ht with ⟨rfl, rfl⟩ | ⟨rfl, rfl⟩ | ⟨rfl, rfl⟩
        · exact sd_newr (t := 3) (C := RX2) hCX hTB hdec rfl hk o1 rfl (by omega) (fun _ _ _ => rfl) hH h1 h2 (by omega) (by omega) fun H1 hH1 => hnx _ _ _ _ h5 H1 locs _ _ lsC hH1 hlo (hx.trans (ext_hn _ _ _)) hL h4 (by omega) (by omega)
        · exact sd_newr (t := 4) (C := RX0) hCX hTB hdec rfl hk o2 rfl (by omega) (fun _ _ _ => rfl) hH h1 h2 (by omega) (by omega) fun H1 hH1 => hnx _ _ _ _ h5 H1 locs _ _ lsC hH1 hlo (hx.trans (ext_hn _ _ _)) hL h4 (by omega) (by omega)
        · exact sd_newr (t := 5) (C := RX3) hCX hTB hdec rfl hk o3 rfl (by omega) (fun _ _ _ => rfl) hH h1 h2 (by omega) (by omega) fun H1 hH1 => hnx _ _ _ _ h5 H1 locs _ _ lsC hH1 hlo (hx.trans (ext_hn _ _ _)) hL h4 (by omega) (by omega)
  | invokevirtual k =>
    obtain rfl : len = 3 := hln
    cases hk : lk calV q.2.2.2.2.1 k with
    | none => simp [resI, hk] at hres
    | some ee =>
      obtain rfl : Instr.invokevirtual ee = i' := by simpa [resI, hk] using hres
      have hmem := lk_mem hk
      have hok : eOKV ee = true := List.all_eq_true.mp ok_V _ hmem
      unfold eOKV at hok
      rw [Bool.and_eq_true] at hok
      obtain ⟨av, s1, rfl, hlen, hz⟩ := pN_inv hstp
      obtain ⟨a, s2, rfl, h1, h2⟩ := pR_inv hz
      obtain ⟨hw8, haw, d1, rfl, g1, hgg, hE⟩ := cal_inv h2
      obtain ⟨qc, hM, hmn, hpar, hkd, hpl, hn1, hn2, h30, hmL, hcode⟩ := cal_ok hok.1
      have w1 := hts _ (gw_in (wd_linkV _ hmem) rfl)
      have w2 := hts _ (gw_in (wd_instV _ hmem) rfl)
      have w3 := hts _ (gw_in (wd_sel _ hmem) rfl)
      have w4 := hts _ (gw_in (wd_iniV _ hmem) rfl)
      have hcn := of_decide_eq_true hok.2
      dsimp only at w1 w2 w3 w4
      rw [hmn] at w1 w2 w3 w4 hcn
      have hMet := met_of_ev (l := l) (D := D) (cA := cA) (cS := cS) (b := b) (B := B) hM hpl hE hgg.2 (Nat.le_trans haw hmL)
      have hat := (hH.at h1 (by simp; omega)).1
      rw [eOf_obj] at hat
      obtain ⟨rr, hrr, cell, q1, q2, q3, -⟩ := hat
      have hrn : rr.1 = qc.1.cls := by have hrr : vwCl[ee / 128 % 16]? = some rr := hrr; rw [hrr] at hcn; exact Option.some.inj hcn
      have hfc := (hTB.1.1 _ _ hrr).2.1
      rw [hrn] at hfc
      refine cal_then hkd hlo hx hL hgg hc hsl (fun g2 st h2 hn H locs cells slots hH hlo hx hg hc hsl => hnx _ _ _ _ hn H locs cells slots lsC hH hlo hx hL hg hc hsl) (va_runV (C := qc.1.cls) (n := ee / 8 % 16) (b := rho b B a) (As := av.map (trV b B)) (rest := s2.map (trV b B)) ⟨hex, hb, hml, hown, hts⟩ hMet ⟨callB_of (ee / 8 % 16) hts (gin (ws := []) hcode) rfl rfl rfl w4 w1 ⟨hn1, hn2, hpar⟩ ⟨hfr, by show 8 + (qc.2.2.1 + 11) + 60 * d1 ≤ _; omega⟩, w2, w3⟩ ⟨blind, ⟨cell, q1, by rw [q3]; rfl, by rw [q2]; exact hfc⟩, fun U hU hW => ⟨rfl, by rw [hU]; exact hH, hTB.moved hW⟩⟩ rfl (by rw [List.length_map]; exact hlen) hL.1 (by simp [trV]) (lv_room (by rw [wsum_map]; exact hw8)) hdec ⟨by omega, by omega⟩)
  | invokestatic k =>
    obtain rfl : len = 3 := hln
    cases hk : lk calS q.2.2.2.2.1 k with
    | some ee =>
      obtain rfl : Instr.invokestatic ee = i' := by simpa [resI, hk] using hres
      have hmem := lk_mem hk
      have hok := List.all_eq_true.mp ok_S _ hmem
      simp only [Bool.and_eq_true, Bool.not_eq_true'] at hok
      obtain ⟨⟨⟨hok, hn98⟩, hn97⟩, hn96⟩ := hok
      have hstp : pN (ee / 8 % 16) st fun av s => cal Ev d g g' ee av h s fun g s h => nx g ls s h := by
        have hh : (bif Nat.beq ee 9997 then _ else bif Nat.beq ee 9996 then _ else bif Nat.beq ee 9998 then _ else (pN (ee / 8 % 16) st fun av s => cal Ev d g g' ee av h s fun g s h => nx g ls s h)) := hstp
        rw [hn97, hn96, hn98] at hh
        exact hh
      obtain ⟨av, s1, rfl, hlen, h2⟩ := pN_inv hstp
      obtain ⟨hw8, haw, d1, rfl, g1, hgg, hE⟩ := cal_inv h2
      obtain ⟨qc, hM, hmn, hpar, hkd, hpl, hn1, hn2, h30, hmL, hcode⟩ := cal_ok hok
      have w1 := hts _ (gw_in (wd_linkS _ hmem) rfl)
      have w2 := hts _ (gw_in (wd_stat _ hmem) rfl)
      have w4 := hts _ (gw_in (wd_iniS _ hmem) rfl)
      dsimp only at w1 w2 w4
      rw [hmn] at w1 w2 w4
      have hMet := met_of_ev (l := l) (D := D) (cA := cA) (cS := cS) (b := b) (B := B) hM hpl hE hgg.2 (Nat.le_trans haw hmL)
      refine cal_then hkd hlo hx hL hgg hc hsl (fun g2 st h2 hn H locs cells slots hH hlo hx hg hc hsl => hnx _ _ _ _ hn H locs cells slots lsC hH hlo hx hL hg hc hsl) (va_runS (n := ee / 8 % 16) (As := av.map (trV b B)) (rest := s1.map (trV b B)) ⟨hex, hb, hml, hown, hts⟩ hMet ⟨callB_of (ee / 8 % 16) hts (gin (ws := []) hcode) rfl rfl rfl w4 w1 ⟨hn1, hn2, hpar⟩ ⟨hfr, by show 8 + (qc.2.2.1 + 11) + 60 * d1 ≤ _; omega⟩, w2⟩ ⟨blind, fun U hU hW => ⟨rfl, by rw [hU]; exact hH, hTB.moved hW⟩⟩ rfl (by rw [List.length_map]; exact hlen) hL.1 (by simp) (lv_room (by rw [wsum_map]; exact hw8)) hdec ⟨by omega, by omega⟩)
    | none =>
      cases hk2 : lk cpyT q.2.2.2.2.1 k with
      | some ee =>
        obtain rfl : Instr.invokestatic ee = i' := by simpa [resI, hk, hk2] using hres
        obtain rfl : ee = 9998 := Nat.eq_of_beq_eq_true (List.all_eq_true.mp ok_C _ (lk_mem hk2))
        obtain ⟨n, s1, rfl, z1⟩ := pI_inv hstp
        obtain ⟨dp, s2, rfl, z2⟩ := pI_inv z1
        obtain ⟨a1, s3, rfl, z3⟩ := pR_inv z2
        obtain ⟨sp, s4, rfl, z4⟩ := pI_inv z3
        obtain ⟨a0, s5, rfl, z5⟩ := pR_inv z4
        obtain ⟨hw8, h1⟩ := bif_inv z5
        cases d with
        | zero => exact h1.elim
        | succ d1 =>
          obtain ⟨⟨n0, n1, e0, e1, k1, k2, k3, k4, k5⟩, h2⟩ := h1
          exact sd_copy hCX hTB hdec hk2 hH hlo hL.1 e0 e1 k1 k2 k3 k4 k5 (by omega) (by omega) (by rw [wsum_map]; exact Nat.le_of_ble_eq_true hw8) fun H1 locs1 hH1 hl1 => hnx _ _ _ _ h2 H1 locs1 cells slots lsC hH1 hl1 (hx.trans (ext_wa _ _ _)) hL hg hc hsl
      | none =>
        cases hk3 : lk mxxT q.2.2.2.2.1 k with
        | some ee =>
          obtain rfl : Instr.invokestatic ee = i' := by simpa [resI, hk, hk2, hk3] using hres
          obtain rfl : ee = 9997 := Nat.eq_of_beq_eq_true (List.all_eq_true.mp ok_X _ (lk_mem hk3))
          obtain ⟨y, s1, rfl, h1⟩ := pI_inv hstp
          obtain ⟨x, s2, rfl, h1⟩ := pI_inv h1
          obtain ⟨hw8, h1⟩ := bif_inv h1
          have hw8 := Nat.le_of_ble_eq_true hw8
          cases d with
          | zero => exact h1.elim
          | succ d1 => exact va_mmax hex hb (hml.trans hL.1.symm) hown (hts _ (gw_in (wd_mx _ (lk_mem hk3)) rfl)) (hts _ (gw_in wd_mxs rfl)) (hts _ (gw_in wd_mi rfl)) (hts _ (gw_in wd_mxc rfl)) (by omega) (by rw [wsum_map]; omega) (by omega) (by omega) hdec (hnx _ _ _ _ h1 H locs cells slots lsC hH hlo hx hL hg hc hsl)
        | none =>
          cases hk4 : lk mnnT q.2.2.2.2.1 k with
          | none => simp [resI, hk, hk2, hk3, hk4] at hres
          | some ee =>
            obtain rfl : Instr.invokestatic ee = i' := by simpa [resI, hk, hk2, hk3, hk4] using hres
            obtain rfl : ee = 9996 := Nat.eq_of_beq_eq_true (List.all_eq_true.mp ok_M _ (lk_mem hk4))
            obtain ⟨y, s1, rfl, h1⟩ := pI_inv hstp
            obtain ⟨x, s2, rfl, h1⟩ := pI_inv h1
            obtain ⟨hw8, h1⟩ := bif_inv h1
            have hw8 := Nat.le_of_ble_eq_true hw8
            cases d with
            | zero => exact h1.elim
            | succ d1 => exact va_mmin hex hb (hml.trans hL.1.symm) hown (hts _ (gw_in (wd_mn _ (lk_mem hk4)) rfl)) (hts _ (gw_in wd_mns rfl)) (hts _ (gw_in wd_mi rfl)) (hts _ (gw_in wd_mnc rfl)) (by omega) (by rw [wsum_map]; omega) (by omega) (by omega) hdec (hnx _ _ _ _ h1 H locs cells slots lsC hH hlo hx hL hg hc hsl)
  | invokespecial k =>
    obtain rfl : len = 3 := hln
    cases hk : lk calI q.2.2.2.2.1 k with
    | some ee =>
      obtain rfl : Instr.invokespecial ee = i' := by simpa [resI, hk] using hres
      have hmem := lk_mem hk
      have hok : eOKI ee = true := List.all_eq_true.mp ok_I _ hmem
      unfold eOKI at hok
      simp only [Bool.and_eq_true, Bool.not_eq_true'] at hok
      obtain ⟨⟨⟨hok, hini⟩, hk0⟩, hn99⟩ := hok
      have hstp : pN (ee / 8 % 16) st fun av s => pR s fun a s => cal Ev d g g' ee (.ref a :: av) h s fun g s h => nx g ls s h := by
        have hh : (bif Nat.beq ee 9999 then _ else (pN (ee / 8 % 16) st fun av s => pR s fun a s => cal Ev d g g' ee (.ref a :: av) h s fun g s h => nx g ls s h)) := hstp
        rw [hn99] at hh
        exact hh
      obtain ⟨av, s1, rfl, hlen, h1⟩ := pN_inv hstp
      obtain ⟨a, s2, rfl, h2⟩ := pR_inv h1
      obtain ⟨hw8, haw, d1, rfl, g1, hgg, hE⟩ := cal_inv h2
      obtain ⟨qc, hM, hmn, hpar, hkd, hpl, hn1, hn2, h30, hmL, hcode⟩ := cal_ok hok
      have hk0 := Nat.eq_of_beq_eq_true hk0
      have hr0 : qc.2.2.2.1 = none := by
        have hkd := hkd
        rw [hk0] at hkd
        revert hkd
        generalize qc.2.2.2.1 = rt
        intro hkd
        cases rt with
        | none => rfl
        | some z => cases hkd
      have w1 := hts _ (gw_in (wd_linkI _ hmem) rfl)
      have w2 := hts _ (gw_in (wd_instI _ hmem) rfl)
      have w4 := hts _ (gw_in (wd_iniI _ hmem) rfl)
      have hini := of_decide_eq_true hini
      dsimp only at w1 w2 w4
      rw [hmn] at w1 w2 w4 hini
      have hMet := met_of_ev (l := l) (D := D) (cA := cA) (cS := cS) (b := b) (B := B) hM hpl hE hgg.2 (Nat.le_trans haw hmL)
      refine cal_then hkd hlo hx hL hgg hc hsl (fun g2 st h2 hn H locs cells slots hH hlo hx hg hc hsl => hnx _ _ _ _ hn H locs cells slots lsC hH hlo hx hL hg hc hsl) (va_runI (n := ee / 8 % 16) (b := rho b B a) (As := av.map (trV b B)) (rest := s2.map (trV b B)) ⟨hex, hb, hml, hown, hts⟩ hMet ⟨callB_of (ee / 8 % 16) hts (gin (ws := []) hcode) (by rw [hr0]) rfl rfl w4 w1 ⟨hn1, hn2, hpar⟩ ⟨hfr, by show 8 + (qc.2.2.1 + 11) + 60 * d1 ≤ _; omega⟩, hini, w2⟩ ⟨blind, fun U hU hW => ⟨rfl, by rw [hU]; exact hH, hTB.moved hW⟩⟩ rfl (by rw [List.length_map]; exact hlen) hL.1 (by simp [trV]) (lv_room (by rw [wsum_map]; exact hw8)) hdec ⟨by omega, by omega⟩)
    | none =>
      cases hk2 : lk nesT q.2.2.2.2.1 k with
      | some ee =>
        obtain rfl : Instr.invokespecial ee = i' := by simpa [resI, hk, hk2] using hres
        have hmem := lk_mem hk2
        have hok : eOKI ee = true := List.all_eq_true.mp ok_N _ hmem
        unfold eOKI at hok
        simp only [Bool.and_eq_true, Bool.not_eq_true'] at hok
        obtain ⟨⟨⟨hok, hini⟩, hk0⟩, hn99⟩ := hok
        have hstp : pN (ee / 8 % 16) st fun av s => pR s fun a s => cal Ev d g g' ee (.ref a :: av) h s fun g s h => nx g ls s h := by
          have hh : (bif Nat.beq ee 9999 then _ else (pN (ee / 8 % 16) st fun av s => pR s fun a s => cal Ev d g g' ee (.ref a :: av) h s fun g s h => nx g ls s h)) := hstp
          rw [hn99] at hh
          exact hh
        obtain ⟨av, s1, rfl, hlen, h1⟩ := pN_inv hstp
        obtain ⟨a, s2, rfl, h2⟩ := pR_inv h1
        obtain ⟨hw8, haw, d1, rfl, g1, hgg, hE⟩ := cal_inv h2
        obtain ⟨qc, hM, hmn, hpar, hkd, hpl, hn1, hn2, h30, hmL, hcode⟩ := cal_ok hok
        have hk0 := Nat.eq_of_beq_eq_true hk0
        have hr0 : qc.2.2.2.1 = none := by
          have hkd := hkd
          rw [hk0] at hkd
          revert hkd
          generalize qc.2.2.2.1 = rt
          intro hkd
          cases rt with
          | none => rfl
          | some z => cases hkd
        have w1 := hTB.2.1 _ hmem
        have w2 := hts _ (gw_in (wd_nestI _ hmem) rfl)
        have w4 := hts _ (gw_in (wd_nestN _ hmem) rfl)
        have hini := of_decide_eq_true hini
        dsimp only at w1 w2 w4
        rw [hmn] at w1 w2 w4 hini
        have hMet := met_of_ev (l := l) (D := D) (cA := cA) (cS := cS) (b := b) (B := B) hM hpl hE hgg.2 (Nat.le_trans haw hmL)
        refine cal_then hkd hlo hx hL hgg hc hsl (fun g2 st h2 hn H locs cells slots hH hlo hx hg hc hsl => hnx _ _ _ _ hn H locs cells slots lsC hH hlo hx hL hg hc hsl) (va_runIN (n := ee / 8 % 16) (b := rho b B a) (As := av.map (trV b B)) (rest := s2.map (trV b B)) ⟨hex, hb, hml, hown, hts⟩ hMet ⟨va_cnB (ee / 8 % 16) hts (gin (ws := []) hcode) (by rw [hr0]) rfl rfl w1 w4 ⟨hn1, hn2, hpar⟩ ⟨hfr, by show 8 + (qc.2.2.1 + 11) + 60 * d1 ≤ _; omega⟩, hini, w2⟩ ⟨blind, fun U hU hW => ⟨rfl, by rw [hU]; exact hH, hTB.moved hW⟩⟩ rfl (by rw [List.length_map]; exact hlen) hL.1 (by simp [trV]) (lv_room (by rw [wsum_map]; exact hw8)) hdec ⟨by omega, by omega⟩)
      | none =>
        cases hk3 : lk objT q.2.2.2.2.1 k with
        | none => simp [resI, hk, hk2, hk3] at hres
        | some ee =>
          obtain rfl : Instr.invokespecial ee = i' := by simpa [resI, hk, hk2, hk3] using hres
          obtain rfl : ee = 9999 := Nat.eq_of_beq_eq_true (List.all_eq_true.mp ok_O _ (lk_mem hk3))
          obtain ⟨a, s1, rfl, h1⟩ := pR_inv hstp
          obtain ⟨hw8, h1⟩ := bif_inv h1
          have hw8 := Nat.le_of_ble_eq_true hw8
          cases d with
          | zero => exact h1.elim
          | succ d1 => exact W.objInit hex hb hown (hts _ (gw_in (wd_obj _ (lk_mem hk3)) rfl)) (hts _ (gw_in wd_oi rfl)) (hts _ (gw_in wd_oc rfl)) rfl (hL.1.trans hml.symm) rfl hdec (by omega) (by show 2 * 0 + _ + 12 ≤ _; rw [wsum_map]; omega) (hnx _ _ _ _ h1 H locs cells slots lsC hH hlo hx hL hg hc hsl)
  | ireturn =>
    obtain rfl : len = 1 := hln
    obtain rfl : Instr.ireturn = i' := Option.some.inj hres
    obtain ⟨x, s1, rfl, h1⟩ := pI_inv hstp
    obtain ⟨rfl, h2⟩ := nil0_inv h1
    have h3 : vOK q.2.2.2.1 (.int x) ∧ Q (.int x) h := by
      unfold rOK at h2
      show (q.2.2.2.1 = some .int ∨ (q.2.2.2.1 = some .boolean ∧ isB x = true)) ∧ _
      revert h2
      generalize q.2.2.2.1 = rt
      intro h2
      split at h2
      · exact ⟨Or.inl rfl, h2⟩
      · exact ⟨Or.inr ⟨rfl, h2.1⟩, h2.2⟩
      · exact h2.elim
    exact W.widen (k := mc) (n := ms) (by omega) (by omega) (hret (.int x) h H locs pc lsC h3.2 hx hH hlo h3.1 hdec)
  | lreturn =>
    obtain rfl : len = 1 := hln
    obtain rfl : Instr.lreturn = i' := Option.some.inj hres
    obtain ⟨x, s1, rfl, h1⟩ := pJ_inv hstp
    obtain ⟨rfl, h2, h3⟩ := nil0_inv h1
    exact W.widen (k := mc) (n := ms) (by omega) (by omega) (hret (.long x) h H locs pc lsC h3 hx hH hlo h2 hdec)
  | areturn =>
    obtain rfl : len = 1 := hln
    obtain rfl : Instr.areturn = i' := Option.some.inj hres
    obtain ⟨v, s1, rfl, h1⟩ := pV_inv hstp
    rcases lA_inv h1 with ⟨x, rfl, h2⟩ | ⟨rfl, h2⟩
    · obtain ⟨rfl, h2, h3⟩ := nil0_inv h2
      exact W.widen (k := mc) (n := ms) (by omega) (by omega) (hret (.ref x) h H locs pc lsC h3 hx hH hlo h2 hdec)
    · obtain ⟨rfl, h2, h3⟩ := nil0_inv h2
      exact W.widen (k := mc) (n := ms) (by omega) (by omega) (hret .null h H locs pc lsC h3 hx hH hlo h2 hdec)
  | return_ =>
    obtain rfl : len = 1 := hln
    obtain rfl : Instr.return_ = i' := Option.some.inj hres
    obtain ⟨rfl, h2, h3⟩ := nil0_inv hstp
    exact W.widen (k := mc) (n := ms) (by omega) (by omega) (hret (.retAddr 0) h H locs pc lsC h3 hx hH hlo h2 hdec)
  | _ => cases hres
end
section
def q_F_init : Mt := (⟨"ImplicationAlgebras$Formula", "<init>", "()V"⟩, prog_2_method_1_code, 1, none, 0, E_F_init)
def q_F_replaceSigns : Mt := (⟨"ImplicationAlgebras$Formula", "replaceSigns", "(I[I)V"⟩, prog_2_method_3_code, 4, none, 0, E_F_replaceSigns)
def q_F_isMissing : Mt := (⟨"ImplicationAlgebras$Formula", "isMissing", "()Z"⟩, prog_2_method_2_code, 1, some .boolean, 0, E_F_isMissing)
def q_F_occurrences : Mt := (⟨"ImplicationAlgebras$Formula", "occurrences", "(I)I"⟩, prog_2_method_4_code, 4, some .int, 0, E_F_occurrences)
def q_F_currentBits : Mt := (⟨"ImplicationAlgebras$Formula", "currentBits", "(LImplicationAlgebras$Poset;)I"⟩, prog_2_method_7_code, 3, some .int, 0, E_F_currentBits)
def q_F_bitsOfValue : Mt := (⟨"ImplicationAlgebras$Formula", "bitsOfValue", "(LImplicationAlgebras$Poset;)I"⟩, prog_2_method_11_code, 5, some .int, 0, E_F_bitsOfValue)
def q_F_joined : Mt := (⟨"ImplicationAlgebras$Formula", "joined", "(LImplicationAlgebras$Poset;III)I"⟩, prog_2_method_12_code, 4, some .int, 0, E_F_joined)
def q_F_valuations : Mt := (⟨"ImplicationAlgebras$Formula", "valuations", "(LImplicationAlgebras$Poset;)I"⟩, prog_2_method_6_code, 4, some .int, 0, E_F_valuations)
def q_F_choices : Mt := (⟨"ImplicationAlgebras$Formula", "choices", "(LImplicationAlgebras$Poset;I)I"⟩, prog_2_method_5_code, 3, some .int, 0, E_F_choices)
def q_F_firstRefutation : Mt := (⟨"ImplicationAlgebras$Formula", "firstRefutation", "(LImplicationAlgebras$Poset;)I"⟩, prog_2_method_8_code, 9, some .int, 0, E_F_firstRefutation)
def q_F_unpack : Mt := (⟨"ImplicationAlgebras$Formula", "unpack", "(II)I"⟩, prog_2_method_9_code, 4, some .int, 0, E_F_unpack)
def q_F_valuationsWith : Mt := (⟨"ImplicationAlgebras$Formula", "valuationsWith", "(LImplicationAlgebras$Poset;I)I"⟩, prog_2_method_10_code, 10, some .int, 0, E_F_valuationsWith)
def q_S_init : Mt := (⟨"ImplicationAlgebras$MapSearch", "<init>", "(LImplicationAlgebras$Poset;LImplicationAlgebras$Poset;IZ)V"⟩, prog_3_method_1_code, 5, none, 1, E_S_init)
def q_S_countIfAccepted : Mt := (⟨"ImplicationAlgebras$MapSearch", "countIfAccepted", "()V"⟩, prog_3_method_4_code, 2, none, 1, E_S_countIfAccepted)
def q_S_isBounded : Mt := (⟨"ImplicationAlgebras$MapSearch", "isBounded", "()Z"⟩, prog_3_method_5_code, 2, some .boolean, 1, E_S_isBounded)
def q_S_imagesOf : Mt := (⟨"ImplicationAlgebras$MapSearch", "imagesOf", "(I)I"⟩, prog_3_method_6_code, 4, some .int, 1, E_S_imagesOf)
def q_S_fitsEarlier : Mt := (⟨"ImplicationAlgebras$MapSearch", "fitsEarlier", "(I)Z"⟩, prog_3_method_2_code, 3, some .boolean, 1, E_S_fitsEarlier)
def q_S_fitsOneWay : Mt := (⟨"ImplicationAlgebras$MapSearch", "fitsOneWay", "(II)Z"⟩, prog_3_method_3_code, 5, some .boolean, 1, E_S_fitsOneWay)
def q_S_digits : Mt := (⟨"ImplicationAlgebras$MapSearch", "digits", "()I"⟩, prog_3_method_7_code, 3, some .int, 1, E_S_digits)
def q_P_init : Mt := (⟨"ImplicationAlgebras$Poset", "<init>", "()V"⟩, prog_4_method_1_code, 1, none, 2, E_P_init)
def q_P_refresh : Mt := (⟨"ImplicationAlgebras$Poset", "refresh", "()V"⟩, prog_4_method_8_code, 2, none, 2, E_P_refresh)
def q_P_findDownSets : Mt := (⟨"ImplicationAlgebras$Poset", "findDownSets", "()V"⟩, prog_4_method_9_code, 5, none, 2, E_P_findDownSets)
def q_P_pointsBelow : Mt := (⟨"ImplicationAlgebras$Poset", "pointsBelow", "(I)I"⟩, prog_4_method_10_code, 4, some .int, 2, E_P_pointsBelow)
def q_P_below : Mt := (⟨"ImplicationAlgebras$Poset", "below", "(II)Z"⟩, prog_4_method_5_code, 3, some .boolean, 2, E_P_below)
def q_P_findElements : Mt := (⟨"ImplicationAlgebras$Poset", "findElements", "()V"⟩, prog_4_method_11_code, 3, none, 2, E_P_findElements)
def q_P_allPoints : Mt := (⟨"ImplicationAlgebras$Poset", "allPoints", "()I"⟩, prog_4_method_2_code, 1, some .int, 2, E_P_allPoints)
def q_P_numberSet : Mt := (⟨"ImplicationAlgebras$Poset", "numberSet", "(I)V"⟩, prog_4_method_12_code, 3, none, 2, E_P_numberSet)
def q_P_replaceOrder : Mt := (⟨"ImplicationAlgebras$Poset", "replaceOrder", "(I[I)V"⟩, prog_4_method_6_code, 4, none, 2, E_P_replaceOrder)
def q_P_extendOrder : Mt := (⟨"ImplicationAlgebras$Poset", "extendOrder", "(II)I"⟩, prog_4_method_7_code, 4, some .int, 2, E_P_extendOrder)
def q_P_hasPoint : Mt := (⟨"ImplicationAlgebras$Poset", "hasPoint", "(I)Z"⟩, prog_4_method_3_code, 2, some .boolean, 2, E_P_hasPoint)
def q_P_properPairs : Mt := (⟨"ImplicationAlgebras$Poset", "properPairs", "()I"⟩, prog_4_method_26_code, 3, some .int, 2, E_P_properPairs)
def q_P_greaterPoints : Mt := (⟨"ImplicationAlgebras$Poset", "greaterPoints", "(I)I"⟩, prog_4_method_16_code, 2, some .int, 2, E_P_greaterPoints)
def q_P_coversOf : Mt := (⟨"ImplicationAlgebras$Poset", "coversOf", "(I)I"⟩, prog_4_method_15_code, 5, some .int, 2, E_P_coversOf)
def q_P_largestChain : Mt := (⟨"ImplicationAlgebras$Poset", "largestChain", "()I"⟩, prog_4_method_18_code, 3, some .int, 2, E_P_largestChain)
def q_P_isChain : Mt := (⟨"ImplicationAlgebras$Poset", "isChain", "(I)Z"⟩, prog_4_method_19_code, 3, some .boolean, 2, E_P_isChain)
def q_P_relatedPoints : Mt := (⟨"ImplicationAlgebras$Poset", "relatedPoints", "(I)I"⟩, prog_4_method_17_code, 2, some .int, 2, E_P_relatedPoints)
def q_P_largestAntichain : Mt := (⟨"ImplicationAlgebras$Poset", "largestAntichain", "()I"⟩, prog_4_method_20_code, 3, some .int, 2, E_P_largestAntichain)
def q_P_isAntichain : Mt := (⟨"ImplicationAlgebras$Poset", "isAntichain", "(I)Z"⟩, prog_4_method_21_code, 3, some .boolean, 2, E_P_isAntichain)
def q_P_minimalPoints : Mt := (⟨"ImplicationAlgebras$Poset", "minimalPoints", "()I"⟩, prog_4_method_22_code, 3, some .int, 2, E_P_minimalPoints)
def q_P_maximalPoints : Mt := (⟨"ImplicationAlgebras$Poset", "maximalPoints", "()I"⟩, prog_4_method_23_code, 3, some .int, 2, E_P_maximalPoints)
def q_P_components : Mt := (⟨"ImplicationAlgebras$Poset", "components", "()I"⟩, prog_4_method_24_code, 4, some .int, 2, E_P_components)
def q_P_componentOf : Mt := (⟨"ImplicationAlgebras$Poset", "componentOf", "(I)I"⟩, prog_4_method_25_code, 6, some .int, 2, E_P_componentOf)
def q_P_hasElement : Mt := (⟨"ImplicationAlgebras$Poset", "hasElement", "(I)Z"⟩, prog_4_method_4_code, 2, some .boolean, 2, E_P_hasElement)
def q_P_resultOf : Mt := (⟨"ImplicationAlgebras$Poset", "resultOf", "(III)I"⟩, prog_4_method_14_code, 6, some .int, 2, E_P_resultOf)
def q_P_implication : Mt := (⟨"ImplicationAlgebras$Poset", "implication", "(II)I"⟩, prog_4_method_13_code, 4, some .int, 2, E_P_implication)
def q_P_elementsWithin : Mt := (⟨"ImplicationAlgebras$Poset", "elementsWithin", "(I)I"⟩, prog_4_method_27_code, 4, some .int, 2, E_P_elementsWithin)
def q_P_hasLeastPoint : Mt := (⟨"ImplicationAlgebras$Poset", "hasLeastPoint", "(I)Z"⟩, prog_4_method_28_code, 3, some .boolean, 2, E_P_hasLeastPoint)
def q_R_init : Mt := (⟨"ImplicationAlgebras$Row", "<init>", "()V"⟩, prog_5_method_1_code, 1, none, 3, E_R_init)
def q_R_replaceRow : Mt := (⟨"ImplicationAlgebras$Row", "replaceRow", "(II)V"⟩, prog_5_method_5_code, 4, none, 3, E_R_replaceRow)
def q_R_isMissing : Mt := (⟨"ImplicationAlgebras$Row", "isMissing", "()Z"⟩, prog_5_method_2_code, 1, some .boolean, 3, E_R_isMissing)
def q_R_hasIndex : Mt := (⟨"ImplicationAlgebras$Row", "hasIndex", "(I)Z"⟩, prog_5_method_3_code, 2, some .boolean, 3, E_R_hasIndex)
def q_R_narrowed : Mt := (⟨"ImplicationAlgebras$Row", "narrowed", "(I)I"⟩, prog_5_method_6_code, 2, some .int, 3, E_R_narrowed)
def q_R_hasRange : Mt := (⟨"ImplicationAlgebras$Row", "hasRange", "(II)Z"⟩, prog_5_method_4_code, 3, some .boolean, 3, E_R_hasRange)
def q_A_init : Mt := (⟨"ImplicationAlgebras$Subalgebra", "<init>", "()V"⟩, prog_6_method_1_code, 1, none, 4, E_A_init)
def q_A_start : Mt := (⟨"ImplicationAlgebras$Subalgebra", "start", "(LImplicationAlgebras$Poset;)V"⟩, prog_6_method_2_code, 3, none, 4, E_A_start)
def q_A_findCosts : Mt := (⟨"ImplicationAlgebras$Subalgebra", "findCosts", "(LImplicationAlgebras$Poset;)V"⟩, prog_6_method_3_code, 5, none, 4, E_A_findCosts)
def q_A_cheapestLeft : Mt := (⟨"ImplicationAlgebras$Subalgebra", "cheapestLeft", "()I"⟩, prog_6_method_4_code, 3, some .int, 4, E_A_cheapestLeft)
def q_A_offerAll : Mt := (⟨"ImplicationAlgebras$Subalgebra", "offerAll", "(LImplicationAlgebras$Poset;II)V"⟩, prog_6_method_5_code, 6, none, 4, E_A_offerAll)
def q_A_offer : Mt := (⟨"ImplicationAlgebras$Subalgebra", "offer", "(IJ)V"⟩, prog_6_method_6_code, 4, none, 4, E_A_offer)
def q_A_findSteps : Mt := (⟨"ImplicationAlgebras$Subalgebra", "findSteps", "(LImplicationAlgebras$Poset;)V"⟩, prog_6_method_7_code, 5, none, 4, E_A_findSteps)
def q_A_noteStep : Mt := (⟨"ImplicationAlgebras$Subalgebra", "noteStep", "(IIII)V"⟩, prog_6_method_8_code, 6, none, 4, E_A_noteStep)
def q_T_init : Mt := (⟨"ImplicationAlgebras$Text", "<init>", "()V"⟩, prog_7_method_1_code, 1, none, 5, E_T_init)
def q_T_readFormula : Mt := (⟨"ImplicationAlgebras$Text", "readFormula", "()I"⟩, prog_7_method_2_code, 3, some .int, 5, E_T_readFormula)
def q_T_takeInFactor : Mt := (⟨"ImplicationAlgebras$Text", "takeInFactor", "(I)Z"⟩, prog_7_method_3_code, 3, some .boolean, 5, E_T_takeInFactor)
def q_T_leafOf : Mt := (⟨"ImplicationAlgebras$Text", "leafOf", "(I)I"⟩, prog_7_method_10_code, 1, some .int, 5, E_T_leafOf)
def q_T_emit : Mt := (⟨"ImplicationAlgebras$Text", "emit", "(I)V"⟩, prog_7_method_8_code, 2, none, 5, E_T_emit)
def q_T_endFactor : Mt := (⟨"ImplicationAlgebras$Text", "endFactor", "()V"⟩, prog_7_method_6_code, 1, none, 5, E_T_endFactor)
def q_T_hold : Mt := (⟨"ImplicationAlgebras$Text", "hold", "(I)V"⟩, prog_7_method_9_code, 2, none, 5, E_T_hold)
def q_T_takeBehindFactor : Mt := (⟨"ImplicationAlgebras$Text", "takeBehindFactor", "(I)Z"⟩, prog_7_method_4_code, 3, some .boolean, 5, E_T_takeBehindFactor)
def q_T_closeParenthesis : Mt := (⟨"ImplicationAlgebras$Text", "closeParenthesis", "()Z"⟩, prog_7_method_5_code, 1, some .boolean, 5, E_T_closeParenthesis)
def q_T_releaseAbove : Mt := (⟨"ImplicationAlgebras$Text", "releaseAbove", "(I)V"⟩, prog_7_method_7_code, 2, none, 5, E_T_releaseAbove)
def q_T_operatorOf : Mt := (⟨"ImplicationAlgebras$Text", "operatorOf", "(I)I"⟩, prog_7_method_11_code, 1, some .int, 5, E_T_operatorOf)
def q_C_init : Mt := (⟨"ImplicationAlgebras", "<init>", "()V"⟩, prog_1_method_1_code, 2, none, 6, E_C_init)
def q_C_reset : Mt := (⟨"ImplicationAlgebras", "reset", "(II)I"⟩, prog_1_method_2_code, 6, some .int, 6, E_C_reset)
def q_C_posetAt : Mt := (⟨"ImplicationAlgebras", "posetAt", "(I)LImplicationAlgebras$Poset;"⟩, prog_1_method_46_code, 2, some (.object "ImplicationAlgebras$Poset"), 6, E_C_posetAt)
def q_C_points : Mt := (⟨"ImplicationAlgebras", "points", "(I)I"⟩, prog_1_method_3_code, 3, some .int, 6, E_C_points)
def q_C_relate : Mt := (⟨"ImplicationAlgebras", "relate", "(III)I"⟩, prog_1_method_4_code, 5, some .int, 6, E_C_relate)
def q_C_isBelow : Mt := (⟨"ImplicationAlgebras", "isBelow", "(III)I"⟩, prog_1_method_5_code, 5, some .int, 6, E_C_isBelow)
def q_C_covers : Mt := (⟨"ImplicationAlgebras", "covers", "(II)I"⟩, prog_1_method_6_code, 4, some .int, 6, E_C_covers)
def q_C_property : Mt := (⟨"ImplicationAlgebras", "property", "(II)I"⟩, prog_1_method_7_code, 4, some .int, 6, E_C_property)
def q_C_elementCount : Mt := (⟨"ImplicationAlgebras", "elementCount", "(I)I"⟩, prog_1_method_8_code, 3, some .int, 6, E_C_elementCount)
def q_C_elementBits : Mt := (⟨"ImplicationAlgebras", "elementBits", "(II)I"⟩, prog_1_method_9_code, 4, some .int, 6, E_C_elementBits)
def q_C_elementOf : Mt := (⟨"ImplicationAlgebras", "elementOf", "(II)I"⟩, prog_1_method_10_code, 4, some .int, 6, E_C_elementOf)
def q_C_meet : Mt := (⟨"ImplicationAlgebras", "meet", "(III)I"⟩, prog_1_method_11_code, 4, some .int, 6, E_C_meet)
def q_C_combine : Mt := (⟨"ImplicationAlgebras", "combine", "(IIII)I"⟩, prog_1_method_50_code, 6, some .int, 6, E_C_combine)
def q_C_join : Mt := (⟨"ImplicationAlgebras", "join", "(III)I"⟩, prog_1_method_12_code, 4, some .int, 6, E_C_join)
def q_C_implies : Mt := (⟨"ImplicationAlgebras", "implies", "(III)I"⟩, prog_1_method_13_code, 4, some .int, 6, E_C_implies)
def q_C_append : Mt := (⟨"ImplicationAlgebras", "append", "(I)I"⟩, prog_1_method_14_code, 2, some .int, 6, E_C_append)
def q_C_clearText : Mt := (⟨"ImplicationAlgebras", "clearText", "()I"⟩, prog_1_method_15_code, 2, some .int, 6, E_C_clearText)
def q_C_parse : Mt := (⟨"ImplicationAlgebras", "parse", "(I)I"⟩, prog_1_method_16_code, 4, some .int, 6, E_C_parse)
def q_C_formulaAt : Mt := (⟨"ImplicationAlgebras", "formulaAt", "(I)LImplicationAlgebras$Formula;"⟩, prog_1_method_47_code, 2, some (.object "ImplicationAlgebras$Formula"), 6, E_C_formulaAt)
def q_C_formulaSize : Mt := (⟨"ImplicationAlgebras", "formulaSize", "(I)I"⟩, prog_1_method_17_code, 3, some .int, 6, E_C_formulaSize)
def q_C_substitute : Mt := (⟨"ImplicationAlgebras", "substitute", "(IIII)I"⟩, prog_1_method_18_code, 9, some .int, 6, E_C_substitute)
def q_C_isVariable : Mt := (⟨"ImplicationAlgebras", "isVariable", "(I)Z"⟩, prog_1_method_49_code, 1, some .boolean, 6, E_C_isVariable)
def q_C_draftSubstitution : Mt := (⟨"ImplicationAlgebras", "draftSubstitution", "(LImplicationAlgebras$Formula;ILImplicationAlgebras$Formula;)V"⟩, prog_1_method_52_code, 8, none, 6, E_C_draftSubstitution)
def q_C_setValue : Mt := (⟨"ImplicationAlgebras", "setValue", "(III)I"⟩, prog_1_method_19_code, 6, some .int, 6, E_C_setValue)
def q_C_value : Mt := (⟨"ImplicationAlgebras", "value", "(II)I"⟩, prog_1_method_20_code, 5, some .int, 6, E_C_value)
def q_C_isForced : Mt := (⟨"ImplicationAlgebras", "isForced", "(III)I"⟩, prog_1_method_21_code, 6, some .int, 6, E_C_isForced)
def q_C_isValid : Mt := (⟨"ImplicationAlgebras", "isValid", "(II)I"⟩, prog_1_method_22_code, 6, some .int, 6, E_C_isValid)
def q_C_refusalToSearch : Mt := (⟨"ImplicationAlgebras", "refusalToSearch", "(LImplicationAlgebras$Poset;LImplicationAlgebras$Formula;)I"⟩, prog_1_method_51_code, 2, some .int, 6, E_C_refusalToSearch)
def q_C_refutation : Mt := (⟨"ImplicationAlgebras", "refutation", "(III)I"⟩, prog_1_method_23_code, 8, some .int, 6, E_C_refutation)
def q_C_countValuations : Mt := (⟨"ImplicationAlgebras", "countValuations", "(III)I"⟩, prog_1_method_24_code, 7, some .int, 6, E_C_countValuations)
def q_C_filterClass : Mt := (⟨"ImplicationAlgebras", "filterClass", "(III)I"⟩, prog_1_method_25_code, 4, some .int, 6, E_C_filterClass)
def q_C_quotientSize : Mt := (⟨"ImplicationAlgebras", "quotientSize", "(II)I"⟩, prog_1_method_26_code, 4, some .int, 6, E_C_quotientSize)
def q_C_isPrime : Mt := (⟨"ImplicationAlgebras", "isPrime", "(II)I"⟩, prog_1_method_27_code, 4, some .int, 6, E_C_isPrime)
def q_C_addGenerator : Mt := (⟨"ImplicationAlgebras", "addGenerator", "(I)I"⟩, prog_1_method_28_code, 2, some .int, 6, E_C_addGenerator)
def q_C_clearGenerators : Mt := (⟨"ImplicationAlgebras", "clearGenerators", "()I"⟩, prog_1_method_29_code, 2, some .int, 6, E_C_clearGenerators)
def q_C_generate : Mt := (⟨"ImplicationAlgebras", "generate", "(I)I"⟩, prog_1_method_30_code, 4, some .int, 6, E_C_generate)
def q_C_term : Mt := (⟨"ImplicationAlgebras", "term", "(II)J"⟩, prog_1_method_31_code, 3, some .long, 6, E_C_term)
def q_C_countMaps : Mt := (⟨"ImplicationAlgebras", "countMaps", "(III)I"⟩, prog_1_method_32_code, 7, some .int, 6, E_C_countMaps)
def q_C_searchMaps : Mt := (⟨"ImplicationAlgebras", "searchMaps", "(LImplicationAlgebras$MapSearch;I)V"⟩, prog_1_method_55_code, 3, none, 6, E_C_searchMaps)
def q_C_firstMap : Mt := (⟨"ImplicationAlgebras", "firstMap", "(III)I"⟩, prog_1_method_33_code, 7, some .int, 6, E_C_firstMap)
def q_C_isIsomorphic : Mt := (⟨"ImplicationAlgebras", "isIsomorphic", "(II)I"⟩, prog_1_method_34_code, 6, some .int, 6, E_C_isIsomorphic)
def q_C_sum : Mt := (⟨"ImplicationAlgebras", "sum", "(IIII)I"⟩, prog_1_method_35_code, 11, some .int, 6, E_C_sum)
def q_C_product : Mt := (⟨"ImplicationAlgebras", "product", "(III)I"⟩, prog_1_method_36_code, 10, some .int, 6, E_C_product)
def q_C_pairsAbove : Mt := (⟨"ImplicationAlgebras", "pairsAbove", "(LImplicationAlgebras$Poset;ILImplicationAlgebras$Poset;I)I"⟩, prog_1_method_53_code, 6, some .int, 6, E_C_pairsAbove)
def q_C_restrict : Mt := (⟨"ImplicationAlgebras", "restrict", "(III)I"⟩, prog_1_method_37_code, 9, some .int, 6, E_C_restrict)
def q_C_renumbered : Mt := (⟨"ImplicationAlgebras", "renumbered", "(II)I"⟩, prog_1_method_54_code, 5, some .int, 6, E_C_renumbered)
def q_C_dual : Mt := (⟨"ImplicationAlgebras", "dual", "(II)I"⟩, prog_1_method_38_code, 7, some .int, 6, E_C_dual)
def q_C_allocate : Mt := (⟨"ImplicationAlgebras", "allocate", "(III)I"⟩, prog_1_method_39_code, 5, some .int, 6, E_C_allocate)
def q_C_rowAt : Mt := (⟨"ImplicationAlgebras", "rowAt", "(I)LImplicationAlgebras$Row;"⟩, prog_1_method_48_code, 2, some (.object "ImplicationAlgebras$Row"), 6, E_C_rowAt)
def q_C_put : Mt := (⟨"ImplicationAlgebras", "put", "(III)I"⟩, prog_1_method_40_code, 5, some .int, 6, E_C_put)
def q_C_rowElement : Mt := (⟨"ImplicationAlgebras", "rowElement", "(II)J"⟩, prog_1_method_41_code, 4, some .long, 6, E_C_rowElement)
def q_C_copyElements : Mt := (⟨"ImplicationAlgebras", "copyElements", "(IIIII)I"⟩, prog_1_method_42_code, 8, some .int, 6, E_C_copyElements)
def q_C_storeElements : Mt := (⟨"ImplicationAlgebras", "storeElements", "(II)I"⟩, prog_1_method_43_code, 7, some .int, 6, E_C_storeElements)
def q_C_loadOrder : Mt := (⟨"ImplicationAlgebras", "loadOrder", "(II)I"⟩, prog_1_method_44_code, 8, some .int, 6, E_C_loadOrder)
def q_C_failure : Mt := (⟨"ImplicationAlgebras", "failure", "()I"⟩, prog_1_method_45_code, 1, some .int, 6, E_C_failure)
def q_M_init : Mt := (⟨"ImplicationAlgebrasModel", "<init>", "()V"⟩, prog_9_method_1_code, 2, none, 7, E_M_init)
def q_M_empties : Mt := (⟨"ImplicationAlgebrasModel", "empties", "(II)V"⟩, prog_9_method_8_code, 4, none, 7, E_M_empties)
def q_M_unvalues : Mt := (⟨"ImplicationAlgebrasModel", "unvalues", "(I)V"⟩, prog_9_method_9_code, 3, none, 7, E_M_unvalues)
def q_M_reset : Mt := (⟨"ImplicationAlgebrasModel", "reset", "(II)I"⟩, prog_9_method_10_code, 4, some .int, 7, E_M_reset)
def q_M_isPoset : Mt := (⟨"ImplicationAlgebrasModel", "isPoset", "(I)Z"⟩, prog_9_method_4_code, 1, some .boolean, 7, E_M_isPoset)
def q_M_isBetween : Mt := (⟨"ImplicationAlgebrasModel", "isBetween", "(JJJ)Z"⟩, prog_9_method_2_code, 6, some .boolean, 7, E_M_isBetween)
def q_M_points : Mt := (⟨"ImplicationAlgebrasModel", "points", "(I)I"⟩, prog_9_method_11_code, 2, some .int, 7, E_M_points)
def q_M_relate : Mt := (⟨"ImplicationAlgebrasModel", "relate", "(III)I"⟩, prog_9_method_13_code, 5, some .int, 7, E_M_relate)
def q_M_isPoint : Mt := (⟨"ImplicationAlgebrasModel", "isPoint", "(II)Z"⟩, prog_9_method_5_code, 3, some .boolean, 7, E_M_isPoint)
def q_M_isLess : Mt := (⟨"ImplicationAlgebrasModel", "isLess", "(III)Z"⟩, prog_9_method_6_code, 4, some .boolean, 7, E_M_isLess)
def q_M_pairs : Mt := (⟨"ImplicationAlgebrasModel", "pairs", "(I)I"⟩, prog_9_method_12_code, 4, some .int, 7, E_M_pairs)
def q_M_bits : Mt := (⟨"ImplicationAlgebrasModel", "bits", "(I)I"⟩, prog_9_method_3_code, 3, some .int, 7, E_M_bits)
def q_M_isBelow : Mt := (⟨"ImplicationAlgebrasModel", "isBelow", "(III)I"⟩, prog_9_method_14_code, 4, some .int, 7, E_M_isBelow)
def q_M_covers : Mt := (⟨"ImplicationAlgebrasModel", "covers", "(II)I"⟩, prog_9_method_15_code, 6, some .int, 7, E_M_covers)
def q_M_property : Mt := (⟨"ImplicationAlgebrasModel", "property", "(II)I"⟩, prog_9_method_20_code, 3, some .int, 7, E_M_property)
def q_M_largest : Mt := (⟨"ImplicationAlgebrasModel", "largest", "(IZ)I"⟩, prog_9_method_17_code, 8, some .int, 7, E_M_largest)
def q_M_allOf : Mt := (⟨"ImplicationAlgebrasModel", "allOf", "(I)I"⟩, prog_9_method_7_code, 2, some .int, 7, E_M_allOf)
def q_M_areRelated : Mt := (⟨"ImplicationAlgebrasModel", "areRelated", "(III)Z"⟩, prog_9_method_16_code, 4, some .boolean, 7, E_M_areRelated)
def q_M_ends : Mt := (⟨"ImplicationAlgebrasModel", "ends", "(IZ)I"⟩, prog_9_method_19_code, 7, some .int, 7, E_M_ends)
def q_M_components : Mt := (⟨"ImplicationAlgebrasModel", "components", "(I)I"⟩, prog_9_method_18_code, 9, some .int, 7, E_M_components)
def q_M_elementCount : Mt := (⟨"ImplicationAlgebrasModel", "elementCount", "(I)I"⟩, prog_9_method_27_code, 2, some .int, 7, E_M_elementCount)
def q_M_isFound : Mt := (⟨"ImplicationAlgebrasModel", "isFound", "(I)Z"⟩, prog_9_method_23_code, 2, some .boolean, 7, E_M_isFound)
def q_M_finds : Mt := (⟨"ImplicationAlgebrasModel", "finds", "(I)V"⟩, prog_9_method_22_code, 4, none, 7, E_M_finds)
def q_M_isUpSet : Mt := (⟨"ImplicationAlgebrasModel", "isUpSet", "(II)Z"⟩, prog_9_method_21_code, 4, some .boolean, 7, E_M_isUpSet)
def q_M_elementBits : Mt := (⟨"ImplicationAlgebrasModel", "elementBits", "(II)I"⟩, prog_9_method_28_code, 3, some .int, 7, E_M_elementBits)
def q_M_isElement : Mt := (⟨"ImplicationAlgebrasModel", "isElement", "(I)Z"⟩, prog_9_method_24_code, 2, some .boolean, 7, E_M_isElement)
def q_M_elementOf : Mt := (⟨"ImplicationAlgebrasModel", "elementOf", "(II)I"⟩, prog_9_method_29_code, 3, some .int, 7, E_M_elementOf)
def q_M_meet : Mt := (⟨"ImplicationAlgebrasModel", "meet", "(III)I"⟩, prog_9_method_30_code, 4, some .int, 7, E_M_meet)
def q_M_areElements : Mt := (⟨"ImplicationAlgebrasModel", "areElements", "(III)Z"⟩, prog_9_method_25_code, 4, some .boolean, 7, E_M_areElements)
def q_M_join : Mt := (⟨"ImplicationAlgebrasModel", "join", "(III)I"⟩, prog_9_method_31_code, 4, some .int, 7, E_M_join)
def q_M_implies : Mt := (⟨"ImplicationAlgebrasModel", "implies", "(III)I"⟩, prog_9_method_32_code, 4, some .int, 7, E_M_implies)
def q_M_impliedBits : Mt := (⟨"ImplicationAlgebrasModel", "impliedBits", "(III)I"⟩, prog_9_method_26_code, 6, some .int, 7, E_M_impliedBits)
def q_M_append : Mt := (⟨"ImplicationAlgebrasModel", "append", "(I)I"⟩, prog_9_method_33_code, 2, some .int, 7, E_M_append)
def q_M_clearText : Mt := (⟨"ImplicationAlgebrasModel", "clearText", "()I"⟩, prog_9_method_34_code, 2, some .int, 7, E_M_clearText)
def q_M_parse : Mt := (⟨"ImplicationAlgebrasModel", "parse", "(I)I"⟩, prog_9_method_46_code, 3, some .int, 7, E_M_parse)
def q_M_isFormula : Mt := (⟨"ImplicationAlgebrasModel", "isFormula", "(I)Z"⟩, prog_9_method_36_code, 1, some .boolean, 7, E_M_isFormula)
def q_M_takesText : Mt := (⟨"ImplicationAlgebrasModel", "takesText", "()Z"⟩, prog_9_method_44_code, 2, some .boolean, 7, E_M_takesText)
def q_M_takesFactor : Mt := (⟨"ImplicationAlgebrasModel", "takesFactor", "()Z"⟩, prog_9_method_40_code, 1, some .boolean, 7, E_M_takesFactor)
def q_M_next : Mt := (⟨"ImplicationAlgebrasModel", "next", "()I"⟩, prog_9_method_35_code, 1, some .int, 7, E_M_next)
def q_M_atomOf : Mt := (⟨"ImplicationAlgebrasModel", "atomOf", "(I)I"⟩, prog_9_method_39_code, 1, some .int, 7, E_M_atomOf)
def q_M_makes : Mt := (⟨"ImplicationAlgebrasModel", "makes", "(I)V"⟩, prog_9_method_37_code, 2, none, 7, E_M_makes)
def q_M_makesFrom : Mt := (⟨"ImplicationAlgebrasModel", "makesFrom", "(I)V"⟩, prog_9_method_38_code, 2, none, 7, E_M_makesFrom)
def q_M_closes : Mt := (⟨"ImplicationAlgebrasModel", "closes", "()V"⟩, prog_9_method_42_code, 1, none, 7, E_M_closes)
def q_M_hasParen : Mt := (⟨"ImplicationAlgebrasModel", "hasParen", "()Z"⟩, prog_9_method_41_code, 2, some .boolean, 7, E_M_hasParen)
def q_M_deedOf : Mt := (⟨"ImplicationAlgebrasModel", "deedOf", "(I)I"⟩, prog_9_method_43_code, 1, some .int, 7, E_M_deedOf)
def q_M_stores : Mt := (⟨"ImplicationAlgebrasModel", "stores", "(I)V"⟩, prog_9_method_45_code, 3, none, 7, E_M_stores)
def q_M_formulaSize : Mt := (⟨"ImplicationAlgebrasModel", "formulaSize", "(I)I"⟩, prog_9_method_47_code, 2, some .int, 7, E_M_formulaSize)
def q_M_substitute : Mt := (⟨"ImplicationAlgebrasModel", "substitute", "(IIII)I"⟩, prog_9_method_49_code, 9, some .int, 7, E_M_substitute)
def q_M_isVariable : Mt := (⟨"ImplicationAlgebrasModel", "isVariable", "(I)Z"⟩, prog_9_method_48_code, 1, some .boolean, 7, E_M_isVariable)
def q_M_setValue : Mt := (⟨"ImplicationAlgebrasModel", "setValue", "(III)I"⟩, prog_9_method_51_code, 5, some .int, 7, E_M_setValue)
def q_M_value : Mt := (⟨"ImplicationAlgebrasModel", "value", "(II)I"⟩, prog_9_method_53_code, 3, some .int, 7, E_M_value)
def q_M_presentBits : Mt := (⟨"ImplicationAlgebrasModel", "presentBits", "(II)I"⟩, prog_9_method_52_code, 4, some .int, 7, E_M_presentBits)
def q_M_valueBits : Mt := (⟨"ImplicationAlgebrasModel", "valueBits", "(II)I"⟩, prog_9_method_50_code, 6, some .int, 7, E_M_valueBits)
def q_M_isForced : Mt := (⟨"ImplicationAlgebrasModel", "isForced", "(III)I"⟩, prog_9_method_54_code, 4, some .int, 7, E_M_isForced)
def q_M_isValid : Mt := (⟨"ImplicationAlgebrasModel", "isValid", "(II)I"⟩, prog_9_method_61_code, 4, some .int, 7, E_M_isValid)
def q_M_notAsked : Mt := (⟨"ImplicationAlgebrasModel", "notAsked", "(II)I"⟩, prog_9_method_57_code, 3, some .int, 7, E_M_notAsked)
def q_M_countsValuations : Mt := (⟨"ImplicationAlgebrasModel", "countsValuations", "(I)V"⟩, prog_9_method_56_code, 3, none, 7, E_M_countsValuations)
def q_M_variablesOf : Mt := (⟨"ImplicationAlgebrasModel", "variablesOf", "(I)I"⟩, prog_9_method_55_code, 4, some .int, 7, E_M_variablesOf)
def q_M_refuting : Mt := (⟨"ImplicationAlgebrasModel", "refuting", "(II)I"⟩, prog_9_method_60_code, 4, some .int, 7, E_M_refuting)
def q_M_bitsBy : Mt := (⟨"ImplicationAlgebrasModel", "bitsBy", "(III)I"⟩, prog_9_method_59_code, 5, some .int, 7, E_M_bitsBy)
def q_M_elementIn : Mt := (⟨"ImplicationAlgebrasModel", "elementIn", "(II)I"⟩, prog_9_method_58_code, 5, some .int, 7, E_M_elementIn)
def q_M_refutation : Mt := (⟨"ImplicationAlgebrasModel", "refutation", "(III)I"⟩, prog_9_method_62_code, 6, some .int, 7, E_M_refutation)
def q_M_countValuations : Mt := (⟨"ImplicationAlgebrasModel", "countValuations", "(III)I"⟩, prog_9_method_63_code, 7, some .int, 7, E_M_countValuations)
def q_M_filterClass : Mt := (⟨"ImplicationAlgebrasModel", "filterClass", "(III)I"⟩, prog_9_method_64_code, 5, some .int, 7, E_M_filterClass)
def q_M_quotientSize : Mt := (⟨"ImplicationAlgebrasModel", "quotientSize", "(II)I"⟩, prog_9_method_65_code, 7, some .int, 7, E_M_quotientSize)
def q_M_isPrime : Mt := (⟨"ImplicationAlgebrasModel", "isPrime", "(II)I"⟩, prog_9_method_66_code, 5, some .int, 7, E_M_isPrime)
def q_M_addGenerator : Mt := (⟨"ImplicationAlgebrasModel", "addGenerator", "(I)I"⟩, prog_9_method_67_code, 2, some .int, 7, E_M_addGenerator)
def q_M_clearGenerators : Mt := (⟨"ImplicationAlgebrasModel", "clearGenerators", "()I"⟩, prog_9_method_68_code, 2, some .int, 7, E_M_clearGenerators)
def q_M_generate : Mt := (⟨"ImplicationAlgebrasModel", "generate", "(I)I"⟩, prog_9_method_72_code, 5, some .int, 7, E_M_generate)
def q_M_lowers : Mt := (⟨"ImplicationAlgebrasModel", "lowers", "(I)Z"⟩, prog_9_method_70_code, 9, some .boolean, 7, E_M_lowers)
def q_M_done : Mt := (⟨"ImplicationAlgebrasModel", "done", "(IIII)I"⟩, prog_9_method_69_code, 7, some .int, 7, E_M_done)
def q_M_findsSteps : Mt := (⟨"ImplicationAlgebrasModel", "findsSteps", "(I)V"⟩, prog_9_method_71_code, 6, none, 7, E_M_findsSteps)
def q_M_term : Mt := (⟨"ImplicationAlgebrasModel", "term", "(II)J"⟩, prog_9_method_73_code, 3, some .long, 7, E_M_term)
def q_M_countMaps : Mt := (⟨"ImplicationAlgebrasModel", "countMaps", "(III)I"⟩, prog_9_method_80_code, 4, some .int, 7, E_M_countMaps)
def q_M_mapsOf : Mt := (⟨"ImplicationAlgebrasModel", "mapsOf", "(IIIZ)I"⟩, prog_9_method_79_code, 10, some .int, 7, E_M_mapsOf)
def q_M_isOfKind : Mt := (⟨"ImplicationAlgebrasModel", "isOfKind", "(III)Z"⟩, prog_9_method_78_code, 4, some .boolean, 7, E_M_isOfKind)
def q_M_keepsOrder : Mt := (⟨"ImplicationAlgebrasModel", "keepsOrder", "(II)Z"⟩, prog_9_method_74_code, 5, some .boolean, 7, E_M_keepsOrder)
def q_M_isBounded : Mt := (⟨"ImplicationAlgebrasModel", "isBounded", "(II)Z"⟩, prog_9_method_75_code, 6, some .boolean, 7, E_M_isBounded)
def q_M_reachesAll : Mt := (⟨"ImplicationAlgebrasModel", "reachesAll", "(II)Z"⟩, prog_9_method_76_code, 5, some .boolean, 7, E_M_reachesAll)
def q_M_reflectsOrder : Mt := (⟨"ImplicationAlgebrasModel", "reflectsOrder", "(II)Z"⟩, prog_9_method_77_code, 5, some .boolean, 7, E_M_reflectsOrder)
def q_M_firstMap : Mt := (⟨"ImplicationAlgebrasModel", "firstMap", "(III)I"⟩, prog_9_method_81_code, 6, some .int, 7, E_M_firstMap)
def q_M_isIsomorphic : Mt := (⟨"ImplicationAlgebrasModel", "isIsomorphic", "(II)I"⟩, prog_9_method_82_code, 3, some .int, 7, E_M_isIsomorphic)
def q_M_sum : Mt := (⟨"ImplicationAlgebrasModel", "sum", "(IIII)I"⟩, prog_9_method_84_code, 8, some .int, 7, E_M_sum)
def q_M_settles : Mt := (⟨"ImplicationAlgebrasModel", "settles", "(I)V"⟩, prog_9_method_83_code, 3, none, 7, E_M_settles)
def q_M_product : Mt := (⟨"ImplicationAlgebrasModel", "product", "(III)I"⟩, prog_9_method_85_code, 8, some .int, 7, E_M_product)
def q_M_restrict : Mt := (⟨"ImplicationAlgebrasModel", "restrict", "(III)I"⟩, prog_9_method_86_code, 10, some .int, 7, E_M_restrict)
def q_M_dual : Mt := (⟨"ImplicationAlgebrasModel", "dual", "(II)I"⟩, prog_9_method_87_code, 6, some .int, 7, E_M_dual)
def q_M_allocate : Mt := (⟨"ImplicationAlgebrasModel", "allocate", "(III)I"⟩, prog_9_method_90_code, 5, some .int, 7, E_M_allocate)
def q_M_isRow : Mt := (⟨"ImplicationAlgebrasModel", "isRow", "(I)Z"⟩, prog_9_method_88_code, 1, some .boolean, 7, E_M_isRow)
def q_M_put : Mt := (⟨"ImplicationAlgebrasModel", "put", "(III)I"⟩, prog_9_method_91_code, 4, some .int, 7, E_M_put)
def q_M_puts : Mt := (⟨"ImplicationAlgebrasModel", "puts", "(III)V"⟩, prog_9_method_89_code, 4, none, 7, E_M_puts)
def q_M_rowElement : Mt := (⟨"ImplicationAlgebrasModel", "rowElement", "(II)J"⟩, prog_9_method_92_code, 3, some .long, 7, E_M_rowElement)
def q_M_copyElements : Mt := (⟨"ImplicationAlgebrasModel", "copyElements", "(IIIII)I"⟩, prog_9_method_93_code, 7, some .int, 7, E_M_copyElements)
def q_M_storeElements : Mt := (⟨"ImplicationAlgebrasModel", "storeElements", "(II)I"⟩, prog_9_method_94_code, 4, some .int, 7, E_M_storeElements)
def q_M_loadOrder : Mt := (⟨"ImplicationAlgebrasModel", "loadOrder", "(II)I"⟩, prog_9_method_95_code, 5, some .int, 7, E_M_loadOrder)
def q_M_failure : Mt := (⟨"ImplicationAlgebrasModel", "failure", "()I"⟩, prog_9_method_96_code, 1, some .int, 7, E_M_failure)
def q_I_bitCount : Mt := (⟨"java/lang/Integer", "bitCount", "(I)I"⟩, prog_10_method_49_code, 1, some .int, 9, E_I_bitCount)
def q_L_law : Mt := (⟨"ImplicationAlgebrasLaw", "law", "([I)Z"⟩, code, 4, some .boolean, 8, E_L_law)
theorem Ms_eq : Ms = [q_F_init, q_F_replaceSigns, q_F_isMissing, q_F_occurrences, q_F_currentBits, q_F_bitsOfValue, q_F_joined, q_F_valuations, q_F_choices, q_F_firstRefutation, q_F_unpack, q_F_valuationsWith, q_S_init, q_S_countIfAccepted, q_S_isBounded, q_S_imagesOf, q_S_fitsEarlier, q_S_fitsOneWay, q_S_digits, q_P_init, q_P_refresh, q_P_findDownSets, q_P_pointsBelow, q_P_below, q_P_findElements, q_P_allPoints, q_P_numberSet, q_P_replaceOrder, q_P_extendOrder, q_P_hasPoint, q_P_properPairs, q_P_greaterPoints, q_P_coversOf, q_P_largestChain, q_P_isChain, q_P_relatedPoints, q_P_largestAntichain, q_P_isAntichain, q_P_minimalPoints, q_P_maximalPoints, q_P_components, q_P_componentOf, q_P_hasElement, q_P_resultOf, q_P_implication, q_P_elementsWithin, q_P_hasLeastPoint, q_R_init, q_R_replaceRow, q_R_isMissing, q_R_hasIndex, q_R_narrowed, q_R_hasRange, q_A_init, q_A_start, q_A_findCosts, q_A_cheapestLeft, q_A_offerAll, q_A_offer, q_A_findSteps, q_A_noteStep, q_T_init, q_T_readFormula, q_T_takeInFactor, q_T_leafOf, q_T_emit, q_T_endFactor, q_T_hold, q_T_takeBehindFactor, q_T_closeParenthesis, q_T_releaseAbove, q_T_operatorOf, q_C_init, q_C_reset, q_C_posetAt, q_C_points, q_C_relate, q_C_isBelow, q_C_covers, q_C_property, q_C_elementCount, q_C_elementBits, q_C_elementOf, q_C_meet, q_C_combine, q_C_join, q_C_implies, q_C_append, q_C_clearText, q_C_parse, q_C_formulaAt, q_C_formulaSize, q_C_substitute, q_C_isVariable, q_C_draftSubstitution, q_C_setValue, q_C_value, q_C_isForced, q_C_isValid, q_C_refusalToSearch, q_C_refutation, q_C_countValuations, q_C_filterClass, q_C_quotientSize, q_C_isPrime, q_C_addGenerator, q_C_clearGenerators, q_C_generate, q_C_term, q_C_countMaps, q_C_searchMaps, q_C_firstMap, q_C_isIsomorphic, q_C_sum, q_C_product, q_C_pairsAbove, q_C_restrict, q_C_renumbered, q_C_dual, q_C_allocate, q_C_rowAt, q_C_put, q_C_rowElement, q_C_copyElements, q_C_storeElements, q_C_loadOrder, q_C_failure, q_M_init, q_M_empties, q_M_unvalues, q_M_reset, q_M_isPoset, q_M_isBetween, q_M_points, q_M_relate, q_M_isPoint, q_M_isLess, q_M_pairs, q_M_bits, q_M_isBelow, q_M_covers, q_M_property, q_M_largest, q_M_allOf, q_M_areRelated, q_M_ends, q_M_components, q_M_elementCount, q_M_isFound, q_M_finds, q_M_isUpSet, q_M_elementBits, q_M_isElement, q_M_elementOf, q_M_meet, q_M_areElements, q_M_join, q_M_implies, q_M_impliedBits, q_M_append, q_M_clearText, q_M_parse, q_M_isFormula, q_M_takesText, q_M_takesFactor, q_M_next, q_M_atomOf, q_M_makes, q_M_makesFrom, q_M_closes, q_M_hasParen, q_M_deedOf, q_M_stores, q_M_formulaSize, q_M_substitute, q_M_isVariable, q_M_setValue, q_M_value, q_M_presentBits, q_M_valueBits, q_M_isForced, q_M_isValid, q_M_notAsked, q_M_countsValuations, q_M_variablesOf, q_M_refuting, q_M_bitsBy, q_M_elementIn, q_M_refutation, q_M_countValuations, q_M_filterClass, q_M_quotientSize, q_M_isPrime, q_M_addGenerator, q_M_clearGenerators, q_M_generate, q_M_lowers, q_M_done, q_M_findsSteps, q_M_term, q_M_countMaps, q_M_mapsOf, q_M_isOfKind, q_M_keepsOrder, q_M_isBounded, q_M_reachesAll, q_M_reflectsOrder, q_M_firstMap, q_M_isIsomorphic, q_M_sum, q_M_settles, q_M_product, q_M_restrict, q_M_dual, q_M_allocate, q_M_isRow, q_M_put, q_M_puts, q_M_rowElement, q_M_copyElements, q_M_storeElements, q_M_loadOrder, q_M_failure, q_I_bitCount, q_L_law] := rfl
def okM (q : Mt) : Prop := q.2.2.2.2.2.all (chk1 q.2.2.2.2.1 (iniM q) q.2.1) = true
theorem ce_F_init : okM q_F_init := by
  have h : iniM q_F_init = true := by decide +kernel
  unfold okM
  rw [h]
  exact ca_F_init
theorem ce_F_replaceSigns : okM q_F_replaceSigns := by
  have h : iniM q_F_replaceSigns = false := by decide +kernel
  unfold okM
  rw [h]
  exact ca_F_replaceSigns
theorem ce_F_isMissing : okM q_F_isMissing := by
  have h : iniM q_F_isMissing = false := by decide +kernel
  unfold okM
  rw [h]
  exact ca_F_isMissing
theorem ce_F_occurrences : okM q_F_occurrences := by
  have h : iniM q_F_occurrences = false := by decide +kernel
  unfold okM
  rw [h]
  exact ca_F_occurrences
theorem ce_F_currentBits : okM q_F_currentBits := by
  have h : iniM q_F_currentBits = false := by decide +kernel
  unfold okM
  rw [h]
  exact ca_F_currentBits
theorem ce_F_bitsOfValue : okM q_F_bitsOfValue := by
  have h : iniM q_F_bitsOfValue = false := by decide +kernel
  unfold okM
  rw [h]
  exact ca_F_bitsOfValue
theorem ce_F_joined : okM q_F_joined := by
  have h : iniM q_F_joined = false := by decide +kernel
  unfold okM
  rw [h]
  exact ca_F_joined
theorem ce_F_valuations : okM q_F_valuations := by
  have h : iniM q_F_valuations = false := by decide +kernel
  unfold okM
  rw [h]
  exact ca_F_valuations
theorem ce_F_choices : okM q_F_choices := by
  have h : iniM q_F_choices = false := by decide +kernel
  unfold okM
  rw [h]
  exact ca_F_choices
theorem ce_F_firstRefutation : okM q_F_firstRefutation := by
  have h : iniM q_F_firstRefutation = false := by decide +kernel
  unfold okM
  rw [h]
  exact ca_F_firstRefutation
theorem ce_F_unpack : okM q_F_unpack := by
  have h : iniM q_F_unpack = false := by decide +kernel
  unfold okM
  rw [h]
  exact ca_F_unpack
theorem ce_F_valuationsWith : okM q_F_valuationsWith := by
  have h : iniM q_F_valuationsWith = false := by decide +kernel
  unfold okM
  rw [h]
  exact ca_F_valuationsWith
theorem ce_S_init : okM q_S_init := by
  have h : iniM q_S_init = true := by decide +kernel
  unfold okM
  rw [h]
  exact ca_S_init
theorem ce_S_countIfAccepted : okM q_S_countIfAccepted := by
  have h : iniM q_S_countIfAccepted = false := by decide +kernel
  unfold okM
  rw [h]
  exact ca_S_countIfAccepted
theorem ce_S_isBounded : okM q_S_isBounded := by
  have h : iniM q_S_isBounded = false := by decide +kernel
  unfold okM
  rw [h]
  exact ca_S_isBounded
theorem ce_S_imagesOf : okM q_S_imagesOf := by
  have h : iniM q_S_imagesOf = false := by decide +kernel
  unfold okM
  rw [h]
  exact ca_S_imagesOf
theorem ce_S_fitsEarlier : okM q_S_fitsEarlier := by
  have h : iniM q_S_fitsEarlier = false := by decide +kernel
  unfold okM
  rw [h]
  exact ca_S_fitsEarlier
theorem ce_S_fitsOneWay : okM q_S_fitsOneWay := by
  have h : iniM q_S_fitsOneWay = false := by decide +kernel
  unfold okM
  rw [h]
  exact ca_S_fitsOneWay
theorem ce_S_digits : okM q_S_digits := by
  have h : iniM q_S_digits = false := by decide +kernel
  unfold okM
  rw [h]
  exact ca_S_digits
theorem ce_P_init : okM q_P_init := by
  have h : iniM q_P_init = true := by decide +kernel
  unfold okM
  rw [h]
  exact ca_P_init
theorem ce_P_refresh : okM q_P_refresh := by
  have h : iniM q_P_refresh = false := by decide +kernel
  unfold okM
  rw [h]
  exact ca_P_refresh
theorem ce_P_findDownSets : okM q_P_findDownSets := by
  have h : iniM q_P_findDownSets = false := by decide +kernel
  unfold okM
  rw [h]
  exact ca_P_findDownSets
theorem ce_P_pointsBelow : okM q_P_pointsBelow := by
  have h : iniM q_P_pointsBelow = false := by decide +kernel
  unfold okM
  rw [h]
  exact ca_P_pointsBelow
theorem ce_P_below : okM q_P_below := by
  have h : iniM q_P_below = false := by decide +kernel
  unfold okM
  rw [h]
  exact ca_P_below
theorem ce_P_findElements : okM q_P_findElements := by
  have h : iniM q_P_findElements = false := by decide +kernel
  unfold okM
  rw [h]
  exact ca_P_findElements
theorem ce_P_allPoints : okM q_P_allPoints := by
  have h : iniM q_P_allPoints = false := by decide +kernel
  unfold okM
  rw [h]
  exact ca_P_allPoints
theorem ce_P_numberSet : okM q_P_numberSet := by
  have h : iniM q_P_numberSet = false := by decide +kernel
  unfold okM
  rw [h]
  exact ca_P_numberSet
theorem ce_P_replaceOrder : okM q_P_replaceOrder := by
  have h : iniM q_P_replaceOrder = false := by decide +kernel
  unfold okM
  rw [h]
  exact ca_P_replaceOrder
theorem ce_P_extendOrder : okM q_P_extendOrder := by
  have h : iniM q_P_extendOrder = false := by decide +kernel
  unfold okM
  rw [h]
  exact ca_P_extendOrder
theorem ce_P_hasPoint : okM q_P_hasPoint := by
  have h : iniM q_P_hasPoint = false := by decide +kernel
  unfold okM
  rw [h]
  exact ca_P_hasPoint
theorem ce_P_properPairs : okM q_P_properPairs := by
  have h : iniM q_P_properPairs = false := by decide +kernel
  unfold okM
  rw [h]
  exact ca_P_properPairs
theorem ce_P_greaterPoints : okM q_P_greaterPoints := by
  have h : iniM q_P_greaterPoints = false := by decide +kernel
  unfold okM
  rw [h]
  exact ca_P_greaterPoints
theorem ce_P_coversOf : okM q_P_coversOf := by
  have h : iniM q_P_coversOf = false := by decide +kernel
  unfold okM
  rw [h]
  exact ca_P_coversOf
theorem ce_P_largestChain : okM q_P_largestChain := by
  have h : iniM q_P_largestChain = false := by decide +kernel
  unfold okM
  rw [h]
  exact ca_P_largestChain
theorem ce_P_isChain : okM q_P_isChain := by
  have h : iniM q_P_isChain = false := by decide +kernel
  unfold okM
  rw [h]
  exact ca_P_isChain
theorem ce_P_relatedPoints : okM q_P_relatedPoints := by
  have h : iniM q_P_relatedPoints = false := by decide +kernel
  unfold okM
  rw [h]
  exact ca_P_relatedPoints
theorem ce_P_largestAntichain : okM q_P_largestAntichain := by
  have h : iniM q_P_largestAntichain = false := by decide +kernel
  unfold okM
  rw [h]
  exact ca_P_largestAntichain
theorem ce_P_isAntichain : okM q_P_isAntichain := by
  have h : iniM q_P_isAntichain = false := by decide +kernel
  unfold okM
  rw [h]
  exact ca_P_isAntichain
theorem ce_P_minimalPoints : okM q_P_minimalPoints := by
  have h : iniM q_P_minimalPoints = false := by decide +kernel
  unfold okM
  rw [h]
  exact ca_P_minimalPoints
theorem ce_P_maximalPoints : okM q_P_maximalPoints := by
  have h : iniM q_P_maximalPoints = false := by decide +kernel
  unfold okM
  rw [h]
  exact ca_P_maximalPoints
theorem ce_P_components : okM q_P_components := by
  have h : iniM q_P_components = false := by decide +kernel
  unfold okM
  rw [h]
  exact ca_P_components
theorem ce_P_componentOf : okM q_P_componentOf := by
  have h : iniM q_P_componentOf = false := by decide +kernel
  unfold okM
  rw [h]
  exact ca_P_componentOf
theorem ce_P_hasElement : okM q_P_hasElement := by
  have h : iniM q_P_hasElement = false := by decide +kernel
  unfold okM
  rw [h]
  exact ca_P_hasElement
theorem ce_P_resultOf : okM q_P_resultOf := by
  have h : iniM q_P_resultOf = false := by decide +kernel
  unfold okM
  rw [h]
  exact ca_P_resultOf
theorem ce_P_implication : okM q_P_implication := by
  have h : iniM q_P_implication = false := by decide +kernel
  unfold okM
  rw [h]
  exact ca_P_implication
theorem ce_P_elementsWithin : okM q_P_elementsWithin := by
  have h : iniM q_P_elementsWithin = false := by decide +kernel
  unfold okM
  rw [h]
  exact ca_P_elementsWithin
theorem ce_P_hasLeastPoint : okM q_P_hasLeastPoint := by
  have h : iniM q_P_hasLeastPoint = false := by decide +kernel
  unfold okM
  rw [h]
  exact ca_P_hasLeastPoint
theorem ce_R_init : okM q_R_init := by
  have h : iniM q_R_init = true := by decide +kernel
  unfold okM
  rw [h]
  exact ca_R_init
theorem ce_R_replaceRow : okM q_R_replaceRow := by
  have h : iniM q_R_replaceRow = false := by decide +kernel
  unfold okM
  rw [h]
  exact ca_R_replaceRow
theorem ce_R_isMissing : okM q_R_isMissing := by
  have h : iniM q_R_isMissing = false := by decide +kernel
  unfold okM
  rw [h]
  exact ca_R_isMissing
theorem ce_R_hasIndex : okM q_R_hasIndex := by
  have h : iniM q_R_hasIndex = false := by decide +kernel
  unfold okM
  rw [h]
  exact ca_R_hasIndex
theorem ce_R_narrowed : okM q_R_narrowed := by
  have h : iniM q_R_narrowed = false := by decide +kernel
  unfold okM
  rw [h]
  exact ca_R_narrowed
theorem ce_R_hasRange : okM q_R_hasRange := by
  have h : iniM q_R_hasRange = false := by decide +kernel
  unfold okM
  rw [h]
  exact ca_R_hasRange
theorem ce_A_init : okM q_A_init := by
  have h : iniM q_A_init = true := by decide +kernel
  unfold okM
  rw [h]
  exact ca_A_init
theorem ce_A_start : okM q_A_start := by
  have h : iniM q_A_start = false := by decide +kernel
  unfold okM
  rw [h]
  exact ca_A_start
theorem ce_A_findCosts : okM q_A_findCosts := by
  have h : iniM q_A_findCosts = false := by decide +kernel
  unfold okM
  rw [h]
  exact ca_A_findCosts
theorem ce_A_cheapestLeft : okM q_A_cheapestLeft := by
  have h : iniM q_A_cheapestLeft = false := by decide +kernel
  unfold okM
  rw [h]
  exact ca_A_cheapestLeft
theorem ce_A_offerAll : okM q_A_offerAll := by
  have h : iniM q_A_offerAll = false := by decide +kernel
  unfold okM
  rw [h]
  exact ca_A_offerAll
theorem ce_A_offer : okM q_A_offer := by
  have h : iniM q_A_offer = false := by decide +kernel
  unfold okM
  rw [h]
  exact ca_A_offer
theorem ce_A_findSteps : okM q_A_findSteps := by
  have h : iniM q_A_findSteps = false := by decide +kernel
  unfold okM
  rw [h]
  exact ca_A_findSteps
theorem ce_A_noteStep : okM q_A_noteStep := by
  have h : iniM q_A_noteStep = false := by decide +kernel
  unfold okM
  rw [h]
  exact ca_A_noteStep
theorem ce_T_init : okM q_T_init := by
  have h : iniM q_T_init = true := by decide +kernel
  unfold okM
  rw [h]
  exact ca_T_init
theorem ce_T_readFormula : okM q_T_readFormula := by
  have h : iniM q_T_readFormula = false := by decide +kernel
  unfold okM
  rw [h]
  exact ca_T_readFormula
theorem ce_T_takeInFactor : okM q_T_takeInFactor := by
  have h : iniM q_T_takeInFactor = false := by decide +kernel
  unfold okM
  rw [h]
  exact ca_T_takeInFactor
theorem ce_T_leafOf : okM q_T_leafOf := by
  have h : iniM q_T_leafOf = false := by decide +kernel
  unfold okM
  rw [h]
  exact ca_T_leafOf
theorem ce_T_emit : okM q_T_emit := by
  have h : iniM q_T_emit = false := by decide +kernel
  unfold okM
  rw [h]
  exact ca_T_emit
theorem ce_T_endFactor : okM q_T_endFactor := by
  have h : iniM q_T_endFactor = false := by decide +kernel
  unfold okM
  rw [h]
  exact ca_T_endFactor
theorem ce_T_hold : okM q_T_hold := by
  have h : iniM q_T_hold = false := by decide +kernel
  unfold okM
  rw [h]
  exact ca_T_hold
theorem ce_T_takeBehindFactor : okM q_T_takeBehindFactor := by
  have h : iniM q_T_takeBehindFactor = false := by decide +kernel
  unfold okM
  rw [h]
  exact ca_T_takeBehindFactor
theorem ce_T_closeParenthesis : okM q_T_closeParenthesis := by
  have h : iniM q_T_closeParenthesis = false := by decide +kernel
  unfold okM
  rw [h]
  exact ca_T_closeParenthesis
theorem ce_T_releaseAbove : okM q_T_releaseAbove := by
  have h : iniM q_T_releaseAbove = false := by decide +kernel
  unfold okM
  rw [h]
  exact ca_T_releaseAbove
theorem ce_T_operatorOf : okM q_T_operatorOf := by
  have h : iniM q_T_operatorOf = false := by decide +kernel
  unfold okM
  rw [h]
  exact ca_T_operatorOf
theorem ce_C_init : okM q_C_init := by
  have h : iniM q_C_init = true := by decide +kernel
  unfold okM
  rw [h]
  exact ca_C_init
theorem ce_C_reset : okM q_C_reset := by
  have h : iniM q_C_reset = false := by decide +kernel
  unfold okM
  rw [h]
  exact ca_C_reset
theorem ce_C_posetAt : okM q_C_posetAt := by
  have h : iniM q_C_posetAt = false := by decide +kernel
  unfold okM
  rw [h]
  exact ca_C_posetAt
theorem ce_C_points : okM q_C_points := by
  have h : iniM q_C_points = false := by decide +kernel
  unfold okM
  rw [h]
  exact ca_C_points
theorem ce_C_relate : okM q_C_relate := by
  have h : iniM q_C_relate = false := by decide +kernel
  unfold okM
  rw [h]
  exact ca_C_relate
theorem ce_C_isBelow : okM q_C_isBelow := by
  have h : iniM q_C_isBelow = false := by decide +kernel
  unfold okM
  rw [h]
  exact ca_C_isBelow
theorem ce_C_covers : okM q_C_covers := by
  have h : iniM q_C_covers = false := by decide +kernel
  unfold okM
  rw [h]
  exact ca_C_covers
theorem ce_C_property : okM q_C_property := by
  have h : iniM q_C_property = false := by decide +kernel
  unfold okM
  rw [h]
  exact ca_C_property
theorem ce_C_elementCount : okM q_C_elementCount := by
  have h : iniM q_C_elementCount = false := by decide +kernel
  unfold okM
  rw [h]
  exact ca_C_elementCount
theorem ce_C_elementBits : okM q_C_elementBits := by
  have h : iniM q_C_elementBits = false := by decide +kernel
  unfold okM
  rw [h]
  exact ca_C_elementBits
theorem ce_C_elementOf : okM q_C_elementOf := by
  have h : iniM q_C_elementOf = false := by decide +kernel
  unfold okM
  rw [h]
  exact ca_C_elementOf
theorem ce_C_meet : okM q_C_meet := by
  have h : iniM q_C_meet = false := by decide +kernel
  unfold okM
  rw [h]
  exact ca_C_meet
theorem ce_C_combine : okM q_C_combine := by
  have h : iniM q_C_combine = false := by decide +kernel
  unfold okM
  rw [h]
  exact ca_C_combine
theorem ce_C_join : okM q_C_join := by
  have h : iniM q_C_join = false := by decide +kernel
  unfold okM
  rw [h]
  exact ca_C_join
theorem ce_C_implies : okM q_C_implies := by
  have h : iniM q_C_implies = false := by decide +kernel
  unfold okM
  rw [h]
  exact ca_C_implies
theorem ce_C_append : okM q_C_append := by
  have h : iniM q_C_append = false := by decide +kernel
  unfold okM
  rw [h]
  exact ca_C_append
theorem ce_C_clearText : okM q_C_clearText := by
  have h : iniM q_C_clearText = false := by decide +kernel
  unfold okM
  rw [h]
  exact ca_C_clearText
theorem ce_C_parse : okM q_C_parse := by
  have h : iniM q_C_parse = false := by decide +kernel
  unfold okM
  rw [h]
  exact ca_C_parse
theorem ce_C_formulaAt : okM q_C_formulaAt := by
  have h : iniM q_C_formulaAt = false := by decide +kernel
  unfold okM
  rw [h]
  exact ca_C_formulaAt
theorem ce_C_formulaSize : okM q_C_formulaSize := by
  have h : iniM q_C_formulaSize = false := by decide +kernel
  unfold okM
  rw [h]
  exact ca_C_formulaSize
theorem ce_C_substitute : okM q_C_substitute := by
  have h : iniM q_C_substitute = false := by decide +kernel
  unfold okM
  rw [h]
  exact ca_C_substitute
theorem ce_C_isVariable : okM q_C_isVariable := by
  have h : iniM q_C_isVariable = false := by decide +kernel
  unfold okM
  rw [h]
  exact ca_C_isVariable
theorem ce_C_draftSubstitution : okM q_C_draftSubstitution := by
  have h : iniM q_C_draftSubstitution = false := by decide +kernel
  unfold okM
  rw [h]
  exact ca_C_draftSubstitution
theorem ce_C_setValue : okM q_C_setValue := by
  have h : iniM q_C_setValue = false := by decide +kernel
  unfold okM
  rw [h]
  exact ca_C_setValue
theorem ce_C_value : okM q_C_value := by
  have h : iniM q_C_value = false := by decide +kernel
  unfold okM
  rw [h]
  exact ca_C_value
theorem ce_C_isForced : okM q_C_isForced := by
  have h : iniM q_C_isForced = false := by decide +kernel
  unfold okM
  rw [h]
  exact ca_C_isForced
theorem ce_C_isValid : okM q_C_isValid := by
  have h : iniM q_C_isValid = false := by decide +kernel
  unfold okM
  rw [h]
  exact ca_C_isValid
theorem ce_C_refusalToSearch : okM q_C_refusalToSearch := by
  have h : iniM q_C_refusalToSearch = false := by decide +kernel
  unfold okM
  rw [h]
  exact ca_C_refusalToSearch
theorem ce_C_refutation : okM q_C_refutation := by
  have h : iniM q_C_refutation = false := by decide +kernel
  unfold okM
  rw [h]
  exact ca_C_refutation
theorem ce_C_countValuations : okM q_C_countValuations := by
  have h : iniM q_C_countValuations = false := by decide +kernel
  unfold okM
  rw [h]
  exact ca_C_countValuations
theorem ce_C_filterClass : okM q_C_filterClass := by
  have h : iniM q_C_filterClass = false := by decide +kernel
  unfold okM
  rw [h]
  exact ca_C_filterClass
theorem ce_C_quotientSize : okM q_C_quotientSize := by
  have h : iniM q_C_quotientSize = false := by decide +kernel
  unfold okM
  rw [h]
  exact ca_C_quotientSize
theorem ce_C_isPrime : okM q_C_isPrime := by
  have h : iniM q_C_isPrime = false := by decide +kernel
  unfold okM
  rw [h]
  exact ca_C_isPrime
theorem ce_C_addGenerator : okM q_C_addGenerator := by
  have h : iniM q_C_addGenerator = false := by decide +kernel
  unfold okM
  rw [h]
  exact ca_C_addGenerator
theorem ce_C_clearGenerators : okM q_C_clearGenerators := by
  have h : iniM q_C_clearGenerators = false := by decide +kernel
  unfold okM
  rw [h]
  exact ca_C_clearGenerators
theorem ce_C_generate : okM q_C_generate := by
  have h : iniM q_C_generate = false := by decide +kernel
  unfold okM
  rw [h]
  exact ca_C_generate
theorem ce_C_term : okM q_C_term := by
  have h : iniM q_C_term = false := by decide +kernel
  unfold okM
  rw [h]
  exact ca_C_term
theorem ce_C_countMaps : okM q_C_countMaps := by
  have h : iniM q_C_countMaps = false := by decide +kernel
  unfold okM
  rw [h]
  exact ca_C_countMaps
theorem ce_C_searchMaps : okM q_C_searchMaps := by
  have h : iniM q_C_searchMaps = false := by decide +kernel
  unfold okM
  rw [h]
  exact ca_C_searchMaps
theorem ce_C_firstMap : okM q_C_firstMap := by
  have h : iniM q_C_firstMap = false := by decide +kernel
  unfold okM
  rw [h]
  exact ca_C_firstMap
theorem ce_C_isIsomorphic : okM q_C_isIsomorphic := by
  have h : iniM q_C_isIsomorphic = false := by decide +kernel
  unfold okM
  rw [h]
  exact ca_C_isIsomorphic
theorem ce_C_sum : okM q_C_sum := by
  have h : iniM q_C_sum = false := by decide +kernel
  unfold okM
  rw [h]
  exact ca_C_sum
theorem ce_C_product : okM q_C_product := by
  have h : iniM q_C_product = false := by decide +kernel
  unfold okM
  rw [h]
  exact ca_C_product
theorem ce_C_pairsAbove : okM q_C_pairsAbove := by
  have h : iniM q_C_pairsAbove = false := by decide +kernel
  unfold okM
  rw [h]
  exact ca_C_pairsAbove
theorem ce_C_restrict : okM q_C_restrict := by
  have h : iniM q_C_restrict = false := by decide +kernel
  unfold okM
  rw [h]
  exact ca_C_restrict
theorem ce_C_renumbered : okM q_C_renumbered := by
  have h : iniM q_C_renumbered = false := by decide +kernel
  unfold okM
  rw [h]
  exact ca_C_renumbered
theorem ce_C_dual : okM q_C_dual := by
  have h : iniM q_C_dual = false := by decide +kernel
  unfold okM
  rw [h]
  exact ca_C_dual
theorem ce_C_allocate : okM q_C_allocate := by
  have h : iniM q_C_allocate = false := by decide +kernel
  unfold okM
  rw [h]
  exact ca_C_allocate
theorem ce_C_rowAt : okM q_C_rowAt := by
  have h : iniM q_C_rowAt = false := by decide +kernel
  unfold okM
  rw [h]
  exact ca_C_rowAt
theorem ce_C_put : okM q_C_put := by
  have h : iniM q_C_put = false := by decide +kernel
  unfold okM
  rw [h]
  exact ca_C_put
theorem ce_C_rowElement : okM q_C_rowElement := by
  have h : iniM q_C_rowElement = false := by decide +kernel
  unfold okM
  rw [h]
  exact ca_C_rowElement
theorem ce_C_copyElements : okM q_C_copyElements := by
  have h : iniM q_C_copyElements = false := by decide +kernel
  unfold okM
  rw [h]
  exact ca_C_copyElements
theorem ce_C_storeElements : okM q_C_storeElements := by
  have h : iniM q_C_storeElements = false := by decide +kernel
  unfold okM
  rw [h]
  exact ca_C_storeElements
theorem ce_C_loadOrder : okM q_C_loadOrder := by
  have h : iniM q_C_loadOrder = false := by decide +kernel
  unfold okM
  rw [h]
  exact ca_C_loadOrder
theorem ce_C_failure : okM q_C_failure := by
  have h : iniM q_C_failure = false := by decide +kernel
  unfold okM
  rw [h]
  exact ca_C_failure
theorem ce_M_init : okM q_M_init := by
  have h : iniM q_M_init = true := by decide +kernel
  unfold okM
  rw [h]
  exact ca_M_init
theorem ce_M_empties : okM q_M_empties := by
  have h : iniM q_M_empties = false := by decide +kernel
  unfold okM
  rw [h]
  exact ca_M_empties
theorem ce_M_unvalues : okM q_M_unvalues := by
  have h : iniM q_M_unvalues = false := by decide +kernel
  unfold okM
  rw [h]
  exact ca_M_unvalues
theorem ce_M_reset : okM q_M_reset := by
  have h : iniM q_M_reset = false := by decide +kernel
  unfold okM
  rw [h]
  exact ca_M_reset
theorem ce_M_isPoset : okM q_M_isPoset := by
  have h : iniM q_M_isPoset = false := by decide +kernel
  unfold okM
  rw [h]
  exact ca_M_isPoset
theorem ce_M_isBetween : okM q_M_isBetween := by
  have h : iniM q_M_isBetween = false := by decide +kernel
  unfold okM
  rw [h]
  exact ca_M_isBetween
theorem ce_M_points : okM q_M_points := by
  have h : iniM q_M_points = false := by decide +kernel
  unfold okM
  rw [h]
  exact ca_M_points
theorem ce_M_relate : okM q_M_relate := by
  have h : iniM q_M_relate = false := by decide +kernel
  unfold okM
  rw [h]
  exact ca_M_relate
theorem ce_M_isPoint : okM q_M_isPoint := by
  have h : iniM q_M_isPoint = false := by decide +kernel
  unfold okM
  rw [h]
  exact ca_M_isPoint
theorem ce_M_isLess : okM q_M_isLess := by
  have h : iniM q_M_isLess = false := by decide +kernel
  unfold okM
  rw [h]
  exact ca_M_isLess
theorem ce_M_pairs : okM q_M_pairs := by
  have h : iniM q_M_pairs = false := by decide +kernel
  unfold okM
  rw [h]
  exact ca_M_pairs
theorem ce_M_bits : okM q_M_bits := by
  have h : iniM q_M_bits = false := by decide +kernel
  unfold okM
  rw [h]
  exact ca_M_bits
theorem ce_M_isBelow : okM q_M_isBelow := by
  have h : iniM q_M_isBelow = false := by decide +kernel
  unfold okM
  rw [h]
  exact ca_M_isBelow
theorem ce_M_covers : okM q_M_covers := by
  have h : iniM q_M_covers = false := by decide +kernel
  unfold okM
  rw [h]
  exact ca_M_covers
theorem ce_M_property : okM q_M_property := by
  have h : iniM q_M_property = false := by decide +kernel
  unfold okM
  rw [h]
  exact ca_M_property
theorem ce_M_largest : okM q_M_largest := by
  have h : iniM q_M_largest = false := by decide +kernel
  unfold okM
  rw [h]
  exact ca_M_largest
theorem ce_M_allOf : okM q_M_allOf := by
  have h : iniM q_M_allOf = false := by decide +kernel
  unfold okM
  rw [h]
  exact ca_M_allOf
theorem ce_M_areRelated : okM q_M_areRelated := by
  have h : iniM q_M_areRelated = false := by decide +kernel
  unfold okM
  rw [h]
  exact ca_M_areRelated
theorem ce_M_ends : okM q_M_ends := by
  have h : iniM q_M_ends = false := by decide +kernel
  unfold okM
  rw [h]
  exact ca_M_ends
theorem ce_M_components : okM q_M_components := by
  have h : iniM q_M_components = false := by decide +kernel
  unfold okM
  rw [h]
  exact ca_M_components
theorem ce_M_elementCount : okM q_M_elementCount := by
  have h : iniM q_M_elementCount = false := by decide +kernel
  unfold okM
  rw [h]
  exact ca_M_elementCount
theorem ce_M_isFound : okM q_M_isFound := by
  have h : iniM q_M_isFound = false := by decide +kernel
  unfold okM
  rw [h]
  exact ca_M_isFound
theorem ce_M_finds : okM q_M_finds := by
  have h : iniM q_M_finds = false := by decide +kernel
  unfold okM
  rw [h]
  exact ca_M_finds
theorem ce_M_isUpSet : okM q_M_isUpSet := by
  have h : iniM q_M_isUpSet = false := by decide +kernel
  unfold okM
  rw [h]
  exact ca_M_isUpSet
theorem ce_M_elementBits : okM q_M_elementBits := by
  have h : iniM q_M_elementBits = false := by decide +kernel
  unfold okM
  rw [h]
  exact ca_M_elementBits
theorem ce_M_isElement : okM q_M_isElement := by
  have h : iniM q_M_isElement = false := by decide +kernel
  unfold okM
  rw [h]
  exact ca_M_isElement
theorem ce_M_elementOf : okM q_M_elementOf := by
  have h : iniM q_M_elementOf = false := by decide +kernel
  unfold okM
  rw [h]
  exact ca_M_elementOf
theorem ce_M_meet : okM q_M_meet := by
  have h : iniM q_M_meet = false := by decide +kernel
  unfold okM
  rw [h]
  exact ca_M_meet
theorem ce_M_areElements : okM q_M_areElements := by
  have h : iniM q_M_areElements = false := by decide +kernel
  unfold okM
  rw [h]
  exact ca_M_areElements
theorem ce_M_join : okM q_M_join := by
  have h : iniM q_M_join = false := by decide +kernel
  unfold okM
  rw [h]
  exact ca_M_join
theorem ce_M_implies : okM q_M_implies := by
  have h : iniM q_M_implies = false := by decide +kernel
  unfold okM
  rw [h]
  exact ca_M_implies
theorem ce_M_impliedBits : okM q_M_impliedBits := by
  have h : iniM q_M_impliedBits = false := by decide +kernel
  unfold okM
  rw [h]
  exact ca_M_impliedBits
theorem ce_M_append : okM q_M_append := by
  have h : iniM q_M_append = false := by decide +kernel
  unfold okM
  rw [h]
  exact ca_M_append
theorem ce_M_clearText : okM q_M_clearText := by
  have h : iniM q_M_clearText = false := by decide +kernel
  unfold okM
  rw [h]
  exact ca_M_clearText
theorem ce_M_parse : okM q_M_parse := by
  have h : iniM q_M_parse = false := by decide +kernel
  unfold okM
  rw [h]
  exact ca_M_parse
theorem ce_M_isFormula : okM q_M_isFormula := by
  have h : iniM q_M_isFormula = false := by decide +kernel
  unfold okM
  rw [h]
  exact ca_M_isFormula
theorem ce_M_takesText : okM q_M_takesText := by
  have h : iniM q_M_takesText = false := by decide +kernel
  unfold okM
  rw [h]
  exact ca_M_takesText
theorem ce_M_takesFactor : okM q_M_takesFactor := by
  have h : iniM q_M_takesFactor = false := by decide +kernel
  unfold okM
  rw [h]
  exact ca_M_takesFactor
theorem ce_M_next : okM q_M_next := by
  have h : iniM q_M_next = false := by decide +kernel
  unfold okM
  rw [h]
  exact ca_M_next
theorem ce_M_atomOf : okM q_M_atomOf := by
  have h : iniM q_M_atomOf = false := by decide +kernel
  unfold okM
  rw [h]
  exact ca_M_atomOf
theorem ce_M_makes : okM q_M_makes := by
  have h : iniM q_M_makes = false := by decide +kernel
  unfold okM
  rw [h]
  exact ca_M_makes
theorem ce_M_makesFrom : okM q_M_makesFrom := by
  have h : iniM q_M_makesFrom = false := by decide +kernel
  unfold okM
  rw [h]
  exact ca_M_makesFrom
theorem ce_M_closes : okM q_M_closes := by
  have h : iniM q_M_closes = false := by decide +kernel
  unfold okM
  rw [h]
  exact ca_M_closes
theorem ce_M_hasParen : okM q_M_hasParen := by
  have h : iniM q_M_hasParen = false := by decide +kernel
  unfold okM
  rw [h]
  exact ca_M_hasParen
theorem ce_M_deedOf : okM q_M_deedOf := by
  have h : iniM q_M_deedOf = false := by decide +kernel
  unfold okM
  rw [h]
  exact ca_M_deedOf
theorem ce_M_stores : okM q_M_stores := by
  have h : iniM q_M_stores = false := by decide +kernel
  unfold okM
  rw [h]
  exact ca_M_stores
theorem ce_M_formulaSize : okM q_M_formulaSize := by
  have h : iniM q_M_formulaSize = false := by decide +kernel
  unfold okM
  rw [h]
  exact ca_M_formulaSize
theorem ce_M_substitute : okM q_M_substitute := by
  have h : iniM q_M_substitute = false := by decide +kernel
  unfold okM
  rw [h]
  exact ca_M_substitute
theorem ce_M_isVariable : okM q_M_isVariable := by
  have h : iniM q_M_isVariable = false := by decide +kernel
  unfold okM
  rw [h]
  exact ca_M_isVariable
theorem ce_M_setValue : okM q_M_setValue := by
  have h : iniM q_M_setValue = false := by decide +kernel
  unfold okM
  rw [h]
  exact ca_M_setValue
theorem ce_M_value : okM q_M_value := by
  have h : iniM q_M_value = false := by decide +kernel
  unfold okM
  rw [h]
  exact ca_M_value
theorem ce_M_presentBits : okM q_M_presentBits := by
  have h : iniM q_M_presentBits = false := by decide +kernel
  unfold okM
  rw [h]
  exact ca_M_presentBits
theorem ce_M_valueBits : okM q_M_valueBits := by
  have h : iniM q_M_valueBits = false := by decide +kernel
  unfold okM
  rw [h]
  exact ca_M_valueBits
theorem ce_M_isForced : okM q_M_isForced := by
  have h : iniM q_M_isForced = false := by decide +kernel
  unfold okM
  rw [h]
  exact ca_M_isForced
theorem ce_M_isValid : okM q_M_isValid := by
  have h : iniM q_M_isValid = false := by decide +kernel
  unfold okM
  rw [h]
  exact ca_M_isValid
theorem ce_M_notAsked : okM q_M_notAsked := by
  have h : iniM q_M_notAsked = false := by decide +kernel
  unfold okM
  rw [h]
  exact ca_M_notAsked
theorem ce_M_countsValuations : okM q_M_countsValuations := by
  have h : iniM q_M_countsValuations = false := by decide +kernel
  unfold okM
  rw [h]
  exact ca_M_countsValuations
theorem ce_M_variablesOf : okM q_M_variablesOf := by
  have h : iniM q_M_variablesOf = false := by decide +kernel
  unfold okM
  rw [h]
  exact ca_M_variablesOf
theorem ce_M_refuting : okM q_M_refuting := by
  have h : iniM q_M_refuting = false := by decide +kernel
  unfold okM
  rw [h]
  exact ca_M_refuting
theorem ce_M_bitsBy : okM q_M_bitsBy := by
  have h : iniM q_M_bitsBy = false := by decide +kernel
  unfold okM
  rw [h]
  exact ca_M_bitsBy
theorem ce_M_elementIn : okM q_M_elementIn := by
  have h : iniM q_M_elementIn = false := by decide +kernel
  unfold okM
  rw [h]
  exact ca_M_elementIn
theorem ce_M_refutation : okM q_M_refutation := by
  have h : iniM q_M_refutation = false := by decide +kernel
  unfold okM
  rw [h]
  exact ca_M_refutation
theorem ce_M_countValuations : okM q_M_countValuations := by
  have h : iniM q_M_countValuations = false := by decide +kernel
  unfold okM
  rw [h]
  exact ca_M_countValuations
theorem ce_M_filterClass : okM q_M_filterClass := by
  have h : iniM q_M_filterClass = false := by decide +kernel
  unfold okM
  rw [h]
  exact ca_M_filterClass
theorem ce_M_quotientSize : okM q_M_quotientSize := by
  have h : iniM q_M_quotientSize = false := by decide +kernel
  unfold okM
  rw [h]
  exact ca_M_quotientSize
theorem ce_M_isPrime : okM q_M_isPrime := by
  have h : iniM q_M_isPrime = false := by decide +kernel
  unfold okM
  rw [h]
  exact ca_M_isPrime
theorem ce_M_addGenerator : okM q_M_addGenerator := by
  have h : iniM q_M_addGenerator = false := by decide +kernel
  unfold okM
  rw [h]
  exact ca_M_addGenerator
theorem ce_M_clearGenerators : okM q_M_clearGenerators := by
  have h : iniM q_M_clearGenerators = false := by decide +kernel
  unfold okM
  rw [h]
  exact ca_M_clearGenerators
theorem ce_M_generate : okM q_M_generate := by
  have h : iniM q_M_generate = false := by decide +kernel
  unfold okM
  rw [h]
  exact ca_M_generate
theorem ce_M_lowers : okM q_M_lowers := by
  have h : iniM q_M_lowers = false := by decide +kernel
  unfold okM
  rw [h]
  exact ca_M_lowers
theorem ce_M_done : okM q_M_done := by
  have h : iniM q_M_done = false := by decide +kernel
  unfold okM
  rw [h]
  exact ca_M_done
theorem ce_M_findsSteps : okM q_M_findsSteps := by
  have h : iniM q_M_findsSteps = false := by decide +kernel
  unfold okM
  rw [h]
  exact ca_M_findsSteps
theorem ce_M_term : okM q_M_term := by
  have h : iniM q_M_term = false := by decide +kernel
  unfold okM
  rw [h]
  exact ca_M_term
theorem ce_M_countMaps : okM q_M_countMaps := by
  have h : iniM q_M_countMaps = false := by decide +kernel
  unfold okM
  rw [h]
  exact ca_M_countMaps
theorem ce_M_mapsOf : okM q_M_mapsOf := by
  have h : iniM q_M_mapsOf = false := by decide +kernel
  unfold okM
  rw [h]
  exact ca_M_mapsOf
theorem ce_M_isOfKind : okM q_M_isOfKind := by
  have h : iniM q_M_isOfKind = false := by decide +kernel
  unfold okM
  rw [h]
  exact ca_M_isOfKind
theorem ce_M_keepsOrder : okM q_M_keepsOrder := by
  have h : iniM q_M_keepsOrder = false := by decide +kernel
  unfold okM
  rw [h]
  exact ca_M_keepsOrder
theorem ce_M_isBounded : okM q_M_isBounded := by
  have h : iniM q_M_isBounded = false := by decide +kernel
  unfold okM
  rw [h]
  exact ca_M_isBounded
theorem ce_M_reachesAll : okM q_M_reachesAll := by
  have h : iniM q_M_reachesAll = false := by decide +kernel
  unfold okM
  rw [h]
  exact ca_M_reachesAll
theorem ce_M_reflectsOrder : okM q_M_reflectsOrder := by
  have h : iniM q_M_reflectsOrder = false := by decide +kernel
  unfold okM
  rw [h]
  exact ca_M_reflectsOrder
theorem ce_M_firstMap : okM q_M_firstMap := by
  have h : iniM q_M_firstMap = false := by decide +kernel
  unfold okM
  rw [h]
  exact ca_M_firstMap
theorem ce_M_isIsomorphic : okM q_M_isIsomorphic := by
  have h : iniM q_M_isIsomorphic = false := by decide +kernel
  unfold okM
  rw [h]
  exact ca_M_isIsomorphic
theorem ce_M_sum : okM q_M_sum := by
  have h : iniM q_M_sum = false := by decide +kernel
  unfold okM
  rw [h]
  exact ca_M_sum
theorem ce_M_settles : okM q_M_settles := by
  have h : iniM q_M_settles = false := by decide +kernel
  unfold okM
  rw [h]
  exact ca_M_settles
theorem ce_M_product : okM q_M_product := by
  have h : iniM q_M_product = false := by decide +kernel
  unfold okM
  rw [h]
  exact ca_M_product
theorem ce_M_restrict : okM q_M_restrict := by
  have h : iniM q_M_restrict = false := by decide +kernel
  unfold okM
  rw [h]
  exact ca_M_restrict
theorem ce_M_dual : okM q_M_dual := by
  have h : iniM q_M_dual = false := by decide +kernel
  unfold okM
  rw [h]
  exact ca_M_dual
theorem ce_M_allocate : okM q_M_allocate := by
  have h : iniM q_M_allocate = false := by decide +kernel
  unfold okM
  rw [h]
  exact ca_M_allocate
theorem ce_M_isRow : okM q_M_isRow := by
  have h : iniM q_M_isRow = false := by decide +kernel
  unfold okM
  rw [h]
  exact ca_M_isRow
theorem ce_M_put : okM q_M_put := by
  have h : iniM q_M_put = false := by decide +kernel
  unfold okM
  rw [h]
  exact ca_M_put
theorem ce_M_puts : okM q_M_puts := by
  have h : iniM q_M_puts = false := by decide +kernel
  unfold okM
  rw [h]
  exact ca_M_puts
theorem ce_M_rowElement : okM q_M_rowElement := by
  have h : iniM q_M_rowElement = false := by decide +kernel
  unfold okM
  rw [h]
  exact ca_M_rowElement
theorem ce_M_copyElements : okM q_M_copyElements := by
  have h : iniM q_M_copyElements = false := by decide +kernel
  unfold okM
  rw [h]
  exact ca_M_copyElements
theorem ce_M_storeElements : okM q_M_storeElements := by
  have h : iniM q_M_storeElements = false := by decide +kernel
  unfold okM
  rw [h]
  exact ca_M_storeElements
theorem ce_M_loadOrder : okM q_M_loadOrder := by
  have h : iniM q_M_loadOrder = false := by decide +kernel
  unfold okM
  rw [h]
  exact ca_M_loadOrder
theorem ce_M_failure : okM q_M_failure := by
  have h : iniM q_M_failure = false := by decide +kernel
  unfold okM
  rw [h]
  exact ca_M_failure
theorem ce_I_bitCount : okM q_I_bitCount := by
  have h : iniM q_I_bitCount = false := by decide +kernel
  unfold okM
  rw [h]
  exact ca_I_bitCount
theorem ce_L_law : okM q_L_law := by
  have h : iniM q_L_law = false := by decide +kernel
  unfold okM
  rw [h]
  exact ca_L_law
theorem cg_0 : ∀ q ∈ [q_F_init, q_F_replaceSigns, q_F_isMissing, q_F_occurrences, q_F_currentBits, q_F_bitsOfValue, q_F_joined, q_F_valuations, q_F_choices, q_F_firstRefutation, q_F_unpack, q_F_valuationsWith, q_S_init, q_S_countIfAccepted, q_S_isBounded, q_S_imagesOf, q_S_fitsEarlier, q_S_fitsOneWay, q_S_digits, q_P_init, q_P_refresh, q_P_findDownSets, q_P_pointsBelow, q_P_below, q_P_findElements], okM q := List.forall_mem_cons.mpr ⟨ce_F_init, List.forall_mem_cons.mpr ⟨ce_F_replaceSigns, List.forall_mem_cons.mpr ⟨ce_F_isMissing, List.forall_mem_cons.mpr ⟨ce_F_occurrences, List.forall_mem_cons.mpr ⟨ce_F_currentBits, List.forall_mem_cons.mpr ⟨ce_F_bitsOfValue, List.forall_mem_cons.mpr ⟨ce_F_joined, List.forall_mem_cons.mpr ⟨ce_F_valuations, List.forall_mem_cons.mpr ⟨ce_F_choices, List.forall_mem_cons.mpr ⟨ce_F_firstRefutation, List.forall_mem_cons.mpr ⟨ce_F_unpack, List.forall_mem_cons.mpr ⟨ce_F_valuationsWith, List.forall_mem_cons.mpr ⟨ce_S_init, List.forall_mem_cons.mpr ⟨ce_S_countIfAccepted, List.forall_mem_cons.mpr ⟨ce_S_isBounded, List.forall_mem_cons.mpr ⟨ce_S_imagesOf, List.forall_mem_cons.mpr ⟨ce_S_fitsEarlier, List.forall_mem_cons.mpr ⟨ce_S_fitsOneWay, List.forall_mem_cons.mpr ⟨ce_S_digits, List.forall_mem_cons.mpr ⟨ce_P_init, List.forall_mem_cons.mpr ⟨ce_P_refresh, List.forall_mem_cons.mpr ⟨ce_P_findDownSets, List.forall_mem_cons.mpr ⟨ce_P_pointsBelow, List.forall_mem_cons.mpr ⟨ce_P_below, List.forall_mem_cons.mpr ⟨ce_P_findElements, fun _ h => absurd h List.not_mem_nil⟩⟩⟩⟩⟩⟩⟩⟩⟩⟩⟩⟩⟩⟩⟩⟩⟩⟩⟩⟩⟩⟩⟩⟩⟩
theorem cg_25 : ∀ q ∈ [q_P_allPoints, q_P_numberSet, q_P_replaceOrder, q_P_extendOrder, q_P_hasPoint, q_P_properPairs, q_P_greaterPoints, q_P_coversOf, q_P_largestChain, q_P_isChain, q_P_relatedPoints, q_P_largestAntichain, q_P_isAntichain, q_P_minimalPoints, q_P_maximalPoints, q_P_components, q_P_componentOf, q_P_hasElement, q_P_resultOf, q_P_implication, q_P_elementsWithin, q_P_hasLeastPoint, q_R_init, q_R_replaceRow, q_R_isMissing], okM q := List.forall_mem_cons.mpr ⟨ce_P_allPoints, List.forall_mem_cons.mpr ⟨ce_P_numberSet, List.forall_mem_cons.mpr ⟨ce_P_replaceOrder, List.forall_mem_cons.mpr ⟨ce_P_extendOrder, List.forall_mem_cons.mpr ⟨ce_P_hasPoint, List.forall_mem_cons.mpr ⟨ce_P_properPairs, List.forall_mem_cons.mpr ⟨ce_P_greaterPoints, List.forall_mem_cons.mpr ⟨ce_P_coversOf, List.forall_mem_cons.mpr ⟨ce_P_largestChain, List.forall_mem_cons.mpr ⟨ce_P_isChain, List.forall_mem_cons.mpr ⟨ce_P_relatedPoints, List.forall_mem_cons.mpr ⟨ce_P_largestAntichain, List.forall_mem_cons.mpr ⟨ce_P_isAntichain, List.forall_mem_cons.mpr ⟨ce_P_minimalPoints, List.forall_mem_cons.mpr ⟨ce_P_maximalPoints, List.forall_mem_cons.mpr ⟨ce_P_components, List.forall_mem_cons.mpr ⟨ce_P_componentOf, List.forall_mem_cons.mpr ⟨ce_P_hasElement, List.forall_mem_cons.mpr ⟨ce_P_resultOf, List.forall_mem_cons.mpr ⟨ce_P_implication, List.forall_mem_cons.mpr ⟨ce_P_elementsWithin, List.forall_mem_cons.mpr ⟨ce_P_hasLeastPoint, List.forall_mem_cons.mpr ⟨ce_R_init, List.forall_mem_cons.mpr ⟨ce_R_replaceRow, List.forall_mem_cons.mpr ⟨ce_R_isMissing, fun _ h => absurd h List.not_mem_nil⟩⟩⟩⟩⟩⟩⟩⟩⟩⟩⟩⟩⟩⟩⟩⟩⟩⟩⟩⟩⟩⟩⟩⟩⟩
theorem cg_50 : ∀ q ∈ [q_R_hasIndex, q_R_narrowed, q_R_hasRange, q_A_init, q_A_start, q_A_findCosts, q_A_cheapestLeft, q_A_offerAll, q_A_offer, q_A_findSteps, q_A_noteStep, q_T_init, q_T_readFormula, q_T_takeInFactor, q_T_leafOf, q_T_emit, q_T_endFactor, q_T_hold, q_T_takeBehindFactor, q_T_closeParenthesis, q_T_releaseAbove, q_T_operatorOf, q_C_init, q_C_reset, q_C_posetAt], okM q := List.forall_mem_cons.mpr ⟨ce_R_hasIndex, List.forall_mem_cons.mpr ⟨ce_R_narrowed, List.forall_mem_cons.mpr ⟨ce_R_hasRange, List.forall_mem_cons.mpr ⟨ce_A_init, List.forall_mem_cons.mpr ⟨ce_A_start, List.forall_mem_cons.mpr ⟨ce_A_findCosts, List.forall_mem_cons.mpr ⟨ce_A_cheapestLeft, List.forall_mem_cons.mpr ⟨ce_A_offerAll, List.forall_mem_cons.mpr ⟨ce_A_offer, List.forall_mem_cons.mpr ⟨ce_A_findSteps, List.forall_mem_cons.mpr ⟨ce_A_noteStep, List.forall_mem_cons.mpr ⟨ce_T_init, List.forall_mem_cons.mpr ⟨ce_T_readFormula, List.forall_mem_cons.mpr ⟨ce_T_takeInFactor, List.forall_mem_cons.mpr ⟨ce_T_leafOf, List.forall_mem_cons.mpr ⟨ce_T_emit, List.forall_mem_cons.mpr ⟨ce_T_endFactor, List.forall_mem_cons.mpr ⟨ce_T_hold, List.forall_mem_cons.mpr ⟨ce_T_takeBehindFactor, List.forall_mem_cons.mpr ⟨ce_T_closeParenthesis, List.forall_mem_cons.mpr ⟨ce_T_releaseAbove, List.forall_mem_cons.mpr ⟨ce_T_operatorOf, List.forall_mem_cons.mpr ⟨ce_C_init, List.forall_mem_cons.mpr ⟨ce_C_reset, List.forall_mem_cons.mpr ⟨ce_C_posetAt, fun _ h => absurd h List.not_mem_nil⟩⟩⟩⟩⟩⟩⟩⟩⟩⟩⟩⟩⟩⟩⟩⟩⟩⟩⟩⟩⟩⟩⟩⟩⟩
theorem cg_75 : ∀ q ∈ [q_C_points, q_C_relate, q_C_isBelow, q_C_covers, q_C_property, q_C_elementCount, q_C_elementBits, q_C_elementOf, q_C_meet, q_C_combine, q_C_join, q_C_implies, q_C_append, q_C_clearText, q_C_parse, q_C_formulaAt, q_C_formulaSize, q_C_substitute, q_C_isVariable, q_C_draftSubstitution, q_C_setValue, q_C_value, q_C_isForced, q_C_isValid, q_C_refusalToSearch], okM q := List.forall_mem_cons.mpr ⟨ce_C_points, List.forall_mem_cons.mpr ⟨ce_C_relate, List.forall_mem_cons.mpr ⟨ce_C_isBelow, List.forall_mem_cons.mpr ⟨ce_C_covers, List.forall_mem_cons.mpr ⟨ce_C_property, List.forall_mem_cons.mpr ⟨ce_C_elementCount, List.forall_mem_cons.mpr ⟨ce_C_elementBits, List.forall_mem_cons.mpr ⟨ce_C_elementOf, List.forall_mem_cons.mpr ⟨ce_C_meet, List.forall_mem_cons.mpr ⟨ce_C_combine, List.forall_mem_cons.mpr ⟨ce_C_join, List.forall_mem_cons.mpr ⟨ce_C_implies, List.forall_mem_cons.mpr ⟨ce_C_append, List.forall_mem_cons.mpr ⟨ce_C_clearText, List.forall_mem_cons.mpr ⟨ce_C_parse, List.forall_mem_cons.mpr ⟨ce_C_formulaAt, List.forall_mem_cons.mpr ⟨ce_C_formulaSize, List.forall_mem_cons.mpr ⟨ce_C_substitute, List.forall_mem_cons.mpr ⟨ce_C_isVariable, List.forall_mem_cons.mpr ⟨ce_C_draftSubstitution, List.forall_mem_cons.mpr ⟨ce_C_setValue, List.forall_mem_cons.mpr ⟨ce_C_value, List.forall_mem_cons.mpr ⟨ce_C_isForced, List.forall_mem_cons.mpr ⟨ce_C_isValid, List.forall_mem_cons.mpr ⟨ce_C_refusalToSearch, fun _ h => absurd h List.not_mem_nil⟩⟩⟩⟩⟩⟩⟩⟩⟩⟩⟩⟩⟩⟩⟩⟩⟩⟩⟩⟩⟩⟩⟩⟩⟩
theorem cg_100 : ∀ q ∈ [q_C_refutation, q_C_countValuations, q_C_filterClass, q_C_quotientSize, q_C_isPrime, q_C_addGenerator, q_C_clearGenerators, q_C_generate, q_C_term, q_C_countMaps, q_C_searchMaps, q_C_firstMap, q_C_isIsomorphic, q_C_sum, q_C_product, q_C_pairsAbove, q_C_restrict, q_C_renumbered, q_C_dual, q_C_allocate, q_C_rowAt, q_C_put, q_C_rowElement, q_C_copyElements, q_C_storeElements], okM q := List.forall_mem_cons.mpr ⟨ce_C_refutation, List.forall_mem_cons.mpr ⟨ce_C_countValuations, List.forall_mem_cons.mpr ⟨ce_C_filterClass, List.forall_mem_cons.mpr ⟨ce_C_quotientSize, List.forall_mem_cons.mpr ⟨ce_C_isPrime, List.forall_mem_cons.mpr ⟨ce_C_addGenerator, List.forall_mem_cons.mpr ⟨ce_C_clearGenerators, List.forall_mem_cons.mpr ⟨ce_C_generate, List.forall_mem_cons.mpr ⟨ce_C_term, List.forall_mem_cons.mpr ⟨ce_C_countMaps, List.forall_mem_cons.mpr ⟨ce_C_searchMaps, List.forall_mem_cons.mpr ⟨ce_C_firstMap, List.forall_mem_cons.mpr ⟨ce_C_isIsomorphic, List.forall_mem_cons.mpr ⟨ce_C_sum, List.forall_mem_cons.mpr ⟨ce_C_product, List.forall_mem_cons.mpr ⟨ce_C_pairsAbove, List.forall_mem_cons.mpr ⟨ce_C_restrict, List.forall_mem_cons.mpr ⟨ce_C_renumbered, List.forall_mem_cons.mpr ⟨ce_C_dual, List.forall_mem_cons.mpr ⟨ce_C_allocate, List.forall_mem_cons.mpr ⟨ce_C_rowAt, List.forall_mem_cons.mpr ⟨ce_C_put, List.forall_mem_cons.mpr ⟨ce_C_rowElement, List.forall_mem_cons.mpr ⟨ce_C_copyElements, List.forall_mem_cons.mpr ⟨ce_C_storeElements, fun _ h => absurd h List.not_mem_nil⟩⟩⟩⟩⟩⟩⟩⟩⟩⟩⟩⟩⟩⟩⟩⟩⟩⟩⟩⟩⟩⟩⟩⟩⟩
theorem cg_125 : ∀ q ∈ [q_C_loadOrder, q_C_failure, q_M_init, q_M_empties, q_M_unvalues, q_M_reset, q_M_isPoset, q_M_isBetween, q_M_points, q_M_relate, q_M_isPoint, q_M_isLess, q_M_pairs, q_M_bits, q_M_isBelow, q_M_covers, q_M_property, q_M_largest, q_M_allOf, q_M_areRelated, q_M_ends, q_M_components, q_M_elementCount, q_M_isFound, q_M_finds], okM q := List.forall_mem_cons.mpr ⟨ce_C_loadOrder, List.forall_mem_cons.mpr ⟨ce_C_failure, List.forall_mem_cons.mpr ⟨ce_M_init, List.forall_mem_cons.mpr ⟨ce_M_empties, List.forall_mem_cons.mpr ⟨ce_M_unvalues, List.forall_mem_cons.mpr ⟨ce_M_reset, List.forall_mem_cons.mpr ⟨ce_M_isPoset, List.forall_mem_cons.mpr ⟨ce_M_isBetween, List.forall_mem_cons.mpr ⟨ce_M_points, List.forall_mem_cons.mpr ⟨ce_M_relate, List.forall_mem_cons.mpr ⟨ce_M_isPoint, List.forall_mem_cons.mpr ⟨ce_M_isLess, List.forall_mem_cons.mpr ⟨ce_M_pairs, List.forall_mem_cons.mpr ⟨ce_M_bits, List.forall_mem_cons.mpr ⟨ce_M_isBelow, List.forall_mem_cons.mpr ⟨ce_M_covers, List.forall_mem_cons.mpr ⟨ce_M_property, List.forall_mem_cons.mpr ⟨ce_M_largest, List.forall_mem_cons.mpr ⟨ce_M_allOf, List.forall_mem_cons.mpr ⟨ce_M_areRelated, List.forall_mem_cons.mpr ⟨ce_M_ends, List.forall_mem_cons.mpr ⟨ce_M_components, List.forall_mem_cons.mpr ⟨ce_M_elementCount, List.forall_mem_cons.mpr ⟨ce_M_isFound, List.forall_mem_cons.mpr ⟨ce_M_finds, fun _ h => absurd h List.not_mem_nil⟩⟩⟩⟩⟩⟩⟩⟩⟩⟩⟩⟩⟩⟩⟩⟩⟩⟩⟩⟩⟩⟩⟩⟩⟩
theorem cg_150 : ∀ q ∈ [q_M_isUpSet, q_M_elementBits, q_M_isElement, q_M_elementOf, q_M_meet, q_M_areElements, q_M_join, q_M_implies, q_M_impliedBits, q_M_append, q_M_clearText, q_M_parse, q_M_isFormula, q_M_takesText, q_M_takesFactor, q_M_next, q_M_atomOf, q_M_makes, q_M_makesFrom, q_M_closes, q_M_hasParen, q_M_deedOf, q_M_stores, q_M_formulaSize, q_M_substitute], okM q := List.forall_mem_cons.mpr ⟨ce_M_isUpSet, List.forall_mem_cons.mpr ⟨ce_M_elementBits, List.forall_mem_cons.mpr ⟨ce_M_isElement, List.forall_mem_cons.mpr ⟨ce_M_elementOf, List.forall_mem_cons.mpr ⟨ce_M_meet, List.forall_mem_cons.mpr ⟨ce_M_areElements, List.forall_mem_cons.mpr ⟨ce_M_join, List.forall_mem_cons.mpr ⟨ce_M_implies, List.forall_mem_cons.mpr ⟨ce_M_impliedBits, List.forall_mem_cons.mpr ⟨ce_M_append, List.forall_mem_cons.mpr ⟨ce_M_clearText, List.forall_mem_cons.mpr ⟨ce_M_parse, List.forall_mem_cons.mpr ⟨ce_M_isFormula, List.forall_mem_cons.mpr ⟨ce_M_takesText, List.forall_mem_cons.mpr ⟨ce_M_takesFactor, List.forall_mem_cons.mpr ⟨ce_M_next, List.forall_mem_cons.mpr ⟨ce_M_atomOf, List.forall_mem_cons.mpr ⟨ce_M_makes, List.forall_mem_cons.mpr ⟨ce_M_makesFrom, List.forall_mem_cons.mpr ⟨ce_M_closes, List.forall_mem_cons.mpr ⟨ce_M_hasParen, List.forall_mem_cons.mpr ⟨ce_M_deedOf, List.forall_mem_cons.mpr ⟨ce_M_stores, List.forall_mem_cons.mpr ⟨ce_M_formulaSize, List.forall_mem_cons.mpr ⟨ce_M_substitute, fun _ h => absurd h List.not_mem_nil⟩⟩⟩⟩⟩⟩⟩⟩⟩⟩⟩⟩⟩⟩⟩⟩⟩⟩⟩⟩⟩⟩⟩⟩⟩
theorem cg_175 : ∀ q ∈ [q_M_isVariable, q_M_setValue, q_M_value, q_M_presentBits, q_M_valueBits, q_M_isForced, q_M_isValid, q_M_notAsked, q_M_countsValuations, q_M_variablesOf, q_M_refuting, q_M_bitsBy, q_M_elementIn, q_M_refutation, q_M_countValuations, q_M_filterClass, q_M_quotientSize, q_M_isPrime, q_M_addGenerator, q_M_clearGenerators, q_M_generate, q_M_lowers, q_M_done, q_M_findsSteps, q_M_term], okM q := List.forall_mem_cons.mpr ⟨ce_M_isVariable, List.forall_mem_cons.mpr ⟨ce_M_setValue, List.forall_mem_cons.mpr ⟨ce_M_value, List.forall_mem_cons.mpr ⟨ce_M_presentBits, List.forall_mem_cons.mpr ⟨ce_M_valueBits, List.forall_mem_cons.mpr ⟨ce_M_isForced, List.forall_mem_cons.mpr ⟨ce_M_isValid, List.forall_mem_cons.mpr ⟨ce_M_notAsked, List.forall_mem_cons.mpr ⟨ce_M_countsValuations, List.forall_mem_cons.mpr ⟨ce_M_variablesOf, List.forall_mem_cons.mpr ⟨ce_M_refuting, List.forall_mem_cons.mpr ⟨ce_M_bitsBy, List.forall_mem_cons.mpr ⟨ce_M_elementIn, List.forall_mem_cons.mpr ⟨ce_M_refutation, List.forall_mem_cons.mpr ⟨ce_M_countValuations, List.forall_mem_cons.mpr ⟨ce_M_filterClass, List.forall_mem_cons.mpr ⟨ce_M_quotientSize, List.forall_mem_cons.mpr ⟨ce_M_isPrime, List.forall_mem_cons.mpr ⟨ce_M_addGenerator, List.forall_mem_cons.mpr ⟨ce_M_clearGenerators, List.forall_mem_cons.mpr ⟨ce_M_generate, List.forall_mem_cons.mpr ⟨ce_M_lowers, List.forall_mem_cons.mpr ⟨ce_M_done, List.forall_mem_cons.mpr ⟨ce_M_findsSteps, List.forall_mem_cons.mpr ⟨ce_M_term, fun _ h => absurd h List.not_mem_nil⟩⟩⟩⟩⟩⟩⟩⟩⟩⟩⟩⟩⟩⟩⟩⟩⟩⟩⟩⟩⟩⟩⟩⟩⟩
theorem cg_200 : ∀ q ∈ [q_M_countMaps, q_M_mapsOf, q_M_isOfKind, q_M_keepsOrder, q_M_isBounded, q_M_reachesAll, q_M_reflectsOrder, q_M_firstMap, q_M_isIsomorphic, q_M_sum, q_M_settles, q_M_product, q_M_restrict, q_M_dual, q_M_allocate, q_M_isRow, q_M_put, q_M_puts, q_M_rowElement, q_M_copyElements, q_M_storeElements, q_M_loadOrder, q_M_failure, q_I_bitCount, q_L_law], okM q := List.forall_mem_cons.mpr ⟨ce_M_countMaps, List.forall_mem_cons.mpr ⟨ce_M_mapsOf, List.forall_mem_cons.mpr ⟨ce_M_isOfKind, List.forall_mem_cons.mpr ⟨ce_M_keepsOrder, List.forall_mem_cons.mpr ⟨ce_M_isBounded, List.forall_mem_cons.mpr ⟨ce_M_reachesAll, List.forall_mem_cons.mpr ⟨ce_M_reflectsOrder, List.forall_mem_cons.mpr ⟨ce_M_firstMap, List.forall_mem_cons.mpr ⟨ce_M_isIsomorphic, List.forall_mem_cons.mpr ⟨ce_M_sum, List.forall_mem_cons.mpr ⟨ce_M_settles, List.forall_mem_cons.mpr ⟨ce_M_product, List.forall_mem_cons.mpr ⟨ce_M_restrict, List.forall_mem_cons.mpr ⟨ce_M_dual, List.forall_mem_cons.mpr ⟨ce_M_allocate, List.forall_mem_cons.mpr ⟨ce_M_isRow, List.forall_mem_cons.mpr ⟨ce_M_put, List.forall_mem_cons.mpr ⟨ce_M_puts, List.forall_mem_cons.mpr ⟨ce_M_rowElement, List.forall_mem_cons.mpr ⟨ce_M_copyElements, List.forall_mem_cons.mpr ⟨ce_M_storeElements, List.forall_mem_cons.mpr ⟨ce_M_loadOrder, List.forall_mem_cons.mpr ⟨ce_M_failure, List.forall_mem_cons.mpr ⟨ce_I_bitCount, List.forall_mem_cons.mpr ⟨ce_L_law, fun _ h => absurd h List.not_mem_nil⟩⟩⟩⟩⟩⟩⟩⟩⟩⟩⟩⟩⟩⟩⟩⟩⟩⟩⟩⟩⟩⟩⟩⟩⟩
theorem ms_ok : ∀ q ∈ Ms, okM q := by
  rw [Ms_eq]
  show ∀ q ∈ [q_F_init, q_F_replaceSigns, q_F_isMissing, q_F_occurrences, q_F_currentBits, q_F_bitsOfValue, q_F_joined, q_F_valuations, q_F_choices, q_F_firstRefutation, q_F_unpack, q_F_valuationsWith, q_S_init, q_S_countIfAccepted, q_S_isBounded, q_S_imagesOf, q_S_fitsEarlier, q_S_fitsOneWay, q_S_digits, q_P_init, q_P_refresh, q_P_findDownSets, q_P_pointsBelow, q_P_below, q_P_findElements] ++ ([q_P_allPoints, q_P_numberSet, q_P_replaceOrder, q_P_extendOrder, q_P_hasPoint, q_P_properPairs, q_P_greaterPoints, q_P_coversOf, q_P_largestChain, q_P_isChain, q_P_relatedPoints, q_P_largestAntichain, q_P_isAntichain, q_P_minimalPoints, q_P_maximalPoints, q_P_components, q_P_componentOf, q_P_hasElement, q_P_resultOf, q_P_implication, q_P_elementsWithin, q_P_hasLeastPoint, q_R_init, q_R_replaceRow, q_R_isMissing] ++ ([q_R_hasIndex, q_R_narrowed, q_R_hasRange, q_A_init, q_A_start, q_A_findCosts, q_A_cheapestLeft, q_A_offerAll, q_A_offer, q_A_findSteps, q_A_noteStep, q_T_init, q_T_readFormula, q_T_takeInFactor, q_T_leafOf, q_T_emit, q_T_endFactor, q_T_hold, q_T_takeBehindFactor, q_T_closeParenthesis, q_T_releaseAbove, q_T_operatorOf, q_C_init, q_C_reset, q_C_posetAt] ++ ([q_C_points, q_C_relate, q_C_isBelow, q_C_covers, q_C_property, q_C_elementCount, q_C_elementBits, q_C_elementOf, q_C_meet, q_C_combine, q_C_join, q_C_implies, q_C_append, q_C_clearText, q_C_parse, q_C_formulaAt, q_C_formulaSize, q_C_substitute, q_C_isVariable, q_C_draftSubstitution, q_C_setValue, q_C_value, q_C_isForced, q_C_isValid, q_C_refusalToSearch] ++ ([q_C_refutation, q_C_countValuations, q_C_filterClass, q_C_quotientSize, q_C_isPrime, q_C_addGenerator, q_C_clearGenerators, q_C_generate, q_C_term, q_C_countMaps, q_C_searchMaps, q_C_firstMap, q_C_isIsomorphic, q_C_sum, q_C_product, q_C_pairsAbove, q_C_restrict, q_C_renumbered, q_C_dual, q_C_allocate, q_C_rowAt, q_C_put, q_C_rowElement, q_C_copyElements, q_C_storeElements] ++ ([q_C_loadOrder, q_C_failure, q_M_init, q_M_empties, q_M_unvalues, q_M_reset, q_M_isPoset, q_M_isBetween, q_M_points, q_M_relate, q_M_isPoint, q_M_isLess, q_M_pairs, q_M_bits, q_M_isBelow, q_M_covers, q_M_property, q_M_largest, q_M_allOf, q_M_areRelated, q_M_ends, q_M_components, q_M_elementCount, q_M_isFound, q_M_finds] ++ ([q_M_isUpSet, q_M_elementBits, q_M_isElement, q_M_elementOf, q_M_meet, q_M_areElements, q_M_join, q_M_implies, q_M_impliedBits, q_M_append, q_M_clearText, q_M_parse, q_M_isFormula, q_M_takesText, q_M_takesFactor, q_M_next, q_M_atomOf, q_M_makes, q_M_makesFrom, q_M_closes, q_M_hasParen, q_M_deedOf, q_M_stores, q_M_formulaSize, q_M_substitute] ++ ([q_M_isVariable, q_M_setValue, q_M_value, q_M_presentBits, q_M_valueBits, q_M_isForced, q_M_isValid, q_M_notAsked, q_M_countsValuations, q_M_variablesOf, q_M_refuting, q_M_bitsBy, q_M_elementIn, q_M_refutation, q_M_countValuations, q_M_filterClass, q_M_quotientSize, q_M_isPrime, q_M_addGenerator, q_M_clearGenerators, q_M_generate, q_M_lowers, q_M_done, q_M_findsSteps, q_M_term] ++ ([q_M_countMaps, q_M_mapsOf, q_M_isOfKind, q_M_keepsOrder, q_M_isBounded, q_M_reachesAll, q_M_reflectsOrder, q_M_firstMap, q_M_isIsomorphic, q_M_sum, q_M_settles, q_M_product, q_M_restrict, q_M_dual, q_M_allocate, q_M_isRow, q_M_put, q_M_puts, q_M_rowElement, q_M_copyElements, q_M_storeElements, q_M_loadOrder, q_M_failure, q_I_bitCount, q_L_law])))))))), okM q
  exact List.forall_mem_append.mpr ⟨cg_0, List.forall_mem_append.mpr ⟨cg_25, List.forall_mem_append.mpr ⟨cg_50, List.forall_mem_append.mpr ⟨cg_75, List.forall_mem_append.mpr ⟨cg_100, List.forall_mem_append.mpr ⟨cg_125, List.forall_mem_append.mpr ⟨cg_150, List.forall_mem_append.mpr ⟨cg_175, cg_200⟩⟩⟩⟩⟩⟩⟩⟩
theorem ms_adj : Ms.all (fun q => adjE q.2.2.2.2.2) = true := by decide +kernel
theorem ms_sto : Ms.all (fun q => q.2.2.2.2.2.all (fun e => Nat.beq e.2.2 0 || stoOK q.2.2.1 e.2.1)) = true := by decide +kernel
def okR (q : Mt) (rem : List En) : Prop := (∀ e ∈ rem, chk1 q.2.2.2.2.1 (iniM q) q.2.1 e = true ∧ (Nat.beq e.2.2 0 || stoOK q.2.2.1 e.2.1) = true) ∧ adjE rem = true
theorem okR_all {y : Nat} {q : Mt} (hq : Ms[y]? = some q) : okR q q.2.2.2.2.2 := by
  have hm := List.mem_of_getElem? hq
  have h1 := List.all_eq_true.mp (ms_ok q hm)
  have h2 := List.all_eq_true.mp (List.all_eq_true.mp ms_sto q hm)
  have h3 := List.all_eq_true.mp ms_adj q hm
  exact ⟨fun e he => ⟨h1 e he, h2 e he⟩, h3⟩
theorem okR_tail {q : Mt} {e : En} {l : List En} (h : okR q (e :: l)) : okR q l ∧ ∀ e2 l2, l = e2 :: l2 → e2.1 = e.1 + e.2.2 := by
  obtain ⟨h1, h2⟩ := h
  have h2 : (nxOK (e.1 + e.2.2) l && adjE l) = true := h2
  rw [Bool.and_eq_true] at h2
  refine ⟨⟨fun x hx => h1 x (List.mem_cons_of_mem _ hx), h2.2⟩, fun e2 l2 hl => ?_⟩
  subst hl
  exact Nat.eq_of_beq_eq_true h2.1
theorem okR_suf {q : Mt} : ∀ {l : List En} (t : Nat), okR q l → okR q (sufAt l t) ∧ ∀ e2 l2, sufAt l t = e2 :: l2 → e2.1 = t
  | [], t, h => ⟨h, fun e2 l2 hl => by cases hl⟩
  | e :: l, t, h => by
    unfold sufAt
    cases hb : Nat.beq e.1 t with
    | true =>
      simp only [cond_true]
      exact ⟨h, fun e2 l2 hl => by cases hl; exact Nat.eq_of_beq_eq_true hb⟩
    | false =>
      simp only [cond_false]
      exact okR_suf t (okR_tail h).1
theorem at_of_ev {D : va_G} {cA : Nat → ClassId} {cS : ClassId} {b B : Nat} {p : Program} {l : Launch} {e : Env} {R : Room} {s : State} {m : MethodId} {args : Array Value} {below : List Frame} {meth : Method} {c : Code} {Z : State → Prop} {mc ms : Nat} {h0 : AH} {q : Mt} {d g g' y pc : Nat} {ls st : List Value} {h : AH} {Q : PQ} (hq : Ms[y]? = some q) (hCX : CX p s m args meth c q) (hTB : TB D cA cS s) (hfr : d ≤ R.frames) (hlc : 60 * d ≤ R.locals) (hmc : mc ≤ R.cells) (hms : ms ≤ R.slots) (hret : RetK D cA cS b B p l e R s m args below meth c Z mc ms h0 q Q) (hE : Ev d g g' y pc ls st h Q) : AtW D cA cS b B p l e R s m args below meth c Z mc ms h0 q.2.2.1 g' pc g ls st h := by
  intro H locs cells slots lsC hH hlo hx hL hg hc hsl
  exact hE q l D cA cS b B p e R s m args below meth c H locs cells slots Z mc ms lsC h0 hq hCX hTB hH hlo hx hL hfr hlc hg hc hsl hmc hms hret
theorem AtW.keep {D : va_G} {cA : Nat → ClassId} {cS : ClassId} {b B : Nat} {p : Program} {l : Launch} {e : Env} {R : Room} {s : State} {m : MethodId} {args : Array Value} {below : List Frame} {meth : Method} {c : Code} {Z : State → Prop} {mc ms : Nat} {h0 : AH} {mL g g' pc msk : Nat} {ls st : List Value} {h : AH} (hA : AtW D cA cS b B p l e R s m args below meth c Z mc ms h0 mL g' pc g (keepL ls msk) st h) : AtW D cA cS b B p l e R s m args below meth c Z mc ms h0 mL g' pc g ls st h := fun H locs cells slots lsC hH hlo hx hL hg hc hsl => hA H locs cells slots lsC hH hlo hx hL.keep hg hc hsl
theorem wp_sound {D : va_G} {cA : Nat → ClassId} {cS : ClassId} {b B : Nat} {p : Program} {l : Launch} {e : Env} {R : Room} {s : State} {m : MethodId} {args : Array Value} {below : List Frame} {meth : Method} {c : Code} {Z : State → Prop} {mc ms : Nat} {h0 : AH} {q : Mt} {d g' y : Nat} {Q : PQ} (hq : Ms[y]? = some q) (hCX : CX p s m args meth c q) (hTB : TB D cA cS s) (hfr : d ≤ R.frames) (hlc : 60 * d ≤ R.locals) (hmc : mc ≤ R.cells) (hms : ms ≤ R.slots) (hret : RetK D cA cS b B p l e R s m args below meth c Z mc ms h0 q Q) :
    ∀ (n : Nat) (rem : List En) (g : Nat) (ls st : List Value) (h : AH), okR q rem → wp Ev d g' y q.2.2.2.1 q.2.2.2.2.2 Q n rem g ls st h → ∀ (pc0 : Nat), (∀ e2 l2, rem = e2 :: l2 → e2.1 = pc0) → AtW D cA cS b B p l e R s m args below meth c Z mc ms h0 q.2.2.1 g' pc0 g ls st h := by
  intro n
  induction n with
  | zero => intro rem g ls st h hok hw; exact hw.elim
  | succ n ih =>
    intro rem g ls st h hok hw pc0 hpc
    cases rem with
    | nil => exact hw.elim
    | cons en rest =>
      obtain ⟨pc, i, len⟩ := en
      have hp0 : pc = pc0 := hpc _ _ rfl
      subst hp0
      obtain ⟨hok2, hnext⟩ := okR_tail hok
      cases len with
      | zero =>
        cases i <;> first | exact hw.elim | exact AtW.keep (at_of_ev hq hCX hTB hfr hlc hmc hms hret hw)
      | succ len =>
        obtain ⟨hc1, hs1⟩ := hok.1 _ List.mem_cons_self
        have hs1 : stoOK q.2.2.1 i = true := hs1
        have hc1 : (match decode q.2.1 pc with
          | .ok (i2, n) => Nat.beq n (len + 1) && Nat.beq n (lnI i2 n) && decide (resI q.2.2.2.2.1 (iniM q) pc i2 = some i)
          | .error _ => false) = true := hc1
        cases hd : decode q.2.1 pc with
        | error z => rw [hd] at hc1; cases hc1
        | ok z =>
          obtain ⟨i2, n2⟩ := z
          rw [hd] at hc1
          simp only [Bool.and_eq_true, decide_eq_true_eq] at hc1
          obtain ⟨⟨c1, c2⟩, c3⟩ := hc1
          have c1 : n2 = len + 1 := Nat.eq_of_beq_eq_true c1
          have c2 := Nat.eq_of_beq_eq_true c2
          subst c1
          exact stp_sound hCX hTB hfr hlc hmc hms hret hd c2 c3 hs1 (fun g2 ls2 st2 h2 hw2 => ih rest g2 ls2 st2 h2 hok2 hw2 _ hnext) (fun t g2 ls2 st2 h2 hw2 => ih _ g2 ls2 st2 h2 (okR_suf t.toNat (okR_all hq)).1 hw2 _ (okR_suf t.toNat (okR_all hq)).2) hw
/-- the abstract machine's weakest precondition at a point gives what Ev says there -/
theorem ev_wp (n : Nat) {d g g' y pc : Nat} {q : Mt} {ls st : List Value} {h : AH} {Q : PQ} (hq : Ms[y]? = some q) (hw : wp Ev d g' y q.2.2.2.1 q.2.2.2.2.2 Q n (skipM (sufAt q.2.2.2.2.2 pc)) g ls st h) : Ev d g g' y pc ls st h Q := by
  intro q2 l D cA cS b B p e R s m args below meth c H locs cells slots Z mc ms lsC h0 hq2 hCX hTB hH hlo hx hL hfr hlc hg hc hsl hmc hms hret
  have e2 : q2 = q := Option.some.inj (hq2.symm.trans hq)
  subst e2
  obtain ⟨ok1, ok2⟩ := okR_suf pc (okR_all hq)
  have hA := wp_sound hq hCX hTB hfr hlc hmc hms hret n (skipM (sufAt q2.2.2.2.2.2 pc)) g ls st h (by
    cases hs : sufAt q2.2.2.2.2.2 pc with
    | nil => rw [hs] at ok1; exact ok1
    | cons e1 l1 =>
      obtain ⟨pc1, i1, len1⟩ := e1
      rw [hs] at ok1
      cases len1 with
      | zero => exact (okR_tail ok1).1
      | succ k => exact ok1) hw pc (by
    intro e2 l2 hl
    cases hs : sufAt q2.2.2.2.2.2 pc with
    | nil => rw [hs] at hl; cases hl
    | cons e1 l1 =>
      obtain ⟨pc1, i1, len1⟩ := e1
      rw [hs] at ok1 hl
      have hp1 := ok2 _ _ hs
      cases len1 with
      | zero =>
        have := (okR_tail ok1).2 e2 l2 hl
        rw [this]
        exact hp1
      | succ k =>
        have hl : (pc1, i1, k + 1) :: l1 = e2 :: l2 := hl
        cases hl
        exact hp1)
  exact hA H locs cells slots lsC hH hlo hx hL hg hc hsl
theorem Ev.mono {d g g' y pc : Nat} {ls st : List Value} {h : AH} {Q Q' : PQ} (hE : Ev d g g' y pc ls st h Q) (hQ : ∀ v h1, Ext h h1 → Q v h1 → Q' v h1) : Ev d g g' y pc ls st h Q' := by
  intro q l D cA cS b B p e R s m args below meth c H locs cells slots Z mc ms lsC h0 hq hCX hTB hH hlo hx hL hfr hlc hg hc hsl hmc hms hret
  refine hE q l D cA cS b B p e R s m args below meth c H locs cells slots Z mc ms lsC h hq hCX hTB hH hlo Ext.rfl' hL hfr hlc hg hc hsl hmc hms ?_
  intro v h1 H1 locs1 pc1 lsC1 hv hx1 hH1 hlo1 hok hdg
  exact hret v h1 H1 locs1 pc1 lsC1 (hQ v h1 hx1 hv) (hx.trans hx1) hH1 hlo1 hok hdg
end
section
/-! the claim's start gives the abstract machine's start -/
def h00 (L : Nat) (xs : Nat → Int32) : AH := ([(9, L)], fun a i => if a = 0 then xs i else 0, fun _ _ => 0, fun _ _ => none)
theorem tb_start {s : State} {args : Array Value} {cS : ClassId} (hts : ∀ w ∈ lw_tbl, w.before args s = true) (hcS : ∃ (k : Class) (comp : ClassId), s.vm.classes[cS]? = some k ∧ k.kind = .array comp .int) : ∃ (D : va_G) (cA : Nat → ClassId), TB D cA cS s := by
  have K : ∀ {C : String} {T : u_T} {N : Nat}, (∀ w ∈ u_ws C T N, w ∈ lw_tbl) → Cond.instantiable C N ∈ lw_tbl → ∃ (cC : ClassId) (iS : Nat → Nat), u_Kn s C T N cC iS := fun h1 h2 => u_known hts h1 (hts _ h2)
  obtain ⟨c0, i0, k0⟩ := K wd_lay0 wd_in0
  obtain ⟨c1, i1, k1⟩ := K wd_lay1 wd_in1
  obtain ⟨c2, i2, k2⟩ := K wd_lay2 wd_in2
  obtain ⟨c3, i3, k3⟩ := K wd_lay3 wd_in3
  obtain ⟨c4, i4, k4⟩ := K wd_lay4 wd_in4
  obtain ⟨c5, i5, k5⟩ := K wd_lay5 wd_in5
  obtain ⟨c6, i6, k6⟩ := K wd_lay6 wd_in6
  obtain ⟨c7, i7, k7⟩ := K wd_lay7 wd_in7
  obtain ⟨a0, ka0, ca0, x0, y0, z0⟩ := Cond.arrayClass_spec (hts _ wd_arr_int)
  obtain ⟨a1, ka1, ca1, x1, y1, z1⟩ := Cond.arrayClass_spec (hts _ wd_arr_long)
  obtain ⟨a2, ka2, ca2, x2, y2, z2⟩ := Cond.arrayClass_spec (hts _ wd_arr_boolean)
  obtain ⟨m3, a3, ka3, f3, -, x3, y3, z3⟩ := Cond.arrayOver_spec (hts _ wd_ov2)
  obtain ⟨m4, a4, ka4, f4, -, x4, y4, z4⟩ := Cond.arrayOver_spec (hts _ wd_ov0)
  obtain ⟨m5, a5, ka5, f5, -, x5, y5, z5⟩ := Cond.arrayOver_spec (hts _ wd_ov3)
  refine ⟨(fun c => match c with | 0 => c0 | 1 => c1 | 2 => c2 | 3 => c3 | 4 => c4 | 5 => c5 | 6 => c6 | _ => c7, fun c => match c with | 0 => i0 | 1 => i1 | 2 => i2 | 3 => i3 | 4 => i4 | 5 => i5 | 6 => i6 | _ => i7), fun t => match t with | 0 => a0 | 1 => a1 | 2 => a2 | 3 => a3 | 4 => a4 | _ => a5, ⟨⟨fun c q hq => ?_, fun t q hq => ?_⟩, fun q hq => va_Nw.of rfl (hts _ (wd_nest q hq)), ⟨va_AO.of (hts _ wd_ov2), va_AO.of (hts _ wd_ov0), va_AO.of (hts _ wd_ov3)⟩, hcS⟩⟩
  · match c, hq with
    | 0, hq => cases hq; exact k0
    | 1, hq => cases hq; exact k1
    | 2, hq => cases hq; exact k2
    | 3, hq => cases hq; exact k3
    | 4, hq => cases hq; exact k4
    | 5, hq => cases hq; exact k5
    | 6, hq => cases hq; exact k6
    | 7, hq => cases hq; exact k7
    | k + 8, hq => simp at hq
  · match t, hq with
    | 0, hq => cases hq; exact ⟨fun N z => ⟨fun k h => (by cases h), ka0, y0, ca0, z0⟩, x0⟩
    | 1, hq => cases hq; exact ⟨fun N z => ⟨fun k h => (by cases h), ka1, y1, ca1, z1⟩, x1⟩
    | 2, hq => cases hq; exact ⟨fun N z => ⟨fun k h => (by cases h), ka2, y2, ca2, z2⟩, x2⟩
    | 3, hq => cases hq; exact ⟨fun N z => ⟨fun k h => (by cases h), ka3, x3, m3, y3⟩, ka3, m3, x3, y3, f3, z3⟩
    | 4, hq => cases hq; exact ⟨fun N z => ⟨fun k h => (by cases h), ka4, x4, m4, y4⟩, ka4, m4, x4, y4, f4, z4⟩
    | 5, hq => cases hq; exact ⟨fun N z => ⟨fun k h => (by cases h), ka5, x5, m5, y5⟩, ka5, m5, x5, y5, f5, z5⟩
    | k + 6, hq => simp [tysL] at hq
end
section
theorem law_ev (L : Nat) (xs : Nat → Int32) (hL : L ≤ 3072) : Ev 30 1200 0 m_L_law 0 [.ref 0] [] (h00 L xs) (asI fun x _ => x = 1) := sorry
/-! THE CLAIM OUT OF ONE WALK OF THE LAW'S BODY. Your part is whole_start (and what it stands on); all else here is the same for every law, but numbers. -/
def R_law : String := "ImplicationAlgebrasLaw"
def lw_P (b : Addr) (xs : List Int32) (args : Array Value) (s : State) : Prop := args = #[.ref b] ∧ s.IntsAt b xs ∧ xs.length ≤ 3072 ∧ (Jvm.Cond.and given_1 narrow_1).before args s = true
def lw_Q (_ : Array Value) (s : State) (o : Outcome) (t : State) : Prop := o = .returned (some (.int 1)) ∧ Framed s o t [] 600000 7302250
def lw_Z (below : List Frame) (a : Array Value) (s : State) : State → Prop := fun t => ∃ o, t.status = .running ∧ Ended t below o ∧ lw_Q a s o t
/-- the law's own end, with 1 on the stack, nothing written that was there before, its room as the claim has it -/
theorem lw_ret {p : Program} {l : Launch} {e : Env} {s : State} {m : MethodId} {below : List Frame} {meth : Method} {c : Code} {b : Nat} (hx : p.tables.exec = Jvm.exec) (hb : c.code = code) (hr : meth.sig.returnType = ret) (hlocks : meth.locks = false) {pc : Nat} {H : Heap} {ls : Array Slot} (hdg : decode code pc = .ok (.ireturn, 1)) : W p l e room_1 s m #[Value.ref b] below meth c H [] 600000 7302250 (lw_Z below #[Value.ref b] s) (F0 m pc ls [.int 1]) := by
  intro T hT X
  obtain ⟨fs, hret, hrun, hended, hW, hframe⟩ := X.leave (v := some (.int 1)) (hlocks := hlocks) (fun h => by rw [hr] at h; cases h)
  have hmeth' : T.vm.method? m = some meth := X.method'
  refine ⟨T.setFrames fs, ?_, .returned (some (.int 1)), hrun, hended, rfl, ⟨_, rfl⟩, hW, hframe⟩
  jvm_step X.here [X.here.top, hx, hb, hdg, hmeth', hr, ret, narrow_b1]
  (try refine ⟨rfl, ?_⟩); (try refine ⟨rfl, ?_⟩)
  first | (intro acts; rw [hret _ acts rfl rfl rfl]) | rw [hret _ _ rfl rfl rfl]
  exact Steps.refl _
/-- what holds at the law's entry: the machine, the code, the tables' words (any of lw_tbl by 'hts w (by decide +kernel)'), the script of L ints xs at the cell b, what the Statement gives of the start (any of its parts by flat_of_before) -/
def lw_At (p : Program) (s : State) (m : MethodId) (meth : Method) (c : Code) (b L : Nat) (xs : Nat → Int32) : Prop :=
  p.tables.exec = Jvm.exec ∧ c.code = code ∧ meth.sig.returnType = ret ∧ c.maxLocals = 4 ∧ s.vm.findClass R_law = some m.cls ∧ (∀ w ∈ lw_tbl, w.before #[Value.ref b] s = true) ∧ va_X b L xs s s.heap ∧ b < s.heap.size ∧ meth.locks = false ∧ (Jvm.Cond.and given_1 narrow_1).before #[Value.ref b] s = true
-- ===== YOUR PART BEGINS =====
/-- YOUR PART: from the entry, for every script of at most 3072 ints, the law comes to its end with true ('hflags': the launch's flags, for a law that throws: no stack traces) -/
theorem whole_start {p : Program} {e : Env} {s : State} {m : MethodId} {below : List Frame} {meth : Method} {c : Code} (l : Launch) (hflags : l.flags = flags0) {b L : Nat} {xs : Nat → Int32} (hL : L ≤ 3072) (C0 : lw_At p s m meth c b L xs) : W p l e room_1 s m #[Value.ref b] below meth c s.heap [] 0 0 (lw_Z below #[Value.ref b] s) (entryFrame m ([Value.ref b] : List Value).toArray 4) := by
  obtain ⟨hx, hb, hr, hml, hown, hts, hX, hbl, hlk, hgv⟩ := C0
  obtain ⟨scr, x1, x2, x3, x4, x5⟩ := hX
  obtain ⟨x2a, k, k1, comp, k2⟩ := x2
  obtain ⟨D, cA, hTB⟩ := tb_start (cS := scr.cls) hts ⟨k, comp, k1, k2⟩
  have hl := lv_entry ([Value.ref b]) (n := 4) (Nat.le_of_ble_eq_true rfl)
  rw [lg_entry_eq]
  generalize (lg_sl ([Value.ref b]) ++ List.replicate (4 - (lg_sl ([Value.ref b])).length) Slot.unset).toArray = lsC at hl ⊢
  have hLR : LR b s.heap.size lsC 4 [.ref 0] := hl
  refine law_ev L xs hL q_L_law l D cA scr.cls b s.heap.size p e room_1 s m _ below meth c s.heap [] 0 0 _ 600000 7302250 lsC (h00 L xs) rfl ⟨hx, hb, hml, hr, hown, fun hz => absurd hz (by decide), hlk, fun w hw => hts w (List.mem_filter.mp hw).1⟩ hTB ⟨rfl, hbl, ⟨L, scr, rfl, x1, rfl, x3, x2a, x4, x5⟩, fun a q hq => by cases hq⟩ (fun x hx => by cases hx) Ext.rfl' hLR (by decide) (by decide) (by decide) (by decide) (by decide) (Nat.le_refl _) (Nat.le_refl _) ?_
  intro v h1 H1 locs1 pc1 lsC1 hQ _ hH1 hlo hok hdg
  cases v with
  | int z =>
    have hz : z = 1 := hQ
    subst hz
    exact va_forget hlo (lw_ret hx hb hr hlk hdg)
  | _ => exact hQ.elim
-- ===== YOUR PART ENDS =====
set_option maxHeartbeats 4000000 in
theorem lw_walk (l : Launch) (hflags : l.flags = flags0) (b : Addr) (xs : List Int32) : MetFree l x (headSpec (Jvm.Cond.code x code maxLocals ret :: tables_1) room_1) (lw_P b xs) (fun _ _ _ _ _ => True) lw_Q := by
  refine MetFree.of_bodyS (code := code) (maxLocals := maxLocals) (ret := ret) (by decide) ?_ ?_
  · intro args s m h hn
    obtain ⟨meth, c, h1, h2, h3, h4, h5, h6, -, -⟩ := Cond.code_spec hn (atoms_spec (ws := Jvm.Cond.code x code maxLocals ret :: tables_1) h _ List.mem_cons_self)
    exact ⟨meth, c, h1, h2, h3, h4, h5, h6⟩
  · intro p e s m args below meth c s₁ B hml0 hP _
    obtain ⟨rfl, hx, hbd, hgv⟩ := hP
    obtain ⟨scr, harrAt, hlist, hof, hsmall⟩ := hx
    obtain ⟨hcb, hkn, -, -⟩ := State.arrayAt?_spec harrAt
    have hown : s.vm.findClass R_law = some m.cls := findClass_of_methodNamed B.named
    have hts0 : ∀ c ∈ (Jvm.Cond.code x code maxLocals ret :: tables_1), c.before #[Value.ref b] s = true := atoms_spec (ws := Jvm.Cond.code x code maxLocals ret :: tables_1) B.pre
    have hts : ∀ w ∈ lw_tbl, w.before #[Value.ref b] s = true := k2_hts_sels lw_privs (fun w hw => hts0 w (List.mem_cons_of_mem _ hw)) lw_privs_ok
    have hml : c.maxLocals = 4 := B.maxLocals_eq (hts0 _ List.mem_cons_self)
    have X₀ : Stand p l e room_1 s m #[Value.ref b] below meth c s₁ [] 0 0 := Stand.of_body B
    have hh0 : s₁.heap = s.heap := by rw [B.state]; rfl
    have hsz : scr.slots.size = xs.length := by rw [← Array.length_toList, hlist, List.length_map]
    have hval : ∀ j : Nat, j < xs.length → scr.slots[j]? = some (.int (xs.getD j 0)) := fun j hj => by
      rw [← Array.getElem?_toList, hlist]
      simp [hj]
    have hbl : b < s.heap.size := (Array.getElem?_eq_some_iff.mp hcb).1
    have hX : va_X b xs.length (fun j => xs.getD j 0) s s.heap := ⟨scr, hcb, hof, hkn, hsz, hval⟩
    have K : W p l e room_1 s m #[Value.ref b] below meth c s₁.heap [] 0 0 (lw_Z below #[Value.ref b] s) (entryFrame m ([Value.ref b] : List Value).toArray 4) := by
      rw [hh0]
      exact whole_start l hflags hbd ⟨B.exec, B.bytes, B.returns, hml, hown, hts, hX, hbl, B.notSynchronized, hgv⟩
    obtain ⟨t, a1, o, b1, b2, b3⟩ := K s₁ rfl X₀
    exact ⟨t, o, a1, b1, b2, b3⟩
theorem lw_pre_spec {args : Array Value} {s : State} (h : (Jvm.Cond.and given_1 narrow_1).before args s = true) (hr : rest_1_c.before args s = true) : ∃ (b : Addr) (xs : List Int32), lw_P b xs args s := by
  have hs := flat_of_before _ h
  have hq := flat_of_before _ hr
  have hc : (Cond.count 1).before args s = true := hs _ (by decide +kernel)
  have harr : (Cond.arrayOf (.arg 0) .int).before args s = true := hs _ (by decide +kernel)
  have hle : (Cond.le (.length (.arg 0)) (.int 3072)).before args s = true := hs _ (by decide +kernel)
  have hlen : (Cond.isInt (.length (.arg 0))).before args s = true := hq _ (by decide +kernel)
  have hall : (Cond.all (.arg 0) (.isInt (.elem (.arg 0) (.index 0)))).before args s = true := hq _ (by decide +kernel)
  obtain ⟨b, xs, hb, hx⟩ := State.ints_of_pre rfl harr hlen hall
  have hsm : xs.length < 2 ^ 31 := hx.choose_spec.2.2.2
  have hev : (Term.length (.arg 0)).eval args s none [] s = some (.int xs.length.toInt32) := hx.length_eval hb
  have hv := Cond.le_ints hev (show (Term.int 3072).eval args s none [] s = some (.int 3072) from rfl)
  have hd : xs.length.toInt32 ≤ 3072 := by
    simpa [Cond.before, Cond.holds, hv] using hle
  have hN : xs.length ≤ 3072 := (Int32.ofNat_le_ofNat hsm (by decide)).mp (show Int32.ofNat xs.length ≤ Int32.ofNat 3072 from hd)
  exact ⟨b, xs, Cond.one_arg hc (show args[0]? = some (.ref b) from hb), hx, hN, h⟩
theorem lw_comes (l : Launch) (hflags : l.flags = flags0) : Comes l x (Jvm.Cond.code x code maxLocals ret :: tables_1) room_1 (fun tb e args s => Calls_1 tb e args s ∧ rest_1 tb e args s ∧ Pre_1 tb e args s)
    (fun _ _ args s o t => lw_Q args s o t) := by
  intro p e ha hc hk s m args below hf hfit hheap happ hpre
  obtain ⟨b, xs, hP⟩ := lw_pre_spec hpre.2.2 hpre.2.1
  obtain ⟨k, o, h1, h2, h3, hQ⟩ := lw_walk l hflags b xs p e ha hc hk s m args below hf ((Spec.applies_iff_loose hf).mp happ).1 hP trivial
  exact ⟨k, o, h1, h2, h3, hQ⟩
theorem lw_frame {s t : State} {o : Outcome} {args : Array Value} (h : Framed s o t [] 600000 7302250) :
    Framed s o t (fieldLocs frame_1_writes args s ++ arrayLocs frame_1_arrays args s ++ staticLocs frame_1_statics s) 600000 7302250 := h
theorem lw_limb (L : Cond) (hL : ∀ (args : Array Value) (s t : State), L.after args s (.returned (some (.int 1))) t = true) :
    ArmFor flags0 classFile x code maxLocals ret World_1 tables_1 room_1 Calls_1 rest_1 Pre_1
      (fun tb e a s o t => postC L tb e a s o t ∧ Framed s o t (fieldLocs frame_1_writes a s ++ arrayLocs frame_1_arrays a s ++ staticLocs frame_1_statics s) 600000 7302250) := by
  intro l hflags _ _ p e ha hc hk s m args below hf hfit hheap happ hpre
  obtain ⟨k, o, h1, h2, h3, rfl, hF⟩ := lw_comes l hflags p e ha hc hk s m args below hf hfit hheap happ hpre
  exact ⟨k, _, h1, h2, h3, hL args s _, lw_frame hF⟩
theorem i_vc : Claimed_1_1 ∧ Claimed_1_2 := ⟨lw_limb limb_1_1 (fun args s t => by simp [limb_1_1, Cond.after, Cond.holds, Cond.value]), lw_limb limb_1_2 (fun args s t => Cond.after_iff.mpr (by
  first | (rw [show limb_1_2 = Cond.eq .result (.int 1) from rfl, Cond.eq_ints (x := 1) (y := 1) rfl rfl]; simp; done) | (simp [limb_1_2, Cond.value, Term.eval]; done)))⟩
end
