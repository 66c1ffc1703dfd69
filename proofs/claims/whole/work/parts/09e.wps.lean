def q_F_init : Mt := (⟨"ImplicationAlgebras$Formula", "<init>", "()V"⟩, prog_2_method_1_code, 1, none, 0, E_F_init)
def q_F_replaceSigns : Mt := (⟨"ImplicationAlgebras$Formula", "replaceSigns", "(I[I)V"⟩, prog_2_method_3_code, 4, none, 0, E_F_replaceSigns)
def q_F_isMissing : Mt := (⟨"ImplicationAlgebras$Formula", "isMissing", "()Z"⟩, prog_2_method_2_code, 1, some .boolean, 0, E_F_isMissing)
def q_F_occurrences : Mt := (⟨"ImplicationAlgebras$Formula", "occurrences", "(I)I"⟩, prog_2_method_4_code, 4, some .int, 0, E_F_occurrences)
def q_F_currentBits : Mt := (⟨"ImplicationAlgebras$Formula", "currentBits", "(LImplicationAlgebras$Poset;)I"⟩, prog_2_method_7_code, 3, some .int, 0, E_F_currentBits)
def q_F_bitsOfValue : Mt := (⟨"ImplicationAlgebras$Formula", "bitsOfValue", "(LImplicationAlgebras$Poset;)I"⟩, prog_2_method_11_code, 5, some .int, 0, E_F_bitsOfValue)
def q_F_joined : Mt := (⟨"ImplicationAlgebras$Formula", "joined", "(LImplicationAlgebras$Poset;III)I"⟩, prog_2_method_12_code, 4, some .int, 0, E_F_joined)
def q_F_valuations : Mt := (⟨"ImplicationAlgebras$Formula", "valuations", "(LImplicationAlgebras$Poset;)I"⟩, prog_2_method_6_code, 4, some .int, 0, E_F_valuations)
def q_F_choices : Mt := (⟨"ImplicationAlgebras$Formula", "choices", "(LImplicationAlgebras$Poset;I)I"⟩, prog_2_method_5_code, 3, some .int, 0, E_F_choices)
def q_F_firstRefutation : Mt := (⟨"ImplicationAlgebras$Formula", "firstRefutation", "(LImplicationAlgebras$Poset;)I"⟩, prog_2_method_8_code, 9, some .int, 0, E_F_firstRefutation)
def q_F_unpack : Mt := (⟨"ImplicationAlgebras$Formula", "unpack", "(II)I"⟩, prog_2_method_9_code, 4, some .int, 0, E_F_unpack)
def q_F_valuationsWith : Mt := (⟨"ImplicationAlgebras$Formula", "valuationsWith", "(LImplicationAlgebras$Poset;I)I"⟩, prog_2_method_10_code, 10, some .int, 0, E_F_valuationsWith)
def q_S_init : Mt := (⟨"ImplicationAlgebras$MapSearch", "<init>", "(LImplicationAlgebras$Poset;LImplicationAlgebras$Poset;IZ)V"⟩, prog_3_method_1_code, 5, none, 1, E_S_init)
def q_S_countIfAccepted : Mt := (⟨"ImplicationAlgebras$MapSearch", "countIfAccepted", "()V"⟩, prog_3_method_4_code, 2, none, 1, E_S_countIfAccepted)
def q_S_isBounded : Mt := (⟨"ImplicationAlgebras$MapSearch", "isBounded", "()Z"⟩, prog_3_method_5_code, 2, some .boolean, 1, E_S_isBounded)
def q_S_imagesOf : Mt := (⟨"ImplicationAlgebras$MapSearch", "imagesOf", "(I)I"⟩, prog_3_method_6_code, 4, some .int, 1, E_S_imagesOf)
def q_S_fitsEarlier : Mt := (⟨"ImplicationAlgebras$MapSearch", "fitsEarlier", "(I)Z"⟩, prog_3_method_2_code, 3, some .boolean, 1, E_S_fitsEarlier)
def q_S_fitsOneWay : Mt := (⟨"ImplicationAlgebras$MapSearch", "fitsOneWay", "(II)Z"⟩, prog_3_method_3_code, 5, some .boolean, 1, E_S_fitsOneWay)
def q_S_digits : Mt := (⟨"ImplicationAlgebras$MapSearch", "digits", "()I"⟩, prog_3_method_7_code, 3, some .int, 1, E_S_digits)
def q_P_init : Mt := (⟨"ImplicationAlgebras$Poset", "<init>", "()V"⟩, prog_4_method_1_code, 1, none, 2, E_P_init)
def q_P_refresh : Mt := (⟨"ImplicationAlgebras$Poset", "refresh", "()V"⟩, prog_4_method_8_code, 2, none, 2, E_P_refresh)
def q_P_findDownSets : Mt := (⟨"ImplicationAlgebras$Poset", "findDownSets", "()V"⟩, prog_4_method_9_code, 5, none, 2, E_P_findDownSets)
def q_P_pointsBelow : Mt := (⟨"ImplicationAlgebras$Poset", "pointsBelow", "(I)I"⟩, prog_4_method_10_code, 4, some .int, 2, E_P_pointsBelow)
def q_P_below : Mt := (⟨"ImplicationAlgebras$Poset", "below", "(II)Z"⟩, prog_4_method_5_code, 3, some .boolean, 2, E_P_below)
def q_P_findElements : Mt := (⟨"ImplicationAlgebras$Poset", "findElements", "()V"⟩, prog_4_method_11_code, 3, none, 2, E_P_findElements)
def q_P_allPoints : Mt := (⟨"ImplicationAlgebras$Poset", "allPoints", "()I"⟩, prog_4_method_2_code, 1, some .int, 2, E_P_allPoints)
def q_P_numberSet : Mt := (⟨"ImplicationAlgebras$Poset", "numberSet", "(I)V"⟩, prog_4_method_12_code, 3, none, 2, E_P_numberSet)
def q_P_replaceOrder : Mt := (⟨"ImplicationAlgebras$Poset", "replaceOrder", "(I[I)V"⟩, prog_4_method_6_code, 4, none, 2, E_P_replaceOrder)
def q_P_extendOrder : Mt := (⟨"ImplicationAlgebras$Poset", "extendOrder", "(II)I"⟩, prog_4_method_7_code, 4, some .int, 2, E_P_extendOrder)
def q_P_hasPoint : Mt := (⟨"ImplicationAlgebras$Poset", "hasPoint", "(I)Z"⟩, prog_4_method_3_code, 2, some .boolean, 2, E_P_hasPoint)
def q_P_properPairs : Mt := (⟨"ImplicationAlgebras$Poset", "properPairs", "()I"⟩, prog_4_method_26_code, 3, some .int, 2, E_P_properPairs)
def q_P_greaterPoints : Mt := (⟨"ImplicationAlgebras$Poset", "greaterPoints", "(I)I"⟩, prog_4_method_16_code, 2, some .int, 2, E_P_greaterPoints)
def q_P_coversOf : Mt := (⟨"ImplicationAlgebras$Poset", "coversOf", "(I)I"⟩, prog_4_method_15_code, 5, some .int, 2, E_P_coversOf)
def q_P_largestChain : Mt := (⟨"ImplicationAlgebras$Poset", "largestChain", "()I"⟩, prog_4_method_18_code, 3, some .int, 2, E_P_largestChain)
def q_P_isChain : Mt := (⟨"ImplicationAlgebras$Poset", "isChain", "(I)Z"⟩, prog_4_method_19_code, 3, some .boolean, 2, E_P_isChain)
def q_P_relatedPoints : Mt := (⟨"ImplicationAlgebras$Poset", "relatedPoints", "(I)I"⟩, prog_4_method_17_code, 2, some .int, 2, E_P_relatedPoints)
def q_P_largestAntichain : Mt := (⟨"ImplicationAlgebras$Poset", "largestAntichain", "()I"⟩, prog_4_method_20_code, 3, some .int, 2, E_P_largestAntichain)
def q_P_isAntichain : Mt := (⟨"ImplicationAlgebras$Poset", "isAntichain", "(I)Z"⟩, prog_4_method_21_code, 3, some .boolean, 2, E_P_isAntichain)
def q_P_minimalPoints : Mt := (⟨"ImplicationAlgebras$Poset", "minimalPoints", "()I"⟩, prog_4_method_22_code, 3, some .int, 2, E_P_minimalPoints)
def q_P_maximalPoints : Mt := (⟨"ImplicationAlgebras$Poset", "maximalPoints", "()I"⟩, prog_4_method_23_code, 3, some .int, 2, E_P_maximalPoints)
def q_P_components : Mt := (⟨"ImplicationAlgebras$Poset", "components", "()I"⟩, prog_4_method_24_code, 4, some .int, 2, E_P_components)
def q_P_componentOf : Mt := (⟨"ImplicationAlgebras$Poset", "componentOf", "(I)I"⟩, prog_4_method_25_code, 6, some .int, 2, E_P_componentOf)
def q_P_hasElement : Mt := (⟨"ImplicationAlgebras$Poset", "hasElement", "(I)Z"⟩, prog_4_method_4_code, 2, some .boolean, 2, E_P_hasElement)
def q_P_resultOf : Mt := (⟨"ImplicationAlgebras$Poset", "resultOf", "(III)I"⟩, prog_4_method_14_code, 6, some .int, 2, E_P_resultOf)
def q_P_implication : Mt := (⟨"ImplicationAlgebras$Poset", "implication", "(II)I"⟩, prog_4_method_13_code, 4, some .int, 2, E_P_implication)
def q_P_elementsWithin : Mt := (⟨"ImplicationAlgebras$Poset", "elementsWithin", "(I)I"⟩, prog_4_method_27_code, 4, some .int, 2, E_P_elementsWithin)
def q_P_hasLeastPoint : Mt := (⟨"ImplicationAlgebras$Poset", "hasLeastPoint", "(I)Z"⟩, prog_4_method_28_code, 3, some .boolean, 2, E_P_hasLeastPoint)
def q_R_init : Mt := (⟨"ImplicationAlgebras$Row", "<init>", "()V"⟩, prog_5_method_1_code, 1, none, 3, E_R_init)
def q_R_replaceRow : Mt := (⟨"ImplicationAlgebras$Row", "replaceRow", "(II)V"⟩, prog_5_method_5_code, 4, none, 3, E_R_replaceRow)
def q_R_isMissing : Mt := (⟨"ImplicationAlgebras$Row", "isMissing", "()Z"⟩, prog_5_method_2_code, 1, some .boolean, 3, E_R_isMissing)
def q_R_hasIndex : Mt := (⟨"ImplicationAlgebras$Row", "hasIndex", "(I)Z"⟩, prog_5_method_3_code, 2, some .boolean, 3, E_R_hasIndex)
def q_R_narrowed : Mt := (⟨"ImplicationAlgebras$Row", "narrowed", "(I)I"⟩, prog_5_method_6_code, 2, some .int, 3, E_R_narrowed)
def q_R_hasRange : Mt := (⟨"ImplicationAlgebras$Row", "hasRange", "(II)Z"⟩, prog_5_method_4_code, 3, some .boolean, 3, E_R_hasRange)
def q_A_init : Mt := (⟨"ImplicationAlgebras$Subalgebra", "<init>", "()V"⟩, prog_6_method_1_code, 1, none, 4, E_A_init)
def q_A_start : Mt := (⟨"ImplicationAlgebras$Subalgebra", "start", "(LImplicationAlgebras$Poset;)V"⟩, prog_6_method_2_code, 3, none, 4, E_A_start)
def q_A_findCosts : Mt := (⟨"ImplicationAlgebras$Subalgebra", "findCosts", "(LImplicationAlgebras$Poset;)V"⟩, prog_6_method_3_code, 5, none, 4, E_A_findCosts)
def q_A_cheapestLeft : Mt := (⟨"ImplicationAlgebras$Subalgebra", "cheapestLeft", "()I"⟩, prog_6_method_4_code, 3, some .int, 4, E_A_cheapestLeft)
def q_A_offerAll : Mt := (⟨"ImplicationAlgebras$Subalgebra", "offerAll", "(LImplicationAlgebras$Poset;II)V"⟩, prog_6_method_5_code, 6, none, 4, E_A_offerAll)
def q_A_offer : Mt := (⟨"ImplicationAlgebras$Subalgebra", "offer", "(IJ)V"⟩, prog_6_method_6_code, 4, none, 4, E_A_offer)
def q_A_findSteps : Mt := (⟨"ImplicationAlgebras$Subalgebra", "findSteps", "(LImplicationAlgebras$Poset;)V"⟩, prog_6_method_7_code, 5, none, 4, E_A_findSteps)
def q_A_noteStep : Mt := (⟨"ImplicationAlgebras$Subalgebra", "noteStep", "(IIII)V"⟩, prog_6_method_8_code, 6, none, 4, E_A_noteStep)
def q_T_init : Mt := (⟨"ImplicationAlgebras$Text", "<init>", "()V"⟩, prog_7_method_1_code, 1, none, 5, E_T_init)
def q_T_readFormula : Mt := (⟨"ImplicationAlgebras$Text", "readFormula", "()I"⟩, prog_7_method_2_code, 3, some .int, 5, E_T_readFormula)
def q_T_takeInFactor : Mt := (⟨"ImplicationAlgebras$Text", "takeInFactor", "(I)Z"⟩, prog_7_method_3_code, 3, some .boolean, 5, E_T_takeInFactor)
def q_T_leafOf : Mt := (⟨"ImplicationAlgebras$Text", "leafOf", "(I)I"⟩, prog_7_method_10_code, 1, some .int, 5, E_T_leafOf)
def q_T_emit : Mt := (⟨"ImplicationAlgebras$Text", "emit", "(I)V"⟩, prog_7_method_8_code, 2, none, 5, E_T_emit)
def q_T_endFactor : Mt := (⟨"ImplicationAlgebras$Text", "endFactor", "()V"⟩, prog_7_method_6_code, 1, none, 5, E_T_endFactor)
def q_T_hold : Mt := (⟨"ImplicationAlgebras$Text", "hold", "(I)V"⟩, prog_7_method_9_code, 2, none, 5, E_T_hold)
def q_T_takeBehindFactor : Mt := (⟨"ImplicationAlgebras$Text", "takeBehindFactor", "(I)Z"⟩, prog_7_method_4_code, 3, some .boolean, 5, E_T_takeBehindFactor)
def q_T_closeParenthesis : Mt := (⟨"ImplicationAlgebras$Text", "closeParenthesis", "()Z"⟩, prog_7_method_5_code, 1, some .boolean, 5, E_T_closeParenthesis)
def q_T_releaseAbove : Mt := (⟨"ImplicationAlgebras$Text", "releaseAbove", "(I)V"⟩, prog_7_method_7_code, 2, none, 5, E_T_releaseAbove)
def q_T_operatorOf : Mt := (⟨"ImplicationAlgebras$Text", "operatorOf", "(I)I"⟩, prog_7_method_11_code, 1, some .int, 5, E_T_operatorOf)
def q_C_init : Mt := (⟨"ImplicationAlgebras", "<init>", "()V"⟩, prog_1_method_1_code, 2, none, 6, E_C_init)
def q_C_reset : Mt := (⟨"ImplicationAlgebras", "reset", "(II)I"⟩, prog_1_method_2_code, 6, some .int, 6, E_C_reset)
def q_C_posetAt : Mt := (⟨"ImplicationAlgebras", "posetAt", "(I)LImplicationAlgebras$Poset;"⟩, prog_1_method_46_code, 2, some (.object "ImplicationAlgebras$Poset"), 6, E_C_posetAt)
def q_C_points : Mt := (⟨"ImplicationAlgebras", "points", "(I)I"⟩, prog_1_method_3_code, 3, some .int, 6, E_C_points)
def q_C_relate : Mt := (⟨"ImplicationAlgebras", "relate", "(III)I"⟩, prog_1_method_4_code, 5, some .int, 6, E_C_relate)
def q_C_isBelow : Mt := (⟨"ImplicationAlgebras", "isBelow", "(III)I"⟩, prog_1_method_5_code, 5, some .int, 6, E_C_isBelow)
def q_C_covers : Mt := (⟨"ImplicationAlgebras", "covers", "(II)I"⟩, prog_1_method_6_code, 4, some .int, 6, E_C_covers)
def q_C_property : Mt := (⟨"ImplicationAlgebras", "property", "(II)I"⟩, prog_1_method_7_code, 4, some .int, 6, E_C_property)
def q_C_elementCount : Mt := (⟨"ImplicationAlgebras", "elementCount", "(I)I"⟩, prog_1_method_8_code, 3, some .int, 6, E_C_elementCount)
def q_C_elementBits : Mt := (⟨"ImplicationAlgebras", "elementBits", "(II)I"⟩, prog_1_method_9_code, 4, some .int, 6, E_C_elementBits)
def q_C_elementOf : Mt := (⟨"ImplicationAlgebras", "elementOf", "(II)I"⟩, prog_1_method_10_code, 4, some .int, 6, E_C_elementOf)
def q_C_meet : Mt := (⟨"ImplicationAlgebras", "meet", "(III)I"⟩, prog_1_method_11_code, 4, some .int, 6, E_C_meet)
def q_C_combine : Mt := (⟨"ImplicationAlgebras", "combine", "(IIII)I"⟩, prog_1_method_50_code, 6, some .int, 6, E_C_combine)
def q_C_join : Mt := (⟨"ImplicationAlgebras", "join", "(III)I"⟩, prog_1_method_12_code, 4, some .int, 6, E_C_join)
def q_C_implies : Mt := (⟨"ImplicationAlgebras", "implies", "(III)I"⟩, prog_1_method_13_code, 4, some .int, 6, E_C_implies)
def q_C_append : Mt := (⟨"ImplicationAlgebras", "append", "(I)I"⟩, prog_1_method_14_code, 2, some .int, 6, E_C_append)
def q_C_clearText : Mt := (⟨"ImplicationAlgebras", "clearText", "()I"⟩, prog_1_method_15_code, 2, some .int, 6, E_C_clearText)
def q_C_parse : Mt := (⟨"ImplicationAlgebras", "parse", "(I)I"⟩, prog_1_method_16_code, 4, some .int, 6, E_C_parse)
def q_C_formulaAt : Mt := (⟨"ImplicationAlgebras", "formulaAt", "(I)LImplicationAlgebras$Formula;"⟩, prog_1_method_47_code, 2, some (.object "ImplicationAlgebras$Formula"), 6, E_C_formulaAt)
def q_C_formulaSize : Mt := (⟨"ImplicationAlgebras", "formulaSize", "(I)I"⟩, prog_1_method_17_code, 3, some .int, 6, E_C_formulaSize)
def q_C_substitute : Mt := (⟨"ImplicationAlgebras", "substitute", "(IIII)I"⟩, prog_1_method_18_code, 9, some .int, 6, E_C_substitute)
def q_C_isVariable : Mt := (⟨"ImplicationAlgebras", "isVariable", "(I)Z"⟩, prog_1_method_49_code, 1, some .boolean, 6, E_C_isVariable)
def q_C_draftSubstitution : Mt := (⟨"ImplicationAlgebras", "draftSubstitution", "(LImplicationAlgebras$Formula;ILImplicationAlgebras$Formula;)V"⟩, prog_1_method_52_code, 8, none, 6, E_C_draftSubstitution)
def q_C_setValue : Mt := (⟨"ImplicationAlgebras", "setValue", "(III)I"⟩, prog_1_method_19_code, 6, some .int, 6, E_C_setValue)
def q_C_value : Mt := (⟨"ImplicationAlgebras", "value", "(II)I"⟩, prog_1_method_20_code, 5, some .int, 6, E_C_value)
def q_C_isForced : Mt := (⟨"ImplicationAlgebras", "isForced", "(III)I"⟩, prog_1_method_21_code, 6, some .int, 6, E_C_isForced)
def q_C_isValid : Mt := (⟨"ImplicationAlgebras", "isValid", "(II)I"⟩, prog_1_method_22_code, 6, some .int, 6, E_C_isValid)
def q_C_refusalToSearch : Mt := (⟨"ImplicationAlgebras", "refusalToSearch", "(LImplicationAlgebras$Poset;LImplicationAlgebras$Formula;)I"⟩, prog_1_method_51_code, 2, some .int, 6, E_C_refusalToSearch)
def q_C_refutation : Mt := (⟨"ImplicationAlgebras", "refutation", "(III)I"⟩, prog_1_method_23_code, 8, some .int, 6, E_C_refutation)
def q_C_countValuations : Mt := (⟨"ImplicationAlgebras", "countValuations", "(III)I"⟩, prog_1_method_24_code, 7, some .int, 6, E_C_countValuations)
def q_C_filterClass : Mt := (⟨"ImplicationAlgebras", "filterClass", "(III)I"⟩, prog_1_method_25_code, 4, some .int, 6, E_C_filterClass)
def q_C_quotientSize : Mt := (⟨"ImplicationAlgebras", "quotientSize", "(II)I"⟩, prog_1_method_26_code, 4, some .int, 6, E_C_quotientSize)
def q_C_isPrime : Mt := (⟨"ImplicationAlgebras", "isPrime", "(II)I"⟩, prog_1_method_27_code, 4, some .int, 6, E_C_isPrime)
def q_C_addGenerator : Mt := (⟨"ImplicationAlgebras", "addGenerator", "(I)I"⟩, prog_1_method_28_code, 2, some .int, 6, E_C_addGenerator)
def q_C_clearGenerators : Mt := (⟨"ImplicationAlgebras", "clearGenerators", "()I"⟩, prog_1_method_29_code, 2, some .int, 6, E_C_clearGenerators)
def q_C_generate : Mt := (⟨"ImplicationAlgebras", "generate", "(I)I"⟩, prog_1_method_30_code, 4, some .int, 6, E_C_generate)
def q_C_term : Mt := (⟨"ImplicationAlgebras", "term", "(II)J"⟩, prog_1_method_31_code, 3, some .long, 6, E_C_term)
def q_C_countMaps : Mt := (⟨"ImplicationAlgebras", "countMaps", "(III)I"⟩, prog_1_method_32_code, 7, some .int, 6, E_C_countMaps)
def q_C_searchMaps : Mt := (⟨"ImplicationAlgebras", "searchMaps", "(LImplicationAlgebras$MapSearch;I)V"⟩, prog_1_method_55_code, 3, none, 6, E_C_searchMaps)
def q_C_firstMap : Mt := (⟨"ImplicationAlgebras", "firstMap", "(III)I"⟩, prog_1_method_33_code, 7, some .int, 6, E_C_firstMap)
def q_C_isIsomorphic : Mt := (⟨"ImplicationAlgebras", "isIsomorphic", "(II)I"⟩, prog_1_method_34_code, 6, some .int, 6, E_C_isIsomorphic)
def q_C_sum : Mt := (⟨"ImplicationAlgebras", "sum", "(IIII)I"⟩, prog_1_method_35_code, 11, some .int, 6, E_C_sum)
def q_C_product : Mt := (⟨"ImplicationAlgebras", "product", "(III)I"⟩, prog_1_method_36_code, 10, some .int, 6, E_C_product)
def q_C_pairsAbove : Mt := (⟨"ImplicationAlgebras", "pairsAbove", "(LImplicationAlgebras$Poset;ILImplicationAlgebras$Poset;I)I"⟩, prog_1_method_53_code, 6, some .int, 6, E_C_pairsAbove)
def q_C_restrict : Mt := (⟨"ImplicationAlgebras", "restrict", "(III)I"⟩, prog_1_method_37_code, 9, some .int, 6, E_C_restrict)
def q_C_renumbered : Mt := (⟨"ImplicationAlgebras", "renumbered", "(II)I"⟩, prog_1_method_54_code, 5, some .int, 6, E_C_renumbered)
def q_C_dual : Mt := (⟨"ImplicationAlgebras", "dual", "(II)I"⟩, prog_1_method_38_code, 7, some .int, 6, E_C_dual)
def q_C_allocate : Mt := (⟨"ImplicationAlgebras", "allocate", "(III)I"⟩, prog_1_method_39_code, 5, some .int, 6, E_C_allocate)
def q_C_rowAt : Mt := (⟨"ImplicationAlgebras", "rowAt", "(I)LImplicationAlgebras$Row;"⟩, prog_1_method_48_code, 2, some (.object "ImplicationAlgebras$Row"), 6, E_C_rowAt)
def q_C_put : Mt := (⟨"ImplicationAlgebras", "put", "(III)I"⟩, prog_1_method_40_code, 5, some .int, 6, E_C_put)
def q_C_rowElement : Mt := (⟨"ImplicationAlgebras", "rowElement", "(II)J"⟩, prog_1_method_41_code, 4, some .long, 6, E_C_rowElement)
def q_C_copyElements : Mt := (⟨"ImplicationAlgebras", "copyElements", "(IIIII)I"⟩, prog_1_method_42_code, 8, some .int, 6, E_C_copyElements)
def q_C_storeElements : Mt := (⟨"ImplicationAlgebras", "storeElements", "(II)I"⟩, prog_1_method_43_code, 7, some .int, 6, E_C_storeElements)
def q_C_loadOrder : Mt := (⟨"ImplicationAlgebras", "loadOrder", "(II)I"⟩, prog_1_method_44_code, 8, some .int, 6, E_C_loadOrder)
def q_C_failure : Mt := (⟨"ImplicationAlgebras", "failure", "()I"⟩, prog_1_method_45_code, 1, some .int, 6, E_C_failure)
def q_M_init : Mt := (⟨"ImplicationAlgebrasModel", "<init>", "()V"⟩, prog_9_method_1_code, 2, none, 7, E_M_init)
def q_M_empties : Mt := (⟨"ImplicationAlgebrasModel", "empties", "(II)V"⟩, prog_9_method_8_code, 4, none, 7, E_M_empties)
def q_M_unvalues : Mt := (⟨"ImplicationAlgebrasModel", "unvalues", "(I)V"⟩, prog_9_method_9_code, 3, none, 7, E_M_unvalues)
def q_M_reset : Mt := (⟨"ImplicationAlgebrasModel", "reset", "(II)I"⟩, prog_9_method_10_code, 4, some .int, 7, E_M_reset)
def q_M_isPoset : Mt := (⟨"ImplicationAlgebrasModel", "isPoset", "(I)Z"⟩, prog_9_method_4_code, 1, some .boolean, 7, E_M_isPoset)
def q_M_isBetween : Mt := (⟨"ImplicationAlgebrasModel", "isBetween", "(JJJ)Z"⟩, prog_9_method_2_code, 6, some .boolean, 7, E_M_isBetween)
def q_M_points : Mt := (⟨"ImplicationAlgebrasModel", "points", "(I)I"⟩, prog_9_method_11_code, 2, some .int, 7, E_M_points)
def q_M_relate : Mt := (⟨"ImplicationAlgebrasModel", "relate", "(III)I"⟩, prog_9_method_13_code, 5, some .int, 7, E_M_relate)
def q_M_isPoint : Mt := (⟨"ImplicationAlgebrasModel", "isPoint", "(II)Z"⟩, prog_9_method_5_code, 3, some .boolean, 7, E_M_isPoint)
def q_M_isLess : Mt := (⟨"ImplicationAlgebrasModel", "isLess", "(III)Z"⟩, prog_9_method_6_code, 4, some .boolean, 7, E_M_isLess)
def q_M_pairs : Mt := (⟨"ImplicationAlgebrasModel", "pairs", "(I)I"⟩, prog_9_method_12_code, 4, some .int, 7, E_M_pairs)
def q_M_bits : Mt := (⟨"ImplicationAlgebrasModel", "bits", "(I)I"⟩, prog_9_method_3_code, 3, some .int, 7, E_M_bits)
def q_M_isBelow : Mt := (⟨"ImplicationAlgebrasModel", "isBelow", "(III)I"⟩, prog_9_method_14_code, 4, some .int, 7, E_M_isBelow)
def q_M_covers : Mt := (⟨"ImplicationAlgebrasModel", "covers", "(II)I"⟩, prog_9_method_15_code, 6, some .int, 7, E_M_covers)
def q_M_property : Mt := (⟨"ImplicationAlgebrasModel", "property", "(II)I"⟩, prog_9_method_20_code, 3, some .int, 7, E_M_property)
def q_M_largest : Mt := (⟨"ImplicationAlgebrasModel", "largest", "(IZ)I"⟩, prog_9_method_17_code, 8, some .int, 7, E_M_largest)
def q_M_allOf : Mt := (⟨"ImplicationAlgebrasModel", "allOf", "(I)I"⟩, prog_9_method_7_code, 2, some .int, 7, E_M_allOf)
def q_M_areRelated : Mt := (⟨"ImplicationAlgebrasModel", "areRelated", "(III)Z"⟩, prog_9_method_16_code, 4, some .boolean, 7, E_M_areRelated)
def q_M_ends : Mt := (⟨"ImplicationAlgebrasModel", "ends", "(IZ)I"⟩, prog_9_method_19_code, 7, some .int, 7, E_M_ends)
def q_M_components : Mt := (⟨"ImplicationAlgebrasModel", "components", "(I)I"⟩, prog_9_method_18_code, 9, some .int, 7, E_M_components)
def q_M_elementCount : Mt := (⟨"ImplicationAlgebrasModel", "elementCount", "(I)I"⟩, prog_9_method_27_code, 2, some .int, 7, E_M_elementCount)
def q_M_isFound : Mt := (⟨"ImplicationAlgebrasModel", "isFound", "(I)Z"⟩, prog_9_method_23_code, 2, some .boolean, 7, E_M_isFound)
def q_M_finds : Mt := (⟨"ImplicationAlgebrasModel", "finds", "(I)V"⟩, prog_9_method_22_code, 4, none, 7, E_M_finds)
def q_M_isUpSet : Mt := (⟨"ImplicationAlgebrasModel", "isUpSet", "(II)Z"⟩, prog_9_method_21_code, 4, some .boolean, 7, E_M_isUpSet)
def q_M_elementBits : Mt := (⟨"ImplicationAlgebrasModel", "elementBits", "(II)I"⟩, prog_9_method_28_code, 3, some .int, 7, E_M_elementBits)
def q_M_isElement : Mt := (⟨"ImplicationAlgebrasModel", "isElement", "(I)Z"⟩, prog_9_method_24_code, 2, some .boolean, 7, E_M_isElement)
def q_M_elementOf : Mt := (⟨"ImplicationAlgebrasModel", "elementOf", "(II)I"⟩, prog_9_method_29_code, 3, some .int, 7, E_M_elementOf)
def q_M_meet : Mt := (⟨"ImplicationAlgebrasModel", "meet", "(III)I"⟩, prog_9_method_30_code, 4, some .int, 7, E_M_meet)
def q_M_areElements : Mt := (⟨"ImplicationAlgebrasModel", "areElements", "(III)Z"⟩, prog_9_method_25_code, 4, some .boolean, 7, E_M_areElements)
def q_M_join : Mt := (⟨"ImplicationAlgebrasModel", "join", "(III)I"⟩, prog_9_method_31_code, 4, some .int, 7, E_M_join)
def q_M_implies : Mt := (⟨"ImplicationAlgebrasModel", "implies", "(III)I"⟩, prog_9_method_32_code, 4, some .int, 7, E_M_implies)
def q_M_impliedBits : Mt := (⟨"ImplicationAlgebrasModel", "impliedBits", "(III)I"⟩, prog_9_method_26_code, 6, some .int, 7, E_M_impliedBits)
def q_M_append : Mt := (⟨"ImplicationAlgebrasModel", "append", "(I)I"⟩, prog_9_method_33_code, 2, some .int, 7, E_M_append)
def q_M_clearText : Mt := (⟨"ImplicationAlgebrasModel", "clearText", "()I"⟩, prog_9_method_34_code, 2, some .int, 7, E_M_clearText)
def q_M_parse : Mt := (⟨"ImplicationAlgebrasModel", "parse", "(I)I"⟩, prog_9_method_46_code, 3, some .int, 7, E_M_parse)
def q_M_isFormula : Mt := (⟨"ImplicationAlgebrasModel", "isFormula", "(I)Z"⟩, prog_9_method_36_code, 1, some .boolean, 7, E_M_isFormula)
def q_M_takesText : Mt := (⟨"ImplicationAlgebrasModel", "takesText", "()Z"⟩, prog_9_method_44_code, 2, some .boolean, 7, E_M_takesText)
def q_M_takesFactor : Mt := (⟨"ImplicationAlgebrasModel", "takesFactor", "()Z"⟩, prog_9_method_40_code, 1, some .boolean, 7, E_M_takesFactor)
def q_M_next : Mt := (⟨"ImplicationAlgebrasModel", "next", "()I"⟩, prog_9_method_35_code, 1, some .int, 7, E_M_next)
def q_M_atomOf : Mt := (⟨"ImplicationAlgebrasModel", "atomOf", "(I)I"⟩, prog_9_method_39_code, 1, some .int, 7, E_M_atomOf)
def q_M_makes : Mt := (⟨"ImplicationAlgebrasModel", "makes", "(I)V"⟩, prog_9_method_37_code, 2, none, 7, E_M_makes)
def q_M_makesFrom : Mt := (⟨"ImplicationAlgebrasModel", "makesFrom", "(I)V"⟩, prog_9_method_38_code, 2, none, 7, E_M_makesFrom)
def q_M_closes : Mt := (⟨"ImplicationAlgebrasModel", "closes", "()V"⟩, prog_9_method_42_code, 1, none, 7, E_M_closes)
def q_M_hasParen : Mt := (⟨"ImplicationAlgebrasModel", "hasParen", "()Z"⟩, prog_9_method_41_code, 2, some .boolean, 7, E_M_hasParen)
def q_M_deedOf : Mt := (⟨"ImplicationAlgebrasModel", "deedOf", "(I)I"⟩, prog_9_method_43_code, 1, some .int, 7, E_M_deedOf)
def q_M_stores : Mt := (⟨"ImplicationAlgebrasModel", "stores", "(I)V"⟩, prog_9_method_45_code, 3, none, 7, E_M_stores)
def q_M_formulaSize : Mt := (⟨"ImplicationAlgebrasModel", "formulaSize", "(I)I"⟩, prog_9_method_47_code, 2, some .int, 7, E_M_formulaSize)
def q_M_substitute : Mt := (⟨"ImplicationAlgebrasModel", "substitute", "(IIII)I"⟩, prog_9_method_49_code, 9, some .int, 7, E_M_substitute)
def q_M_isVariable : Mt := (⟨"ImplicationAlgebrasModel", "isVariable", "(I)Z"⟩, prog_9_method_48_code, 1, some .boolean, 7, E_M_isVariable)
def q_M_setValue : Mt := (⟨"ImplicationAlgebrasModel", "setValue", "(III)I"⟩, prog_9_method_51_code, 5, some .int, 7, E_M_setValue)
def q_M_value : Mt := (⟨"ImplicationAlgebrasModel", "value", "(II)I"⟩, prog_9_method_53_code, 3, some .int, 7, E_M_value)
def q_M_presentBits : Mt := (⟨"ImplicationAlgebrasModel", "presentBits", "(II)I"⟩, prog_9_method_52_code, 4, some .int, 7, E_M_presentBits)
def q_M_valueBits : Mt := (⟨"ImplicationAlgebrasModel", "valueBits", "(II)I"⟩, prog_9_method_50_code, 6, some .int, 7, E_M_valueBits)
def q_M_isForced : Mt := (⟨"ImplicationAlgebrasModel", "isForced", "(III)I"⟩, prog_9_method_54_code, 4, some .int, 7, E_M_isForced)
def q_M_isValid : Mt := (⟨"ImplicationAlgebrasModel", "isValid", "(II)I"⟩, prog_9_method_61_code, 4, some .int, 7, E_M_isValid)
def q_M_notAsked : Mt := (⟨"ImplicationAlgebrasModel", "notAsked", "(II)I"⟩, prog_9_method_57_code, 3, some .int, 7, E_M_notAsked)
def q_M_countsValuations : Mt := (⟨"ImplicationAlgebrasModel", "countsValuations", "(I)V"⟩, prog_9_method_56_code, 3, none, 7, E_M_countsValuations)
def q_M_variablesOf : Mt := (⟨"ImplicationAlgebrasModel", "variablesOf", "(I)I"⟩, prog_9_method_55_code, 4, some .int, 7, E_M_variablesOf)
def q_M_refuting : Mt := (⟨"ImplicationAlgebrasModel", "refuting", "(II)I"⟩, prog_9_method_60_code, 4, some .int, 7, E_M_refuting)
def q_M_bitsBy : Mt := (⟨"ImplicationAlgebrasModel", "bitsBy", "(III)I"⟩, prog_9_method_59_code, 5, some .int, 7, E_M_bitsBy)
def q_M_elementIn : Mt := (⟨"ImplicationAlgebrasModel", "elementIn", "(II)I"⟩, prog_9_method_58_code, 5, some .int, 7, E_M_elementIn)
def q_M_refutation : Mt := (⟨"ImplicationAlgebrasModel", "refutation", "(III)I"⟩, prog_9_method_62_code, 6, some .int, 7, E_M_refutation)
def q_M_countValuations : Mt := (⟨"ImplicationAlgebrasModel", "countValuations", "(III)I"⟩, prog_9_method_63_code, 7, some .int, 7, E_M_countValuations)
def q_M_filterClass : Mt := (⟨"ImplicationAlgebrasModel", "filterClass", "(III)I"⟩, prog_9_method_64_code, 5, some .int, 7, E_M_filterClass)
def q_M_quotientSize : Mt := (⟨"ImplicationAlgebrasModel", "quotientSize", "(II)I"⟩, prog_9_method_65_code, 7, some .int, 7, E_M_quotientSize)
def q_M_isPrime : Mt := (⟨"ImplicationAlgebrasModel", "isPrime", "(II)I"⟩, prog_9_method_66_code, 5, some .int, 7, E_M_isPrime)
def q_M_addGenerator : Mt := (⟨"ImplicationAlgebrasModel", "addGenerator", "(I)I"⟩, prog_9_method_67_code, 2, some .int, 7, E_M_addGenerator)
def q_M_clearGenerators : Mt := (⟨"ImplicationAlgebrasModel", "clearGenerators", "()I"⟩, prog_9_method_68_code, 2, some .int, 7, E_M_clearGenerators)
def q_M_generate : Mt := (⟨"ImplicationAlgebrasModel", "generate", "(I)I"⟩, prog_9_method_72_code, 5, some .int, 7, E_M_generate)
def q_M_lowers : Mt := (⟨"ImplicationAlgebrasModel", "lowers", "(I)Z"⟩, prog_9_method_70_code, 9, some .boolean, 7, E_M_lowers)
def q_M_done : Mt := (⟨"ImplicationAlgebrasModel", "done", "(IIII)I"⟩, prog_9_method_69_code, 7, some .int, 7, E_M_done)
def q_M_findsSteps : Mt := (⟨"ImplicationAlgebrasModel", "findsSteps", "(I)V"⟩, prog_9_method_71_code, 6, none, 7, E_M_findsSteps)
def q_M_term : Mt := (⟨"ImplicationAlgebrasModel", "term", "(II)J"⟩, prog_9_method_73_code, 3, some .long, 7, E_M_term)
def q_M_countMaps : Mt := (⟨"ImplicationAlgebrasModel", "countMaps", "(III)I"⟩, prog_9_method_80_code, 4, some .int, 7, E_M_countMaps)
def q_M_mapsOf : Mt := (⟨"ImplicationAlgebrasModel", "mapsOf", "(IIIZ)I"⟩, prog_9_method_79_code, 10, some .int, 7, E_M_mapsOf)
def q_M_isOfKind : Mt := (⟨"ImplicationAlgebrasModel", "isOfKind", "(III)Z"⟩, prog_9_method_78_code, 4, some .boolean, 7, E_M_isOfKind)
def q_M_keepsOrder : Mt := (⟨"ImplicationAlgebrasModel", "keepsOrder", "(II)Z"⟩, prog_9_method_74_code, 5, some .boolean, 7, E_M_keepsOrder)
def q_M_isBounded : Mt := (⟨"ImplicationAlgebrasModel", "isBounded", "(II)Z"⟩, prog_9_method_75_code, 6, some .boolean, 7, E_M_isBounded)
def q_M_reachesAll : Mt := (⟨"ImplicationAlgebrasModel", "reachesAll", "(II)Z"⟩, prog_9_method_76_code, 5, some .boolean, 7, E_M_reachesAll)
def q_M_reflectsOrder : Mt := (⟨"ImplicationAlgebrasModel", "reflectsOrder", "(II)Z"⟩, prog_9_method_77_code, 5, some .boolean, 7, E_M_reflectsOrder)
def q_M_firstMap : Mt := (⟨"ImplicationAlgebrasModel", "firstMap", "(III)I"⟩, prog_9_method_81_code, 6, some .int, 7, E_M_firstMap)
def q_M_isIsomorphic : Mt := (⟨"ImplicationAlgebrasModel", "isIsomorphic", "(II)I"⟩, prog_9_method_82_code, 3, some .int, 7, E_M_isIsomorphic)
def q_M_sum : Mt := (⟨"ImplicationAlgebrasModel", "sum", "(IIII)I"⟩, prog_9_method_84_code, 8, some .int, 7, E_M_sum)
def q_M_settles : Mt := (⟨"ImplicationAlgebrasModel", "settles", "(I)V"⟩, prog_9_method_83_code, 3, none, 7, E_M_settles)
def q_M_product : Mt := (⟨"ImplicationAlgebrasModel", "product", "(III)I"⟩, prog_9_method_85_code, 8, some .int, 7, E_M_product)
def q_M_restrict : Mt := (⟨"ImplicationAlgebrasModel", "restrict", "(III)I"⟩, prog_9_method_86_code, 10, some .int, 7, E_M_restrict)
def q_M_dual : Mt := (⟨"ImplicationAlgebrasModel", "dual", "(II)I"⟩, prog_9_method_87_code, 6, some .int, 7, E_M_dual)
def q_M_allocate : Mt := (⟨"ImplicationAlgebrasModel", "allocate", "(III)I"⟩, prog_9_method_90_code, 5, some .int, 7, E_M_allocate)
def q_M_isRow : Mt := (⟨"ImplicationAlgebrasModel", "isRow", "(I)Z"⟩, prog_9_method_88_code, 1, some .boolean, 7, E_M_isRow)
def q_M_put : Mt := (⟨"ImplicationAlgebrasModel", "put", "(III)I"⟩, prog_9_method_91_code, 4, some .int, 7, E_M_put)
def q_M_puts : Mt := (⟨"ImplicationAlgebrasModel", "puts", "(III)V"⟩, prog_9_method_89_code, 4, none, 7, E_M_puts)
def q_M_rowElement : Mt := (⟨"ImplicationAlgebrasModel", "rowElement", "(II)J"⟩, prog_9_method_92_code, 3, some .long, 7, E_M_rowElement)
def q_M_copyElements : Mt := (⟨"ImplicationAlgebrasModel", "copyElements", "(IIIII)I"⟩, prog_9_method_93_code, 7, some .int, 7, E_M_copyElements)
def q_M_storeElements : Mt := (⟨"ImplicationAlgebrasModel", "storeElements", "(II)I"⟩, prog_9_method_94_code, 4, some .int, 7, E_M_storeElements)
def q_M_loadOrder : Mt := (⟨"ImplicationAlgebrasModel", "loadOrder", "(II)I"⟩, prog_9_method_95_code, 5, some .int, 7, E_M_loadOrder)
def q_M_failure : Mt := (⟨"ImplicationAlgebrasModel", "failure", "()I"⟩, prog_9_method_96_code, 1, some .int, 7, E_M_failure)
def q_I_bitCount : Mt := (⟨"java/lang/Integer", "bitCount", "(I)I"⟩, prog_10_method_49_code, 1, some .int, 9, E_I_bitCount)
def q_L_law : Mt := (⟨"ImplicationAlgebrasLaw", "law", "([I)Z"⟩, code, 4, some .boolean, 8, E_L_law)
theorem Ms_eq : Ms = [q_F_init, q_F_replaceSigns, q_F_isMissing, q_F_occurrences, q_F_currentBits, q_F_bitsOfValue, q_F_joined, q_F_valuations, q_F_choices, q_F_firstRefutation, q_F_unpack, q_F_valuationsWith, q_S_init, q_S_countIfAccepted, q_S_isBounded, q_S_imagesOf, q_S_fitsEarlier, q_S_fitsOneWay, q_S_digits, q_P_init, q_P_refresh, q_P_findDownSets, q_P_pointsBelow, q_P_below, q_P_findElements, q_P_allPoints, q_P_numberSet, q_P_replaceOrder, q_P_extendOrder, q_P_hasPoint, q_P_properPairs, q_P_greaterPoints, q_P_coversOf, q_P_largestChain, q_P_isChain, q_P_relatedPoints, q_P_largestAntichain, q_P_isAntichain, q_P_minimalPoints, q_P_maximalPoints, q_P_components, q_P_componentOf, q_P_hasElement, q_P_resultOf, q_P_implication, q_P_elementsWithin, q_P_hasLeastPoint, q_R_init, q_R_replaceRow, q_R_isMissing, q_R_hasIndex, q_R_narrowed, q_R_hasRange, q_A_init, q_A_start, q_A_findCosts, q_A_cheapestLeft, q_A_offerAll, q_A_offer, q_A_findSteps, q_A_noteStep, q_T_init, q_T_readFormula, q_T_takeInFactor, q_T_leafOf, q_T_emit, q_T_endFactor, q_T_hold, q_T_takeBehindFactor, q_T_closeParenthesis, q_T_releaseAbove, q_T_operatorOf, q_C_init, q_C_reset, q_C_posetAt, q_C_points, q_C_relate, q_C_isBelow, q_C_covers, q_C_property, q_C_elementCount, q_C_elementBits, q_C_elementOf, q_C_meet, q_C_combine, q_C_join, q_C_implies, q_C_append, q_C_clearText, q_C_parse, q_C_formulaAt, q_C_formulaSize, q_C_substitute, q_C_isVariable, q_C_draftSubstitution, q_C_setValue, q_C_value, q_C_isForced, q_C_isValid, q_C_refusalToSearch, q_C_refutation, q_C_countValuations, q_C_filterClass, q_C_quotientSize, q_C_isPrime, q_C_addGenerator, q_C_clearGenerators, q_C_generate, q_C_term, q_C_countMaps, q_C_searchMaps, q_C_firstMap, q_C_isIsomorphic, q_C_sum, q_C_product, q_C_pairsAbove, q_C_restrict, q_C_renumbered, q_C_dual, q_C_allocate, q_C_rowAt, q_C_put, q_C_rowElement, q_C_copyElements, q_C_storeElements, q_C_loadOrder, q_C_failure, q_M_init, q_M_empties, q_M_unvalues, q_M_reset, q_M_isPoset, q_M_isBetween, q_M_points, q_M_relate, q_M_isPoint, q_M_isLess, q_M_pairs, q_M_bits, q_M_isBelow, q_M_covers, q_M_property, q_M_largest, q_M_allOf, q_M_areRelated, q_M_ends, q_M_components, q_M_elementCount, q_M_isFound, q_M_finds, q_M_isUpSet, q_M_elementBits, q_M_isElement, q_M_elementOf, q_M_meet, q_M_areElements, q_M_join, q_M_implies, q_M_impliedBits, q_M_append, q_M_clearText, q_M_parse, q_M_isFormula, q_M_takesText, q_M_takesFactor, q_M_next, q_M_atomOf, q_M_makes, q_M_makesFrom, q_M_closes, q_M_hasParen, q_M_deedOf, q_M_stores, q_M_formulaSize, q_M_substitute, q_M_isVariable, q_M_setValue, q_M_value, q_M_presentBits, q_M_valueBits, q_M_isForced, q_M_isValid, q_M_notAsked, q_M_countsValuations, q_M_variablesOf, q_M_refuting, q_M_bitsBy, q_M_elementIn, q_M_refutation, q_M_countValuations, q_M_filterClass, q_M_quotientSize, q_M_isPrime, q_M_addGenerator, q_M_clearGenerators, q_M_generate, q_M_lowers, q_M_done, q_M_findsSteps, q_M_term, q_M_countMaps, q_M_mapsOf, q_M_isOfKind, q_M_keepsOrder, q_M_isBounded, q_M_reachesAll, q_M_reflectsOrder, q_M_firstMap, q_M_isIsomorphic, q_M_sum, q_M_settles, q_M_product, q_M_restrict, q_M_dual, q_M_allocate, q_M_isRow, q_M_put, q_M_puts, q_M_rowElement, q_M_copyElements, q_M_storeElements, q_M_loadOrder, q_M_failure, q_I_bitCount, q_L_law] := rfl
def okM (q : Mt) : Prop := q.2.2.2.2.2.all (chk1 q.2.2.2.2.1 (iniM q) q.2.1) = true
theorem ce_F_init : okM q_F_init := by
  have h : iniM q_F_init = true := by decide +kernel
  unfold okM
  rw [h]
  exact ca_F_init
theorem ce_F_replaceSigns : okM q_F_replaceSigns := by
  have h : iniM q_F_replaceSigns = false := by decide +kernel
  unfold okM
  rw [h]
  exact ca_F_replaceSigns
theorem ce_F_isMissing : okM q_F_isMissing := by
  have h : iniM q_F_isMissing = false := by decide +kernel
  unfold okM
  rw [h]
  exact ca_F_isMissing
theorem ce_F_occurrences : okM q_F_occurrences := by
  have h : iniM q_F_occurrences = false := by decide +kernel
  unfold okM
  rw [h]
  exact ca_F_occurrences
theorem ce_F_currentBits : okM q_F_currentBits := by
  have h : iniM q_F_currentBits = false := by decide +kernel
  unfold okM
  rw [h]
  exact ca_F_currentBits
theorem ce_F_bitsOfValue : okM q_F_bitsOfValue := by
  have h : iniM q_F_bitsOfValue = false := by decide +kernel
  unfold okM
  rw [h]
  exact ca_F_bitsOfValue
theorem ce_F_joined : okM q_F_joined := by
  have h : iniM q_F_joined = false := by decide +kernel
  unfold okM
  rw [h]
  exact ca_F_joined
theorem ce_F_valuations : okM q_F_valuations := by
  have h : iniM q_F_valuations = false := by decide +kernel
  unfold okM
  rw [h]
  exact ca_F_valuations
theorem ce_F_choices : okM q_F_choices := by
  have h : iniM q_F_choices = false := by decide +kernel
  unfold okM
  rw [h]
  exact ca_F_choices
theorem ce_F_firstRefutation : okM q_F_firstRefutation := by
  have h : iniM q_F_firstRefutation = false := by decide +kernel
  unfold okM
  rw [h]
  exact ca_F_firstRefutation
theorem ce_F_unpack : okM q_F_unpack := by
  have h : iniM q_F_unpack = false := by decide +kernel
  unfold okM
  rw [h]
  exact ca_F_unpack
theorem ce_F_valuationsWith : okM q_F_valuationsWith := by
  have h : iniM q_F_valuationsWith = false := by decide +kernel
  unfold okM
  rw [h]
  exact ca_F_valuationsWith
theorem ce_S_init : okM q_S_init := by
  have h : iniM q_S_init = true := by decide +kernel
  unfold okM
  rw [h]
  exact ca_S_init
theorem ce_S_countIfAccepted : okM q_S_countIfAccepted := by
  have h : iniM q_S_countIfAccepted = false := by decide +kernel
  unfold okM
  rw [h]
  exact ca_S_countIfAccepted
theorem ce_S_isBounded : okM q_S_isBounded := by
  have h : iniM q_S_isBounded = false := by decide +kernel
  unfold okM
  rw [h]
  exact ca_S_isBounded
theorem ce_S_imagesOf : okM q_S_imagesOf := by
  have h : iniM q_S_imagesOf = false := by decide +kernel
  unfold okM
  rw [h]
  exact ca_S_imagesOf
theorem ce_S_fitsEarlier : okM q_S_fitsEarlier := by
  have h : iniM q_S_fitsEarlier = false := by decide +kernel
  unfold okM
  rw [h]
  exact ca_S_fitsEarlier
theorem ce_S_fitsOneWay : okM q_S_fitsOneWay := by
  have h : iniM q_S_fitsOneWay = false := by decide +kernel
  unfold okM
  rw [h]
  exact ca_S_fitsOneWay
theorem ce_S_digits : okM q_S_digits := by
  have h : iniM q_S_digits = false := by decide +kernel
  unfold okM
  rw [h]
  exact ca_S_digits
theorem ce_P_init : okM q_P_init := by
  have h : iniM q_P_init = true := by decide +kernel
  unfold okM
  rw [h]
  exact ca_P_init
theorem ce_P_refresh : okM q_P_refresh := by
  have h : iniM q_P_refresh = false := by decide +kernel
  unfold okM
  rw [h]
  exact ca_P_refresh
theorem ce_P_findDownSets : okM q_P_findDownSets := by
  have h : iniM q_P_findDownSets = false := by decide +kernel
  unfold okM
  rw [h]
  exact ca_P_findDownSets
theorem ce_P_pointsBelow : okM q_P_pointsBelow := by
  have h : iniM q_P_pointsBelow = false := by decide +kernel
  unfold okM
  rw [h]
  exact ca_P_pointsBelow
theorem ce_P_below : okM q_P_below := by
  have h : iniM q_P_below = false := by decide +kernel
  unfold okM
  rw [h]
  exact ca_P_below
theorem ce_P_findElements : okM q_P_findElements := by
  have h : iniM q_P_findElements = false := by decide +kernel
  unfold okM
  rw [h]
  exact ca_P_findElements
theorem ce_P_allPoints : okM q_P_allPoints := by
  have h : iniM q_P_allPoints = false := by decide +kernel
  unfold okM
  rw [h]
  exact ca_P_allPoints
theorem ce_P_numberSet : okM q_P_numberSet := by
  have h : iniM q_P_numberSet = false := by decide +kernel
  unfold okM
  rw [h]
  exact ca_P_numberSet
theorem ce_P_replaceOrder : okM q_P_replaceOrder := by
  have h : iniM q_P_replaceOrder = false := by decide +kernel
  unfold okM
  rw [h]
  exact ca_P_replaceOrder
theorem ce_P_extendOrder : okM q_P_extendOrder := by
  have h : iniM q_P_extendOrder = false := by decide +kernel
  unfold okM
  rw [h]
  exact ca_P_extendOrder
theorem ce_P_hasPoint : okM q_P_hasPoint := by
  have h : iniM q_P_hasPoint = false := by decide +kernel
  unfold okM
  rw [h]
  exact ca_P_hasPoint
theorem ce_P_properPairs : okM q_P_properPairs := by
  have h : iniM q_P_properPairs = false := by decide +kernel
  unfold okM
  rw [h]
  exact ca_P_properPairs
theorem ce_P_greaterPoints : okM q_P_greaterPoints := by
  have h : iniM q_P_greaterPoints = false := by decide +kernel
  unfold okM
  rw [h]
  exact ca_P_greaterPoints
theorem ce_P_coversOf : okM q_P_coversOf := by
  have h : iniM q_P_coversOf = false := by decide +kernel
  unfold okM
  rw [h]
  exact ca_P_coversOf
theorem ce_P_largestChain : okM q_P_largestChain := by
  have h : iniM q_P_largestChain = false := by decide +kernel
  unfold okM
  rw [h]
  exact ca_P_largestChain
theorem ce_P_isChain : okM q_P_isChain := by
  have h : iniM q_P_isChain = false := by decide +kernel
  unfold okM
  rw [h]
  exact ca_P_isChain
theorem ce_P_relatedPoints : okM q_P_relatedPoints := by
  have h : iniM q_P_relatedPoints = false := by decide +kernel
  unfold okM
  rw [h]
  exact ca_P_relatedPoints
theorem ce_P_largestAntichain : okM q_P_largestAntichain := by
  have h : iniM q_P_largestAntichain = false := by decide +kernel
  unfold okM
  rw [h]
  exact ca_P_largestAntichain
theorem ce_P_isAntichain : okM q_P_isAntichain := by
  have h : iniM q_P_isAntichain = false := by decide +kernel
  unfold okM
  rw [h]
  exact ca_P_isAntichain
theorem ce_P_minimalPoints : okM q_P_minimalPoints := by
  have h : iniM q_P_minimalPoints = false := by decide +kernel
  unfold okM
  rw [h]
  exact ca_P_minimalPoints
theorem ce_P_maximalPoints : okM q_P_maximalPoints := by
  have h : iniM q_P_maximalPoints = false := by decide +kernel
  unfold okM
  rw [h]
  exact ca_P_maximalPoints
theorem ce_P_components : okM q_P_components := by
  have h : iniM q_P_components = false := by decide +kernel
  unfold okM
  rw [h]
  exact ca_P_components
theorem ce_P_componentOf : okM q_P_componentOf := by
  have h : iniM q_P_componentOf = false := by decide +kernel
  unfold okM
  rw [h]
  exact ca_P_componentOf
theorem ce_P_hasElement : okM q_P_hasElement := by
  have h : iniM q_P_hasElement = false := by decide +kernel
  unfold okM
  rw [h]
  exact ca_P_hasElement
theorem ce_P_resultOf : okM q_P_resultOf := by
  have h : iniM q_P_resultOf = false := by decide +kernel
  unfold okM
  rw [h]
  exact ca_P_resultOf
theorem ce_P_implication : okM q_P_implication := by
  have h : iniM q_P_implication = false := by decide +kernel
  unfold okM
  rw [h]
  exact ca_P_implication
theorem ce_P_elementsWithin : okM q_P_elementsWithin := by
  have h : iniM q_P_elementsWithin = false := by decide +kernel
  unfold okM
  rw [h]
  exact ca_P_elementsWithin
theorem ce_P_hasLeastPoint : okM q_P_hasLeastPoint := by
  have h : iniM q_P_hasLeastPoint = false := by decide +kernel
  unfold okM
  rw [h]
  exact ca_P_hasLeastPoint
theorem ce_R_init : okM q_R_init := by
  have h : iniM q_R_init = true := by decide +kernel
  unfold okM
  rw [h]
  exact ca_R_init
theorem ce_R_replaceRow : okM q_R_replaceRow := by
  have h : iniM q_R_replaceRow = false := by decide +kernel
  unfold okM
  rw [h]
  exact ca_R_replaceRow
theorem ce_R_isMissing : okM q_R_isMissing := by
  have h : iniM q_R_isMissing = false := by decide +kernel
  unfold okM
  rw [h]
  exact ca_R_isMissing
theorem ce_R_hasIndex : okM q_R_hasIndex := by
  have h : iniM q_R_hasIndex = false := by decide +kernel
  unfold okM
  rw [h]
  exact ca_R_hasIndex
theorem ce_R_narrowed : okM q_R_narrowed := by
  have h : iniM q_R_narrowed = false := by decide +kernel
  unfold okM
  rw [h]
  exact ca_R_narrowed
theorem ce_R_hasRange : okM q_R_hasRange := by
  have h : iniM q_R_hasRange = false := by decide +kernel
  unfold okM
  rw [h]
  exact ca_R_hasRange
theorem ce_A_init : okM q_A_init := by
  have h : iniM q_A_init = true := by decide +kernel
  unfold okM
  rw [h]
  exact ca_A_init
theorem ce_A_start : okM q_A_start := by
  have h : iniM q_A_start = false := by decide +kernel
  unfold okM
  rw [h]
  exact ca_A_start
theorem ce_A_findCosts : okM q_A_findCosts := by
  have h : iniM q_A_findCosts = false := by decide +kernel
  unfold okM
  rw [h]
  exact ca_A_findCosts
theorem ce_A_cheapestLeft : okM q_A_cheapestLeft := by
  have h : iniM q_A_cheapestLeft = false := by decide +kernel
  unfold okM
  rw [h]
  exact ca_A_cheapestLeft
theorem ce_A_offerAll : okM q_A_offerAll := by
  have h : iniM q_A_offerAll = false := by decide +kernel
  unfold okM
  rw [h]
  exact ca_A_offerAll
theorem ce_A_offer : okM q_A_offer := by
  have h : iniM q_A_offer = false := by decide +kernel
  unfold okM
  rw [h]
  exact ca_A_offer
theorem ce_A_findSteps : okM q_A_findSteps := by
  have h : iniM q_A_findSteps = false := by decide +kernel
  unfold okM
  rw [h]
  exact ca_A_findSteps
theorem ce_A_noteStep : okM q_A_noteStep := by
  have h : iniM q_A_noteStep = false := by decide +kernel
  unfold okM
  rw [h]
  exact ca_A_noteStep
theorem ce_T_init : okM q_T_init := by
  have h : iniM q_T_init = true := by decide +kernel
  unfold okM
  rw [h]
  exact ca_T_init
theorem ce_T_readFormula : okM q_T_readFormula := by
  have h : iniM q_T_readFormula = false := by decide +kernel
  unfold okM
  rw [h]
  exact ca_T_readFormula
theorem ce_T_takeInFactor : okM q_T_takeInFactor := by
  have h : iniM q_T_takeInFactor = false := by decide +kernel
  unfold okM
  rw [h]
  exact ca_T_takeInFactor
theorem ce_T_leafOf : okM q_T_leafOf := by
  have h : iniM q_T_leafOf = false := by decide +kernel
  unfold okM
  rw [h]
  exact ca_T_leafOf
theorem ce_T_emit : okM q_T_emit := by
  have h : iniM q_T_emit = false := by decide +kernel
  unfold okM
  rw [h]
  exact ca_T_emit
theorem ce_T_endFactor : okM q_T_endFactor := by
  have h : iniM q_T_endFactor = false := by decide +kernel
  unfold okM
  rw [h]
  exact ca_T_endFactor
theorem ce_T_hold : okM q_T_hold := by
  have h : iniM q_T_hold = false := by decide +kernel
  unfold okM
  rw [h]
  exact ca_T_hold
theorem ce_T_takeBehindFactor : okM q_T_takeBehindFactor := by
  have h : iniM q_T_takeBehindFactor = false := by decide +kernel
  unfold okM
  rw [h]
  exact ca_T_takeBehindFactor
theorem ce_T_closeParenthesis : okM q_T_closeParenthesis := by
  have h : iniM q_T_closeParenthesis = false := by decide +kernel
  unfold okM
  rw [h]
  exact ca_T_closeParenthesis
theorem ce_T_releaseAbove : okM q_T_releaseAbove := by
  have h : iniM q_T_releaseAbove = false := by decide +kernel
  unfold okM
  rw [h]
  exact ca_T_releaseAbove
theorem ce_T_operatorOf : okM q_T_operatorOf := by
  have h : iniM q_T_operatorOf = false := by decide +kernel
  unfold okM
  rw [h]
  exact ca_T_operatorOf
theorem ce_C_init : okM q_C_init := by
  have h : iniM q_C_init = true := by decide +kernel
  unfold okM
  rw [h]
  exact ca_C_init
theorem ce_C_reset : okM q_C_reset := by
  have h : iniM q_C_reset = false := by decide +kernel
  unfold okM
  rw [h]
  exact ca_C_reset
theorem ce_C_posetAt : okM q_C_posetAt := by
  have h : iniM q_C_posetAt = false := by decide +kernel
  unfold okM
  rw [h]
  exact ca_C_posetAt
theorem ce_C_points : okM q_C_points := by
  have h : iniM q_C_points = false := by decide +kernel
  unfold okM
  rw [h]
  exact ca_C_points
theorem ce_C_relate : okM q_C_relate := by
  have h : iniM q_C_relate = false := by decide +kernel
  unfold okM
  rw [h]
  exact ca_C_relate
theorem ce_C_isBelow : okM q_C_isBelow := by
  have h : iniM q_C_isBelow = false := by decide +kernel
  unfold okM
  rw [h]
  exact ca_C_isBelow
theorem ce_C_covers : okM q_C_covers := by
  have h : iniM q_C_covers = false := by decide +kernel
  unfold okM
  rw [h]
  exact ca_C_covers
theorem ce_C_property : okM q_C_property := by
  have h : iniM q_C_property = false := by decide +kernel
  unfold okM
  rw [h]
  exact ca_C_property
theorem ce_C_elementCount : okM q_C_elementCount := by
  have h : iniM q_C_elementCount = false := by decide +kernel
  unfold okM
  rw [h]
  exact ca_C_elementCount
theorem ce_C_elementBits : okM q_C_elementBits := by
  have h : iniM q_C_elementBits = false := by decide +kernel
  unfold okM
  rw [h]
  exact ca_C_elementBits
theorem ce_C_elementOf : okM q_C_elementOf := by
  have h : iniM q_C_elementOf = false := by decide +kernel
  unfold okM
  rw [h]
  exact ca_C_elementOf
theorem ce_C_meet : okM q_C_meet := by
  have h : iniM q_C_meet = false := by decide +kernel
  unfold okM
  rw [h]
  exact ca_C_meet
theorem ce_C_combine : okM q_C_combine := by
  have h : iniM q_C_combine = false := by decide +kernel
  unfold okM
  rw [h]
  exact ca_C_combine
theorem ce_C_join : okM q_C_join := by
  have h : iniM q_C_join = false := by decide +kernel
  unfold okM
  rw [h]
  exact ca_C_join
theorem ce_C_implies : okM q_C_implies := by
  have h : iniM q_C_implies = false := by decide +kernel
  unfold okM
  rw [h]
  exact ca_C_implies
theorem ce_C_append : okM q_C_append := by
  have h : iniM q_C_append = false := by decide +kernel
  unfold okM
  rw [h]
  exact ca_C_append
theorem ce_C_clearText : okM q_C_clearText := by
  have h : iniM q_C_clearText = false := by decide +kernel
  unfold okM
  rw [h]
  exact ca_C_clearText
theorem ce_C_parse : okM q_C_parse := by
  have h : iniM q_C_parse = false := by decide +kernel
  unfold okM
  rw [h]
  exact ca_C_parse
theorem ce_C_formulaAt : okM q_C_formulaAt := by
  have h : iniM q_C_formulaAt = false := by decide +kernel
  unfold okM
  rw [h]
  exact ca_C_formulaAt
theorem ce_C_formulaSize : okM q_C_formulaSize := by
  have h : iniM q_C_formulaSize = false := by decide +kernel
  unfold okM
  rw [h]
  exact ca_C_formulaSize
theorem ce_C_substitute : okM q_C_substitute := by
  have h : iniM q_C_substitute = false := by decide +kernel
  unfold okM
  rw [h]
  exact ca_C_substitute
theorem ce_C_isVariable : okM q_C_isVariable := by
  have h : iniM q_C_isVariable = false := by decide +kernel
  unfold okM
  rw [h]
  exact ca_C_isVariable
theorem ce_C_draftSubstitution : okM q_C_draftSubstitution := by
  have h : iniM q_C_draftSubstitution = false := by decide +kernel
  unfold okM
  rw [h]
  exact ca_C_draftSubstitution
theorem ce_C_setValue : okM q_C_setValue := by
  have h : iniM q_C_setValue = false := by decide +kernel
  unfold okM
  rw [h]
  exact ca_C_setValue
theorem ce_C_value : okM q_C_value := by
  have h : iniM q_C_value = false := by decide +kernel
  unfold okM
  rw [h]
  exact ca_C_value
theorem ce_C_isForced : okM q_C_isForced := by
  have h : iniM q_C_isForced = false := by decide +kernel
  unfold okM
  rw [h]
  exact ca_C_isForced
theorem ce_C_isValid : okM q_C_isValid := by
  have h : iniM q_C_isValid = false := by decide +kernel
  unfold okM
  rw [h]
  exact ca_C_isValid
theorem ce_C_refusalToSearch : okM q_C_refusalToSearch := by
  have h : iniM q_C_refusalToSearch = false := by decide +kernel
  unfold okM
  rw [h]
  exact ca_C_refusalToSearch
theorem ce_C_refutation : okM q_C_refutation := by
  have h : iniM q_C_refutation = false := by decide +kernel
  unfold okM
  rw [h]
  exact ca_C_refutation
theorem ce_C_countValuations : okM q_C_countValuations := by
  have h : iniM q_C_countValuations = false := by decide +kernel
  unfold okM
  rw [h]
  exact ca_C_countValuations
theorem ce_C_filterClass : okM q_C_filterClass := by
  have h : iniM q_C_filterClass = false := by decide +kernel
  unfold okM
  rw [h]
  exact ca_C_filterClass
theorem ce_C_quotientSize : okM q_C_quotientSize := by
  have h : iniM q_C_quotientSize = false := by decide +kernel
  unfold okM
  rw [h]
  exact ca_C_quotientSize
theorem ce_C_isPrime : okM q_C_isPrime := by
  have h : iniM q_C_isPrime = false := by decide +kernel
  unfold okM
  rw [h]
  exact ca_C_isPrime
theorem ce_C_addGenerator : okM q_C_addGenerator := by
  have h : iniM q_C_addGenerator = false := by decide +kernel
  unfold okM
  rw [h]
  exact ca_C_addGenerator
theorem ce_C_clearGenerators : okM q_C_clearGenerators := by
  have h : iniM q_C_clearGenerators = false := by decide +kernel
  unfold okM
  rw [h]
  exact ca_C_clearGenerators
theorem ce_C_generate : okM q_C_generate := by
  have h : iniM q_C_generate = false := by decide +kernel
  unfold okM
  rw [h]
  exact ca_C_generate
theorem ce_C_term : okM q_C_term := by
  have h : iniM q_C_term = false := by decide +kernel
  unfold okM
  rw [h]
  exact ca_C_term
theorem ce_C_countMaps : okM q_C_countMaps := by
  have h : iniM q_C_countMaps = false := by decide +kernel
  unfold okM
  rw [h]
  exact ca_C_countMaps
theorem ce_C_searchMaps : okM q_C_searchMaps := by
  have h : iniM q_C_searchMaps = false := by decide +kernel
  unfold okM
  rw [h]
  exact ca_C_searchMaps
theorem ce_C_firstMap : okM q_C_firstMap := by
  have h : iniM q_C_firstMap = false := by decide +kernel
  unfold okM
  rw [h]
  exact ca_C_firstMap
theorem ce_C_isIsomorphic : okM q_C_isIsomorphic := by
  have h : iniM q_C_isIsomorphic = false := by decide +kernel
  unfold okM
  rw [h]
  exact ca_C_isIsomorphic
theorem ce_C_sum : okM q_C_sum := by
  have h : iniM q_C_sum = false := by decide +kernel
  unfold okM
  rw [h]
  exact ca_C_sum
theorem ce_C_product : okM q_C_product := by
  have h : iniM q_C_product = false := by decide +kernel
  unfold okM
  rw [h]
  exact ca_C_product
theorem ce_C_pairsAbove : okM q_C_pairsAbove := by
  have h : iniM q_C_pairsAbove = false := by decide +kernel
  unfold okM
  rw [h]
  exact ca_C_pairsAbove
theorem ce_C_restrict : okM q_C_restrict := by
  have h : iniM q_C_restrict = false := by decide +kernel
  unfold okM
  rw [h]
  exact ca_C_restrict
theorem ce_C_renumbered : okM q_C_renumbered := by
  have h : iniM q_C_renumbered = false := by decide +kernel
  unfold okM
  rw [h]
  exact ca_C_renumbered
theorem ce_C_dual : okM q_C_dual := by
  have h : iniM q_C_dual = false := by decide +kernel
  unfold okM
  rw [h]
  exact ca_C_dual
theorem ce_C_allocate : okM q_C_allocate := by
  have h : iniM q_C_allocate = false := by decide +kernel
  unfold okM
  rw [h]
  exact ca_C_allocate
theorem ce_C_rowAt : okM q_C_rowAt := by
  have h : iniM q_C_rowAt = false := by decide +kernel
  unfold okM
  rw [h]
  exact ca_C_rowAt
theorem ce_C_put : okM q_C_put := by
  have h : iniM q_C_put = false := by decide +kernel
  unfold okM
  rw [h]
  exact ca_C_put
theorem ce_C_rowElement : okM q_C_rowElement := by
  have h : iniM q_C_rowElement = false := by decide +kernel
  unfold okM
  rw [h]
  exact ca_C_rowElement
theorem ce_C_copyElements : okM q_C_copyElements := by
  have h : iniM q_C_copyElements = false := by decide +kernel
  unfold okM
  rw [h]
  exact ca_C_copyElements
theorem ce_C_storeElements : okM q_C_storeElements := by
  have h : iniM q_C_storeElements = false := by decide +kernel
  unfold okM
  rw [h]
  exact ca_C_storeElements
theorem ce_C_loadOrder : okM q_C_loadOrder := by
  have h : iniM q_C_loadOrder = false := by decide +kernel
  unfold okM
  rw [h]
  exact ca_C_loadOrder
theorem ce_C_failure : okM q_C_failure := by
  have h : iniM q_C_failure = false := by decide +kernel
  unfold okM
  rw [h]
  exact ca_C_failure
theorem ce_M_init : okM q_M_init := by
  have h : iniM q_M_init = true := by decide +kernel
  unfold okM
  rw [h]
  exact ca_M_init
theorem ce_M_empties : okM q_M_empties := by
  have h : iniM q_M_empties = false := by decide +kernel
  unfold okM
  rw [h]
  exact ca_M_empties
theorem ce_M_unvalues : okM q_M_unvalues := by
  have h : iniM q_M_unvalues = false := by decide +kernel
  unfold okM
  rw [h]
  exact ca_M_unvalues
theorem ce_M_reset : okM q_M_reset := by
  have h : iniM q_M_reset = false := by decide +kernel
  unfold okM
  rw [h]
  exact ca_M_reset
theorem ce_M_isPoset : okM q_M_isPoset := by
  have h : iniM q_M_isPoset = false := by decide +kernel
  unfold okM
  rw [h]
  exact ca_M_isPoset
theorem ce_M_isBetween : okM q_M_isBetween := by
  have h : iniM q_M_isBetween = false := by decide +kernel
  unfold okM
  rw [h]
  exact ca_M_isBetween
theorem ce_M_points : okM q_M_points := by
  have h : iniM q_M_points = false := by decide +kernel
  unfold okM
  rw [h]
  exact ca_M_points
theorem ce_M_relate : okM q_M_relate := by
  have h : iniM q_M_relate = false := by decide +kernel
  unfold okM
  rw [h]
  exact ca_M_relate
theorem ce_M_isPoint : okM q_M_isPoint := by
  have h : iniM q_M_isPoint = false := by decide +kernel
  unfold okM
  rw [h]
  exact ca_M_isPoint
theorem ce_M_isLess : okM q_M_isLess := by
  have h : iniM q_M_isLess = false := by decide +kernel
  unfold okM
  rw [h]
  exact ca_M_isLess
theorem ce_M_pairs : okM q_M_pairs := by
  have h : iniM q_M_pairs = false := by decide +kernel
  unfold okM
  rw [h]
  exact ca_M_pairs
theorem ce_M_bits : okM q_M_bits := by
  have h : iniM q_M_bits = false := by decide +kernel
  unfold okM
  rw [h]
  exact ca_M_bits
theorem ce_M_isBelow : okM q_M_isBelow := by
  have h : iniM q_M_isBelow = false := by decide +kernel
  unfold okM
  rw [h]
  exact ca_M_isBelow
theorem ce_M_covers : okM q_M_covers := by
  have h : iniM q_M_covers = false := by decide +kernel
  unfold okM
  rw [h]
  exact ca_M_covers
theorem ce_M_property : okM q_M_property := by
  have h : iniM q_M_property = false := by decide +kernel
  unfold okM
  rw [h]
  exact ca_M_property
theorem ce_M_largest : okM q_M_largest := by
  have h : iniM q_M_largest = false := by decide +kernel
  unfold okM
  rw [h]
  exact ca_M_largest
theorem ce_M_allOf : okM q_M_allOf := by
  have h : iniM q_M_allOf = false := by decide +kernel
  unfold okM
  rw [h]
  exact ca_M_allOf
theorem ce_M_areRelated : okM q_M_areRelated := by
  have h : iniM q_M_areRelated = false := by decide +kernel
  unfold okM
  rw [h]
  exact ca_M_areRelated
theorem ce_M_ends : okM q_M_ends := by
  have h : iniM q_M_ends = false := by decide +kernel
  unfold okM
  rw [h]
  exact ca_M_ends
theorem ce_M_components : okM q_M_components := by
  have h : iniM q_M_components = false := by decide +kernel
  unfold okM
  rw [h]
  exact ca_M_components
theorem ce_M_elementCount : okM q_M_elementCount := by
  have h : iniM q_M_elementCount = false := by decide +kernel
  unfold okM
  rw [h]
  exact ca_M_elementCount
theorem ce_M_isFound : okM q_M_isFound := by
  have h : iniM q_M_isFound = false := by decide +kernel
  unfold okM
  rw [h]
  exact ca_M_isFound
theorem ce_M_finds : okM q_M_finds := by
  have h : iniM q_M_finds = false := by decide +kernel
  unfold okM
  rw [h]
  exact ca_M_finds
theorem ce_M_isUpSet : okM q_M_isUpSet := by
  have h : iniM q_M_isUpSet = false := by decide +kernel
  unfold okM
  rw [h]
  exact ca_M_isUpSet
theorem ce_M_elementBits : okM q_M_elementBits := by
  have h : iniM q_M_elementBits = false := by decide +kernel
  unfold okM
  rw [h]
  exact ca_M_elementBits
theorem ce_M_isElement : okM q_M_isElement := by
  have h : iniM q_M_isElement = false := by decide +kernel
  unfold okM
  rw [h]
  exact ca_M_isElement
theorem ce_M_elementOf : okM q_M_elementOf := by
  have h : iniM q_M_elementOf = false := by decide +kernel
  unfold okM
  rw [h]
  exact ca_M_elementOf
theorem ce_M_meet : okM q_M_meet := by
  have h : iniM q_M_meet = false := by decide +kernel
  unfold okM
  rw [h]
  exact ca_M_meet
theorem ce_M_areElements : okM q_M_areElements := by
  have h : iniM q_M_areElements = false := by decide +kernel
  unfold okM
  rw [h]
  exact ca_M_areElements
theorem ce_M_join : okM q_M_join := by
  have h : iniM q_M_join = false := by decide +kernel
  unfold okM
  rw [h]
  exact ca_M_join
theorem ce_M_implies : okM q_M_implies := by
  have h : iniM q_M_implies = false := by decide +kernel
  unfold okM
  rw [h]
  exact ca_M_implies
theorem ce_M_impliedBits : okM q_M_impliedBits := by
  have h : iniM q_M_impliedBits = false := by decide +kernel
  unfold okM
  rw [h]
  exact ca_M_impliedBits
theorem ce_M_append : okM q_M_append := by
  have h : iniM q_M_append = false := by decide +kernel
  unfold okM
  rw [h]
  exact ca_M_append
theorem ce_M_clearText : okM q_M_clearText := by
  have h : iniM q_M_clearText = false := by decide +kernel
  unfold okM
  rw [h]
  exact ca_M_clearText
theorem ce_M_parse : okM q_M_parse := by
  have h : iniM q_M_parse = false := by decide +kernel
  unfold okM
  rw [h]
  exact ca_M_parse
theorem ce_M_isFormula : okM q_M_isFormula := by
  have h : iniM q_M_isFormula = false := by decide +kernel
  unfold okM
  rw [h]
  exact ca_M_isFormula
theorem ce_M_takesText : okM q_M_takesText := by
  have h : iniM q_M_takesText = false := by decide +kernel
  unfold okM
  rw [h]
  exact ca_M_takesText
theorem ce_M_takesFactor : okM q_M_takesFactor := by
  have h : iniM q_M_takesFactor = false := by decide +kernel
  unfold okM
  rw [h]
  exact ca_M_takesFactor
theorem ce_M_next : okM q_M_next := by
  have h : iniM q_M_next = false := by decide +kernel
  unfold okM
  rw [h]
  exact ca_M_next
theorem ce_M_atomOf : okM q_M_atomOf := by
  have h : iniM q_M_atomOf = false := by decide +kernel
  unfold okM
  rw [h]
  exact ca_M_atomOf
theorem ce_M_makes : okM q_M_makes := by
  have h : iniM q_M_makes = false := by decide +kernel
  unfold okM
  rw [h]
  exact ca_M_makes
theorem ce_M_makesFrom : okM q_M_makesFrom := by
  have h : iniM q_M_makesFrom = false := by decide +kernel
  unfold okM
  rw [h]
  exact ca_M_makesFrom
theorem ce_M_closes : okM q_M_closes := by
  have h : iniM q_M_closes = false := by decide +kernel
  unfold okM
  rw [h]
  exact ca_M_closes
theorem ce_M_hasParen : okM q_M_hasParen := by
  have h : iniM q_M_hasParen = false := by decide +kernel
  unfold okM
  rw [h]
  exact ca_M_hasParen
theorem ce_M_deedOf : okM q_M_deedOf := by
  have h : iniM q_M_deedOf = false := by decide +kernel
  unfold okM
  rw [h]
  exact ca_M_deedOf
theorem ce_M_stores : okM q_M_stores := by
  have h : iniM q_M_stores = false := by decide +kernel
  unfold okM
  rw [h]
  exact ca_M_stores
theorem ce_M_formulaSize : okM q_M_formulaSize := by
  have h : iniM q_M_formulaSize = false := by decide +kernel
  unfold okM
  rw [h]
  exact ca_M_formulaSize
theorem ce_M_substitute : okM q_M_substitute := by
  have h : iniM q_M_substitute = false := by decide +kernel
  unfold okM
  rw [h]
  exact ca_M_substitute
theorem ce_M_isVariable : okM q_M_isVariable := by
  have h : iniM q_M_isVariable = false := by decide +kernel
  unfold okM
  rw [h]
  exact ca_M_isVariable
theorem ce_M_setValue : okM q_M_setValue := by
  have h : iniM q_M_setValue = false := by decide +kernel
  unfold okM
  rw [h]
  exact ca_M_setValue
theorem ce_M_value : okM q_M_value := by
  have h : iniM q_M_value = false := by decide +kernel
  unfold okM
  rw [h]
  exact ca_M_value
theorem ce_M_presentBits : okM q_M_presentBits := by
  have h : iniM q_M_presentBits = false := by decide +kernel
  unfold okM
  rw [h]
  exact ca_M_presentBits
theorem ce_M_valueBits : okM q_M_valueBits := by
  have h : iniM q_M_valueBits = false := by decide +kernel
  unfold okM
  rw [h]
  exact ca_M_valueBits
theorem ce_M_isForced : okM q_M_isForced := by
  have h : iniM q_M_isForced = false := by decide +kernel
  unfold okM
  rw [h]
  exact ca_M_isForced
theorem ce_M_isValid : okM q_M_isValid := by
  have h : iniM q_M_isValid = false := by decide +kernel
  unfold okM
  rw [h]
  exact ca_M_isValid
theorem ce_M_notAsked : okM q_M_notAsked := by
  have h : iniM q_M_notAsked = false := by decide +kernel
  unfold okM
  rw [h]
  exact ca_M_notAsked
theorem ce_M_countsValuations : okM q_M_countsValuations := by
  have h : iniM q_M_countsValuations = false := by decide +kernel
  unfold okM
  rw [h]
  exact ca_M_countsValuations
theorem ce_M_variablesOf : okM q_M_variablesOf := by
  have h : iniM q_M_variablesOf = false := by decide +kernel
  unfold okM
  rw [h]
  exact ca_M_variablesOf
theorem ce_M_refuting : okM q_M_refuting := by
  have h : iniM q_M_refuting = false := by decide +kernel
  unfold okM
  rw [h]
  exact ca_M_refuting
theorem ce_M_bitsBy : okM q_M_bitsBy := by
  have h : iniM q_M_bitsBy = false := by decide +kernel
  unfold okM
  rw [h]
  exact ca_M_bitsBy
theorem ce_M_elementIn : okM q_M_elementIn := by
  have h : iniM q_M_elementIn = false := by decide +kernel
  unfold okM
  rw [h]
  exact ca_M_elementIn
theorem ce_M_refutation : okM q_M_refutation := by
  have h : iniM q_M_refutation = false := by decide +kernel
  unfold okM
  rw [h]
  exact ca_M_refutation
theorem ce_M_countValuations : okM q_M_countValuations := by
  have h : iniM q_M_countValuations = false := by decide +kernel
  unfold okM
  rw [h]
  exact ca_M_countValuations
theorem ce_M_filterClass : okM q_M_filterClass := by
  have h : iniM q_M_filterClass = false := by decide +kernel
  unfold okM
  rw [h]
  exact ca_M_filterClass
theorem ce_M_quotientSize : okM q_M_quotientSize := by
  have h : iniM q_M_quotientSize = false := by decide +kernel
  unfold okM
  rw [h]
  exact ca_M_quotientSize
theorem ce_M_isPrime : okM q_M_isPrime := by
  have h : iniM q_M_isPrime = false := by decide +kernel
  unfold okM
  rw [h]
  exact ca_M_isPrime
theorem ce_M_addGenerator : okM q_M_addGenerator := by
  have h : iniM q_M_addGenerator = false := by decide +kernel
  unfold okM
  rw [h]
  exact ca_M_addGenerator
theorem ce_M_clearGenerators : okM q_M_clearGenerators := by
  have h : iniM q_M_clearGenerators = false := by decide +kernel
  unfold okM
  rw [h]
  exact ca_M_clearGenerators
theorem ce_M_generate : okM q_M_generate := by
  have h : iniM q_M_generate = false := by decide +kernel
  unfold okM
  rw [h]
  exact ca_M_generate
theorem ce_M_lowers : okM q_M_lowers := by
  have h : iniM q_M_lowers = false := by decide +kernel
  unfold okM
  rw [h]
  exact ca_M_lowers
theorem ce_M_done : okM q_M_done := by
  have h : iniM q_M_done = false := by decide +kernel
  unfold okM
  rw [h]
  exact ca_M_done
theorem ce_M_findsSteps : okM q_M_findsSteps := by
  have h : iniM q_M_findsSteps = false := by decide +kernel
  unfold okM
  rw [h]
  exact ca_M_findsSteps
theorem ce_M_term : okM q_M_term := by
  have h : iniM q_M_term = false := by decide +kernel
  unfold okM
  rw [h]
  exact ca_M_term
theorem ce_M_countMaps : okM q_M_countMaps := by
  have h : iniM q_M_countMaps = false := by decide +kernel
  unfold okM
  rw [h]
  exact ca_M_countMaps
theorem ce_M_mapsOf : okM q_M_mapsOf := by
  have h : iniM q_M_mapsOf = false := by decide +kernel
  unfold okM
  rw [h]
  exact ca_M_mapsOf
theorem ce_M_isOfKind : okM q_M_isOfKind := by
  have h : iniM q_M_isOfKind = false := by decide +kernel
  unfold okM
  rw [h]
  exact ca_M_isOfKind
theorem ce_M_keepsOrder : okM q_M_keepsOrder := by
  have h : iniM q_M_keepsOrder = false := by decide +kernel
  unfold okM
  rw [h]
  exact ca_M_keepsOrder
theorem ce_M_isBounded : okM q_M_isBounded := by
  have h : iniM q_M_isBounded = false := by decide +kernel
  unfold okM
  rw [h]
  exact ca_M_isBounded
theorem ce_M_reachesAll : okM q_M_reachesAll := by
  have h : iniM q_M_reachesAll = false := by decide +kernel
  unfold okM
  rw [h]
  exact ca_M_reachesAll
theorem ce_M_reflectsOrder : okM q_M_reflectsOrder := by
  have h : iniM q_M_reflectsOrder = false := by decide +kernel
  unfold okM
  rw [h]
  exact ca_M_reflectsOrder
theorem ce_M_firstMap : okM q_M_firstMap := by
  have h : iniM q_M_firstMap = false := by decide +kernel
  unfold okM
  rw [h]
  exact ca_M_firstMap
theorem ce_M_isIsomorphic : okM q_M_isIsomorphic := by
  have h : iniM q_M_isIsomorphic = false := by decide +kernel
  unfold okM
  rw [h]
  exact ca_M_isIsomorphic
theorem ce_M_sum : okM q_M_sum := by
  have h : iniM q_M_sum = false := by decide +kernel
  unfold okM
  rw [h]
  exact ca_M_sum
theorem ce_M_settles : okM q_M_settles := by
  have h : iniM q_M_settles = false := by decide +kernel
  unfold okM
  rw [h]
  exact ca_M_settles
theorem ce_M_product : okM q_M_product := by
  have h : iniM q_M_product = false := by decide +kernel
  unfold okM
  rw [h]
  exact ca_M_product
theorem ce_M_restrict : okM q_M_restrict := by
  have h : iniM q_M_restrict = false := by decide +kernel
  unfold okM
  rw [h]
  exact ca_M_restrict
theorem ce_M_dual : okM q_M_dual := by
  have h : iniM q_M_dual = false := by decide +kernel
  unfold okM
  rw [h]
  exact ca_M_dual
theorem ce_M_allocate : okM q_M_allocate := by
  have h : iniM q_M_allocate = false := by decide +kernel
  unfold okM
  rw [h]
  exact ca_M_allocate
theorem ce_M_isRow : okM q_M_isRow := by
  have h : iniM q_M_isRow = false := by decide +kernel
  unfold okM
  rw [h]
  exact ca_M_isRow
theorem ce_M_put : okM q_M_put := by
  have h : iniM q_M_put = false := by decide +kernel
  unfold okM
  rw [h]
  exact ca_M_put
theorem ce_M_puts : okM q_M_puts := by
  have h : iniM q_M_puts = false := by decide +kernel
  unfold okM
  rw [h]
  exact ca_M_puts
theorem ce_M_rowElement : okM q_M_rowElement := by
  have h : iniM q_M_rowElement = false := by decide +kernel
  unfold okM
  rw [h]
  exact ca_M_rowElement
theorem ce_M_copyElements : okM q_M_copyElements := by
  have h : iniM q_M_copyElements = false := by decide +kernel
  unfold okM
  rw [h]
  exact ca_M_copyElements
theorem ce_M_storeElements : okM q_M_storeElements := by
  have h : iniM q_M_storeElements = false := by decide +kernel
  unfold okM
  rw [h]
  exact ca_M_storeElements
theorem ce_M_loadOrder : okM q_M_loadOrder := by
  have h : iniM q_M_loadOrder = false := by decide +kernel
  unfold okM
  rw [h]
  exact ca_M_loadOrder
theorem ce_M_failure : okM q_M_failure := by
  have h : iniM q_M_failure = false := by decide +kernel
  unfold okM
  rw [h]
  exact ca_M_failure
theorem ce_I_bitCount : okM q_I_bitCount := by
  have h : iniM q_I_bitCount = false := by decide +kernel
  unfold okM
  rw [h]
  exact ca_I_bitCount
theorem ce_L_law : okM q_L_law := by
  have h : iniM q_L_law = false := by decide +kernel
  unfold okM
  rw [h]
  exact ca_L_law
theorem cg_0 : ∀ q ∈ [q_F_init, q_F_replaceSigns, q_F_isMissing, q_F_occurrences, q_F_currentBits, q_F_bitsOfValue, q_F_joined, q_F_valuations, q_F_choices, q_F_firstRefutation, q_F_unpack, q_F_valuationsWith, q_S_init, q_S_countIfAccepted, q_S_isBounded, q_S_imagesOf, q_S_fitsEarlier, q_S_fitsOneWay, q_S_digits, q_P_init, q_P_refresh, q_P_findDownSets, q_P_pointsBelow, q_P_below, q_P_findElements], okM q := List.forall_mem_cons.mpr ⟨ce_F_init, List.forall_mem_cons.mpr ⟨ce_F_replaceSigns, List.forall_mem_cons.mpr ⟨ce_F_isMissing, List.forall_mem_cons.mpr ⟨ce_F_occurrences, List.forall_mem_cons.mpr ⟨ce_F_currentBits, List.forall_mem_cons.mpr ⟨ce_F_bitsOfValue, List.forall_mem_cons.mpr ⟨ce_F_joined, List.forall_mem_cons.mpr ⟨ce_F_valuations, List.forall_mem_cons.mpr ⟨ce_F_choices, List.forall_mem_cons.mpr ⟨ce_F_firstRefutation, List.forall_mem_cons.mpr ⟨ce_F_unpack, List.forall_mem_cons.mpr ⟨ce_F_valuationsWith, List.forall_mem_cons.mpr ⟨ce_S_init, List.forall_mem_cons.mpr ⟨ce_S_countIfAccepted, List.forall_mem_cons.mpr ⟨ce_S_isBounded, List.forall_mem_cons.mpr ⟨ce_S_imagesOf, List.forall_mem_cons.mpr ⟨ce_S_fitsEarlier, List.forall_mem_cons.mpr ⟨ce_S_fitsOneWay, List.forall_mem_cons.mpr ⟨ce_S_digits, List.forall_mem_cons.mpr ⟨ce_P_init, List.forall_mem_cons.mpr ⟨ce_P_refresh, List.forall_mem_cons.mpr ⟨ce_P_findDownSets, List.forall_mem_cons.mpr ⟨ce_P_pointsBelow, List.forall_mem_cons.mpr ⟨ce_P_below, List.forall_mem_cons.mpr ⟨ce_P_findElements, fun _ h => absurd h List.not_mem_nil⟩⟩⟩⟩⟩⟩⟩⟩⟩⟩⟩⟩⟩⟩⟩⟩⟩⟩⟩⟩⟩⟩⟩⟩⟩
theorem cg_25 : ∀ q ∈ [q_P_allPoints, q_P_numberSet, q_P_replaceOrder, q_P_extendOrder, q_P_hasPoint, q_P_properPairs, q_P_greaterPoints, q_P_coversOf, q_P_largestChain, q_P_isChain, q_P_relatedPoints, q_P_largestAntichain, q_P_isAntichain, q_P_minimalPoints, q_P_maximalPoints, q_P_components, q_P_componentOf, q_P_hasElement, q_P_resultOf, q_P_implication, q_P_elementsWithin, q_P_hasLeastPoint, q_R_init, q_R_replaceRow, q_R_isMissing], okM q := List.forall_mem_cons.mpr ⟨ce_P_allPoints, List.forall_mem_cons.mpr ⟨ce_P_numberSet, List.forall_mem_cons.mpr ⟨ce_P_replaceOrder, List.forall_mem_cons.mpr ⟨ce_P_extendOrder, List.forall_mem_cons.mpr ⟨ce_P_hasPoint, List.forall_mem_cons.mpr ⟨ce_P_properPairs, List.forall_mem_cons.mpr ⟨ce_P_greaterPoints, List.forall_mem_cons.mpr ⟨ce_P_coversOf, List.forall_mem_cons.mpr ⟨ce_P_largestChain, List.forall_mem_cons.mpr ⟨ce_P_isChain, List.forall_mem_cons.mpr ⟨ce_P_relatedPoints, List.forall_mem_cons.mpr ⟨ce_P_largestAntichain, List.forall_mem_cons.mpr ⟨ce_P_isAntichain, List.forall_mem_cons.mpr ⟨ce_P_minimalPoints, List.forall_mem_cons.mpr ⟨ce_P_maximalPoints, List.forall_mem_cons.mpr ⟨ce_P_components, List.forall_mem_cons.mpr ⟨ce_P_componentOf, List.forall_mem_cons.mpr ⟨ce_P_hasElement, List.forall_mem_cons.mpr ⟨ce_P_resultOf, List.forall_mem_cons.mpr ⟨ce_P_implication, List.forall_mem_cons.mpr ⟨ce_P_elementsWithin, List.forall_mem_cons.mpr ⟨ce_P_hasLeastPoint, List.forall_mem_cons.mpr ⟨ce_R_init, List.forall_mem_cons.mpr ⟨ce_R_replaceRow, List.forall_mem_cons.mpr ⟨ce_R_isMissing, fun _ h => absurd h List.not_mem_nil⟩⟩⟩⟩⟩⟩⟩⟩⟩⟩⟩⟩⟩⟩⟩⟩⟩⟩⟩⟩⟩⟩⟩⟩⟩
theorem cg_50 : ∀ q ∈ [q_R_hasIndex, q_R_narrowed, q_R_hasRange, q_A_init, q_A_start, q_A_findCosts, q_A_cheapestLeft, q_A_offerAll, q_A_offer, q_A_findSteps, q_A_noteStep, q_T_init, q_T_readFormula, q_T_takeInFactor, q_T_leafOf, q_T_emit, q_T_endFactor, q_T_hold, q_T_takeBehindFactor, q_T_closeParenthesis, q_T_releaseAbove, q_T_operatorOf, q_C_init, q_C_reset, q_C_posetAt], okM q := List.forall_mem_cons.mpr ⟨ce_R_hasIndex, List.forall_mem_cons.mpr ⟨ce_R_narrowed, List.forall_mem_cons.mpr ⟨ce_R_hasRange, List.forall_mem_cons.mpr ⟨ce_A_init, List.forall_mem_cons.mpr ⟨ce_A_start, List.forall_mem_cons.mpr ⟨ce_A_findCosts, List.forall_mem_cons.mpr ⟨ce_A_cheapestLeft, List.forall_mem_cons.mpr ⟨ce_A_offerAll, List.forall_mem_cons.mpr ⟨ce_A_offer, List.forall_mem_cons.mpr ⟨ce_A_findSteps, List.forall_mem_cons.mpr ⟨ce_A_noteStep, List.forall_mem_cons.mpr ⟨ce_T_init, List.forall_mem_cons.mpr ⟨ce_T_readFormula, List.forall_mem_cons.mpr ⟨ce_T_takeInFactor, List.forall_mem_cons.mpr ⟨ce_T_leafOf, List.forall_mem_cons.mpr ⟨ce_T_emit, List.forall_mem_cons.mpr ⟨ce_T_endFactor, List.forall_mem_cons.mpr ⟨ce_T_hold, List.forall_mem_cons.mpr ⟨ce_T_takeBehindFactor, List.forall_mem_cons.mpr ⟨ce_T_closeParenthesis, List.forall_mem_cons.mpr ⟨ce_T_releaseAbove, List.forall_mem_cons.mpr ⟨ce_T_operatorOf, List.forall_mem_cons.mpr ⟨ce_C_init, List.forall_mem_cons.mpr ⟨ce_C_reset, List.forall_mem_cons.mpr ⟨ce_C_posetAt, fun _ h => absurd h List.not_mem_nil⟩⟩⟩⟩⟩⟩⟩⟩⟩⟩⟩⟩⟩⟩⟩⟩⟩⟩⟩⟩⟩⟩⟩⟩⟩
theorem cg_75 : ∀ q ∈ [q_C_points, q_C_relate, q_C_isBelow, q_C_covers, q_C_property, q_C_elementCount, q_C_elementBits, q_C_elementOf, q_C_meet, q_C_combine, q_C_join, q_C_implies, q_C_append, q_C_clearText, q_C_parse, q_C_formulaAt, q_C_formulaSize, q_C_substitute, q_C_isVariable, q_C_draftSubstitution, q_C_setValue, q_C_value, q_C_isForced, q_C_isValid, q_C_refusalToSearch], okM q := List.forall_mem_cons.mpr ⟨ce_C_points, List.forall_mem_cons.mpr ⟨ce_C_relate, List.forall_mem_cons.mpr ⟨ce_C_isBelow, List.forall_mem_cons.mpr ⟨ce_C_covers, List.forall_mem_cons.mpr ⟨ce_C_property, List.forall_mem_cons.mpr ⟨ce_C_elementCount, List.forall_mem_cons.mpr ⟨ce_C_elementBits, List.forall_mem_cons.mpr ⟨ce_C_elementOf, List.forall_mem_cons.mpr ⟨ce_C_meet, List.forall_mem_cons.mpr ⟨ce_C_combine, List.forall_mem_cons.mpr ⟨ce_C_join, List.forall_mem_cons.mpr ⟨ce_C_implies, List.forall_mem_cons.mpr ⟨ce_C_append, List.forall_mem_cons.mpr ⟨ce_C_clearText, List.forall_mem_cons.mpr ⟨ce_C_parse, List.forall_mem_cons.mpr ⟨ce_C_formulaAt, List.forall_mem_cons.mpr ⟨ce_C_formulaSize, List.forall_mem_cons.mpr ⟨ce_C_substitute, List.forall_mem_cons.mpr ⟨ce_C_isVariable, List.forall_mem_cons.mpr ⟨ce_C_draftSubstitution, List.forall_mem_cons.mpr ⟨ce_C_setValue, List.forall_mem_cons.mpr ⟨ce_C_value, List.forall_mem_cons.mpr ⟨ce_C_isForced, List.forall_mem_cons.mpr ⟨ce_C_isValid, List.forall_mem_cons.mpr ⟨ce_C_refusalToSearch, fun _ h => absurd h List.not_mem_nil⟩⟩⟩⟩⟩⟩⟩⟩⟩⟩⟩⟩⟩⟩⟩⟩⟩⟩⟩⟩⟩⟩⟩⟩⟩
theorem cg_100 : ∀ q ∈ [q_C_refutation, q_C_countValuations, q_C_filterClass, q_C_quotientSize, q_C_isPrime, q_C_addGenerator, q_C_clearGenerators, q_C_generate, q_C_term, q_C_countMaps, q_C_searchMaps, q_C_firstMap, q_C_isIsomorphic, q_C_sum, q_C_product, q_C_pairsAbove, q_C_restrict, q_C_renumbered, q_C_dual, q_C_allocate, q_C_rowAt, q_C_put, q_C_rowElement, q_C_copyElements, q_C_storeElements], okM q := List.forall_mem_cons.mpr ⟨ce_C_refutation, List.forall_mem_cons.mpr ⟨ce_C_countValuations, List.forall_mem_cons.mpr ⟨ce_C_filterClass, List.forall_mem_cons.mpr ⟨ce_C_quotientSize, List.forall_mem_cons.mpr ⟨ce_C_isPrime, List.forall_mem_cons.mpr ⟨ce_C_addGenerator, List.forall_mem_cons.mpr ⟨ce_C_clearGenerators, List.forall_mem_cons.mpr ⟨ce_C_generate, List.forall_mem_cons.mpr ⟨ce_C_term, List.forall_mem_cons.mpr ⟨ce_C_countMaps, List.forall_mem_cons.mpr ⟨ce_C_searchMaps, List.forall_mem_cons.mpr ⟨ce_C_firstMap, List.forall_mem_cons.mpr ⟨ce_C_isIsomorphic, List.forall_mem_cons.mpr ⟨ce_C_sum, List.forall_mem_cons.mpr ⟨ce_C_product, List.forall_mem_cons.mpr ⟨ce_C_pairsAbove, List.forall_mem_cons.mpr ⟨ce_C_restrict, List.forall_mem_cons.mpr ⟨ce_C_renumbered, List.forall_mem_cons.mpr ⟨ce_C_dual, List.forall_mem_cons.mpr ⟨ce_C_allocate, List.forall_mem_cons.mpr ⟨ce_C_rowAt, List.forall_mem_cons.mpr ⟨ce_C_put, List.forall_mem_cons.mpr ⟨ce_C_rowElement, List.forall_mem_cons.mpr ⟨ce_C_copyElements, List.forall_mem_cons.mpr ⟨ce_C_storeElements, fun _ h => absurd h List.not_mem_nil⟩⟩⟩⟩⟩⟩⟩⟩⟩⟩⟩⟩⟩⟩⟩⟩⟩⟩⟩⟩⟩⟩⟩⟩⟩
theorem cg_125 : ∀ q ∈ [q_C_loadOrder, q_C_failure, q_M_init, q_M_empties, q_M_unvalues, q_M_reset, q_M_isPoset, q_M_isBetween, q_M_points, q_M_relate, q_M_isPoint, q_M_isLess, q_M_pairs, q_M_bits, q_M_isBelow, q_M_covers, q_M_property, q_M_largest, q_M_allOf, q_M_areRelated, q_M_ends, q_M_components, q_M_elementCount, q_M_isFound, q_M_finds], okM q := List.forall_mem_cons.mpr ⟨ce_C_loadOrder, List.forall_mem_cons.mpr ⟨ce_C_failure, List.forall_mem_cons.mpr ⟨ce_M_init, List.forall_mem_cons.mpr ⟨ce_M_empties, List.forall_mem_cons.mpr ⟨ce_M_unvalues, List.forall_mem_cons.mpr ⟨ce_M_reset, List.forall_mem_cons.mpr ⟨ce_M_isPoset, List.forall_mem_cons.mpr ⟨ce_M_isBetween, List.forall_mem_cons.mpr ⟨ce_M_points, List.forall_mem_cons.mpr ⟨ce_M_relate, List.forall_mem_cons.mpr ⟨ce_M_isPoint, List.forall_mem_cons.mpr ⟨ce_M_isLess, List.forall_mem_cons.mpr ⟨ce_M_pairs, List.forall_mem_cons.mpr ⟨ce_M_bits, List.forall_mem_cons.mpr ⟨ce_M_isBelow, List.forall_mem_cons.mpr ⟨ce_M_covers, List.forall_mem_cons.mpr ⟨ce_M_property, List.forall_mem_cons.mpr ⟨ce_M_largest, List.forall_mem_cons.mpr ⟨ce_M_allOf, List.forall_mem_cons.mpr ⟨ce_M_areRelated, List.forall_mem_cons.mpr ⟨ce_M_ends, List.forall_mem_cons.mpr ⟨ce_M_components, List.forall_mem_cons.mpr ⟨ce_M_elementCount, List.forall_mem_cons.mpr ⟨ce_M_isFound, List.forall_mem_cons.mpr ⟨ce_M_finds, fun _ h => absurd h List.not_mem_nil⟩⟩⟩⟩⟩⟩⟩⟩⟩⟩⟩⟩⟩⟩⟩⟩⟩⟩⟩⟩⟩⟩⟩⟩⟩
theorem cg_150 : ∀ q ∈ [q_M_isUpSet, q_M_elementBits, q_M_isElement, q_M_elementOf, q_M_meet, q_M_areElements, q_M_join, q_M_implies, q_M_impliedBits, q_M_append, q_M_clearText, q_M_parse, q_M_isFormula, q_M_takesText, q_M_takesFactor, q_M_next, q_M_atomOf, q_M_makes, q_M_makesFrom, q_M_closes, q_M_hasParen, q_M_deedOf, q_M_stores, q_M_formulaSize, q_M_substitute], okM q := List.forall_mem_cons.mpr ⟨ce_M_isUpSet, List.forall_mem_cons.mpr ⟨ce_M_elementBits, List.forall_mem_cons.mpr ⟨ce_M_isElement, List.forall_mem_cons.mpr ⟨ce_M_elementOf, List.forall_mem_cons.mpr ⟨ce_M_meet, List.forall_mem_cons.mpr ⟨ce_M_areElements, List.forall_mem_cons.mpr ⟨ce_M_join, List.forall_mem_cons.mpr ⟨ce_M_implies, List.forall_mem_cons.mpr ⟨ce_M_impliedBits, List.forall_mem_cons.mpr ⟨ce_M_append, List.forall_mem_cons.mpr ⟨ce_M_clearText, List.forall_mem_cons.mpr ⟨ce_M_parse, List.forall_mem_cons.mpr ⟨ce_M_isFormula, List.forall_mem_cons.mpr ⟨ce_M_takesText, List.forall_mem_cons.mpr ⟨ce_M_takesFactor, List.forall_mem_cons.mpr ⟨ce_M_next, List.forall_mem_cons.mpr ⟨ce_M_atomOf, List.forall_mem_cons.mpr ⟨ce_M_makes, List.forall_mem_cons.mpr ⟨ce_M_makesFrom, List.forall_mem_cons.mpr ⟨ce_M_closes, List.forall_mem_cons.mpr ⟨ce_M_hasParen, List.forall_mem_cons.mpr ⟨ce_M_deedOf, List.forall_mem_cons.mpr ⟨ce_M_stores, List.forall_mem_cons.mpr ⟨ce_M_formulaSize, List.forall_mem_cons.mpr ⟨ce_M_substitute, fun _ h => absurd h List.not_mem_nil⟩⟩⟩⟩⟩⟩⟩⟩⟩⟩⟩⟩⟩⟩⟩⟩⟩⟩⟩⟩⟩⟩⟩⟩⟩
theorem cg_175 : ∀ q ∈ [q_M_isVariable, q_M_setValue, q_M_value, q_M_presentBits, q_M_valueBits, q_M_isForced, q_M_isValid, q_M_notAsked, q_M_countsValuations, q_M_variablesOf, q_M_refuting, q_M_bitsBy, q_M_elementIn, q_M_refutation, q_M_countValuations, q_M_filterClass, q_M_quotientSize, q_M_isPrime, q_M_addGenerator, q_M_clearGenerators, q_M_generate, q_M_lowers, q_M_done, q_M_findsSteps, q_M_term], okM q := List.forall_mem_cons.mpr ⟨ce_M_isVariable, List.forall_mem_cons.mpr ⟨ce_M_setValue, List.forall_mem_cons.mpr ⟨ce_M_value, List.forall_mem_cons.mpr ⟨ce_M_presentBits, List.forall_mem_cons.mpr ⟨ce_M_valueBits, List.forall_mem_cons.mpr ⟨ce_M_isForced, List.forall_mem_cons.mpr ⟨ce_M_isValid, List.forall_mem_cons.mpr ⟨ce_M_notAsked, List.forall_mem_cons.mpr ⟨ce_M_countsValuations, List.forall_mem_cons.mpr ⟨ce_M_variablesOf, List.forall_mem_cons.mpr ⟨ce_M_refuting, List.forall_mem_cons.mpr ⟨ce_M_bitsBy, List.forall_mem_cons.mpr ⟨ce_M_elementIn, List.forall_mem_cons.mpr ⟨ce_M_refutation, List.forall_mem_cons.mpr ⟨ce_M_countValuations, List.forall_mem_cons.mpr ⟨ce_M_filterClass, List.forall_mem_cons.mpr ⟨ce_M_quotientSize, List.forall_mem_cons.mpr ⟨ce_M_isPrime, List.forall_mem_cons.mpr ⟨ce_M_addGenerator, List.forall_mem_cons.mpr ⟨ce_M_clearGenerators, List.forall_mem_cons.mpr ⟨ce_M_generate, List.forall_mem_cons.mpr ⟨ce_M_lowers, List.forall_mem_cons.mpr ⟨ce_M_done, List.forall_mem_cons.mpr ⟨ce_M_findsSteps, List.forall_mem_cons.mpr ⟨ce_M_term, fun _ h => absurd h List.not_mem_nil⟩⟩⟩⟩⟩⟩⟩⟩⟩⟩⟩⟩⟩⟩⟩⟩⟩⟩⟩⟩⟩⟩⟩⟩⟩
theorem cg_200 : ∀ q ∈ [q_M_countMaps, q_M_mapsOf, q_M_isOfKind, q_M_keepsOrder, q_M_isBounded, q_M_reachesAll, q_M_reflectsOrder, q_M_firstMap, q_M_isIsomorphic, q_M_sum, q_M_settles, q_M_product, q_M_restrict, q_M_dual, q_M_allocate, q_M_isRow, q_M_put, q_M_puts, q_M_rowElement, q_M_copyElements, q_M_storeElements, q_M_loadOrder, q_M_failure, q_I_bitCount, q_L_law], okM q := List.forall_mem_cons.mpr ⟨ce_M_countMaps, List.forall_mem_cons.mpr ⟨ce_M_mapsOf, List.forall_mem_cons.mpr ⟨ce_M_isOfKind, List.forall_mem_cons.mpr ⟨ce_M_keepsOrder, List.forall_mem_cons.mpr ⟨ce_M_isBounded, List.forall_mem_cons.mpr ⟨ce_M_reachesAll, List.forall_mem_cons.mpr ⟨ce_M_reflectsOrder, List.forall_mem_cons.mpr ⟨ce_M_firstMap, List.forall_mem_cons.mpr ⟨ce_M_isIsomorphic, List.forall_mem_cons.mpr ⟨ce_M_sum, List.forall_mem_cons.mpr ⟨ce_M_settles, List.forall_mem_cons.mpr ⟨ce_M_product, List.forall_mem_cons.mpr ⟨ce_M_restrict, List.forall_mem_cons.mpr ⟨ce_M_dual, List.forall_mem_cons.mpr ⟨ce_M_allocate, List.forall_mem_cons.mpr ⟨ce_M_isRow, List.forall_mem_cons.mpr ⟨ce_M_put, List.forall_mem_cons.mpr ⟨ce_M_puts, List.forall_mem_cons.mpr ⟨ce_M_rowElement, List.forall_mem_cons.mpr ⟨ce_M_copyElements, List.forall_mem_cons.mpr ⟨ce_M_storeElements, List.forall_mem_cons.mpr ⟨ce_M_loadOrder, List.forall_mem_cons.mpr ⟨ce_M_failure, List.forall_mem_cons.mpr ⟨ce_I_bitCount, List.forall_mem_cons.mpr ⟨ce_L_law, fun _ h => absurd h List.not_mem_nil⟩⟩⟩⟩⟩⟩⟩⟩⟩⟩⟩⟩⟩⟩⟩⟩⟩⟩⟩⟩⟩⟩⟩⟩⟩
theorem ms_ok : ∀ q ∈ Ms, okM q := by
  rw [Ms_eq]
  show ∀ q ∈ [q_F_init, q_F_replaceSigns, q_F_isMissing, q_F_occurrences, q_F_currentBits, q_F_bitsOfValue, q_F_joined, q_F_valuations, q_F_choices, q_F_firstRefutation, q_F_unpack, q_F_valuationsWith, q_S_init, q_S_countIfAccepted, q_S_isBounded, q_S_imagesOf, q_S_fitsEarlier, q_S_fitsOneWay, q_S_digits, q_P_init, q_P_refresh, q_P_findDownSets, q_P_pointsBelow, q_P_below, q_P_findElements] ++ ([q_P_allPoints, q_P_numberSet, q_P_replaceOrder, q_P_extendOrder, q_P_hasPoint, q_P_properPairs, q_P_greaterPoints, q_P_coversOf, q_P_largestChain, q_P_isChain, q_P_relatedPoints, q_P_largestAntichain, q_P_isAntichain, q_P_minimalPoints, q_P_maximalPoints, q_P_components, q_P_componentOf, q_P_hasElement, q_P_resultOf, q_P_implication, q_P_elementsWithin, q_P_hasLeastPoint, q_R_init, q_R_replaceRow, q_R_isMissing] ++ ([q_R_hasIndex, q_R_narrowed, q_R_hasRange, q_A_init, q_A_start, q_A_findCosts, q_A_cheapestLeft, q_A_offerAll, q_A_offer, q_A_findSteps, q_A_noteStep, q_T_init, q_T_readFormula, q_T_takeInFactor, q_T_leafOf, q_T_emit, q_T_endFactor, q_T_hold, q_T_takeBehindFactor, q_T_closeParenthesis, q_T_releaseAbove, q_T_operatorOf, q_C_init, q_C_reset, q_C_posetAt] ++ ([q_C_points, q_C_relate, q_C_isBelow, q_C_covers, q_C_property, q_C_elementCount, q_C_elementBits, q_C_elementOf, q_C_meet, q_C_combine, q_C_join, q_C_implies, q_C_append, q_C_clearText, q_C_parse, q_C_formulaAt, q_C_formulaSize, q_C_substitute, q_C_isVariable, q_C_draftSubstitution, q_C_setValue, q_C_value, q_C_isForced, q_C_isValid, q_C_refusalToSearch] ++ ([q_C_refutation, q_C_countValuations, q_C_filterClass, q_C_quotientSize, q_C_isPrime, q_C_addGenerator, q_C_clearGenerators, q_C_generate, q_C_term, q_C_countMaps, q_C_searchMaps, q_C_firstMap, q_C_isIsomorphic, q_C_sum, q_C_product, q_C_pairsAbove, q_C_restrict, q_C_renumbered, q_C_dual, q_C_allocate, q_C_rowAt, q_C_put, q_C_rowElement, q_C_copyElements, q_C_storeElements] ++ ([q_C_loadOrder, q_C_failure, q_M_init, q_M_empties, q_M_unvalues, q_M_reset, q_M_isPoset, q_M_isBetween, q_M_points, q_M_relate, q_M_isPoint, q_M_isLess, q_M_pairs, q_M_bits, q_M_isBelow, q_M_covers, q_M_property, q_M_largest, q_M_allOf, q_M_areRelated, q_M_ends, q_M_components, q_M_elementCount, q_M_isFound, q_M_finds] ++ ([q_M_isUpSet, q_M_elementBits, q_M_isElement, q_M_elementOf, q_M_meet, q_M_areElements, q_M_join, q_M_implies, q_M_impliedBits, q_M_append, q_M_clearText, q_M_parse, q_M_isFormula, q_M_takesText, q_M_takesFactor, q_M_next, q_M_atomOf, q_M_makes, q_M_makesFrom, q_M_closes, q_M_hasParen, q_M_deedOf, q_M_stores, q_M_formulaSize, q_M_substitute] ++ ([q_M_isVariable, q_M_setValue, q_M_value, q_M_presentBits, q_M_valueBits, q_M_isForced, q_M_isValid, q_M_notAsked, q_M_countsValuations, q_M_variablesOf, q_M_refuting, q_M_bitsBy, q_M_elementIn, q_M_refutation, q_M_countValuations, q_M_filterClass, q_M_quotientSize, q_M_isPrime, q_M_addGenerator, q_M_clearGenerators, q_M_generate, q_M_lowers, q_M_done, q_M_findsSteps, q_M_term] ++ ([q_M_countMaps, q_M_mapsOf, q_M_isOfKind, q_M_keepsOrder, q_M_isBounded, q_M_reachesAll, q_M_reflectsOrder, q_M_firstMap, q_M_isIsomorphic, q_M_sum, q_M_settles, q_M_product, q_M_restrict, q_M_dual, q_M_allocate, q_M_isRow, q_M_put, q_M_puts, q_M_rowElement, q_M_copyElements, q_M_storeElements, q_M_loadOrder, q_M_failure, q_I_bitCount, q_L_law])))))))), okM q
  exact List.forall_mem_append.mpr ⟨cg_0, List.forall_mem_append.mpr ⟨cg_25, List.forall_mem_append.mpr ⟨cg_50, List.forall_mem_append.mpr ⟨cg_75, List.forall_mem_append.mpr ⟨cg_100, List.forall_mem_append.mpr ⟨cg_125, List.forall_mem_append.mpr ⟨cg_150, List.forall_mem_append.mpr ⟨cg_175, cg_200⟩⟩⟩⟩⟩⟩⟩⟩
theorem ms_adj : Ms.all (fun q => adjE q.2.2.2.2.2) = true := by decide +kernel
theorem ms_sto : Ms.all (fun q => q.2.2.2.2.2.all (fun e => Nat.beq e.2.2 0 || stoOK q.2.2.1 e.2.1)) = true := by decide +kernel
def okR (q : Mt) (rem : List En) : Prop := (∀ e ∈ rem, chk1 q.2.2.2.2.1 (iniM q) q.2.1 e = true ∧ (Nat.beq e.2.2 0 || stoOK q.2.2.1 e.2.1) = true) ∧ adjE rem = true
theorem okR_all {y : Nat} {q : Mt} (hq : Ms[y]? = some q) : okR q q.2.2.2.2.2 := by
  have hm := List.mem_of_getElem? hq
  have h1 := List.all_eq_true.mp (ms_ok q hm)
  have h2 := List.all_eq_true.mp (List.all_eq_true.mp ms_sto q hm)
  have h3 := List.all_eq_true.mp ms_adj q hm
  exact ⟨fun e he => ⟨h1 e he, h2 e he⟩, h3⟩
theorem okR_tail {q : Mt} {e : En} {l : List En} (h : okR q (e :: l)) : okR q l ∧ ∀ e2 l2, l = e2 :: l2 → e2.1 = e.1 + e.2.2 := by
  obtain ⟨h1, h2⟩ := h
  have h2 : (nxOK (e.1 + e.2.2) l && adjE l) = true := h2
  rw [Bool.and_eq_true] at h2
  refine ⟨⟨fun x hx => h1 x (List.mem_cons_of_mem _ hx), h2.2⟩, fun e2 l2 hl => ?_⟩
  subst hl
  exact Nat.eq_of_beq_eq_true h2.1
theorem okR_suf {q : Mt} : ∀ {l : List En} (t : Nat), okR q l → okR q (sufAt l t) ∧ ∀ e2 l2, sufAt l t = e2 :: l2 → e2.1 = t
  | [], t, h => ⟨h, fun e2 l2 hl => by cases hl⟩
  | e :: l, t, h => by
    unfold sufAt
    cases hb : Nat.beq e.1 t with
    | true =>
      simp only [cond_true]
      exact ⟨h, fun e2 l2 hl => by cases hl; exact Nat.eq_of_beq_eq_true hb⟩
    | false =>
      simp only [cond_false]
      exact okR_suf t (okR_tail h).1
theorem at_of_ev {D : va_G} {cA : Nat → ClassId} {cS : ClassId} {b B : Nat} {p : Program} {l : Launch} {e : Env} {R : Room} {s : State} {m : MethodId} {args : Array Value} {below : List Frame} {meth : Method} {c : Code} {Z : State → Prop} {mc ms : Nat} {h0 : AH} {q : Mt} {d g g' y pc : Nat} {ls st : List Value} {h : AH} {Q : PQ} (hq : Ms[y]? = some q) (hCX : CX p s m args meth c q) (hTB : TB D cA cS s) (hfr : d ≤ R.frames) (hlc : 60 * d ≤ R.locals) (hmc : mc ≤ R.cells) (hms : ms ≤ R.slots) (hret : RetK D cA cS b B p l e R s m args below meth c Z mc ms h0 q Q) (hE : Ev d g g' y pc ls st h Q) : AtW D cA cS b B p l e R s m args below meth c Z mc ms h0 q.2.2.1 g' pc g ls st h := by
  intro H locs cells slots lsC hH hlo hx hL hg hc hsl
  exact hE q l D cA cS b B p e R s m args below meth c H locs cells slots Z mc ms lsC h0 hq hCX hTB hH hlo hx hL hfr hlc hg hc hsl hmc hms hret
theorem AtW.keep {D : va_G} {cA : Nat → ClassId} {cS : ClassId} {b B : Nat} {p : Program} {l : Launch} {e : Env} {R : Room} {s : State} {m : MethodId} {args : Array Value} {below : List Frame} {meth : Method} {c : Code} {Z : State → Prop} {mc ms : Nat} {h0 : AH} {mL g g' pc msk : Nat} {ls st : List Value} {h : AH} (hA : AtW D cA cS b B p l e R s m args below meth c Z mc ms h0 mL g' pc g (keepL ls msk) st h) : AtW D cA cS b B p l e R s m args below meth c Z mc ms h0 mL g' pc g ls st h := fun H locs cells slots lsC hH hlo hx hL hg hc hsl => hA H locs cells slots lsC hH hlo hx hL.keep hg hc hsl
theorem wp_sound {D : va_G} {cA : Nat → ClassId} {cS : ClassId} {b B : Nat} {p : Program} {l : Launch} {e : Env} {R : Room} {s : State} {m : MethodId} {args : Array Value} {below : List Frame} {meth : Method} {c : Code} {Z : State → Prop} {mc ms : Nat} {h0 : AH} {q : Mt} {d g' y : Nat} {Q : PQ} (hq : Ms[y]? = some q) (hCX : CX p s m args meth c q) (hTB : TB D cA cS s) (hfr : d ≤ R.frames) (hlc : 60 * d ≤ R.locals) (hmc : mc ≤ R.cells) (hms : ms ≤ R.slots) (hret : RetK D cA cS b B p l e R s m args below meth c Z mc ms h0 q Q) :
    ∀ (n : Nat) (rem : List En) (g : Nat) (ls st : List Value) (h : AH), okR q rem → wp Ev d g' y q.2.2.2.1 q.2.2.2.2.2 Q n rem g ls st h → ∀ (pc0 : Nat), (∀ e2 l2, rem = e2 :: l2 → e2.1 = pc0) → AtW D cA cS b B p l e R s m args below meth c Z mc ms h0 q.2.2.1 g' pc0 g ls st h := by
  intro n
  induction n with
  | zero => intro rem g ls st h hok hw; exact hw.elim
  | succ n ih =>
    intro rem g ls st h hok hw pc0 hpc
    cases rem with
    | nil => exact hw.elim
    | cons en rest =>
      obtain ⟨pc, i, len⟩ := en
      have hp0 : pc = pc0 := hpc _ _ rfl
      subst hp0
      obtain ⟨hok2, hnext⟩ := okR_tail hok
      cases len with
      | zero =>
        cases i <;> first | exact hw.elim | exact AtW.keep (at_of_ev hq hCX hTB hfr hlc hmc hms hret hw)
      | succ len =>
        obtain ⟨hc1, hs1⟩ := hok.1 _ List.mem_cons_self
        have hs1 : stoOK q.2.2.1 i = true := hs1
        have hc1 : (match decode q.2.1 pc with
          | .ok (i2, n) => Nat.beq n (len + 1) && Nat.beq n (lnI i2 n) && decide (resI q.2.2.2.2.1 (iniM q) pc i2 = some i)
          | .error _ => false) = true := hc1
        cases hd : decode q.2.1 pc with
        | error z => rw [hd] at hc1; cases hc1
        | ok z =>
          obtain ⟨i2, n2⟩ := z
          rw [hd] at hc1
          simp only [Bool.and_eq_true, decide_eq_true_eq] at hc1
          obtain ⟨⟨c1, c2⟩, c3⟩ := hc1
          have c1 : n2 = len + 1 := Nat.eq_of_beq_eq_true c1
          have c2 := Nat.eq_of_beq_eq_true c2
          subst c1
          exact stp_sound hCX hTB hfr hlc hmc hms hret hd c2 c3 hs1 (fun g2 ls2 st2 h2 hw2 => ih rest g2 ls2 st2 h2 hok2 hw2 _ hnext) (fun t g2 ls2 st2 h2 hw2 => ih _ g2 ls2 st2 h2 (okR_suf t.toNat (okR_all hq)).1 hw2 _ (okR_suf t.toNat (okR_all hq)).2) hw
/-- the abstract machine's weakest precondition at a point gives what Ev says there -/
theorem ev_wp (n : Nat) {d g g' y pc : Nat} {q : Mt} {ls st : List Value} {h : AH} {Q : PQ} (hq : Ms[y]? = some q) (hw : wp Ev d g' y q.2.2.2.1 q.2.2.2.2.2 Q n (skipM (sufAt q.2.2.2.2.2 pc)) g ls st h) : Ev d g g' y pc ls st h Q := by
  intro q2 l D cA cS b B p e R s m args below meth c H locs cells slots Z mc ms lsC h0 hq2 hCX hTB hH hlo hx hL hfr hlc hg hc hsl hmc hms hret
  have e2 : q2 = q := Option.some.inj (hq2.symm.trans hq)
  subst e2
  obtain ⟨ok1, ok2⟩ := okR_suf pc (okR_all hq)
  have hA := wp_sound hq hCX hTB hfr hlc hmc hms hret n (skipM (sufAt q2.2.2.2.2.2 pc)) g ls st h (by
    cases hs : sufAt q2.2.2.2.2.2 pc with
    | nil => rw [hs] at ok1; exact ok1
    | cons e1 l1 =>
      obtain ⟨pc1, i1, len1⟩ := e1
      rw [hs] at ok1
      cases len1 with
      | zero => exact (okR_tail ok1).1
      | succ k => exact ok1) hw pc (by
    intro e2 l2 hl
    cases hs : sufAt q2.2.2.2.2.2 pc with
    | nil => rw [hs] at hl; cases hl
    | cons e1 l1 =>
      obtain ⟨pc1, i1, len1⟩ := e1
      rw [hs] at ok1 hl
      have hp1 := ok2 _ _ hs
      cases len1 with
      | zero =>
        have := (okR_tail ok1).2 e2 l2 hl
        rw [this]
        exact hp1
      | succ k =>
        have hl : (pc1, i1, k + 1) :: l1 = e2 :: l2 := hl
        cases hl
        exact hp1)
  exact hA H locs cells slots lsC hH hlo hx hL hg hc hsl
theorem Ev.mono {d g g' y pc : Nat} {ls st : List Value} {h : AH} {Q Q' : PQ} (hE : Ev d g g' y pc ls st h Q) (hQ : ∀ v h1, Ext h h1 → Q v h1 → Q' v h1) : Ev d g g' y pc ls st h Q' := by
  intro q l D cA cS b B p e R s m args below meth c H locs cells slots Z mc ms lsC h0 hq hCX hTB hH hlo hx hL hfr hlc hg hc hsl hmc hms hret
  refine hE q l D cA cS b B p e R s m args below meth c H locs cells slots Z mc ms lsC h hq hCX hTB hH hlo Ext.rfl' hL hfr hlc hg hc hsl hmc hms ?_
  intro v h1 H1 locs1 pc1 lsC1 hv hx1 hH1 hlo1 hok hdg
  exact hret v h1 H1 locs1 pc1 lsC1 (hQ v h1 hx1 hv) (hx.trans hx1) hH1 hlo1 hok hdg
