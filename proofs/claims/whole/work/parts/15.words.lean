/-! THE METHODS AS DATA, AND WHAT THE TABLES SAY OF EACH POOL ENTRY THAT IS USED (by program, wip/gen/mkwords.py). -/
abbrev MX0_init : MI := (yX0_init, cX0_init, 3, none, [])
abbrev MX0_applyToOne : MI := (yX0_applyToOne, cX0_applyToOne, 3, none, [])
abbrev MX0_applyToTwo : MI := (yX0_applyToTwo, cX0_applyToTwo, 5, none, [])
abbrev MX0_addAll : MI := (yX0_addAll, cX0_addAll, 3, none, [])
abbrev MX0_keepAll : MI := (yX0_keepAll, cX0_keepAll, 3, none, [])
abbrev MX0_removeAll : MI := (yX0_removeAll, cX0_removeAll, 3, none, [])
abbrev MX0_keepMaximal : MI := (yX0_keepMaximal, cX0_keepMaximal, 3, none, [])
abbrev MX0_keepMinimal : MI := (yX0_keepMinimal, cX0_keepMinimal, 3, none, [])
abbrev MX0_hit : MI := (yX0_hit, cX0_hit, 3, none, [])
abbrev MX0_pair : MI := (yX0_pair, cX0_pair, 8, none, [])
abbrev MX0_countPairs : MI := (yX0_countPairs, cX0_countPairs, 7, none, [])
abbrev MX0_spread : MI := (yX0_spread, cX0_spread, 5, none, [])
abbrev MX0_sumSubsets : MI := (yX0_sumSubsets, cX0_sumSubsets, 5, none, [])
abbrev MX0_divide : MI := (yX0_divide, cX0_divide, 7, (some .int), [])
abbrev MX0_hasAllWith : MI := (yX0_hasAllWith, cX0_hasAllWith, 5, (some .boolean), [])
abbrev MX0_removeProducts : MI := (yX0_removeProducts, cX0_removeProducts, 6, none, [])
abbrev MX1_init : MI := (yX1_init, cX1_init, 1, none, [])
abbrev MX1_run : MI := (yX1_run, cX1_run, 8, (some (.array .long)), [])
abbrev MX1_apply : MI := (yX1_apply, cX1_apply, 4, (some .boolean), [])
abbrev MX1_push : MI := (yX1_push, cX1_push, 2, (some (.array .long)), [])
abbrev MX1_pushFamily : MI := (yX1_pushFamily, cX1_pushFamily, 4, none, [])
abbrev MX1_row : MI := (yX1_row, cX1_row, 3, (some (.array .long)), [])
abbrev MX2_init : MI := (yX2_init, cX2_init, 1, none, [])
abbrev MX2_of : MI := (yX2_of, cX2_of, 2, (some .int), [])
abbrev MX2_rank : MI := (yX2_rank, cX2_rank, 2, (some .int), [])
abbrev MX2_replace : MI := (yX2_replace, cX2_replace, 6, (some .int), [])
abbrev MX3_init : MI := (yX3_init, cX3_init, 2, none, [])
abbrev MX3_visit : MI := (yX3_visit, cX3_visit, 9, (some .int), [])
abbrev MX3_mark : MI := (yX3_mark, cX3_mark, 5, (some .int), [])
abbrev MX3_numberOf : MI := (yX3_numberOf, cX3_numberOf, 7, (some .int), [])
abbrev MX3_placeOf : MI := (yX3_placeOf, cX3_placeOf, 7, (some .int), [])
abbrev MX3_enlarge : MI := (yX3_enlarge, cX3_enlarge, 3, none, [])
abbrev MX4_init : MI := (yX4_init, cX4_init, 4, none, [])
abbrev MX5_order : MI := (yX5_order, cX5_order, 3, none, [])
abbrev MX5_takeLeast : MI := (yX5_takeLeast, cX5_takeLeast, 3, (some .int), [])
abbrev MX5_sink : MI := (yX5_sink, cX5_sink, 6, none, [])
abbrev MX6_init : MI := (yX6_init, cX6_init, 1, none, [])
abbrev MX6_read : MI := (yX6_read, cX6_read, 4, (some .int), [])
abbrev MX6_fail : MI := (yX6_fail, cX6_fail, 1, none, [])
abbrev MX6_addStep : MI := (yX6_addStep, cX6_addStep, 3, none, [])
abbrev MX6_readSum : MI := (yX6_readSum, cX6_readSum, 4, none, [])
abbrev MX6_readProduct : MI := (yX6_readProduct, cX6_readProduct, 4, none, [])
abbrev MX6_isSumSign : MI := (yX6_isSumSign, cX6_isSumSign, 1, (some .boolean), [])
abbrev MX6_isProductSign : MI := (yX6_isProductSign, cX6_isProductSign, 1, (some .boolean), [])
abbrev MX6_readFactor : MI := (yX6_readFactor, cX6_readFactor, 2, none, [])
abbrev MX6_readBracket : MI := (yX6_readBracket, cX6_readBracket, 2, none, [])
abbrev MX6_readWord : MI := (yX6_readWord, cX6_readWord, 4, none, [])
abbrev MX6_readConstant : MI := (yX6_readConstant, cX6_readConstant, 2, none, [])
abbrev MX6_readFamilyNumber : MI := (yX6_readFamilyNumber, cX6_readFamilyNumber, 3, none, [])
abbrev MX6_functionOfWord : MI := (yX6_functionOfWord, cX6_functionOfWord, 1, (some .int), [])
abbrev MX6_isWord : MI := (yX6_isWord, cX6_isWord, 4, (some .boolean), [])
abbrev MX6_maskOfWord : MI := (yX6_maskOfWord, cX6_maskOfWord, 4, (some .int), [])
abbrev MX6_advance : MI := (yX6_advance, cX6_advance, 2, none, [])
abbrev MX6_at : MI := (yX6_at, cX6_at, 2, (some .int), [])
abbrev MX6_isLetter : MI := (yX6_isLetter, cX6_isLetter, 1, (some .boolean), [])
abbrev MX6_isDigit : MI := (yX6_isDigit, cX6_isDigit, 1, (some .boolean), [])
abbrev MX6_isSymbol : MI := (yX6_isSymbol, cX6_isSymbol, 1, (some .boolean), [])
abbrev MX7_has : MI := (yX7_has, cX7_has, 2, (some .boolean), [])
abbrev MX7_put : MI := (yX7_put, cX7_put, 2, none, [])
abbrev MX7_remove : MI := (yX7_remove, cX7_remove, 2, none, [])
abbrev MX7_copy : MI := (yX7_copy, cX7_copy, 2, none, [])
abbrev MX7_size : MI := (yX7_size, cX7_size, 3, (some .int), [])
abbrev MX7_sizeBelow : MI := (yX7_sizeBelow, cX7_sizeBelow, 5, (some .int), [])
abbrev MX7_isInside : MI := (yX7_isInside, cX7_isInside, 3, (some .boolean), [])
abbrev MX7_span : MI := (yX7_span, cX7_span, 3, (some .int), [])
abbrev MX7_list : MI := (yX7_list, cX7_list, 7, (some .int), [])
abbrev MX7_takeOut : MI := (yX7_takeOut, cX7_takeOut, 5, none, [])
abbrev MX7_putIn : MI := (yX7_putIn, cX7_putIn, 5, none, [])
abbrev MX7_swap : MI := (yX7_swap, cX7_swap, 6, none, [])
abbrev MX7_lower : MI := (yX7_lower, cX7_lower, 2, none, [])
abbrev MX7_raise : MI := (yX7_raise, cX7_raise, 2, none, [])
abbrev MX8_init : MI := (yX8_init, cX8_init, 1, none, [])
abbrev MX8_feed : MI := (yX8_feed, cX8_feed, 6, (some .int), [])
abbrev MX8_appendBytes : MI := (yX8_appendBytes, cX8_appendBytes, 3, none, [])
abbrev MX8_trim : MI := (yX8_trim, cX8_trim, 2, (some .int), [])
abbrev MX8_evaluate : MI := (yX8_evaluate, cX8_evaluate, 2, (some .int), [])
abbrev MX8_errorPosition : MI := (yX8_errorPosition, cX8_errorPosition, 1, (some .int), [])
abbrev MX8_write : MI := (yX8_write, cX8_write, 5, (some .int), [])
abbrev MX8_writtenLength : MI := (yX8_writtenLength, cX8_writtenLength, 4, (some .int), [])
abbrev MX8_writeSet : MI := (yX8_writeSet, cX8_writeSet, 3, none, [])
abbrev MX8_appendOutput : MI := (yX8_appendOutput, cX8_appendOutput, 2, none, [])
abbrev MX8_outputByte : MI := (yX8_outputByte, cX8_outputByte, 2, (some .int), [])
abbrev MX8_single : MI := (yX8_single, cX8_single, 3, (some .int), [])
abbrev MX8_subsetsOf : MI := (yX8_subsetsOf, cX8_subsetsOf, 5, (some .int), [])
abbrev MX8_release : MI := (yX8_release, cX8_release, 3, (some .int), [])
abbrev MX8_createdCount : MI := (yX8_createdCount, cX8_createdCount, 1, (some .int), [])
abbrev MX8_nodeCount : MI := (yX8_nodeCount, cX8_nodeCount, 1, (some .int), [])
abbrev MX8_nodesOf : MI := (yX8_nodesOf, cX8_nodesOf, 2, (some .int), [])
abbrev MX8_checkMask : MI := (yX8_checkMask, cX8_checkMask, 2, none, [])
abbrev MX8_checkElement : MI := (yX8_checkElement, cX8_checkElement, 2, none, [])
abbrev MX8_checkCreated : MI := (yX8_checkCreated, cX8_checkCreated, 2, none, [])
abbrev MX8_checkRoom : MI := (yX8_checkRoom, cX8_checkRoom, 1, none, [])
abbrev MX8_familyOf : MI := (yX8_familyOf, cX8_familyOf, 3, (some (.object "FamilyStore$Family")), [])
abbrev MX8_filledFamilyOf : MI := (yX8_filledFamilyOf, cX8_filledFamilyOf, 3, (some (.object "FamilyStore$Family")), [])
abbrev MX8_addFamily : MI := (yX8_addFamily, cX8_addFamily, 2, (some .int), [])
abbrev MX8_union : MI := (yX8_union, cX8_union, 3, (some .int), [])
abbrev MX8_intersection : MI := (yX8_intersection, cX8_intersection, 3, (some .int), [])
abbrev MX8_difference : MI := (yX8_difference, cX8_difference, 3, (some .int), [])
abbrev MX8_join : MI := (yX8_join, cX8_join, 3, (some .int), [])
abbrev MX8_meet : MI := (yX8_meet, cX8_meet, 3, (some .int), [])
abbrev MX8_quotient : MI := (yX8_quotient, cX8_quotient, 3, (some .int), [])
abbrev MX8_remainder : MI := (yX8_remainder, cX8_remainder, 3, (some .int), [])
abbrev MX8_supersets : MI := (yX8_supersets, cX8_supersets, 3, (some .int), [])
abbrev MX8_subsets : MI := (yX8_subsets, cX8_subsets, 3, (some .int), [])
abbrev MX8_maximal : MI := (yX8_maximal, cX8_maximal, 2, (some .int), [])
abbrev MX8_minimal : MI := (yX8_minimal, cX8_minimal, 2, (some .int), [])
abbrev MX8_hitting : MI := (yX8_hitting, cX8_hitting, 2, (some .int), [])
abbrev MX8_closure : MI := (yX8_closure, cX8_closure, 2, (some .int), [])
abbrev MX8_addOfOne : MI := (yX8_addOfOne, cX8_addOfOne, 5, (some .int), [])
abbrev MX8_addOfTwo : MI := (yX8_addOfTwo, cX8_addOfTwo, 7, (some .int), [])
abbrev MX8_change : MI := (yX8_change, cX8_change, 5, (some .int), [])
abbrev MX8_withCost : MI := (yX8_withCost, cX8_withCost, 9, (some .int), [])
abbrev MX8_count : MI := (yX8_count, cX8_count, 2, (some .int), [])
abbrev MX8_countOfSize : MI := (yX8_countOfSize, cX8_countOfSize, 7, (some .int), [])
abbrev MX8_countWith : MI := (yX8_countWith, cX8_countWith, 7, (some .int), [])
abbrev MX8_contains : MI := (yX8_contains, cX8_contains, 3, (some .boolean), [])
abbrev MX8_areEqual : MI := (yX8_areEqual, cX8_areEqual, 5, (some .boolean), [])
abbrev MX8_isPartOf : MI := (yX8_isPartOf, cX8_isPartOf, 5, (some .boolean), [])
abbrev MX8_setAt : MI := (yX8_setAt, cX8_setAt, 5, (some .int), [])
abbrev MX8_indexOf : MI := (yX8_indexOf, cX8_indexOf, 4, (some .int), [])
abbrev MX8_setCost : MI := (yX8_setCost, cX8_setCost, 3, (some .int), [])
abbrev MX8_leastCost : MI := (yX8_leastCost, cX8_leastCost, 6, (some .int), [])
abbrev MX8_meanCost : MI := (yX8_meanCost, cX8_meanCost, 6, (some .double), [])
abbrev MX8_enumerate : MI := (yX8_enumerate, cX8_enumerate, 8, (some .int), [])
abbrev MX8_keepCheapest : MI := (yX8_keepCheapest, cX8_keepCheapest, 4, none, [])
abbrev MX8_enumerated : MI := (yX8_enumerated, cX8_enumerated, 2, (some .int), [])
abbrev MX8_digest : MI := (yX8_digest, cX8_digest, 5, (some .long), [])
abbrev MX9_init : MI := (yX9_init, cX9_init, 1, none, [])
abbrev MX9_thrown : MI := (yX9_thrown, cX9_thrown, 1, (some .int), [])
abbrev MX9_fail : MI := (yX9_fail, cX9_fail, 2, (some .int), [])
abbrev MX9_has : MI := (yX9_has, cX9_has, 3, (some .boolean), [])
abbrev MX9_put : MI := (yX9_put, cX9_put, 3, none, [])
abbrev MX9_clear : MI := (yX9_clear, cX9_clear, 3, none, [])
abbrev MX9_many : MI := (yX9_many, cX9_many, 4, (some .int), [])
abbrev MX9_countSubsets : MI := (yX9_countSubsets, cX9_countSubsets, 5, none, [])
abbrev MX9_countSupersets : MI := (yX9_countSupersets, cX9_countSupersets, 5, none, [])
abbrev MX9_operate : MI := (yX9_operate, cX9_operate, 5, none, [])
abbrev MX9_joinRows : MI := (yX9_joinRows, cX9_joinRows, 5, none, [])
abbrev MX9_meetRows : MI := (yX9_meetRows, cX9_meetRows, 5, none, [])
abbrev MX9_divideRows : MI := (yX9_divideRows, cX9_divideRows, 6, none, [])
abbrev MX9_restRows : MI := (yX9_restRows, cX9_restRows, 4, none, [])
abbrev MX9_hit : MI := (yX9_hit, cX9_hit, 3, none, [])
abbrev MX9_filter : MI := (yX9_filter, cX9_filter, 5, none, [])
abbrev MX9_isKept : MI := (yX9_isKept, cX9_isKept, 5, (some .boolean), [])
abbrev MX9_clearNodes : MI := (yX9_clearNodes, cX9_clearNodes, 2, none, [])
abbrev MX9_nodeOf : MI := (yX9_nodeOf, cX9_nodeOf, 5, (some .int), [])
abbrev MX9_longer : MI := (yX9_longer, cX9_longer, 3, (some (.array .int)), [])
abbrev MX9_grow : MI := (yX9_grow, cX9_grow, 3, none, [])
abbrev MX9_number : MI := (yX9_number, cX9_number, 4, none, [])
abbrev MX9_countNodes : MI := (yX9_countNodes, cX9_countNodes, 2, (some .int), [])
abbrev MX9_countAllNodes : MI := (yX9_countAllNodes, cX9_countAllNodes, 2, (some .int), [])
abbrev MX9_feed : MI := (yX9_feed, cX9_feed, 6, (some .int), [])
abbrev MX9_four : MI := (yX9_four, cX9_four, 3, none, [])
abbrev MX9_trim : MI := (yX9_trim, cX9_trim, 2, (some .int), [])
abbrev MX9_wrong : MI := (yX9_wrong, cX9_wrong, 2, none, [])
abbrev MX9_look : MI := (yX9_look, cX9_look, 1, (some .int), [])
abbrev MX9_add : MI := (yX9_add, cX9_add, 2, none, [])
abbrev MX9_sum : MI := (yX9_sum, cX9_sum, 2, none, [])
abbrev MX9_product : MI := (yX9_product, cX9_product, 2, none, [])
abbrev MX9_isLetter : MI := (yX9_isLetter, cX9_isLetter, 1, (some .boolean), [])
abbrev MX9_isDigit : MI := (yX9_isDigit, cX9_isDigit, 1, (some .boolean), [])
abbrev MX9_factor : MI := (yX9_factor, cX9_factor, 4, none, [])
abbrev MX9_digits : MI := (yX9_digits, cX9_digits, 2, (some .int), [])
abbrev MX9_reference : MI := (yX9_reference, cX9_reference, 6, none, [])
abbrev MX9_group : MI := (yX9_group, cX9_group, 1, none, [])
abbrev MX9_isWord : MI := (yX9_isWord, cX9_isWord, 5, (some .boolean), [])
abbrev MX9_word : MI := (yX9_word, cX9_word, 6, none, [])
abbrev MX9_evaluate : MI := (yX9_evaluate, cX9_evaluate, 1, (some .int), [])
abbrev MX9_run : MI := (yX9_run, cX9_run, 4, (some .boolean), [])
abbrev MX9_load : MI := (yX9_load, cX9_load, 4, none, [])
abbrev MX9_made : MI := (yX9_made, cX9_made, 2, (some .int), [])
abbrev MX9_errorPosition : MI := (yX9_errorPosition, cX9_errorPosition, 1, (some .int), [])
abbrev MX9_look_ : MI := (yX9_look_, cX9_look_, 2, (some .int), [])
abbrev MX9_look__ : MI := (yX9_look__, cX9_look__, 5, (some .int), [])
abbrev MX9_elementsIn : MI := (yX9_elementsIn, cX9_elementsIn, 3, (some .int), [])
abbrev MX9_write : MI := (yX9_write, cX9_write, 5, (some .int), [])
abbrev MX9_letter : MI := (yX9_letter, cX9_letter, 2, none, [])
abbrev MX9_outputByte : MI := (yX9_outputByte, cX9_outputByte, 2, (some .int), [])
abbrev MX9_isMask : MI := (yX9_isMask, cX9_isMask, 1, (some .boolean), [])
abbrev MX9_isElement : MI := (yX9_isElement, cX9_isElement, 1, (some .boolean), [])
abbrev MX9_single : MI := (yX9_single, cX9_single, 2, (some .int), [])
abbrev MX9_subsetsOf : MI := (yX9_subsetsOf, cX9_subsetsOf, 4, (some .int), [])
abbrev MX9_release : MI := (yX9_release, cX9_release, 2, (some .int), [])
abbrev MX9_createdCount : MI := (yX9_createdCount, cX9_createdCount, 1, (some .int), [])
abbrev MX9_nodeCount : MI := (yX9_nodeCount, cX9_nodeCount, 1, (some .int), [])
abbrev MX9_nodesOf : MI := (yX9_nodesOf, cX9_nodesOf, 2, (some .int), [])
abbrev MX9_two : MI := (yX9_two, cX9_two, 4, (some .int), [])
abbrev MX9_one : MI := (yX9_one, cX9_one, 3, (some .int), [])
abbrev MX9_union : MI := (yX9_union, cX9_union, 3, (some .int), [])
abbrev MX9_intersection : MI := (yX9_intersection, cX9_intersection, 3, (some .int), [])
abbrev MX9_difference : MI := (yX9_difference, cX9_difference, 3, (some .int), [])
abbrev MX9_join : MI := (yX9_join, cX9_join, 3, (some .int), [])
abbrev MX9_meet : MI := (yX9_meet, cX9_meet, 3, (some .int), [])
abbrev MX9_quotient : MI := (yX9_quotient, cX9_quotient, 3, (some .int), [])
abbrev MX9_remainder : MI := (yX9_remainder, cX9_remainder, 3, (some .int), [])
abbrev MX9_supersets : MI := (yX9_supersets, cX9_supersets, 3, (some .int), [])
abbrev MX9_subsets : MI := (yX9_subsets, cX9_subsets, 3, (some .int), [])
abbrev MX9_maximal : MI := (yX9_maximal, cX9_maximal, 2, (some .int), [])
abbrev MX9_minimal : MI := (yX9_minimal, cX9_minimal, 2, (some .int), [])
abbrev MX9_hitting : MI := (yX9_hitting, cX9_hitting, 2, (some .int), [])
abbrev MX9_closure : MI := (yX9_closure, cX9_closure, 2, (some .int), [])
abbrev MX9_change : MI := (yX9_change, cX9_change, 4, (some .int), [])
abbrev MX9_costOf : MI := (yX9_costOf, cX9_costOf, 4, (some .int), [])
abbrev MX9_withCost : MI := (yX9_withCost, cX9_withCost, 5, (some .int), [])
abbrev MX9_count : MI := (yX9_count, cX9_count, 2, (some .int), [])
abbrev MX9_countOfSize : MI := (yX9_countOfSize, cX9_countOfSize, 5, (some .int), [])
abbrev MX9_countWith : MI := (yX9_countWith, cX9_countWith, 5, (some .int), [])
abbrev MX9_contains : MI := (yX9_contains, cX9_contains, 3, (some .boolean), [])
abbrev MX9_areEqual : MI := (yX9_areEqual, cX9_areEqual, 5, (some .boolean), [])
abbrev MX9_isPartOf : MI := (yX9_isPartOf, cX9_isPartOf, 5, (some .boolean), [])
abbrev MX9_setAt : MI := (yX9_setAt, cX9_setAt, 5, (some .int), [])
abbrev MX9_indexOf : MI := (yX9_indexOf, cX9_indexOf, 5, (some .int), [])
abbrev MX9_setCost : MI := (yX9_setCost, cX9_setCost, 4, (some .int), [])
abbrev MX9_leastCost : MI := (yX9_leastCost, cX9_leastCost, 4, (some .int), [])
abbrev MX9_meanCost : MI := (yX9_meanCost, cX9_meanCost, 6, (some .double), [])
abbrev MX9_enumerate : MI := (yX9_enumerate, cX9_enumerate, 6, (some .int), [])
abbrev MX9_enumerated : MI := (yX9_enumerated, cX9_enumerated, 2, (some .int), [])
abbrev MX9_digest : MI := (yX9_digest, cX9_digest, 4, (some .long), [])
abbrev MJx00060_init_a7421 : MI := (yJx00060_init_a7421, cJx00060_init_a7421, 2, none, [])
abbrev MJ6_numberOfLeadingZeros_0f7a4 : MI := (yJ6_numberOfLeadingZeros_0f7a4, cJ6_numberOfLeadingZeros_0f7a4, 2, (some .int), [])
abbrev MJ6_numberOfTrailingZeros_0f7a4 : MI := (yJ6_numberOfTrailingZeros_0f7a4, cJ6_numberOfTrailingZeros_0f7a4, 2, (some .int), [])
abbrev MJ6_bitCount_0f7a4 : MI := (yJ6_bitCount_0f7a4, cJ6_bitCount_0f7a4, 1, (some .int), [])
abbrev MJ13_numberOfLeadingZeros_95d88 : MI := (yJ13_numberOfLeadingZeros_95d88, cJ13_numberOfLeadingZeros_95d88, 3, (some .int), [])
abbrev MJ13_numberOfTrailingZeros_95d88 : MI := (yJ13_numberOfTrailingZeros_95d88, cJ13_numberOfTrailingZeros_95d88, 3, (some .int), [])
abbrev MJ13_bitCount_95d88 : MI := (yJ13_bitCount_95d88, cJ13_bitCount_95d88, 2, (some .int), [])
abbrev MJ9_max_7cf53 : MI := (yJ9_max_7cf53, cJ9_max_7cf53, 2, (some .int), [])
abbrev MJ9_min_7cf53 : MI := (yJ9_min_7cf53, cJ9_min_7cf53, 2, (some .int), [])
abbrev MJ7_fill_d0a16 : MI := (yJ7_fill_d0a16, cJ7_fill_d0a16, 5, none, [])
abbrev MJ7_copyOf_59c91 : MI := (yJ7_copyOf_59c91, cJ7_copyOf_59c91, 3, (some (.array .int)), [])
abbrev MJ7_copyOf_c38d5 : MI := (yJ7_copyOf_c38d5, cJ7_copyOf_c38d5, 3, (some (.array .long)), [])
abbrev ML_feed : MI := (yL_feed, cL_feed, 8, (some .int), [(0, 16, 19, 13)])
abbrev ML_trim : MI := (yL_trim, cL_trim, 4, (some .int), [(0, 9, 12, 19)])
abbrev ML_evaluate : MI := (yL_evaluate, cL_evaluate, 3, (some .int), [(0, 8, 11, 19), (0, 8, 14, 13), (0, 8, 17, 25)])
abbrev ML_write : MI := (yL_write, cL_write, 4, (some .int), [(0, 9, 12, 30), (0, 9, 15, 32), (0, 9, 18, 25)])
abbrev ML_outputByte : MI := (yL_outputByte, cL_outputByte, 4, (some .int), [(0, 9, 12, 30)])
abbrev ML_single : MI := (yL_single, cL_single, 4, (some .int), [(0, 9, 12, 19), (0, 9, 15, 13)])
abbrev ML_subsetsOf : MI := (yL_subsetsOf, cL_subsetsOf, 5, (some .int), [(0, 10, 13, 19), (0, 10, 17, 13)])
abbrev ML_release : MI := (yL_release, cL_release, 4, (some .int), [(0, 9, 12, 30), (0, 9, 15, 32)])
abbrev ML_nodesOf : MI := (yL_nodesOf, cL_nodesOf, 4, (some .int), [(0, 9, 12, 30), (0, 9, 15, 32)])
abbrev ML_union : MI := (yL_union, cL_union, 5, (some .int), [(0, 10, 13, 30), (0, 10, 17, 32), (0, 10, 21, 13)])
abbrev ML_intersection : MI := (yL_intersection, cL_intersection, 5, (some .int), [(0, 10, 13, 30), (0, 10, 17, 32), (0, 10, 21, 13)])
abbrev ML_difference : MI := (yL_difference, cL_difference, 5, (some .int), [(0, 10, 13, 30), (0, 10, 17, 32), (0, 10, 21, 13)])
abbrev ML_join : MI := (yL_join, cL_join, 5, (some .int), [(0, 10, 13, 30), (0, 10, 17, 32), (0, 10, 21, 13)])
abbrev ML_meet : MI := (yL_meet, cL_meet, 5, (some .int), [(0, 10, 13, 30), (0, 10, 17, 32), (0, 10, 21, 13)])
abbrev ML_quotient : MI := (yL_quotient, cL_quotient, 5, (some .int), [(0, 10, 13, 30), (0, 10, 17, 32), (0, 10, 21, 13), (0, 10, 25, 25)])
abbrev ML_remainder : MI := (yL_remainder, cL_remainder, 5, (some .int), [(0, 10, 13, 30), (0, 10, 17, 32), (0, 10, 21, 13), (0, 10, 25, 25)])
abbrev ML_supersets : MI := (yL_supersets, cL_supersets, 5, (some .int), [(0, 10, 13, 30), (0, 10, 17, 32), (0, 10, 21, 13)])
abbrev ML_subsets : MI := (yL_subsets, cL_subsets, 5, (some .int), [(0, 10, 13, 30), (0, 10, 17, 32), (0, 10, 21, 13)])
abbrev ML_maximal : MI := (yL_maximal, cL_maximal, 4, (some .int), [(0, 9, 12, 30), (0, 9, 15, 32), (0, 9, 18, 13)])
abbrev ML_minimal : MI := (yL_minimal, cL_minimal, 4, (some .int), [(0, 9, 12, 30), (0, 9, 15, 32), (0, 9, 18, 13)])
abbrev ML_hitting : MI := (yL_hitting, cL_hitting, 4, (some .int), [(0, 9, 12, 30), (0, 9, 15, 32), (0, 9, 18, 13)])
abbrev ML_closure : MI := (yL_closure, cL_closure, 4, (some .int), [(0, 9, 12, 30), (0, 9, 15, 32), (0, 9, 18, 13)])
abbrev ML_change : MI := (yL_change, cL_change, 5, (some .int), [(0, 10, 13, 30), (0, 10, 17, 32), (0, 10, 21, 13)])
abbrev ML_withCost : MI := (yL_withCost, cL_withCost, 6, (some .int), [(0, 12, 15, 30), (0, 12, 19, 32), (0, 12, 23, 13)])
abbrev ML_count : MI := (yL_count, cL_count, 4, (some .int), [(0, 9, 12, 30), (0, 9, 15, 32)])
abbrev ML_countOfSize : MI := (yL_countOfSize, cL_countOfSize, 5, (some .int), [(0, 10, 13, 30), (0, 10, 17, 32)])
abbrev ML_countWith : MI := (yL_countWith, cL_countWith, 5, (some .int), [(0, 10, 13, 30), (0, 10, 17, 32)])
abbrev ML_contains : MI := (yL_contains, cL_contains, 5, (some .int), [(0, 17, 20, 30), (0, 17, 24, 32)])
abbrev ML_areEqual : MI := (yL_areEqual, cL_areEqual, 5, (some .int), [(0, 17, 20, 30), (0, 17, 24, 32)])
abbrev ML_isPartOf : MI := (yL_isPartOf, cL_isPartOf, 5, (some .int), [(0, 17, 20, 30), (0, 17, 24, 32)])
abbrev ML_setAt : MI := (yL_setAt, cL_setAt, 5, (some .int), [(0, 10, 13, 30), (0, 10, 17, 32)])
abbrev ML_indexOf : MI := (yL_indexOf, cL_indexOf, 5, (some .int), [(0, 10, 13, 30), (0, 10, 17, 32)])
abbrev ML_setCost : MI := (yL_setCost, cL_setCost, 5, (some .int), [(0, 10, 13, 30), (0, 10, 17, 19)])
abbrev ML_leastCost : MI := (yL_leastCost, cL_leastCost, 4, (some .int), [(0, 9, 12, 30), (0, 9, 15, 32)])
abbrev ML_meanCost : MI := (yL_meanCost, cL_meanCost, 4, (some .int), [(0, 8, 11, 30), (0, 8, 14, 32)])
abbrev ML_enumerate : MI := (yL_enumerate, cL_enumerate, 6, (some .int), [(0, 12, 15, 30), (0, 12, 19, 32), (0, 12, 23, 19)])
abbrev ML_enumerated : MI := (yL_enumerated, cL_enumerated, 4, (some .int), [(0, 9, 12, 30)])
theorem ins_X0 : Cond.instantiable RX0 4 ∈ AW := aw_of (i := 119) (by decide +kernel) (by decide +kernel)
theorem ini_RX0 : Cond.initialized RX0 ∈ AW := aw_of (i := 83) (by decide +kernel) (by decide +kernel)
theorem lay_X0 : ∀ w ∈ u_ws RX0 TX0 4, w ∈ AW := by
  have h : ((u_ws RX0 TX0 4).all fun w => lw_tbl.contains w && goodWord w) = true := by decide +kernel
  intro w hw
  have h2 := List.all_eq_true.mp h w hw
  rw [Bool.and_eq_true] at h2
  exact List.mem_filter.mpr ⟨List.contains_iff_mem.mp h2.1, h2.2⟩
theorem cls_0 : CLS 0 RX0 TX0 4 tyX0 := ⟨rfl, lay_X0, tyX0_ok, nmX0, rfl, by decide, by decide +kernel, ins_X0, ini_RX0, by decide +kernel⟩
theorem ins_X1 : Cond.instantiable RX1 2 ∈ AW := aw_of (i := 214) (by decide +kernel) (by decide +kernel)
theorem ini_RX1 : Cond.initialized RX1 ∈ AW := aw_of (i := 86) (by decide +kernel) (by decide +kernel)
theorem lay_X1 : ∀ w ∈ u_ws RX1 TX1 2, w ∈ AW := by
  have h : ((u_ws RX1 TX1 2).all fun w => lw_tbl.contains w && goodWord w) = true := by decide +kernel
  intro w hw
  have h2 := List.all_eq_true.mp h w hw
  rw [Bool.and_eq_true] at h2
  exact List.mem_filter.mpr ⟨List.contains_iff_mem.mp h2.1, h2.2⟩
theorem cls_1 : CLS 1 RX1 TX1 2 tyX1 := ⟨rfl, lay_X1, tyX1_ok, nmX1, rfl, by decide, by decide +kernel, ins_X1, ini_RX1, by decide +kernel⟩
theorem ins_X2 : Cond.instantiable RX2 3 ∈ AW := aw_of (i := 229) (by decide +kernel) (by decide +kernel)
theorem ini_RX2 : Cond.initialized RX2 ∈ AW := aw_of (i := 87) (by decide +kernel) (by decide +kernel)
theorem lay_X2 : ∀ w ∈ u_ws RX2 TX2 3, w ∈ AW := by
  have h : ((u_ws RX2 TX2 3).all fun w => lw_tbl.contains w && goodWord w) = true := by decide +kernel
  intro w hw
  have h2 := List.all_eq_true.mp h w hw
  rw [Bool.and_eq_true] at h2
  exact List.mem_filter.mpr ⟨List.contains_iff_mem.mp h2.1, h2.2⟩
theorem cls_2 : CLS 2 RX2 TX2 3 tyX2 := ⟨rfl, lay_X2, tyX2_ok, nmX2, rfl, by decide, by decide +kernel, ins_X2, ini_RX2, by decide +kernel⟩
theorem ins_X3 : Cond.instantiable RX3 8 ∈ AW := aw_of (i := 141) (by decide +kernel) (by decide +kernel)
theorem ini_RX3 : Cond.initialized RX3 ∈ AW := aw_of (i := 84) (by decide +kernel) (by decide +kernel)
theorem lay_X3 : ∀ w ∈ u_ws RX3 TX3 8, w ∈ AW := by
  have h : ((u_ws RX3 TX3 8).all fun w => lw_tbl.contains w && goodWord w) = true := by decide +kernel
  intro w hw
  have h2 := List.all_eq_true.mp h w hw
  rw [Bool.and_eq_true] at h2
  exact List.mem_filter.mpr ⟨List.contains_iff_mem.mp h2.1, h2.2⟩
theorem cls_3 : CLS 3 RX3 TX3 8 tyX3 := ⟨rfl, lay_X3, tyX3_ok, nmX3, rfl, by decide, by decide +kernel, ins_X3, ini_RX3, by decide +kernel⟩
theorem ins_X4 : Cond.instantiable RX4 3 ∈ AW := aw_of (i := 705) (by decide +kernel) (by decide +kernel)
theorem ini_RX4 : Cond.initialized RX4 ∈ AW := aw_of (i := 103) (by decide +kernel) (by decide +kernel)
theorem lay_X4 : ∀ w ∈ u_ws RX4 TX4 3, w ∈ AW := by
  have h : ((u_ws RX4 TX4 3).all fun w => lw_tbl.contains w && goodWord w) = true := by decide +kernel
  intro w hw
  have h2 := List.all_eq_true.mp h w hw
  rw [Bool.and_eq_true] at h2
  exact List.mem_filter.mpr ⟨List.contains_iff_mem.mp h2.1, h2.2⟩
theorem cls_4 : CLS 4 RX4 TX4 3 tyX4 := ⟨rfl, lay_X4, tyX4_ok, nmX4, rfl, by decide, by decide +kernel, ins_X4, ini_RX4, by decide +kernel⟩
theorem ins_X6 : Cond.instantiable RX6 10 ∈ AW := aw_of (i := 173) (by decide +kernel) (by decide +kernel)
theorem ini_RX6 : Cond.initialized RX6 ∈ AW := aw_of (i := 85) (by decide +kernel) (by decide +kernel)
theorem lay_X6 : ∀ w ∈ u_ws RX6 TX6 10, w ∈ AW := by
  have h : ((u_ws RX6 TX6 10).all fun w => lw_tbl.contains w && goodWord w) = true := by decide +kernel
  intro w hw
  have h2 := List.all_eq_true.mp h w hw
  rw [Bool.and_eq_true] at h2
  exact List.mem_filter.mpr ⟨List.contains_iff_mem.mp h2.1, h2.2⟩
theorem cls_5 : CLS 5 RX6 TX6 10 tyX6 := ⟨rfl, lay_X6, tyX6_ok, nmX6, rfl, by decide, by decide +kernel, ins_X6, ini_RX6, by decide +kernel⟩
theorem ins_X8 : Cond.instantiable RX8 17 ∈ AW := aw_of (i := 109) (by decide +kernel) (by decide +kernel)
theorem ini_RX8 : Cond.initialized RX8 ∈ AW := aw_of (i := 82) (by decide +kernel) (by decide +kernel)
theorem lay_X8 : ∀ w ∈ u_ws RX8 TX8 17, w ∈ AW := by
  have h : ((u_ws RX8 TX8 17).all fun w => lw_tbl.contains w && goodWord w) = true := by decide +kernel
  intro w hw
  have h2 := List.all_eq_true.mp h w hw
  rw [Bool.and_eq_true] at h2
  exact List.mem_filter.mpr ⟨List.contains_iff_mem.mp h2.1, h2.2⟩
theorem cls_6 : CLS 6 RX8 TX8 17 tyX8 := ⟨rfl, lay_X8, tyX8_ok, nmX8, rfl, by decide, by decide +kernel, ins_X8, ini_RX8, by decide +kernel⟩
theorem ins_X9 : Cond.instantiable RX9 27 ∈ AW := aw_of (i := 1132) (by decide +kernel) (by decide +kernel)
theorem ini_RX9 : Cond.initialized RX9 ∈ AW := aw_of (i := 88) (by decide +kernel) (by decide +kernel)
theorem lay_X9 : ∀ w ∈ u_ws RX9 TX9 27, w ∈ AW := by
  have h : ((u_ws RX9 TX9 27).all fun w => lw_tbl.contains w && goodWord w) = true := by decide +kernel
  intro w hw
  have h2 := List.all_eq_true.mp h w hw
  rw [Bool.and_eq_true] at h2
  exact List.mem_filter.mpr ⟨List.contains_iff_mem.mp h2.1, h2.2⟩
theorem cls_7 : CLS 7 RX9 TX9 27 tyX9 := ⟨rfl, lay_X9, tyX9_ok, nmX9, rfl, by decide, by decide +kernel, ins_X9, ini_RX9, by decide +kernel⟩
theorem aw_ml_X0_3 : Cond.methodLink RX0 3 Lib.objectInit ∈ AW := aw_of (i := 123) (by decide +kernel) (by decide +kernel)
theorem aw_io : Cond.instanceMethod Lib.objectInit ∈ AW := aw_of (i := 114) (by decide +kernel) (by decide +kernel)
theorem aw_co : Cond.code Lib.objectInit ⟨#[0xb1]⟩ 1 none ∈ AW := aw_of (i := 115) (by decide +kernel) (by decide +kernel)
theorem oi_X0_3 : OBI RX0 3 := ⟨aw_ml_X0_3, aw_io, aw_co⟩
theorem ac_long : Cond.arrayClass .long ∈ AW := aw_of (i := 139) (by decide +kernel) (by decide +kernel)
theorem aw_fl_X0_9 : Cond.fieldLink RX0 9 RX0 (TX0 2).2.1 (TX0 2).2.2.1 ∈ AW := aw_of (i := 126) (by decide +kernel) (by decide +kernel)
theorem ff_X0_9 : FLF RX0 9 0 2 := ⟨_, _, _, _, cls_0, by decide, aw_fl_X0_9, by decide +kernel, rfl⟩
theorem aw_fl_X0_15 : Cond.fieldLink RX0 15 RX0 (TX0 3).2.1 (TX0 3).2.2.1 ∈ AW := aw_of (i := 127) (by decide +kernel) (by decide +kernel)
theorem ff_X0_15 : FLF RX0 15 0 3 := ⟨_, _, _, _, cls_0, by decide, aw_fl_X0_15, by decide +kernel, rfl⟩
theorem aw_fl_X0_18 : Cond.fieldLink RX0 18 RX0 (TX0 0).2.1 (TX0 0).2.2.1 ∈ AW := aw_of (i := 124) (by decide +kernel) (by decide +kernel)
theorem ff_X0_18 : FLF RX0 18 0 0 := ⟨_, _, _, _, cls_0, by decide, aw_fl_X0_18, by decide +kernel, rfl⟩
theorem aw_fl_X0_22 : Cond.fieldLink RX0 22 RX0 (TX0 1).2.1 (TX0 1).2.2.1 ∈ AW := aw_of (i := 125) (by decide +kernel) (by decide +kernel)
theorem ff_X0_22 : FLF RX0 22 0 1 := ⟨_, _, _, _, cls_0, by decide, aw_fl_X0_22, by decide +kernel, rfl⟩
theorem wd_X0_keepMaximal : wdM MX0_keepMaximal ∈ AW := aw_of (i := 576) (by decide +kernel) (by decide +kernel)
theorem aw_ml_X0_25 : Cond.methodLink RX0 25 yX0_keepMaximal ∈ AW := aw_of (i := 573) (by decide +kernel) (by decide +kernel)
theorem im_X0_keepMaximal : Cond.instanceMethod yX0_keepMaximal ∈ AW := aw_of (i := 575) (by decide +kernel) (by decide +kernel)
theorem se_X0_keepMaximal : Cond.selects RX0 yX0_keepMaximal yX0_keepMaximal ∈ AW := aw_of (i := 21) (by decide +kernel) (by decide +kernel)
theorem lk_X0_25 : LKV RX0 25 MX0_keepMaximal 1 0 := ⟨⟨aw_ml_X0_25, wd_X0_keepMaximal, ini_RX0, by decide +kernel, by decide +kernel, by decide⟩, im_X0_keepMaximal, _, _, _, _, cls_0, se_X0_keepMaximal⟩
theorem wd_X0_keepMinimal : wdM MX0_keepMinimal ∈ AW := aw_of (i := 595) (by decide +kernel) (by decide +kernel)
theorem aw_ml_X0_29 : Cond.methodLink RX0 29 yX0_keepMinimal ∈ AW := aw_of (i := 592) (by decide +kernel) (by decide +kernel)
theorem im_X0_keepMinimal : Cond.instanceMethod yX0_keepMinimal ∈ AW := aw_of (i := 594) (by decide +kernel) (by decide +kernel)
theorem se_X0_keepMinimal : Cond.selects RX0 yX0_keepMinimal yX0_keepMinimal ∈ AW := aw_of (i := 22) (by decide +kernel) (by decide +kernel)
theorem lk_X0_29 : LKV RX0 29 MX0_keepMinimal 1 0 := ⟨⟨aw_ml_X0_29, wd_X0_keepMinimal, ini_RX0, by decide +kernel, by decide +kernel, by decide⟩, im_X0_keepMinimal, _, _, _, _, cls_0, se_X0_keepMinimal⟩
theorem wd_X0_hit : wdM MX0_hit ∈ AW := aw_of (i := 607) (by decide +kernel) (by decide +kernel)
theorem aw_ml_X0_32 : Cond.methodLink RX0 32 yX0_hit ∈ AW := aw_of (i := 604) (by decide +kernel) (by decide +kernel)
theorem im_X0_hit : Cond.instanceMethod yX0_hit ∈ AW := aw_of (i := 606) (by decide +kernel) (by decide +kernel)
theorem se_X0_hit : Cond.selects RX0 yX0_hit yX0_hit ∈ AW := aw_of (i := 23) (by decide +kernel) (by decide +kernel)
theorem lk_X0_32 : LKV RX0 32 MX0_hit 1 0 := ⟨⟨aw_ml_X0_32, wd_X0_hit, ini_RX0, by decide +kernel, by decide +kernel, by decide⟩, im_X0_hit, _, _, _, _, cls_0, se_X0_hit⟩
theorem wd_X7_lower : wdM MX7_lower ∈ AW := aw_of (i := 580) (by decide +kernel) (by decide +kernel)
theorem ini_RX7 : Cond.initialized RX7 ∈ AW := aw_of (i := 98) (by decide +kernel) (by decide +kernel)
theorem aw_ml_X0_35 : Cond.methodLink RX0 35 yX7_lower ∈ AW := aw_of (i := 578) (by decide +kernel) (by decide +kernel)
theorem sm_X7_lower : Cond.static yX7_lower ∈ AW := aw_of (i := 579) (by decide +kernel) (by decide +kernel)
theorem lk_X0_35 : LKS RX0 35 MX7_lower 1 := ⟨⟨aw_ml_X0_35, wd_X7_lower, ini_RX7, by decide +kernel, by decide +kernel, by decide⟩, sm_X7_lower⟩
theorem wd_X0_addAll : wdM MX0_addAll ∈ AW := aw_of (i := 626) (by decide +kernel) (by decide +kernel)
theorem aw_ml_X0_40 : Cond.methodLink RX0 40 yX0_addAll ∈ AW := aw_of (i := 624) (by decide +kernel) (by decide +kernel)
theorem sm_X0_addAll : Cond.static yX0_addAll ∈ AW := aw_of (i := 625) (by decide +kernel) (by decide +kernel)
theorem lk_X0_40 : LKS RX0 40 MX0_addAll 2 := ⟨⟨aw_ml_X0_40, wd_X0_addAll, ini_RX0, by decide +kernel, by decide +kernel, by decide⟩, sm_X0_addAll⟩
theorem wd_X0_keepAll : wdM MX0_keepAll ∈ AW := aw_of (i := 629) (by decide +kernel) (by decide +kernel)
theorem aw_ml_X0_44 : Cond.methodLink RX0 44 yX0_keepAll ∈ AW := aw_of (i := 627) (by decide +kernel) (by decide +kernel)
theorem sm_X0_keepAll : Cond.static yX0_keepAll ∈ AW := aw_of (i := 628) (by decide +kernel) (by decide +kernel)
theorem lk_X0_44 : LKS RX0 44 MX0_keepAll 2 := ⟨⟨aw_ml_X0_44, wd_X0_keepAll, ini_RX0, by decide +kernel, by decide +kernel, by decide⟩, sm_X0_keepAll⟩
theorem wd_X0_removeAll : wdM MX0_removeAll ∈ AW := aw_of (i := 590) (by decide +kernel) (by decide +kernel)
theorem aw_ml_X0_47 : Cond.methodLink RX0 47 yX0_removeAll ∈ AW := aw_of (i := 588) (by decide +kernel) (by decide +kernel)
theorem sm_X0_removeAll : Cond.static yX0_removeAll ∈ AW := aw_of (i := 589) (by decide +kernel) (by decide +kernel)
theorem lk_X0_47 : LKS RX0 47 MX0_removeAll 2 := ⟨⟨aw_ml_X0_47, wd_X0_removeAll, ini_RX0, by decide +kernel, by decide +kernel, by decide⟩, sm_X0_removeAll⟩
theorem wd_X0_pair : wdM MX0_pair ∈ AW := aw_of (i := 633) (by decide +kernel) (by decide +kernel)
theorem aw_ml_X0_50 : Cond.methodLink RX0 50 yX0_pair ∈ AW := aw_of (i := 630) (by decide +kernel) (by decide +kernel)
theorem im_X0_pair : Cond.instanceMethod yX0_pair ∈ AW := aw_of (i := 632) (by decide +kernel) (by decide +kernel)
theorem se_X0_pair : Cond.selects RX0 yX0_pair yX0_pair ∈ AW := aw_of (i := 24) (by decide +kernel) (by decide +kernel)
theorem lk_X0_50 : LKV RX0 50 MX0_pair 3 0 := ⟨⟨aw_ml_X0_50, wd_X0_pair, ini_RX0, by decide +kernel, by decide +kernel, by decide⟩, im_X0_pair, _, _, _, _, cls_0, se_X0_pair⟩
theorem wd_X0_divide : wdM MX0_divide ∈ AW := aw_of (i := 672) (by decide +kernel) (by decide +kernel)
theorem aw_ml_X0_54 : Cond.methodLink RX0 54 yX0_divide ∈ AW := aw_of (i := 669) (by decide +kernel) (by decide +kernel)
theorem im_X0_divide : Cond.instanceMethod yX0_divide ∈ AW := aw_of (i := 671) (by decide +kernel) (by decide +kernel)
theorem se_X0_divide : Cond.selects RX0 yX0_divide yX0_divide ∈ AW := aw_of (i := 26) (by decide +kernel) (by decide +kernel)
theorem lk_X0_54 : LKV RX0 54 MX0_divide 2 0 := ⟨⟨aw_ml_X0_54, wd_X0_divide, ini_RX0, by decide +kernel, by decide +kernel, by decide⟩, im_X0_divide, _, _, _, _, cls_0, se_X0_divide⟩
theorem fl_X0_9 : FL RX0 9 0 2 := ⟨_, _, _, _, cls_0, by decide, aw_fl_X0_9⟩
theorem wd_X7_copy : wdM MX7_copy ∈ AW := aw_of (i := 561) (by decide +kernel) (by decide +kernel)
theorem aw_ml_X0_58 : Cond.methodLink RX0 58 yX7_copy ∈ AW := aw_of (i := 577) (by decide +kernel) (by decide +kernel)
theorem sm_X7_copy : Cond.static yX7_copy ∈ AW := aw_of (i := 560) (by decide +kernel) (by decide +kernel)
theorem lk_X0_58 : LKS RX0 58 MX7_copy 2 := ⟨⟨aw_ml_X0_58, wd_X7_copy, ini_RX7, by decide +kernel, by decide +kernel, by decide⟩, sm_X7_copy⟩
theorem wd_X0_removeProducts : wdM MX0_removeProducts ∈ AW := aw_of (i := 680) (by decide +kernel) (by decide +kernel)
theorem aw_ml_X0_61 : Cond.methodLink RX0 61 yX0_removeProducts ∈ AW := aw_of (i := 677) (by decide +kernel) (by decide +kernel)
theorem im_X0_removeProducts : Cond.instanceMethod yX0_removeProducts ∈ AW := aw_of (i := 679) (by decide +kernel) (by decide +kernel)
theorem se_X0_removeProducts : Cond.selects RX0 yX0_removeProducts yX0_removeProducts ∈ AW := aw_of (i := 28) (by decide +kernel) (by decide +kernel)
theorem lk_X0_61 : LKV RX0 61 MX0_removeProducts 2 0 := ⟨⟨aw_ml_X0_61, wd_X0_removeProducts, ini_RX0, by decide +kernel, by decide +kernel, by decide⟩, im_X0_removeProducts, _, _, _, _, cls_0, se_X0_removeProducts⟩
theorem wd_X7_raise : wdM MX7_raise ∈ AW := aw_of (i := 598) (by decide +kernel) (by decide +kernel)
theorem aw_ml_X0_65 : Cond.methodLink RX0 65 yX7_raise ∈ AW := aw_of (i := 596) (by decide +kernel) (by decide +kernel)
theorem sm_X7_raise : Cond.static yX7_raise ∈ AW := aw_of (i := 597) (by decide +kernel) (by decide +kernel)
theorem lk_X0_65 : LKS RX0 65 MX7_raise 1 := ⟨⟨aw_ml_X0_65, wd_X7_raise, ini_RX7, by decide +kernel, by decide +kernel, by decide⟩, sm_X7_raise⟩
theorem k_X0_68 : Cond.constantLong RX0 68 (-1) ∈ AW := aw_of (i := 591) (by decide +kernel) (by decide +kernel)
theorem fl_X0_15 : FL RX0 15 0 3 := ⟨_, _, _, _, cls_0, by decide, aw_fl_X0_15⟩
theorem wd_J7_fill_d0a16 : wdM MJ7_fill_d0a16 ∈ AW := aw_of (i := 551) (by decide +kernel) (by decide +kernel)
theorem ini_RJ7 : Cond.initialized RJ7 ∈ AW := aw_of (i := 97) (by decide +kernel) (by decide +kernel)
theorem aw_ml_X0_70 : Cond.methodLink RX0 70 yJ7_fill_d0a16 ∈ AW := aw_of (i := 586) (by decide +kernel) (by decide +kernel)
theorem sm_J7_fill_d0a16 : Cond.static yJ7_fill_d0a16 ∈ AW := aw_of (i := 550) (by decide +kernel) (by decide +kernel)
theorem lk_X0_70 : LKS RX0 70 MJ7_fill_d0a16 2 := ⟨⟨aw_ml_X0_70, wd_J7_fill_d0a16, ini_RJ7, by decide +kernel, by decide +kernel, by decide⟩, sm_J7_fill_d0a16⟩
theorem wd_X7_takeOut : wdM MX7_takeOut ∈ AW := aw_of (i := 583) (by decide +kernel) (by decide +kernel)
theorem aw_ml_X0_76 : Cond.methodLink RX0 76 yX7_takeOut ∈ AW := aw_of (i := 587) (by decide +kernel) (by decide +kernel)
theorem sm_X7_takeOut : Cond.static yX7_takeOut ∈ AW := aw_of (i := 582) (by decide +kernel) (by decide +kernel)
theorem lk_X0_76 : LKS RX0 76 MX7_takeOut 3 := ⟨⟨aw_ml_X0_76, wd_X7_takeOut, ini_RX7, by decide +kernel, by decide +kernel, by decide⟩, sm_X7_takeOut⟩
theorem wd_X7_putIn : wdM MX7_putIn ∈ AW := aw_of (i := 601) (by decide +kernel) (by decide +kernel)
theorem aw_ml_X0_80 : Cond.methodLink RX0 80 yX7_putIn ∈ AW := aw_of (i := 603) (by decide +kernel) (by decide +kernel)
theorem sm_X7_putIn : Cond.static yX7_putIn ∈ AW := aw_of (i := 600) (by decide +kernel) (by decide +kernel)
theorem lk_X0_80 : LKS RX0 80 MX7_putIn 3 := ⟨⟨aw_ml_X0_80, wd_X7_putIn, ini_RX7, by decide +kernel, by decide +kernel, by decide⟩, sm_X7_putIn⟩
theorem wd_X7_swap : wdM MX7_swap ∈ AW := aw_of (i := 610) (by decide +kernel) (by decide +kernel)
theorem aw_ml_X0_83 : Cond.methodLink RX0 83 yX7_swap ∈ AW := aw_of (i := 608) (by decide +kernel) (by decide +kernel)
theorem sm_X7_swap : Cond.static yX7_swap ∈ AW := aw_of (i := 609) (by decide +kernel) (by decide +kernel)
theorem lk_X0_83 : LKS RX0 83 MX7_swap 2 := ⟨⟨aw_ml_X0_83, wd_X7_swap, ini_RX7, by decide +kernel, by decide +kernel, by decide⟩, sm_X7_swap⟩
theorem fl_X0_18 : FL RX0 18 0 0 := ⟨_, _, _, _, cls_0, by decide, aw_fl_X0_18⟩
theorem wd_X7_list : wdM MX7_list ∈ AW := aw_of (i := 636) (by decide +kernel) (by decide +kernel)
theorem aw_ml_X0_86 : Cond.methodLink RX0 86 yX7_list ∈ AW := aw_of (i := 634) (by decide +kernel) (by decide +kernel)
theorem sm_X7_list : Cond.static yX7_list ∈ AW := aw_of (i := 635) (by decide +kernel) (by decide +kernel)
theorem lk_X0_86 : LKS RX0 86 MX7_list 2 := ⟨⟨aw_ml_X0_86, wd_X7_list, ini_RX7, by decide +kernel, by decide +kernel, by decide⟩, sm_X7_list⟩
theorem fl_X0_22 : FL RX0 22 0 1 := ⟨_, _, _, _, cls_0, by decide, aw_fl_X0_22⟩
theorem k_X0_90 : Cond.constant RX0 90 32768 ∈ AW := aw_of (i := 644) (by decide +kernel) (by decide +kernel)
theorem wd_X0_countPairs : wdM MX0_countPairs ∈ AW := aw_of (i := 648) (by decide +kernel) (by decide +kernel)
theorem aw_ml_X0_91 : Cond.methodLink RX0 91 yX0_countPairs ∈ AW := aw_of (i := 645) (by decide +kernel) (by decide +kernel)
theorem im_X0_countPairs : Cond.instanceMethod yX0_countPairs ∈ AW := aw_of (i := 647) (by decide +kernel) (by decide +kernel)
theorem se_X0_countPairs : Cond.selects RX0 yX0_countPairs yX0_countPairs ∈ AW := aw_of (i := 25) (by decide +kernel) (by decide +kernel)
theorem lk_X0_91 : LKV RX0 91 MX0_countPairs 3 0 := ⟨⟨aw_ml_X0_91, wd_X0_countPairs, ini_RX0, by decide +kernel, by decide +kernel, by decide⟩, im_X0_countPairs, _, _, _, _, cls_0, se_X0_countPairs⟩
theorem wd_X7_put : wdM MX7_put ∈ AW := aw_of (i := 554) (by decide +kernel) (by decide +kernel)
theorem aw_ml_X0_94 : Cond.methodLink RX0 94 yX7_put ∈ AW := aw_of (i := 668) (by decide +kernel) (by decide +kernel)
theorem sm_X7_put : Cond.static yX7_put ∈ AW := aw_of (i := 553) (by decide +kernel) (by decide +kernel)
theorem lk_X0_94 : LKS RX0 94 MX7_put 2 := ⟨⟨aw_ml_X0_94, wd_X7_put, ini_RX7, by decide +kernel, by decide +kernel, by decide⟩, sm_X7_put⟩
theorem wd_X7_span : wdM MX7_span ∈ AW := aw_of (i := 651) (by decide +kernel) (by decide +kernel)
theorem aw_ml_X0_97 : Cond.methodLink RX0 97 yX7_span ∈ AW := aw_of (i := 649) (by decide +kernel) (by decide +kernel)
theorem sm_X7_span : Cond.static yX7_span ∈ AW := aw_of (i := 650) (by decide +kernel) (by decide +kernel)
theorem lk_X0_97 : LKS RX0 97 MX7_span 1 := ⟨⟨aw_ml_X0_97, wd_X7_span, ini_RX7, by decide +kernel, by decide +kernel, by decide⟩, sm_X7_span⟩
theorem aw_ml_X0_101 : Cond.methodLink RX0 101 Lib.Math.max.name ∈ AW := aw_of (i := 658) (by decide +kernel) (by decide +kernel)
theorem aw_smax : Cond.static Lib.Math.max.name ∈ AW := aw_of (i := 547) (by decide +kernel) (by decide +kernel)
theorem aw_im : Cond.initialized "java/lang/Math" ∈ AW := aw_of (i := 96) (by decide +kernel) (by decide +kernel)
theorem aw_cmax : Cond.code Lib.Math.max.name Lib.Math.max.code 2 (some .int) ∈ AW := aw_of (i := 548) (by decide +kernel) (by decide +kernel)
theorem mm_X0_101 : MXL RX0 101 := ⟨aw_ml_X0_101, aw_smax, aw_im, aw_cmax⟩
theorem wd_X0_spread : wdM MX0_spread ∈ AW := aw_of (i := 661) (by decide +kernel) (by decide +kernel)
theorem aw_ml_X0_107 : Cond.methodLink RX0 107 yX0_spread ∈ AW := aw_of (i := 659) (by decide +kernel) (by decide +kernel)
theorem sm_X0_spread : Cond.static yX0_spread ∈ AW := aw_of (i := 660) (by decide +kernel) (by decide +kernel)
theorem lk_X0_107 : LKS RX0 107 MX0_spread 4 := ⟨⟨aw_ml_X0_107, wd_X0_spread, ini_RX0, by decide +kernel, by decide +kernel, by decide⟩, sm_X0_spread⟩
theorem wd_X0_sumSubsets : wdM MX0_sumSubsets ∈ AW := aw_of (i := 667) (by decide +kernel) (by decide +kernel)
theorem aw_ml_X0_111 : Cond.methodLink RX0 111 yX0_sumSubsets ∈ AW := aw_of (i := 665) (by decide +kernel) (by decide +kernel)
theorem sm_X0_sumSubsets : Cond.static yX0_sumSubsets ∈ AW := aw_of (i := 666) (by decide +kernel) (by decide +kernel)
theorem lk_X0_111 : LKS RX0 111 MX0_sumSubsets 3 := ⟨⟨aw_ml_X0_111, wd_X0_sumSubsets, ini_RX0, by decide +kernel, by decide +kernel, by decide⟩, sm_X0_sumSubsets⟩
theorem wd_X7_has : wdM MX7_has ∈ AW := aw_of (i := 664) (by decide +kernel) (by decide +kernel)
theorem aw_ml_X0_115 : Cond.methodLink RX0 115 yX7_has ∈ AW := aw_of (i := 662) (by decide +kernel) (by decide +kernel)
theorem sm_X7_has : Cond.static yX7_has ∈ AW := aw_of (i := 663) (by decide +kernel) (by decide +kernel)
theorem lk_X0_115 : LKS RX0 115 MX7_has 2 := ⟨⟨aw_ml_X0_115, wd_X7_has, ini_RX7, by decide +kernel, by decide +kernel, by decide⟩, sm_X7_has⟩
theorem wd_X0_hasAllWith : wdM MX0_hasAllWith ∈ AW := aw_of (i := 676) (by decide +kernel) (by decide +kernel)
theorem aw_ml_X0_119 : Cond.methodLink RX0 119 yX0_hasAllWith ∈ AW := aw_of (i := 673) (by decide +kernel) (by decide +kernel)
theorem im_X0_hasAllWith : Cond.instanceMethod yX0_hasAllWith ∈ AW := aw_of (i := 675) (by decide +kernel) (by decide +kernel)
theorem se_X0_hasAllWith : Cond.selects RX0 yX0_hasAllWith yX0_hasAllWith ∈ AW := aw_of (i := 27) (by decide +kernel) (by decide +kernel)
theorem lk_X0_119 : LKV RX0 119 MX0_hasAllWith 3 0 := ⟨⟨aw_ml_X0_119, wd_X0_hasAllWith, ini_RX0, by decide +kernel, by decide +kernel, by decide⟩, im_X0_hasAllWith, _, _, _, _, cls_0, se_X0_hasAllWith⟩
theorem wd_X7_remove : wdM MX7_remove ∈ AW := aw_of (i := 683) (by decide +kernel) (by decide +kernel)
theorem aw_ml_X0_123 : Cond.methodLink RX0 123 yX7_remove ∈ AW := aw_of (i := 681) (by decide +kernel) (by decide +kernel)
theorem sm_X7_remove : Cond.static yX7_remove ∈ AW := aw_of (i := 682) (by decide +kernel) (by decide +kernel)
theorem lk_X0_123 : LKS RX0 123 MX7_remove 2 := ⟨⟨aw_ml_X0_123, wd_X7_remove, ini_RX7, by decide +kernel, by decide +kernel, by decide⟩, sm_X7_remove⟩
theorem aw_ml_X1_3 : Cond.methodLink RX1 3 Lib.objectInit ∈ AW := aw_of (i := 218) (by decide +kernel) (by decide +kernel)
theorem oi_X1_3 : OBI RX1 3 := ⟨aw_ml_X1_3, aw_io, aw_co⟩
theorem an_X1_11 : Cond.classLink RX1 11 (FieldType.array .long).toString ∈ AW := aw_of (i := 219) (by decide +kernel) (by decide +kernel)
theorem aw_fl_X1_13 : Cond.fieldLink RX1 13 RX1 (TX1 0).2.1 (TX1 0).2.2.1 ∈ AW := aw_of (i := 221) (by decide +kernel) (by decide +kernel)
theorem ff_X1_13 : FLF RX1 13 1 0 := ⟨_, _, _, _, cls_1, by decide, aw_fl_X1_13, by decide +kernel, rfl⟩
theorem aw_fl_X1_17 : Cond.fieldLink RX1 17 RX1 (TX1 1).2.1 (TX1 1).2.2.1 ∈ AW := aw_of (i := 222) (by decide +kernel) (by decide +kernel)
theorem fw_X1_17 : FLW RX1 17 1 1 := ⟨_, _, _, _, cls_1, by decide, aw_fl_X1_17, by decide +kernel⟩
theorem aw_fn_X1_21 : Cond.fieldLinkNest RX1 21 RX6 (TX6 2).2.1 (TX6 2).2.2.1 RX8 ∈ lw_tbl := List.mem_of_getElem? (i := 184) (by decide +kernel)
theorem fn_X1_21 : FLN RX1 21 5 2 := ⟨_, _, _, _, _, cls_5, by decide, aw_fn_X1_21⟩
theorem aw_ml_X1_26 : Cond.methodLink RX1 26 Lib.Math.min.name ∈ AW := aw_of (i := 537) (by decide +kernel) (by decide +kernel)
theorem aw_smin : Cond.static Lib.Math.min.name ∈ AW := aw_of (i := 456) (by decide +kernel) (by decide +kernel)
theorem aw_cmin : Cond.code Lib.Math.min.name Lib.Math.min.code 2 (some .int) ∈ AW := aw_of (i := 457) (by decide +kernel) (by decide +kernel)
theorem mm_X1_26 : MNL RX1 26 := ⟨aw_ml_X1_26, aw_smin, aw_im, aw_cmin⟩
theorem aw_fn_X1_32 : Cond.fieldLinkNest RX1 32 RX6 (TX6 0).2.1 (TX6 0).2.2.1 RX8 ∈ lw_tbl := List.mem_of_getElem? (i := 180) (by decide +kernel)
theorem fn_X1_32 : FLN RX1 32 5 0 := ⟨_, _, _, _, _, cls_5, by decide, aw_fn_X1_32⟩
theorem aw_fn_X1_36 : Cond.fieldLinkNest RX1 36 RX6 (TX6 1).2.1 (TX6 1).2.2.1 RX8 ∈ lw_tbl := List.mem_of_getElem? (i := 182) (by decide +kernel)
theorem fn_X1_36 : FLN RX1 36 5 1 := ⟨_, _, _, _, _, cls_5, by decide, aw_fn_X1_36⟩
theorem wd_X1_push : wdM MX1_push ∈ AW := aw_of (i := 541) (by decide +kernel) (by decide +kernel)
theorem aw_ml_X1_39 : Cond.methodLink RX1 39 yX1_push ∈ AW := aw_of (i := 538) (by decide +kernel) (by decide +kernel)
theorem im_X1_push : Cond.instanceMethod yX1_push ∈ AW := aw_of (i := 540) (by decide +kernel) (by decide +kernel)
theorem se_X1_push : Cond.selects RX1 yX1_push yX1_push ∈ AW := aw_of (i := 17) (by decide +kernel) (by decide +kernel)
theorem lk_X1_39 : LKV RX1 39 MX1_push 0 1 := ⟨⟨aw_ml_X1_39, wd_X1_push, ini_RX1, by decide +kernel, by decide +kernel, by decide⟩, im_X1_push, _, _, _, _, cls_1, se_X1_push⟩
theorem aw_ml_X1_43 : Cond.methodLink RX1 43 yX7_put ∈ AW := aw_of (i := 552) (by decide +kernel) (by decide +kernel)
theorem lk_X1_43 : LKS RX1 43 MX7_put 2 := ⟨⟨aw_ml_X1_43, wd_X7_put, ini_RX7, by decide +kernel, by decide +kernel, by decide⟩, sm_X7_put⟩
theorem wd_X1_pushFamily : wdM MX1_pushFamily ∈ AW := aw_of (i := 558) (by decide +kernel) (by decide +kernel)
theorem aw_ml_X1_49 : Cond.methodLink RX1 49 yX1_pushFamily ∈ AW := aw_of (i := 555) (by decide +kernel) (by decide +kernel)
theorem im_X1_pushFamily : Cond.instanceMethod yX1_pushFamily ∈ AW := aw_of (i := 557) (by decide +kernel) (by decide +kernel)
theorem se_X1_pushFamily : Cond.selects RX1 yX1_pushFamily yX1_pushFamily ∈ AW := aw_of (i := 19) (by decide +kernel) (by decide +kernel)
theorem lk_X1_49 : LKV RX1 49 MX1_pushFamily 2 1 := ⟨⟨aw_ml_X1_49, wd_X1_pushFamily, ini_RX1, by decide +kernel, by decide +kernel, by decide⟩, im_X1_pushFamily, _, _, _, _, cls_1, se_X1_pushFamily⟩
theorem wd_X1_apply : wdM MX1_apply ∈ AW := aw_of (i := 568) (by decide +kernel) (by decide +kernel)
theorem aw_ml_X1_53 : Cond.methodLink RX1 53 yX1_apply ∈ AW := aw_of (i := 565) (by decide +kernel) (by decide +kernel)
theorem im_X1_apply : Cond.instanceMethod yX1_apply ∈ AW := aw_of (i := 567) (by decide +kernel) (by decide +kernel)
theorem se_X1_apply : Cond.selects RX1 yX1_apply yX1_apply ∈ AW := aw_of (i := 20) (by decide +kernel) (by decide +kernel)
theorem lk_X1_53 : LKV RX1 53 MX1_apply 2 1 := ⟨⟨aw_ml_X1_53, wd_X1_apply, ini_RX1, by decide +kernel, by decide +kernel, by decide⟩, im_X1_apply, _, _, _, _, cls_1, se_X1_apply⟩
theorem wd_X1_row : wdM MX1_row ∈ AW := aw_of (i := 545) (by decide +kernel) (by decide +kernel)
theorem aw_ml_X1_57 : Cond.methodLink RX1 57 yX1_row ∈ AW := aw_of (i := 542) (by decide +kernel) (by decide +kernel)
theorem im_X1_row : Cond.instanceMethod yX1_row ∈ AW := aw_of (i := 544) (by decide +kernel) (by decide +kernel)
theorem se_X1_row : Cond.selects RX1 yX1_row yX1_row ∈ AW := aw_of (i := 18) (by decide +kernel) (by decide +kernel)
theorem lk_X1_57 : LKV RX1 57 MX1_row 1 1 := ⟨⟨aw_ml_X1_57, wd_X1_row, ini_RX1, by decide +kernel, by decide +kernel, by decide⟩, im_X1_row, _, _, _, _, cls_1, se_X1_row⟩
theorem fl_X1_17 : FL RX1 17 1 1 := ⟨_, _, _, _, cls_1, by decide, aw_fl_X1_17⟩
theorem wd_X0_applyToOne : wdM MX0_applyToOne ∈ AW := aw_of (i := 572) (by decide +kernel) (by decide +kernel)
theorem aw_ml_X1_61 : Cond.methodLink RX1 61 yX0_applyToOne ∈ AW := aw_of (i := 569) (by decide +kernel) (by decide +kernel)
theorem im_X0_applyToOne : Cond.instanceMethod yX0_applyToOne ∈ AW := aw_of (i := 570) (by decide +kernel) (by decide +kernel)
theorem se_X0_applyToOne : Cond.selects RX0 yX0_applyToOne yX0_applyToOne ∈ AW := aw_of (i := 571) (by decide +kernel) (by decide +kernel)
theorem lk_X1_61 : LKV RX1 61 MX0_applyToOne 2 0 := ⟨⟨aw_ml_X1_61, wd_X0_applyToOne, ini_RX0, by decide +kernel, by decide +kernel, by decide⟩, im_X0_applyToOne, _, _, _, _, cls_0, se_X0_applyToOne⟩
theorem wd_X7_size : wdM MX7_size ∈ AW := aw_of (i := 613) (by decide +kernel) (by decide +kernel)
theorem aw_ml_X1_67 : Cond.methodLink RX1 67 yX7_size ∈ AW := aw_of (i := 611) (by decide +kernel) (by decide +kernel)
theorem sm_X7_size : Cond.static yX7_size ∈ AW := aw_of (i := 612) (by decide +kernel) (by decide +kernel)
theorem lk_X1_67 : LKS RX1 67 MX7_size 1 := ⟨⟨aw_ml_X1_67, wd_X7_size, ini_RX7, by decide +kernel, by decide +kernel, by decide⟩, sm_X7_size⟩
theorem wd_X0_applyToTwo : wdM MX0_applyToTwo ∈ AW := aw_of (i := 623) (by decide +kernel) (by decide +kernel)
theorem aw_ml_X1_71 : Cond.methodLink RX1 71 yX0_applyToTwo ∈ AW := aw_of (i := 620) (by decide +kernel) (by decide +kernel)
theorem im_X0_applyToTwo : Cond.instanceMethod yX0_applyToTwo ∈ AW := aw_of (i := 621) (by decide +kernel) (by decide +kernel)
theorem se_X0_applyToTwo : Cond.selects RX0 yX0_applyToTwo yX0_applyToTwo ∈ AW := aw_of (i := 622) (by decide +kernel) (by decide +kernel)
theorem lk_X1_71 : LKV RX1 71 MX0_applyToTwo 3 0 := ⟨⟨aw_ml_X1_71, wd_X0_applyToTwo, ini_RX0, by decide +kernel, by decide +kernel, by decide⟩, im_X0_applyToTwo, _, _, _, _, cls_0, se_X0_applyToTwo⟩
theorem aw_ml_X1_75 : Cond.methodLink RX1 75 yJ7_fill_d0a16 ∈ AW := aw_of (i := 549) (by decide +kernel) (by decide +kernel)
theorem lk_X1_75 : LKS RX1 75 MJ7_fill_d0a16 2 := ⟨⟨aw_ml_X1_75, wd_J7_fill_d0a16, ini_RJ7, by decide +kernel, by decide +kernel, by decide⟩, sm_J7_fill_d0a16⟩
theorem aw_fl_X1_81 : Cond.fieldLink RX1 81 RX4 (TX4 0).2.1 (TX4 0).2.2.1 ∈ AW := aw_of (i := 744) (by decide +kernel) (by decide +kernel)
theorem fl_X1_81 : FL RX1 81 4 0 := ⟨_, _, _, _, cls_4, by decide, aw_fl_X1_81⟩
theorem aw_ml_X1_85 : Cond.methodLink RX1 85 yX7_copy ∈ AW := aw_of (i := 559) (by decide +kernel) (by decide +kernel)
theorem lk_X1_85 : LKS RX1 85 MX7_copy 2 := ⟨⟨aw_ml_X1_85, wd_X7_copy, ini_RX7, by decide +kernel, by decide +kernel, by decide⟩, sm_X7_copy⟩
theorem aw_ml_X1_89 : Cond.methodLink RX1 89 Lib.Math.max.name ∈ AW := aw_of (i := 546) (by decide +kernel) (by decide +kernel)
theorem mm_X1_89 : MXL RX1 89 := ⟨aw_ml_X1_89, aw_smax, aw_im, aw_cmax⟩
theorem fl_X1_13 : FL RX1 13 1 0 := ⟨_, _, _, _, cls_1, by decide, aw_fl_X1_13⟩
theorem aw_ml_X2_3 : Cond.methodLink RX2 3 Lib.objectInit ∈ AW := aw_of (i := 233) (by decide +kernel) (by decide +kernel)
theorem oi_X2_3 : OBI RX2 3 := ⟨aw_ml_X2_3, aw_io, aw_co⟩
theorem ac_int : Cond.arrayClass .int ∈ AW := aw_of (i := 138) (by decide +kernel) (by decide +kernel)
theorem aw_fl_X2_9 : Cond.fieldLink RX2 9 RX2 (TX2 0).2.1 (TX2 0).2.2.1 ∈ AW := aw_of (i := 234) (by decide +kernel) (by decide +kernel)
theorem ff_X2_9 : FLF RX2 9 2 0 := ⟨_, _, _, _, cls_2, by decide, aw_fl_X2_9, by decide +kernel, rfl⟩
theorem aw_fl_X2_15 : Cond.fieldLink RX2 15 RX2 (TX2 1).2.1 (TX2 1).2.2.1 ∈ AW := aw_of (i := 236) (by decide +kernel) (by decide +kernel)
theorem ff_X2_15 : FLF RX2 15 2 1 := ⟨_, _, _, _, cls_2, by decide, aw_fl_X2_15, by decide +kernel, rfl⟩
theorem aw_fl_X2_18 : Cond.fieldLink RX2 18 RX2 (TX2 2).2.1 (TX2 2).2.2.1 ∈ AW := aw_of (i := 237) (by decide +kernel) (by decide +kernel)
theorem ff_X2_18 : FLF RX2 18 2 2 := ⟨_, _, _, _, cls_2, by decide, aw_fl_X2_18, by decide +kernel, rfl⟩
theorem fl_X2_15 : FL RX2 15 2 1 := ⟨_, _, _, _, cls_2, by decide, aw_fl_X2_15⟩
theorem fl_X2_18 : FL RX2 18 2 2 := ⟨_, _, _, _, cls_2, by decide, aw_fl_X2_18⟩
theorem wd_X2_of : wdM MX2_of ∈ AW := aw_of (i := 1005) (by decide +kernel) (by decide +kernel)
theorem aw_ml_X2_21 : Cond.methodLink RX2 21 yX2_of ∈ AW := aw_of (i := 1110) (by decide +kernel) (by decide +kernel)
theorem im_X2_of : Cond.instanceMethod yX2_of ∈ AW := aw_of (i := 1003) (by decide +kernel) (by decide +kernel)
theorem se_X2_of : Cond.selects RX2 yX2_of yX2_of ∈ AW := aw_of (i := 1004) (by decide +kernel) (by decide +kernel)
theorem lk_X2_21 : LKV RX2 21 MX2_of 1 2 := ⟨⟨aw_ml_X2_21, wd_X2_of, ini_RX2, by decide +kernel, by decide +kernel, by decide⟩, im_X2_of, _, _, _, _, cls_2, se_X2_of⟩
theorem fl_X2_9 : FL RX2 9 2 0 := ⟨_, _, _, _, cls_2, by decide, aw_fl_X2_9⟩
theorem aw_ml_X3_3 : Cond.methodLink RX3 3 Lib.objectInit ∈ AW := aw_of (i := 145) (by decide +kernel) (by decide +kernel)
theorem oi_X3_3 : OBI RX3 3 := ⟨aw_ml_X3_3, aw_io, aw_co⟩
theorem aw_fl_X3_11 : Cond.fieldLink RX3 11 RX3 (TX3 1).2.1 (TX3 1).2.2.1 ∈ AW := aw_of (i := 147) (by decide +kernel) (by decide +kernel)
theorem fw_X3_11 : FLW RX3 11 3 1 := ⟨_, _, _, _, cls_3, by decide, aw_fl_X3_11, by decide +kernel⟩
theorem aw_fl_X3_15 : Cond.fieldLink RX3 15 RX3 (TX3 2).2.1 (TX3 2).2.2.1 ∈ AW := aw_of (i := 148) (by decide +kernel) (by decide +kernel)
theorem fw_X3_15 : FLW RX3 15 3 2 := ⟨_, _, _, _, cls_3, by decide, aw_fl_X3_15, by decide +kernel⟩
theorem aw_fl_X3_19 : Cond.fieldLink RX3 19 RX3 (TX3 3).2.1 (TX3 3).2.2.1 ∈ AW := aw_of (i := 149) (by decide +kernel) (by decide +kernel)
theorem fw_X3_19 : FLW RX3 19 3 3 := ⟨_, _, _, _, cls_3, by decide, aw_fl_X3_19, by decide +kernel⟩
theorem aw_fl_X3_22 : Cond.fieldLink RX3 22 RX3 (TX3 4).2.1 (TX3 4).2.2.1 ∈ AW := aw_of (i := 150) (by decide +kernel) (by decide +kernel)
theorem fw_X3_22 : FLW RX3 22 3 4 := ⟨_, _, _, _, cls_3, by decide, aw_fl_X3_22, by decide +kernel⟩
theorem aw_fl_X3_25 : Cond.fieldLink RX3 25 RX3 (TX3 5).2.1 (TX3 5).2.2.1 ∈ AW := aw_of (i := 151) (by decide +kernel) (by decide +kernel)
theorem fw_X3_25 : FLW RX3 25 3 5 := ⟨_, _, _, _, cls_3, by decide, aw_fl_X3_25, by decide +kernel⟩
theorem aw_fl_X3_29 : Cond.fieldLink RX3 29 RX3 (TX3 6).2.1 (TX3 6).2.2.1 ∈ AW := aw_of (i := 152) (by decide +kernel) (by decide +kernel)
theorem fw_X3_29 : FLW RX3 29 3 6 := ⟨_, _, _, _, cls_3, by decide, aw_fl_X3_29, by decide +kernel⟩
theorem aw_fl_X3_32 : Cond.fieldLink RX3 32 RX3 (TX3 7).2.1 (TX3 7).2.2.1 ∈ AW := aw_of (i := 153) (by decide +kernel) (by decide +kernel)
theorem fw_X3_32 : FLW RX3 32 3 7 := ⟨_, _, _, _, cls_3, by decide, aw_fl_X3_32, by decide +kernel⟩
theorem aw_fl_X3_35 : Cond.fieldLink RX3 35 RX3 (TX3 0).2.1 (TX3 0).2.2.1 ∈ AW := aw_of (i := 146) (by decide +kernel) (by decide +kernel)
theorem ff_X3_35 : FLF RX3 35 3 0 := ⟨_, _, _, _, cls_3, by decide, aw_fl_X3_35, by decide +kernel, rfl⟩
theorem aw_ml_X3_38 : Cond.methodLink RX3 38 yX7_span ∈ AW := aw_of (i := 711) (by decide +kernel) (by decide +kernel)
theorem lk_X3_38 : LKS RX3 38 MX7_span 1 := ⟨⟨aw_ml_X3_38, wd_X7_span, ini_RX7, by decide +kernel, by decide +kernel, by decide⟩, sm_X7_span⟩
theorem fl_X3_35 : FL RX3 35 3 0 := ⟨_, _, _, _, cls_3, by decide, aw_fl_X3_35⟩
theorem aw_ml_X3_44 : Cond.methodLink RX3 44 yX7_has ∈ AW := aw_of (i := 712) (by decide +kernel) (by decide +kernel)
theorem lk_X3_44 : LKS RX3 44 MX7_has 2 := ⟨⟨aw_ml_X3_44, wd_X7_has, ini_RX7, by decide +kernel, by decide +kernel, by decide⟩, sm_X7_has⟩
theorem fl_X3_29 : FL RX3 29 3 6 := ⟨_, _, _, _, cls_3, by decide, aw_fl_X3_29⟩
theorem wd_X3_numberOf : wdM MX3_numberOf ∈ AW := aw_of (i := 716) (by decide +kernel) (by decide +kernel)
theorem aw_ml_X3_48 : Cond.methodLink RX3 48 yX3_numberOf ∈ AW := aw_of (i := 713) (by decide +kernel) (by decide +kernel)
theorem im_X3_numberOf : Cond.instanceMethod yX3_numberOf ∈ AW := aw_of (i := 715) (by decide +kernel) (by decide +kernel)
theorem se_X3_numberOf : Cond.selects RX3 yX3_numberOf yX3_numberOf ∈ AW := aw_of (i := 30) (by decide +kernel) (by decide +kernel)
theorem lk_X3_48 : LKV RX3 48 MX3_numberOf 3 3 := ⟨⟨aw_ml_X3_48, wd_X3_numberOf, ini_RX3, by decide +kernel, by decide +kernel, by decide⟩, im_X3_numberOf, _, _, _, _, cls_3, se_X3_numberOf⟩
theorem wd_X3_mark : wdM MX3_mark ∈ AW := aw_of (i := 738) (by decide +kernel) (by decide +kernel)
theorem aw_ml_X3_52 : Cond.methodLink RX3 52 yX3_mark ∈ AW := aw_of (i := 735) (by decide +kernel) (by decide +kernel)
theorem im_X3_mark : Cond.instanceMethod yX3_mark ∈ AW := aw_of (i := 737) (by decide +kernel) (by decide +kernel)
theorem se_X3_mark : Cond.selects RX3 yX3_mark yX3_mark ∈ AW := aw_of (i := 33) (by decide +kernel) (by decide +kernel)
theorem lk_X3_52 : LKV RX3 52 MX3_mark 2 3 := ⟨⟨aw_ml_X3_52, wd_X3_mark, ini_RX3, by decide +kernel, by decide +kernel, by decide⟩, im_X3_mark, _, _, _, _, cls_3, se_X3_mark⟩
theorem fl_X3_19 : FL RX3 19 3 3 := ⟨_, _, _, _, cls_3, by decide, aw_fl_X3_19⟩
theorem fl_X3_15 : FL RX3 15 3 2 := ⟨_, _, _, _, cls_3, by decide, aw_fl_X3_15⟩
theorem fl_X3_32 : FL RX3 32 3 7 := ⟨_, _, _, _, cls_3, by decide, aw_fl_X3_32⟩
theorem fl_X3_25 : FL RX3 25 3 5 := ⟨_, _, _, _, cls_3, by decide, aw_fl_X3_25⟩
theorem fl_X3_11 : FL RX3 11 3 1 := ⟨_, _, _, _, cls_3, by decide, aw_fl_X3_11⟩
theorem wd_X3_enlarge : wdM MX3_enlarge ∈ AW := aw_of (i := 720) (by decide +kernel) (by decide +kernel)
theorem aw_ml_X3_56 : Cond.methodLink RX3 56 yX3_enlarge ∈ AW := aw_of (i := 717) (by decide +kernel) (by decide +kernel)
theorem im_X3_enlarge : Cond.instanceMethod yX3_enlarge ∈ AW := aw_of (i := 719) (by decide +kernel) (by decide +kernel)
theorem se_X3_enlarge : Cond.selects RX3 yX3_enlarge yX3_enlarge ∈ AW := aw_of (i := 31) (by decide +kernel) (by decide +kernel)
theorem lk_X3_56 : LKV RX3 56 MX3_enlarge 0 3 := ⟨⟨aw_ml_X3_56, wd_X3_enlarge, ini_RX3, by decide +kernel, by decide +kernel, by decide⟩, im_X3_enlarge, _, _, _, _, cls_3, se_X3_enlarge⟩
theorem wd_X3_placeOf : wdM MX3_placeOf ∈ AW := aw_of (i := 733) (by decide +kernel) (by decide +kernel)
theorem aw_ml_X3_59 : Cond.methodLink RX3 59 yX3_placeOf ∈ AW := aw_of (i := 730) (by decide +kernel) (by decide +kernel)
theorem im_X3_placeOf : Cond.instanceMethod yX3_placeOf ∈ AW := aw_of (i := 732) (by decide +kernel) (by decide +kernel)
theorem se_X3_placeOf : Cond.selects RX3 yX3_placeOf yX3_placeOf ∈ AW := aw_of (i := 32) (by decide +kernel) (by decide +kernel)
theorem lk_X3_59 : LKV RX3 59 MX3_placeOf 1 3 := ⟨⟨aw_ml_X3_59, wd_X3_placeOf, ini_RX3, by decide +kernel, by decide +kernel, by decide⟩, im_X3_placeOf, _, _, _, _, cls_3, se_X3_placeOf⟩
theorem fl_X3_22 : FL RX3 22 3 4 := ⟨_, _, _, _, cls_3, by decide, aw_fl_X3_22⟩
theorem k_X3_63 : Cond.constantLong RX3 63 (-7046029254386353131) ∈ AW := aw_of (i := 734) (by decide +kernel) (by decide +kernel)
theorem wd_J7_copyOf_c38d5 : wdM MJ7_copyOf_c38d5 ∈ AW := aw_of (i := 691) (by decide +kernel) (by decide +kernel)
theorem aw_ml_X3_65 : Cond.methodLink RX3 65 yJ7_copyOf_c38d5 ∈ AW := aw_of (i := 721) (by decide +kernel) (by decide +kernel)
theorem sm_J7_copyOf_c38d5 : Cond.static yJ7_copyOf_c38d5 ∈ AW := aw_of (i := 690) (by decide +kernel) (by decide +kernel)
theorem lk_X3_65 : LKS RX3 65 MJ7_copyOf_c38d5 2 := ⟨⟨aw_ml_X3_65, wd_J7_copyOf_c38d5, ini_RJ7, by decide +kernel, by decide +kernel, by decide⟩, sm_J7_copyOf_c38d5⟩
theorem wd_J7_copyOf_59c91 : wdM MJ7_copyOf_59c91 ∈ AW := aw_of (i := 724) (by decide +kernel) (by decide +kernel)
theorem aw_ml_X3_71 : Cond.methodLink RX3 71 yJ7_copyOf_59c91 ∈ AW := aw_of (i := 722) (by decide +kernel) (by decide +kernel)
theorem sm_J7_copyOf_59c91 : Cond.static yJ7_copyOf_59c91 ∈ AW := aw_of (i := 723) (by decide +kernel) (by decide +kernel)
theorem lk_X3_71 : LKS RX3 71 MJ7_copyOf_59c91 2 := ⟨⟨aw_ml_X3_71, wd_J7_copyOf_59c91, ini_RJ7, by decide +kernel, by decide +kernel, by decide⟩, sm_J7_copyOf_59c91⟩
theorem aw_ml_X4_1 : Cond.methodLink RX4 1 Lib.objectInit ∈ AW := aw_of (i := 742) (by decide +kernel) (by decide +kernel)
theorem oi_X4_1 : OBI RX4 1 := ⟨aw_ml_X4_1, aw_io, aw_co⟩
theorem aw_fl_X4_7 : Cond.fieldLink RX4 7 RX4 (TX4 0).2.1 (TX4 0).2.2.1 ∈ AW := aw_of (i := 743) (by decide +kernel) (by decide +kernel)
theorem ff_X4_7 : FLF RX4 7 4 0 := ⟨_, _, _, _, cls_4, by decide, aw_fl_X4_7, by decide +kernel, rfl⟩
theorem aw_fl_X4_13 : Cond.fieldLink RX4 13 RX4 (TX4 1).2.1 (TX4 1).2.2.1 ∈ AW := aw_of (i := 746) (by decide +kernel) (by decide +kernel)
theorem ff_X4_13 : FLF RX4 13 4 1 := ⟨_, _, _, _, cls_4, by decide, aw_fl_X4_13, by decide +kernel, rfl⟩
theorem aw_fl_X4_17 : Cond.fieldLink RX4 17 RX4 (TX4 2).2.1 (TX4 2).2.2.1 ∈ AW := aw_of (i := 748) (by decide +kernel) (by decide +kernel)
theorem ff_X4_17 : FLF RX4 17 4 2 := ⟨_, _, _, _, cls_4, by decide, aw_fl_X4_17, by decide +kernel, rfl⟩
theorem wd_X5_sink : wdM MX5_sink ∈ AW := aw_of (i := 1120) (by decide +kernel) (by decide +kernel)
theorem ini_RX5 : Cond.initialized RX5 ∈ AW := aw_of (i := 107) (by decide +kernel) (by decide +kernel)
theorem aw_ml_X5_7 : Cond.methodLink RX5 7 yX5_sink ∈ AW := aw_of (i := 1118) (by decide +kernel) (by decide +kernel)
theorem sm_X5_sink : Cond.static yX5_sink ∈ AW := aw_of (i := 1119) (by decide +kernel) (by decide +kernel)
theorem lk_X5_7 : LKS RX5 7 MX5_sink 3 := ⟨⟨aw_ml_X5_7, wd_X5_sink, ini_RX5, by decide +kernel, by decide +kernel, by decide⟩, sm_X5_sink⟩
theorem aw_ml_X6_3 : Cond.methodLink RX6 3 Lib.objectInit ∈ AW := aw_of (i := 177) (by decide +kernel) (by decide +kernel)
theorem oi_X6_3 : OBI RX6 3 := ⟨aw_ml_X6_3, aw_io, aw_co⟩
theorem aw_fl_X6_9 : Cond.fieldLink RX6 9 RX6 (TX6 0).2.1 (TX6 0).2.2.1 ∈ AW := aw_of (i := 179) (by decide +kernel) (by decide +kernel)
theorem ff_X6_9 : FLF RX6 9 5 0 := ⟨_, _, _, _, cls_5, by decide, aw_fl_X6_9, by decide +kernel, rfl⟩
theorem aw_fl_X6_15 : Cond.fieldLink RX6 15 RX6 (TX6 1).2.1 (TX6 1).2.2.1 ∈ AW := aw_of (i := 181) (by decide +kernel) (by decide +kernel)
theorem ff_X6_15 : FLF RX6 15 5 1 := ⟨_, _, _, _, cls_5, by decide, aw_fl_X6_15, by decide +kernel, rfl⟩
theorem aw_fl_X6_18 : Cond.fieldLink RX6 18 RX6 (TX6 2).2.1 (TX6 2).2.2.1 ∈ AW := aw_of (i := 183) (by decide +kernel) (by decide +kernel)
theorem fw_X6_18 : FLW RX6 18 5 2 := ⟨_, _, _, _, cls_5, by decide, aw_fl_X6_18, by decide +kernel⟩
theorem ac_byte : Cond.arrayClass .byte ∈ AW := aw_of (i := 137) (by decide +kernel) (by decide +kernel)
theorem aw_fl_X6_22 : Cond.fieldLink RX6 22 RX6 (TX6 3).2.1 (TX6 3).2.2.1 ∈ AW := aw_of (i := 185) (by decide +kernel) (by decide +kernel)
theorem fw_X6_22 : FLW RX6 22 5 3 := ⟨_, _, _, _, cls_5, by decide, aw_fl_X6_22, by decide +kernel⟩
theorem aw_fl_X6_26 : Cond.fieldLink RX6 26 RX6 (TX6 4).2.1 (TX6 4).2.2.1 ∈ AW := aw_of (i := 186) (by decide +kernel) (by decide +kernel)
theorem fw_X6_26 : FLW RX6 26 5 4 := ⟨_, _, _, _, cls_5, by decide, aw_fl_X6_26, by decide +kernel⟩
theorem an_X6_29 : Cond.classLink RX6 29 RX4 ∈ AW := aw_of (i := 178) (by decide +kernel) (by decide +kernel)
theorem aw_fl_X6_31 : Cond.fieldLink RX6 31 RX6 (TX6 5).2.1 (TX6 5).2.2.1 ∈ AW := aw_of (i := 187) (by decide +kernel) (by decide +kernel)
theorem fw_X6_31 : FLW RX6 31 5 5 := ⟨_, _, _, _, cls_5, by decide, aw_fl_X6_31, by decide +kernel⟩
theorem aw_fl_X6_35 : Cond.fieldLink RX6 35 RX6 (TX6 6).2.1 (TX6 6).2.2.1 ∈ AW := aw_of (i := 188) (by decide +kernel) (by decide +kernel)
theorem fw_X6_35 : FLW RX6 35 5 6 := ⟨_, _, _, _, cls_5, by decide, aw_fl_X6_35, by decide +kernel⟩
theorem aw_fl_X6_38 : Cond.fieldLink RX6 38 RX6 (TX6 7).2.1 (TX6 7).2.2.1 ∈ AW := aw_of (i := 189) (by decide +kernel) (by decide +kernel)
theorem fw_X6_38 : FLW RX6 38 5 7 := ⟨_, _, _, _, cls_5, by decide, aw_fl_X6_38, by decide +kernel⟩
theorem aw_fl_X6_41 : Cond.fieldLink RX6 41 RX6 (TX6 8).2.1 (TX6 8).2.2.1 ∈ AW := aw_of (i := 190) (by decide +kernel) (by decide +kernel)
theorem fw_X6_41 : FLW RX6 41 5 8 := ⟨_, _, _, _, cls_5, by decide, aw_fl_X6_41, by decide +kernel⟩
theorem aw_fl_X6_44 : Cond.fieldLink RX6 44 RX6 (TX6 9).2.1 (TX6 9).2.2.1 ∈ AW := aw_of (i := 191) (by decide +kernel) (by decide +kernel)
theorem fw_X6_44 : FLW RX6 44 5 9 := ⟨_, _, _, _, cls_5, by decide, aw_fl_X6_44, by decide +kernel⟩
theorem aw_ml_X6_47 : Cond.methodLink RX6 47 Lib.Math.min.name ∈ AW := aw_of (i := 455) (by decide +kernel) (by decide +kernel)
theorem mm_X6_47 : MNL RX6 47 := ⟨aw_ml_X6_47, aw_smin, aw_im, aw_cmin⟩
theorem wd_X6_advance : wdM MX6_advance ∈ AW := aw_of (i := 461) (by decide +kernel) (by decide +kernel)
theorem aw_ml_X6_53 : Cond.methodLink RX6 53 yX6_advance ∈ AW := aw_of (i := 458) (by decide +kernel) (by decide +kernel)
theorem im_X6_advance : Cond.instanceMethod yX6_advance ∈ AW := aw_of (i := 460) (by decide +kernel) (by decide +kernel)
theorem se_X6_advance : Cond.selects RX6 yX6_advance yX6_advance ∈ AW := aw_of (i := 2) (by decide +kernel) (by decide +kernel)
theorem lk_X6_53 : LKV RX6 53 MX6_advance 0 5 := ⟨⟨aw_ml_X6_53, wd_X6_advance, ini_RX6, by decide +kernel, by decide +kernel, by decide⟩, im_X6_advance, _, _, _, _, cls_5, se_X6_advance⟩
theorem wd_X6_readSum : wdM MX6_readSum ∈ AW := aw_of (i := 484) (by decide +kernel) (by decide +kernel)
theorem aw_ml_X6_56 : Cond.methodLink RX6 56 yX6_readSum ∈ AW := aw_of (i := 481) (by decide +kernel) (by decide +kernel)
theorem im_X6_readSum : Cond.instanceMethod yX6_readSum ∈ AW := aw_of (i := 483) (by decide +kernel) (by decide +kernel)
theorem se_X6_readSum : Cond.selects RX6 yX6_readSum yX6_readSum ∈ AW := aw_of (i := 4) (by decide +kernel) (by decide +kernel)
theorem lk_X6_56 : LKV RX6 56 MX6_readSum 1 5 := ⟨⟨aw_ml_X6_56, wd_X6_readSum, ini_RX6, by decide +kernel, by decide +kernel, by decide⟩, im_X6_readSum, _, _, _, _, cls_5, se_X6_readSum⟩
theorem fl_X6_35 : FL RX6 35 5 6 := ⟨_, _, _, _, cls_5, by decide, aw_fl_X6_35⟩
theorem wd_X6_fail : wdM MX6_fail ∈ AW := aw_of (i := 500) (by decide +kernel) (by decide +kernel)
theorem aw_ml_X6_60 : Cond.methodLink RX6 60 yX6_fail ∈ AW := aw_of (i := 497) (by decide +kernel) (by decide +kernel)
theorem im_X6_fail : Cond.instanceMethod yX6_fail ∈ AW := aw_of (i := 499) (by decide +kernel) (by decide +kernel)
theorem se_X6_fail : Cond.selects RX6 yX6_fail yX6_fail ∈ AW := aw_of (i := 8) (by decide +kernel) (by decide +kernel)
theorem lk_X6_60 : LKV RX6 60 MX6_fail 0 5 := ⟨⟨aw_ml_X6_60, wd_X6_fail, ini_RX6, by decide +kernel, by decide +kernel, by decide⟩, im_X6_fail, _, _, _, _, cls_5, se_X6_fail⟩
theorem fl_X6_44 : FL RX6 44 5 9 := ⟨_, _, _, _, cls_5, by decide, aw_fl_X6_44⟩
theorem fl_X6_38 : FL RX6 38 5 7 := ⟨_, _, _, _, cls_5, by decide, aw_fl_X6_38⟩
theorem fl_X6_18 : FL RX6 18 5 2 := ⟨_, _, _, _, cls_5, by decide, aw_fl_X6_18⟩
theorem fl_X6_9 : FL RX6 9 5 0 := ⟨_, _, _, _, cls_5, by decide, aw_fl_X6_9⟩
theorem fl_X6_15 : FL RX6 15 5 1 := ⟨_, _, _, _, cls_5, by decide, aw_fl_X6_15⟩
theorem wd_X6_readProduct : wdM MX6_readProduct ∈ AW := aw_of (i := 488) (by decide +kernel) (by decide +kernel)
theorem aw_ml_X6_63 : Cond.methodLink RX6 63 yX6_readProduct ∈ AW := aw_of (i := 485) (by decide +kernel) (by decide +kernel)
theorem im_X6_readProduct : Cond.instanceMethod yX6_readProduct ∈ AW := aw_of (i := 487) (by decide +kernel) (by decide +kernel)
theorem se_X6_readProduct : Cond.selects RX6 yX6_readProduct yX6_readProduct ∈ AW := aw_of (i := 5) (by decide +kernel) (by decide +kernel)
theorem lk_X6_63 : LKV RX6 63 MX6_readProduct 1 5 := ⟨⟨aw_ml_X6_63, wd_X6_readProduct, ini_RX6, by decide +kernel, by decide +kernel, by decide⟩, im_X6_readProduct, _, _, _, _, cls_5, se_X6_readProduct⟩
theorem wd_X6_isSumSign : wdM MX6_isSumSign ∈ AW := aw_of (i := 477) (by decide +kernel) (by decide +kernel)
theorem aw_ml_X6_66 : Cond.methodLink RX6 66 yX6_isSumSign ∈ AW := aw_of (i := 475) (by decide +kernel) (by decide +kernel)
theorem sm_X6_isSumSign : Cond.static yX6_isSumSign ∈ AW := aw_of (i := 476) (by decide +kernel) (by decide +kernel)
theorem lk_X6_66 : LKS RX6 66 MX6_isSumSign 1 := ⟨⟨aw_ml_X6_66, wd_X6_isSumSign, ini_RX6, by decide +kernel, by decide +kernel, by decide⟩, sm_X6_isSumSign⟩
theorem wd_X6_addStep : wdM MX6_addStep ∈ AW := aw_of (i := 516) (by decide +kernel) (by decide +kernel)
theorem aw_ml_X6_70 : Cond.methodLink RX6 70 yX6_addStep ∈ AW := aw_of (i := 513) (by decide +kernel) (by decide +kernel)
theorem im_X6_addStep : Cond.instanceMethod yX6_addStep ∈ AW := aw_of (i := 515) (by decide +kernel) (by decide +kernel)
theorem se_X6_addStep : Cond.selects RX6 yX6_addStep yX6_addStep ∈ AW := aw_of (i := 12) (by decide +kernel) (by decide +kernel)
theorem lk_X6_70 : LKV RX6 70 MX6_addStep 2 5 := ⟨⟨aw_ml_X6_70, wd_X6_addStep, ini_RX6, by decide +kernel, by decide +kernel, by decide⟩, im_X6_addStep, _, _, _, _, cls_5, se_X6_addStep⟩
theorem wd_X6_readFactor : wdM MX6_readFactor ∈ AW := aw_of (i := 492) (by decide +kernel) (by decide +kernel)
theorem aw_ml_X6_74 : Cond.methodLink RX6 74 yX6_readFactor ∈ AW := aw_of (i := 489) (by decide +kernel) (by decide +kernel)
theorem im_X6_readFactor : Cond.instanceMethod yX6_readFactor ∈ AW := aw_of (i := 491) (by decide +kernel) (by decide +kernel)
theorem se_X6_readFactor : Cond.selects RX6 yX6_readFactor yX6_readFactor ∈ AW := aw_of (i := 6) (by decide +kernel) (by decide +kernel)
theorem lk_X6_74 : LKV RX6 74 MX6_readFactor 1 5 := ⟨⟨aw_ml_X6_74, wd_X6_readFactor, ini_RX6, by decide +kernel, by decide +kernel, by decide⟩, im_X6_readFactor, _, _, _, _, cls_5, se_X6_readFactor⟩
theorem wd_X6_isProductSign : wdM MX6_isProductSign ∈ AW := aw_of (i := 480) (by decide +kernel) (by decide +kernel)
theorem aw_ml_X6_77 : Cond.methodLink RX6 77 yX6_isProductSign ∈ AW := aw_of (i := 478) (by decide +kernel) (by decide +kernel)
theorem sm_X6_isProductSign : Cond.static yX6_isProductSign ∈ AW := aw_of (i := 479) (by decide +kernel) (by decide +kernel)
theorem lk_X6_77 : LKS RX6 77 MX6_isProductSign 1 := ⟨⟨aw_ml_X6_77, wd_X6_isProductSign, ini_RX6, by decide +kernel, by decide +kernel, by decide⟩, sm_X6_isProductSign⟩
theorem wd_X6_readBracket : wdM MX6_readBracket ∈ AW := aw_of (i := 496) (by decide +kernel) (by decide +kernel)
theorem aw_ml_X6_80 : Cond.methodLink RX6 80 yX6_readBracket ∈ AW := aw_of (i := 493) (by decide +kernel) (by decide +kernel)
theorem im_X6_readBracket : Cond.instanceMethod yX6_readBracket ∈ AW := aw_of (i := 495) (by decide +kernel) (by decide +kernel)
theorem se_X6_readBracket : Cond.selects RX6 yX6_readBracket yX6_readBracket ∈ AW := aw_of (i := 7) (by decide +kernel) (by decide +kernel)
theorem lk_X6_80 : LKV RX6 80 MX6_readBracket 1 5 := ⟨⟨aw_ml_X6_80, wd_X6_readBracket, ini_RX6, by decide +kernel, by decide +kernel, by decide⟩, im_X6_readBracket, _, _, _, _, cls_5, se_X6_readBracket⟩
theorem wd_X6_readWord : wdM MX6_readWord ∈ AW := aw_of (i := 504) (by decide +kernel) (by decide +kernel)
theorem aw_ml_X6_83 : Cond.methodLink RX6 83 yX6_readWord ∈ AW := aw_of (i := 501) (by decide +kernel) (by decide +kernel)
theorem im_X6_readWord : Cond.instanceMethod yX6_readWord ∈ AW := aw_of (i := 503) (by decide +kernel) (by decide +kernel)
theorem se_X6_readWord : Cond.selects RX6 yX6_readWord yX6_readWord ∈ AW := aw_of (i := 9) (by decide +kernel) (by decide +kernel)
theorem lk_X6_83 : LKV RX6 83 MX6_readWord 1 5 := ⟨⟨aw_ml_X6_83, wd_X6_readWord, ini_RX6, by decide +kernel, by decide +kernel, by decide⟩, im_X6_readWord, _, _, _, _, cls_5, se_X6_readWord⟩
theorem wd_X6_readConstant : wdM MX6_readConstant ∈ AW := aw_of (i := 524) (by decide +kernel) (by decide +kernel)
theorem aw_ml_X6_86 : Cond.methodLink RX6 86 yX6_readConstant ∈ AW := aw_of (i := 521) (by decide +kernel) (by decide +kernel)
theorem im_X6_readConstant : Cond.instanceMethod yX6_readConstant ∈ AW := aw_of (i := 523) (by decide +kernel) (by decide +kernel)
theorem se_X6_readConstant : Cond.selects RX6 yX6_readConstant yX6_readConstant ∈ AW := aw_of (i := 14) (by decide +kernel) (by decide +kernel)
theorem lk_X6_86 : LKV RX6 86 MX6_readConstant 0 5 := ⟨⟨aw_ml_X6_86, wd_X6_readConstant, ini_RX6, by decide +kernel, by decide +kernel, by decide⟩, im_X6_readConstant, _, _, _, _, cls_5, se_X6_readConstant⟩
theorem wd_X6_readFamilyNumber : wdM MX6_readFamilyNumber ∈ AW := aw_of (i := 528) (by decide +kernel) (by decide +kernel)
theorem aw_ml_X6_89 : Cond.methodLink RX6 89 yX6_readFamilyNumber ∈ AW := aw_of (i := 525) (by decide +kernel) (by decide +kernel)
theorem im_X6_readFamilyNumber : Cond.instanceMethod yX6_readFamilyNumber ∈ AW := aw_of (i := 527) (by decide +kernel) (by decide +kernel)
theorem se_X6_readFamilyNumber : Cond.selects RX6 yX6_readFamilyNumber yX6_readFamilyNumber ∈ AW := aw_of (i := 15) (by decide +kernel) (by decide +kernel)
theorem lk_X6_89 : LKV RX6 89 MX6_readFamilyNumber 0 5 := ⟨⟨aw_ml_X6_89, wd_X6_readFamilyNumber, ini_RX6, by decide +kernel, by decide +kernel, by decide⟩, im_X6_readFamilyNumber, _, _, _, _, cls_5, se_X6_readFamilyNumber⟩
theorem wd_X6_functionOfWord : wdM MX6_functionOfWord ∈ AW := aw_of (i := 508) (by decide +kernel) (by decide +kernel)
theorem aw_ml_X6_92 : Cond.methodLink RX6 92 yX6_functionOfWord ∈ AW := aw_of (i := 505) (by decide +kernel) (by decide +kernel)
theorem im_X6_functionOfWord : Cond.instanceMethod yX6_functionOfWord ∈ AW := aw_of (i := 507) (by decide +kernel) (by decide +kernel)
theorem se_X6_functionOfWord : Cond.selects RX6 yX6_functionOfWord yX6_functionOfWord ∈ AW := aw_of (i := 10) (by decide +kernel) (by decide +kernel)
theorem lk_X6_92 : LKV RX6 92 MX6_functionOfWord 0 5 := ⟨⟨aw_ml_X6_92, wd_X6_functionOfWord, ini_RX6, by decide +kernel, by decide +kernel, by decide⟩, im_X6_functionOfWord, _, _, _, _, cls_5, se_X6_functionOfWord⟩
theorem wd_X6_maskOfWord : wdM MX6_maskOfWord ∈ AW := aw_of (i := 520) (by decide +kernel) (by decide +kernel)
theorem aw_ml_X6_96 : Cond.methodLink RX6 96 yX6_maskOfWord ∈ AW := aw_of (i := 517) (by decide +kernel) (by decide +kernel)
theorem im_X6_maskOfWord : Cond.instanceMethod yX6_maskOfWord ∈ AW := aw_of (i := 519) (by decide +kernel) (by decide +kernel)
theorem se_X6_maskOfWord : Cond.selects RX6 yX6_maskOfWord yX6_maskOfWord ∈ AW := aw_of (i := 13) (by decide +kernel) (by decide +kernel)
theorem lk_X6_96 : LKV RX6 96 MX6_maskOfWord 0 5 := ⟨⟨aw_ml_X6_96, wd_X6_maskOfWord, ini_RX6, by decide +kernel, by decide +kernel, by decide⟩, im_X6_maskOfWord, _, _, _, _, cls_5, se_X6_maskOfWord⟩
theorem wd_X6_at : wdM MX6_at ∈ AW := aw_of (i := 465) (by decide +kernel) (by decide +kernel)
theorem aw_ml_X6_99 : Cond.methodLink RX6 99 yX6_at ∈ AW := aw_of (i := 462) (by decide +kernel) (by decide +kernel)
theorem im_X6_at : Cond.instanceMethod yX6_at ∈ AW := aw_of (i := 464) (by decide +kernel) (by decide +kernel)
theorem se_X6_at : Cond.selects RX6 yX6_at yX6_at ∈ AW := aw_of (i := 3) (by decide +kernel) (by decide +kernel)
theorem lk_X6_99 : LKV RX6 99 MX6_at 1 5 := ⟨⟨aw_ml_X6_99, wd_X6_at, ini_RX6, by decide +kernel, by decide +kernel, by decide⟩, im_X6_at, _, _, _, _, cls_5, se_X6_at⟩
theorem fl_X6_41 : FL RX6 41 5 8 := ⟨_, _, _, _, cls_5, by decide, aw_fl_X6_41⟩
theorem fl_X6_31 : FL RX6 31 5 5 := ⟨_, _, _, _, cls_5, by decide, aw_fl_X6_31⟩
theorem wd_X6_isWord : wdM MX6_isWord ∈ AW := aw_of (i := 512) (by decide +kernel) (by decide +kernel)
theorem aw_ml_X6_103 : Cond.methodLink RX6 103 yX6_isWord ∈ AW := aw_of (i := 509) (by decide +kernel) (by decide +kernel)
theorem im_X6_isWord : Cond.instanceMethod yX6_isWord ∈ AW := aw_of (i := 511) (by decide +kernel) (by decide +kernel)
theorem se_X6_isWord : Cond.selects RX6 yX6_isWord yX6_isWord ∈ AW := aw_of (i := 11) (by decide +kernel) (by decide +kernel)
theorem lk_X6_103 : LKV RX6 103 MX6_isWord 3 5 := ⟨⟨aw_ml_X6_103, wd_X6_isWord, ini_RX6, by decide +kernel, by decide +kernel, by decide⟩, im_X6_isWord, _, _, _, _, cls_5, se_X6_isWord⟩
theorem fl_X6_26 : FL RX6 26 5 4 := ⟨_, _, _, _, cls_5, by decide, aw_fl_X6_26⟩
theorem wd_X6_isLetter : wdM MX6_isLetter ∈ AW := aw_of (i := 468) (by decide +kernel) (by decide +kernel)
theorem aw_ml_X6_107 : Cond.methodLink RX6 107 yX6_isLetter ∈ AW := aw_of (i := 466) (by decide +kernel) (by decide +kernel)
theorem sm_X6_isLetter : Cond.static yX6_isLetter ∈ AW := aw_of (i := 467) (by decide +kernel) (by decide +kernel)
theorem lk_X6_107 : LKS RX6 107 MX6_isLetter 1 := ⟨⟨aw_ml_X6_107, wd_X6_isLetter, ini_RX6, by decide +kernel, by decide +kernel, by decide⟩, sm_X6_isLetter⟩
theorem wd_X6_isDigit : wdM MX6_isDigit ∈ AW := aw_of (i := 471) (by decide +kernel) (by decide +kernel)
theorem aw_ml_X6_110 : Cond.methodLink RX6 110 yX6_isDigit ∈ AW := aw_of (i := 469) (by decide +kernel) (by decide +kernel)
theorem sm_X6_isDigit : Cond.static yX6_isDigit ∈ AW := aw_of (i := 470) (by decide +kernel) (by decide +kernel)
theorem lk_X6_110 : LKS RX6 110 MX6_isDigit 1 := ⟨⟨aw_ml_X6_110, wd_X6_isDigit, ini_RX6, by decide +kernel, by decide +kernel, by decide⟩, sm_X6_isDigit⟩
theorem wd_X6_isSymbol : wdM MX6_isSymbol ∈ AW := aw_of (i := 474) (by decide +kernel) (by decide +kernel)
theorem aw_ml_X6_113 : Cond.methodLink RX6 113 yX6_isSymbol ∈ AW := aw_of (i := 472) (by decide +kernel) (by decide +kernel)
theorem sm_X6_isSymbol : Cond.static yX6_isSymbol ∈ AW := aw_of (i := 473) (by decide +kernel) (by decide +kernel)
theorem lk_X6_113 : LKS RX6 113 MX6_isSymbol 1 := ⟨⟨aw_ml_X6_113, wd_X6_isSymbol, ini_RX6, by decide +kernel, by decide +kernel, by decide⟩, sm_X6_isSymbol⟩
theorem fl_X6_22 : FL RX6 22 5 3 := ⟨_, _, _, _, cls_5, by decide, aw_fl_X6_22⟩
theorem k_X7_9 : Cond.constantLong RX7 9 (-1) ∈ AW := aw_of (i := 602) (by decide +kernel) (by decide +kernel)
theorem aw_ml_X7_11 : Cond.methodLink RX7 11 arraycopyName ∈ AW := aw_of (i := 562) (by decide +kernel) (by decide +kernel)
theorem aw_na : Cond.native arraycopyName ∈ AW := aw_of (i := 564) (by decide +kernel) (by decide +kernel)
theorem aw_sa : Cond.static arraycopyName ∈ AW := aw_of (i := 563) (by decide +kernel) (by decide +kernel)
theorem aw_ia : Cond.initialized "java/lang/System" ∈ AW := aw_of (i := 99) (by decide +kernel) (by decide +kernel)
theorem ac_X7_11 : ACL RX7 11 := ⟨aw_ml_X7_11, aw_na, aw_sa, aw_ia⟩
theorem wd_J13_bitCount_95d88 : wdM MJ13_bitCount_95d88 ∈ AW := aw_of (i := 616) (by decide +kernel) (by decide +kernel)
theorem ini_RJ13 : Cond.initialized RJ13 ∈ AW := aw_of (i := 101) (by decide +kernel) (by decide +kernel)
theorem aw_ml_X7_17 : Cond.methodLink RX7 17 yJ13_bitCount_95d88 ∈ AW := aw_of (i := 614) (by decide +kernel) (by decide +kernel)
theorem sm_J13_bitCount_95d88 : Cond.static yJ13_bitCount_95d88 ∈ AW := aw_of (i := 615) (by decide +kernel) (by decide +kernel)
theorem lk_X7_17 : LKS RX7 17 MJ13_bitCount_95d88 1 := ⟨⟨aw_ml_X7_17, wd_J13_bitCount_95d88, ini_RJ13, by decide +kernel, by decide +kernel, by decide⟩, sm_J13_bitCount_95d88⟩
theorem wd_J13_numberOfLeadingZeros_95d88 : wdM MJ13_numberOfLeadingZeros_95d88 ∈ AW := aw_of (i := 654) (by decide +kernel) (by decide +kernel)
theorem aw_ml_X7_23 : Cond.methodLink RX7 23 yJ13_numberOfLeadingZeros_95d88 ∈ AW := aw_of (i := 652) (by decide +kernel) (by decide +kernel)
theorem sm_J13_numberOfLeadingZeros_95d88 : Cond.static yJ13_numberOfLeadingZeros_95d88 ∈ AW := aw_of (i := 653) (by decide +kernel) (by decide +kernel)
theorem lk_X7_23 : LKS RX7 23 MJ13_numberOfLeadingZeros_95d88 1 := ⟨⟨aw_ml_X7_23, wd_J13_numberOfLeadingZeros_95d88, ini_RJ13, by decide +kernel, by decide +kernel, by decide⟩, sm_J13_numberOfLeadingZeros_95d88⟩
theorem wd_J13_numberOfTrailingZeros_95d88 : wdM MJ13_numberOfTrailingZeros_95d88 ∈ AW := aw_of (i := 639) (by decide +kernel) (by decide +kernel)
theorem aw_ml_X7_26 : Cond.methodLink RX7 26 yJ13_numberOfTrailingZeros_95d88 ∈ AW := aw_of (i := 637) (by decide +kernel) (by decide +kernel)
theorem sm_J13_numberOfTrailingZeros_95d88 : Cond.static yJ13_numberOfTrailingZeros_95d88 ∈ AW := aw_of (i := 638) (by decide +kernel) (by decide +kernel)
theorem lk_X7_26 : LKS RX7 26 MJ13_numberOfTrailingZeros_95d88 1 := ⟨⟨aw_ml_X7_26, wd_J13_numberOfTrailingZeros_95d88, ini_RJ13, by decide +kernel, by decide +kernel, by decide⟩, sm_J13_numberOfTrailingZeros_95d88⟩
theorem gs_X7_29 : Cond.fieldLink RX7 29 "FamilyStore$Rows" "WITH" "[J" ∈ AW := aw_of (i := 584) (by decide +kernel) (by decide +kernel)
theorem aw_ml_X7_35 : Cond.methodLink RX7 35 yX7_takeOut ∈ AW := aw_of (i := 581) (by decide +kernel) (by decide +kernel)
theorem lk_X7_35 : LKS RX7 35 MX7_takeOut 3 := ⟨⟨aw_ml_X7_35, wd_X7_takeOut, ini_RX7, by decide +kernel, by decide +kernel, by decide⟩, sm_X7_takeOut⟩
theorem aw_ml_X7_39 : Cond.methodLink RX7 39 yX7_putIn ∈ AW := aw_of (i := 599) (by decide +kernel) (by decide +kernel)
theorem lk_X7_39 : LKS RX7 39 MX7_putIn 3 := ⟨⟨aw_ml_X7_39, wd_X7_putIn, ini_RX7, by decide +kernel, by decide +kernel, by decide⟩, sm_X7_putIn⟩
theorem aw_ml_X8_1 : Cond.methodLink RX8 1 Lib.objectInit ∈ AW := aw_of (i := 113) (by decide +kernel) (by decide +kernel)
theorem oi_X8_1 : OBI RX8 1 := ⟨aw_ml_X8_1, aw_io, aw_co⟩
theorem aw_fl_X8_9 : Cond.fieldLink RX8 9 RX8 (TX8 0).2.1 (TX8 0).2.2.1 ∈ AW := aw_of (i := 245) (by decide +kernel) (by decide +kernel)
theorem ff_X8_9 : FLF RX8 9 6 0 := ⟨_, _, _, _, cls_6, by decide, aw_fl_X8_9, by decide +kernel, rfl⟩
theorem aw_fl_X8_13 : Cond.fieldLink RX8 13 RX8 (TX8 1).2.1 (TX8 1).2.2.1 ∈ AW := aw_of (i := 246) (by decide +kernel) (by decide +kernel)
theorem fw_X8_13 : FLW RX8 13 6 1 := ⟨_, _, _, _, cls_6, by decide, aw_fl_X8_13, by decide +kernel⟩
theorem aw_fl_X8_17 : Cond.fieldLink RX8 17 RX8 (TX8 2).2.1 (TX8 2).2.2.1 ∈ AW := aw_of (i := 247) (by decide +kernel) (by decide +kernel)
theorem fw_X8_17 : FLW RX8 17 6 2 := ⟨_, _, _, _, cls_6, by decide, aw_fl_X8_17, by decide +kernel⟩
theorem aw_fl_X8_20 : Cond.fieldLink RX8 20 RX8 (TX8 3).2.1 (TX8 3).2.2.1 ∈ AW := aw_of (i := 248) (by decide +kernel) (by decide +kernel)
theorem ff_X8_20 : FLF RX8 20 6 3 := ⟨_, _, _, _, cls_6, by decide, aw_fl_X8_20, by decide +kernel, rfl⟩
theorem aw_fl_X8_23 : Cond.fieldLink RX8 23 RX8 (TX8 4).2.1 (TX8 4).2.2.1 ∈ AW := aw_of (i := 249) (by decide +kernel) (by decide +kernel)
theorem fw_X8_23 : FLW RX8 23 6 4 := ⟨_, _, _, _, cls_6, by decide, aw_fl_X8_23, by decide +kernel⟩
theorem an_X8_26 : Cond.classLink RX8 26 RX4 ∈ AW := aw_of (i := 116) (by decide +kernel) (by decide +kernel)
theorem aw_fl_X8_28 : Cond.fieldLink RX8 28 RX8 (TX8 5).2.1 (TX8 5).2.2.1 ∈ AW := aw_of (i := 250) (by decide +kernel) (by decide +kernel)
theorem ff_X8_28 : FLF RX8 28 6 5 := ⟨_, _, _, _, cls_6, by decide, aw_fl_X8_28, by decide +kernel, rfl⟩
theorem aw_fl_X8_32 : Cond.fieldLink RX8 32 RX8 (TX8 6).2.1 (TX8 6).2.2.1 ∈ AW := aw_of (i := 251) (by decide +kernel) (by decide +kernel)
theorem fw_X8_32 : FLW RX8 32 6 6 := ⟨_, _, _, _, cls_6, by decide, aw_fl_X8_32, by decide +kernel⟩
theorem aw_fl_X8_35 : Cond.fieldLink RX8 35 RX8 (TX8 7).2.1 (TX8 7).2.2.1 ∈ AW := aw_of (i := 252) (by decide +kernel) (by decide +kernel)
theorem fw_X8_35 : FLW RX8 35 6 7 := ⟨_, _, _, _, cls_6, by decide, aw_fl_X8_35, by decide +kernel⟩
theorem aw_fl_X8_38 : Cond.fieldLink RX8 38 RX8 (TX8 8).2.1 (TX8 8).2.2.1 ∈ AW := aw_of (i := 253) (by decide +kernel) (by decide +kernel)
theorem ff_X8_38 : FLF RX8 38 6 8 := ⟨_, _, _, _, cls_6, by decide, aw_fl_X8_38, by decide +kernel, rfl⟩
theorem aw_fl_X8_42 : Cond.fieldLink RX8 42 RX8 (TX8 9).2.1 (TX8 9).2.2.1 ∈ AW := aw_of (i := 254) (by decide +kernel) (by decide +kernel)
theorem ff_X8_42 : FLF RX8 42 6 9 := ⟨_, _, _, _, cls_6, by decide, aw_fl_X8_42, by decide +kernel, rfl⟩
theorem aw_cl_X8_45 : Cond.classLink RX8 45 RX0 ∈ AW := aw_of (i := 118) (by decide +kernel) (by decide +kernel)
theorem nl_X8_45 : NL RX8 45 0 := ⟨_, _, _, _, cls_0, aw_cl_X8_45⟩
theorem fl_X8_38 : FL RX8 38 6 8 := ⟨_, _, _, _, cls_6, by decide, aw_fl_X8_38⟩
theorem fl_X8_42 : FL RX8 42 6 9 := ⟨_, _, _, _, cls_6, by decide, aw_fl_X8_42⟩
theorem wd_X0_init : wdM MX0_init ∈ AW := aw_of (i := 122) (by decide +kernel) (by decide +kernel)
theorem aw_ml_X8_47 : Cond.methodLink RX8 47 yX0_init ∈ AW := aw_of (i := 120) (by decide +kernel) (by decide +kernel)
theorem im_X0_init : Cond.instanceMethod yX0_init ∈ AW := aw_of (i := 121) (by decide +kernel) (by decide +kernel)
theorem lk_X8_47 : LKI RX8 47 MX0_init 2 := ⟨⟨aw_ml_X8_47, wd_X0_init, ini_RX0, by decide +kernel, by decide +kernel, by decide⟩, im_X0_init, rfl⟩
theorem aw_fl_X8_50 : Cond.fieldLink RX8 50 RX8 (TX8 10).2.1 (TX8 10).2.2.1 ∈ AW := aw_of (i := 255) (by decide +kernel) (by decide +kernel)
theorem ff_X8_50 : FLF RX8 50 6 10 := ⟨_, _, _, _, cls_6, by decide, aw_fl_X8_50, by decide +kernel, rfl⟩
theorem aw_cl_X8_54 : Cond.classLink RX8 54 RX3 ∈ AW := aw_of (i := 140) (by decide +kernel) (by decide +kernel)
theorem nl_X8_54 : NL RX8 54 3 := ⟨_, _, _, _, cls_3, aw_cl_X8_54⟩
theorem wd_X3_init : wdM MX3_init ∈ AW := aw_of (i := 144) (by decide +kernel) (by decide +kernel)
theorem aw_ml_X8_56 : Cond.methodLink RX8 56 yX3_init ∈ AW := aw_of (i := 142) (by decide +kernel) (by decide +kernel)
theorem im_X3_init : Cond.instanceMethod yX3_init ∈ AW := aw_of (i := 143) (by decide +kernel) (by decide +kernel)
theorem lk_X8_56 : LKI RX8 56 MX3_init 1 := ⟨⟨aw_ml_X8_56, wd_X3_init, ini_RX3, by decide +kernel, by decide +kernel, by decide⟩, im_X3_init, rfl⟩
theorem aw_fl_X8_59 : Cond.fieldLink RX8 59 RX8 (TX8 11).2.1 (TX8 11).2.2.1 ∈ AW := aw_of (i := 256) (by decide +kernel) (by decide +kernel)
theorem ff_X8_59 : FLF RX8 59 6 11 := ⟨_, _, _, _, cls_6, by decide, aw_fl_X8_59, by decide +kernel, rfl⟩
theorem aw_cl_X8_63 : Cond.classLink RX8 63 RX6 ∈ AW := aw_of (i := 172) (by decide +kernel) (by decide +kernel)
theorem nl_X8_63 : NL RX8 63 5 := ⟨_, _, _, _, cls_5, aw_cl_X8_63⟩
theorem wd_X6_init : wdM MX6_init ∈ AW := aw_of (i := 176) (by decide +kernel) (by decide +kernel)
theorem aw_mn_X8_65 : Cond.methodLinkNest RX8 65 yX6_init RX8 ∈ lw_tbl := List.mem_of_getElem? (i := 174) (by decide +kernel)
theorem im_X6_init : Cond.instanceMethod yX6_init ∈ AW := aw_of (i := 175) (by decide +kernel) (by decide +kernel)
theorem lk_X8_65 : LKN RX8 65 MX6_init 0 := ⟨⟨_, aw_mn_X8_65⟩, wd_X6_init, ini_RX6, by decide +kernel, by decide +kernel, by decide, im_X6_init, rfl⟩
theorem aw_fl_X8_66 : Cond.fieldLink RX8 66 RX8 (TX8 12).2.1 (TX8 12).2.2.1 ∈ AW := aw_of (i := 257) (by decide +kernel) (by decide +kernel)
theorem ff_X8_66 : FLF RX8 66 6 12 := ⟨_, _, _, _, cls_6, by decide, aw_fl_X8_66, by decide +kernel, rfl⟩
theorem aw_cl_X8_70 : Cond.classLink RX8 70 RX1 ∈ AW := aw_of (i := 213) (by decide +kernel) (by decide +kernel)
theorem nl_X8_70 : NL RX8 70 1 := ⟨_, _, _, _, cls_1, aw_cl_X8_70⟩
theorem wd_X1_init : wdM MX1_init ∈ AW := aw_of (i := 217) (by decide +kernel) (by decide +kernel)
theorem aw_mn_X8_72 : Cond.methodLinkNest RX8 72 yX1_init RX8 ∈ lw_tbl := List.mem_of_getElem? (i := 215) (by decide +kernel)
theorem im_X1_init : Cond.instanceMethod yX1_init ∈ AW := aw_of (i := 216) (by decide +kernel) (by decide +kernel)
theorem lk_X8_72 : LKN RX8 72 MX1_init 0 := ⟨⟨_, aw_mn_X8_72⟩, wd_X1_init, ini_RX1, by decide +kernel, by decide +kernel, by decide, im_X1_init, rfl⟩
theorem aw_fl_X8_73 : Cond.fieldLink RX8 73 RX8 (TX8 13).2.1 (TX8 13).2.2.1 ∈ AW := aw_of (i := 258) (by decide +kernel) (by decide +kernel)
theorem ff_X8_73 : FLF RX8 73 6 13 := ⟨_, _, _, _, cls_6, by decide, aw_fl_X8_73, by decide +kernel, rfl⟩
theorem aw_cl_X8_77 : Cond.classLink RX8 77 RX2 ∈ AW := aw_of (i := 228) (by decide +kernel) (by decide +kernel)
theorem nl_X8_77 : NL RX8 77 2 := ⟨_, _, _, _, cls_2, aw_cl_X8_77⟩
theorem wd_X2_init : wdM MX2_init ∈ AW := aw_of (i := 232) (by decide +kernel) (by decide +kernel)
theorem aw_mn_X8_79 : Cond.methodLinkNest RX8 79 yX2_init RX8 ∈ lw_tbl := List.mem_of_getElem? (i := 230) (by decide +kernel)
theorem im_X2_init : Cond.instanceMethod yX2_init ∈ AW := aw_of (i := 231) (by decide +kernel) (by decide +kernel)
theorem lk_X8_79 : LKN RX8 79 MX2_init 0 := ⟨⟨_, aw_mn_X8_79⟩, wd_X2_init, ini_RX2, by decide +kernel, by decide +kernel, by decide, im_X2_init, rfl⟩
theorem aw_fl_X8_80 : Cond.fieldLink RX8 80 RX8 (TX8 14).2.1 (TX8 14).2.2.1 ∈ AW := aw_of (i := 259) (by decide +kernel) (by decide +kernel)
theorem ff_X8_80 : FLF RX8 80 6 14 := ⟨_, _, _, _, cls_6, by decide, aw_fl_X8_80, by decide +kernel, rfl⟩
theorem aw_fl_X8_84 : Cond.fieldLink RX8 84 RX8 (TX8 15).2.1 (TX8 15).2.2.1 ∈ AW := aw_of (i := 260) (by decide +kernel) (by decide +kernel)
theorem ff_X8_84 : FLF RX8 84 6 15 := ⟨_, _, _, _, cls_6, by decide, aw_fl_X8_84, by decide +kernel, rfl⟩
theorem aw_fl_X8_87 : Cond.fieldLink RX8 87 RX8 (TX8 16).2.1 (TX8 16).2.2.1 ∈ AW := aw_of (i := 261) (by decide +kernel) (by decide +kernel)
theorem fw_X8_87 : FLW RX8 87 6 16 := ⟨_, _, _, _, cls_6, by decide, aw_fl_X8_87, by decide +kernel⟩
theorem fl_X8_13 : FL RX8 13 6 1 := ⟨_, _, _, _, cls_6, by decide, aw_fl_X8_13⟩
theorem aw_cl_X8_90 : Cond.classLink RX8 90 "java/lang/IllegalStateException" ∈ AW := aw_of (i := 323) (by decide +kernel) (by decide +kernel)
theorem ini_x90 : Cond.initialized "java/lang/IllegalStateException" ∈ AW := aw_of (i := 92) (by decide +kernel) (by decide +kernel)
theorem th_X8_90 : TH RX8 90 92 "java/lang/IllegalStateException" ["java/lang/RuntimeException", "java/lang/Exception"] := by
  refine ⟨by decide +kernel, by decide +kernel, aw_cl_X8_90, ini_x90, ?_, ?_⟩
  · have h : ((vx_at0 RX8 92 "java/lang/IllegalStateException" ["java/lang/RuntimeException", "java/lang/Exception"]).all fun w => lw_tbl.contains w && (goodWord w || ngW w)) = true := by decide +kernel
    intro w hw
    have h2 := List.all_eq_true.mp h w hw
    rw [Bool.and_eq_true, Bool.or_eq_true] at h2
    exact ⟨List.contains_iff_mem.mp h2.1, h2.2⟩
  · have h : ((Cond.classLink RX8 90 "java/lang/IllegalStateException" :: Cond.initialized "java/lang/IllegalStateException" :: vx_at0 RX8 92 "java/lang/IllegalStateException" ["java/lang/RuntimeException", "java/lang/Exception"]).all vx_ot) = true := by decide +kernel
    exact fun w hw => List.all_eq_true.mp h w hw
theorem wd_X8_appendBytes : wdM MX8_appendBytes ∈ AW := aw_of (i := 393) (by decide +kernel) (by decide +kernel)
theorem aw_ml_X8_93 : Cond.methodLink RX8 93 yX8_appendBytes ∈ AW := aw_of (i := 390) (by decide +kernel) (by decide +kernel)
theorem im_X8_appendBytes : Cond.instanceMethod yX8_appendBytes ∈ AW := aw_of (i := 392) (by decide +kernel) (by decide +kernel)
theorem se_X8_appendBytes : Cond.selects RX8 yX8_appendBytes yX8_appendBytes ∈ AW := aw_of (i := 1) (by decide +kernel) (by decide +kernel)
theorem lk_X8_93 : LKV RX8 93 MX8_appendBytes 1 6 := ⟨⟨aw_ml_X8_93, wd_X8_appendBytes, ini_RX8, by decide +kernel, by decide +kernel, by decide⟩, im_X8_appendBytes, _, _, _, _, cls_6, se_X8_appendBytes⟩
theorem fl_X8_9 : FL RX8 9 6 0 := ⟨_, _, _, _, cls_6, by decide, aw_fl_X8_9⟩
theorem aw_cl_X8_97 : Cond.classLink RX8 97 "java/lang/IllegalArgumentException" ∈ AW := aw_of (i := 402) (by decide +kernel) (by decide +kernel)
theorem ini_x97 : Cond.initialized "java/lang/IllegalArgumentException" ∈ AW := aw_of (i := 93) (by decide +kernel) (by decide +kernel)
theorem th_X8_97 : TH RX8 97 99 "java/lang/IllegalArgumentException" ["java/lang/RuntimeException", "java/lang/Exception"] := by
  refine ⟨by decide +kernel, by decide +kernel, aw_cl_X8_97, ini_x97, ?_, ?_⟩
  · have h : ((vx_at0 RX8 99 "java/lang/IllegalArgumentException" ["java/lang/RuntimeException", "java/lang/Exception"]).all fun w => lw_tbl.contains w && (goodWord w || ngW w)) = true := by decide +kernel
    intro w hw
    have h2 := List.all_eq_true.mp h w hw
    rw [Bool.and_eq_true, Bool.or_eq_true] at h2
    exact ⟨List.contains_iff_mem.mp h2.1, h2.2⟩
  · have h : ((Cond.classLink RX8 97 "java/lang/IllegalArgumentException" :: Cond.initialized "java/lang/IllegalArgumentException" :: vx_at0 RX8 99 "java/lang/IllegalArgumentException" ["java/lang/RuntimeException", "java/lang/Exception"]).all vx_ot) = true := by decide +kernel
    exact fun w hw => List.all_eq_true.mp h w hw
theorem fl_X8_66 : FL RX8 66 6 12 := ⟨_, _, _, _, cls_6, by decide, aw_fl_X8_66⟩
theorem fl_X8_28 : FL RX8 28 6 5 := ⟨_, _, _, _, cls_6, by decide, aw_fl_X8_28⟩
theorem wd_X6_read : wdM MX6_read ∈ AW := aw_of (i := 454) (by decide +kernel) (by decide +kernel)
theorem aw_ml_X8_100 : Cond.methodLink RX8 100 yX6_read ∈ AW := aw_of (i := 451) (by decide +kernel) (by decide +kernel)
theorem im_X6_read : Cond.instanceMethod yX6_read ∈ AW := aw_of (i := 452) (by decide +kernel) (by decide +kernel)
theorem se_X6_read : Cond.selects RX6 yX6_read yX6_read ∈ AW := aw_of (i := 453) (by decide +kernel) (by decide +kernel)
theorem lk_X8_100 : LKV RX8 100 MX6_read 3 5 := ⟨⟨aw_ml_X8_100, wd_X6_read, ini_RX6, by decide +kernel, by decide +kernel, by decide⟩, im_X6_read, _, _, _, _, cls_5, se_X6_read⟩
theorem fl_X8_17 : FL RX8 17 6 2 := ⟨_, _, _, _, cls_6, by decide, aw_fl_X8_17⟩
theorem wd_X8_checkRoom : wdM MX8_checkRoom ∈ AW := aw_of (i := 532) (by decide +kernel) (by decide +kernel)
theorem aw_ml_X8_104 : Cond.methodLink RX8 104 yX8_checkRoom ∈ AW := aw_of (i := 529) (by decide +kernel) (by decide +kernel)
theorem im_X8_checkRoom : Cond.instanceMethod yX8_checkRoom ∈ AW := aw_of (i := 531) (by decide +kernel) (by decide +kernel)
theorem se_X8_checkRoom : Cond.selects RX8 yX8_checkRoom yX8_checkRoom ∈ AW := aw_of (i := 16) (by decide +kernel) (by decide +kernel)
theorem lk_X8_104 : LKV RX8 104 MX8_checkRoom 0 6 := ⟨⟨aw_ml_X8_104, wd_X8_checkRoom, ini_RX8, by decide +kernel, by decide +kernel, by decide⟩, im_X8_checkRoom, _, _, _, _, cls_6, se_X8_checkRoom⟩
theorem fl_X8_73 : FL RX8 73 6 13 := ⟨_, _, _, _, cls_6, by decide, aw_fl_X8_73⟩
theorem fl_X8_50 : FL RX8 50 6 10 := ⟨_, _, _, _, cls_6, by decide, aw_fl_X8_50⟩
theorem wd_X1_run : wdM MX1_run ∈ AW := aw_of (i := 536) (by decide +kernel) (by decide +kernel)
theorem aw_ml_X8_107 : Cond.methodLink RX8 107 yX1_run ∈ AW := aw_of (i := 533) (by decide +kernel) (by decide +kernel)
theorem im_X1_run : Cond.instanceMethod yX1_run ∈ AW := aw_of (i := 534) (by decide +kernel) (by decide +kernel)
theorem se_X1_run : Cond.selects RX1 yX1_run yX1_run ∈ AW := aw_of (i := 535) (by decide +kernel) (by decide +kernel)
theorem lk_X8_107 : LKV RX8 107 MX1_run 3 1 := ⟨⟨aw_ml_X8_107, wd_X1_run, ini_RX1, by decide +kernel, by decide +kernel, by decide⟩, im_X1_run, _, _, _, _, cls_1, se_X1_run⟩
theorem aw_cl_X8_111 : Cond.classLink RX8 111 "java/lang/ArithmeticException" ∈ AW := aw_of (i := 684) (by decide +kernel) (by decide +kernel)
theorem ini_x111 : Cond.initialized "java/lang/ArithmeticException" ∈ AW := aw_of (i := 94) (by decide +kernel) (by decide +kernel)
theorem th_X8_111 : TH RX8 111 113 "java/lang/ArithmeticException" ["java/lang/RuntimeException", "java/lang/Exception"] := by
  refine ⟨by decide +kernel, by decide +kernel, aw_cl_X8_111, ini_x111, ?_, ?_⟩
  · have h : ((vx_at0 RX8 113 "java/lang/ArithmeticException" ["java/lang/RuntimeException", "java/lang/Exception"]).all fun w => lw_tbl.contains w && (goodWord w || ngW w)) = true := by decide +kernel
    intro w hw
    have h2 := List.all_eq_true.mp h w hw
    rw [Bool.and_eq_true, Bool.or_eq_true] at h2
    exact ⟨List.contains_iff_mem.mp h2.1, h2.2⟩
  · have h : ((Cond.classLink RX8 111 "java/lang/ArithmeticException" :: Cond.initialized "java/lang/ArithmeticException" :: vx_at0 RX8 113 "java/lang/ArithmeticException" ["java/lang/RuntimeException", "java/lang/Exception"]).all vx_ot) = true := by decide +kernel
    exact fun w hw => List.all_eq_true.mp h w hw
theorem aw_ml_X8_114 : Cond.methodLink RX8 114 yJ7_copyOf_c38d5 ∈ AW := aw_of (i := 689) (by decide +kernel) (by decide +kernel)
theorem lk_X8_114 : LKS RX8 114 MJ7_copyOf_c38d5 2 := ⟨⟨aw_ml_X8_114, wd_J7_copyOf_c38d5, ini_RJ7, by decide +kernel, by decide +kernel, by decide⟩, sm_J7_copyOf_c38d5⟩
theorem wd_X8_addFamily : wdM MX8_addFamily ∈ AW := aw_of (i := 704) (by decide +kernel) (by decide +kernel)
theorem aw_ml_X8_120 : Cond.methodLink RX8 120 yX8_addFamily ∈ AW := aw_of (i := 701) (by decide +kernel) (by decide +kernel)
theorem im_X8_addFamily : Cond.instanceMethod yX8_addFamily ∈ AW := aw_of (i := 703) (by decide +kernel) (by decide +kernel)
theorem se_X8_addFamily : Cond.selects RX8 yX8_addFamily yX8_addFamily ∈ AW := aw_of (i := 29) (by decide +kernel) (by decide +kernel)
theorem lk_X8_120 : LKV RX8 120 MX8_addFamily 1 6 := ⟨⟨aw_ml_X8_120, wd_X8_addFamily, ini_RX8, by decide +kernel, by decide +kernel, by decide⟩, im_X8_addFamily, _, _, _, _, cls_6, se_X8_addFamily⟩
theorem wd_X8_familyOf : wdM MX8_familyOf ∈ AW := aw_of (i := 787) (by decide +kernel) (by decide +kernel)
theorem aw_ml_X8_124 : Cond.methodLink RX8 124 yX8_familyOf ∈ AW := aw_of (i := 784) (by decide +kernel) (by decide +kernel)
theorem im_X8_familyOf : Cond.instanceMethod yX8_familyOf ∈ AW := aw_of (i := 786) (by decide +kernel) (by decide +kernel)
theorem se_X8_familyOf : Cond.selects RX8 yX8_familyOf yX8_familyOf ∈ AW := aw_of (i := 34) (by decide +kernel) (by decide +kernel)
theorem lk_X8_124 : LKV RX8 124 MX8_familyOf 1 6 := ⟨⟨aw_ml_X8_124, wd_X8_familyOf, ini_RX8, by decide +kernel, by decide +kernel, by decide⟩, im_X8_familyOf, _, _, _, _, cls_6, se_X8_familyOf⟩
theorem aw_fl_X8_128 : Cond.fieldLink RX8 128 RX4 (TX4 0).2.1 (TX4 0).2.2.1 ∈ AW := aw_of (i := 745) (by decide +kernel) (by decide +kernel)
theorem fl_X8_128 : FL RX8 128 4 0 := ⟨_, _, _, _, cls_4, by decide, aw_fl_X8_128⟩
theorem aw_ml_X8_132 : Cond.methodLink RX8 132 yX7_list ∈ AW := aw_of (i := 822) (by decide +kernel) (by decide +kernel)
theorem lk_X8_132 : LKS RX8 132 MX7_list 2 := ⟨⟨aw_ml_X8_132, wd_X7_list, ini_RX7, by decide +kernel, by decide +kernel, by decide⟩, sm_X7_list⟩
theorem wd_X8_writtenLength : wdM MX8_writtenLength ∈ AW := aw_of (i := 826) (by decide +kernel) (by decide +kernel)
theorem aw_ml_X8_138 : Cond.methodLink RX8 138 yX8_writtenLength ∈ AW := aw_of (i := 823) (by decide +kernel) (by decide +kernel)
theorem im_X8_writtenLength : Cond.instanceMethod yX8_writtenLength ∈ AW := aw_of (i := 825) (by decide +kernel) (by decide +kernel)
theorem se_X8_writtenLength : Cond.selects RX8 yX8_writtenLength yX8_writtenLength ∈ AW := aw_of (i := 36) (by decide +kernel) (by decide +kernel)
theorem lk_X8_138 : LKV RX8 138 MX8_writtenLength 1 6 := ⟨⟨aw_ml_X8_138, wd_X8_writtenLength, ini_RX8, by decide +kernel, by decide +kernel, by decide⟩, im_X8_writtenLength, _, _, _, _, cls_6, se_X8_writtenLength⟩
theorem wd_X8_appendOutput : wdM MX8_appendOutput ∈ AW := aw_of (i := 837) (by decide +kernel) (by decide +kernel)
theorem aw_ml_X8_142 : Cond.methodLink RX8 142 yX8_appendOutput ∈ AW := aw_of (i := 834) (by decide +kernel) (by decide +kernel)
theorem im_X8_appendOutput : Cond.instanceMethod yX8_appendOutput ∈ AW := aw_of (i := 836) (by decide +kernel) (by decide +kernel)
theorem se_X8_appendOutput : Cond.selects RX8 yX8_appendOutput yX8_appendOutput ∈ AW := aw_of (i := 37) (by decide +kernel) (by decide +kernel)
theorem lk_X8_142 : LKV RX8 142 MX8_appendOutput 1 6 := ⟨⟨aw_ml_X8_142, wd_X8_appendOutput, ini_RX8, by decide +kernel, by decide +kernel, by decide⟩, im_X8_appendOutput, _, _, _, _, cls_6, se_X8_appendOutput⟩
theorem wd_X8_writeSet : wdM MX8_writeSet ∈ AW := aw_of (i := 841) (by decide +kernel) (by decide +kernel)
theorem aw_ml_X8_145 : Cond.methodLink RX8 145 yX8_writeSet ∈ AW := aw_of (i := 838) (by decide +kernel) (by decide +kernel)
theorem im_X8_writeSet : Cond.instanceMethod yX8_writeSet ∈ AW := aw_of (i := 840) (by decide +kernel) (by decide +kernel)
theorem se_X8_writeSet : Cond.selects RX8 yX8_writeSet yX8_writeSet ∈ AW := aw_of (i := 38) (by decide +kernel) (by decide +kernel)
theorem lk_X8_145 : LKV RX8 145 MX8_writeSet 1 6 := ⟨⟨aw_ml_X8_145, wd_X8_writeSet, ini_RX8, by decide +kernel, by decide +kernel, by decide⟩, im_X8_writeSet, _, _, _, _, cls_6, se_X8_writeSet⟩
theorem fl_X8_23 : FL RX8 23 6 4 := ⟨_, _, _, _, cls_6, by decide, aw_fl_X8_23⟩
theorem wd_J6_bitCount_0f7a4 : wdM MJ6_bitCount_0f7a4 ∈ AW := aw_of (i := 829) (by decide +kernel) (by decide +kernel)
theorem ini_RJ6 : Cond.initialized RJ6 ∈ AW := aw_of (i := 102) (by decide +kernel) (by decide +kernel)
theorem aw_ml_X8_148 : Cond.methodLink RX8 148 yJ6_bitCount_0f7a4 ∈ AW := aw_of (i := 827) (by decide +kernel) (by decide +kernel)
theorem sm_J6_bitCount_0f7a4 : Cond.static yJ6_bitCount_0f7a4 ∈ AW := aw_of (i := 828) (by decide +kernel) (by decide +kernel)
theorem lk_X8_148 : LKS RX8 148 MJ6_bitCount_0f7a4 1 := ⟨⟨aw_ml_X8_148, wd_J6_bitCount_0f7a4, ini_RJ6, by decide +kernel, by decide +kernel, by decide⟩, sm_J6_bitCount_0f7a4⟩
theorem aw_ml_X8_153 : Cond.methodLink RX8 153 Lib.Math.max.name ∈ AW := aw_of (i := 833) (by decide +kernel) (by decide +kernel)
theorem mm_X8_153 : MXL RX8 153 := ⟨aw_ml_X8_153, aw_smax, aw_im, aw_cmax⟩
theorem fl_X8_20 : FL RX8 20 6 3 := ⟨_, _, _, _, cls_6, by decide, aw_fl_X8_20⟩
theorem aw_cl_X8_159 : Cond.classLink RX8 159 "java/lang/IndexOutOfBoundsException" ∈ AW := aw_of (i := 792) (by decide +kernel) (by decide +kernel)
theorem ini_x159 : Cond.initialized "java/lang/IndexOutOfBoundsException" ∈ AW := aw_of (i := 104) (by decide +kernel) (by decide +kernel)
theorem th_X8_159 : TH RX8 159 161 "java/lang/IndexOutOfBoundsException" ["java/lang/RuntimeException", "java/lang/Exception"] := by
  refine ⟨by decide +kernel, by decide +kernel, aw_cl_X8_159, ini_x159, ?_, ?_⟩
  · have h : ((vx_at0 RX8 161 "java/lang/IndexOutOfBoundsException" ["java/lang/RuntimeException", "java/lang/Exception"]).all fun w => lw_tbl.contains w && (goodWord w || ngW w)) = true := by decide +kernel
    intro w hw
    have h2 := List.all_eq_true.mp h w hw
    rw [Bool.and_eq_true, Bool.or_eq_true] at h2
    exact ⟨List.contains_iff_mem.mp h2.1, h2.2⟩
  · have h : ((Cond.classLink RX8 159 "java/lang/IndexOutOfBoundsException" :: Cond.initialized "java/lang/IndexOutOfBoundsException" :: vx_at0 RX8 161 "java/lang/IndexOutOfBoundsException" ["java/lang/RuntimeException", "java/lang/Exception"]).all vx_ot) = true := by decide +kernel
    exact fun w hw => List.all_eq_true.mp h w hw
theorem wd_X8_checkMask : wdM MX8_checkMask ∈ AW := aw_of (i := 859) (by decide +kernel) (by decide +kernel)
theorem aw_ml_X8_162 : Cond.methodLink RX8 162 yX8_checkMask ∈ AW := aw_of (i := 856) (by decide +kernel) (by decide +kernel)
theorem im_X8_checkMask : Cond.instanceMethod yX8_checkMask ∈ AW := aw_of (i := 858) (by decide +kernel) (by decide +kernel)
theorem se_X8_checkMask : Cond.selects RX8 yX8_checkMask yX8_checkMask ∈ AW := aw_of (i := 39) (by decide +kernel) (by decide +kernel)
theorem lk_X8_162 : LKV RX8 162 MX8_checkMask 1 6 := ⟨⟨aw_ml_X8_162, wd_X8_checkMask, ini_RX8, by decide +kernel, by decide +kernel, by decide⟩, im_X8_checkMask, _, _, _, _, cls_6, se_X8_checkMask⟩
theorem aw_ml_X8_165 : Cond.methodLink RX8 165 yX7_put ∈ AW := aw_of (i := 860) (by decide +kernel) (by decide +kernel)
theorem lk_X8_165 : LKS RX8 165 MX7_put 2 := ⟨⟨aw_ml_X8_165, wd_X7_put, ini_RX7, by decide +kernel, by decide +kernel, by decide⟩, sm_X7_put⟩
theorem fl_X8_59 : FL RX8 59 6 11 := ⟨_, _, _, _, cls_6, by decide, aw_fl_X8_59⟩
theorem wd_X3_visit : wdM MX3_visit ∈ AW := aw_of (i := 710) (by decide +kernel) (by decide +kernel)
theorem aw_ml_X8_169 : Cond.methodLink RX8 169 yX3_visit ∈ AW := aw_of (i := 707) (by decide +kernel) (by decide +kernel)
theorem im_X3_visit : Cond.instanceMethod yX3_visit ∈ AW := aw_of (i := 708) (by decide +kernel) (by decide +kernel)
theorem se_X3_visit : Cond.selects RX3 yX3_visit yX3_visit ∈ AW := aw_of (i := 709) (by decide +kernel) (by decide +kernel)
theorem lk_X8_169 : LKV RX8 169 MX3_visit 2 3 := ⟨⟨aw_ml_X8_169, wd_X3_visit, ini_RX3, by decide +kernel, by decide +kernel, by decide⟩, im_X3_visit, _, _, _, _, cls_3, se_X3_visit⟩
theorem fl_X8_35 : FL RX8 35 6 7 := ⟨_, _, _, _, cls_6, by decide, aw_fl_X8_35⟩
theorem fl_X8_32 : FL RX8 32 6 6 := ⟨_, _, _, _, cls_6, by decide, aw_fl_X8_32⟩
theorem aw_fn_X8_173 : Cond.fieldLinkNest RX8 173 RX3 (TX3 7).2.1 (TX3 7).2.2.1 RX8 ∈ lw_tbl := List.mem_of_getElem? (i := 154) (by decide +kernel)
theorem fn_X8_173 : FLN RX8 173 3 7 := ⟨_, _, _, _, _, cls_3, by decide, aw_fn_X8_173⟩
theorem aw_fl_X8_176 : Cond.fieldLink RX8 176 RX4 (TX4 2).2.1 (TX4 2).2.2.1 ∈ AW := aw_of (i := 749) (by decide +kernel) (by decide +kernel)
theorem fl_X8_176 : FL RX8 176 4 2 := ⟨_, _, _, _, cls_4, by decide, aw_fl_X8_176⟩
theorem wd_X8_checkCreated : wdM MX8_checkCreated ∈ AW := aw_of (i := 791) (by decide +kernel) (by decide +kernel)
theorem aw_ml_X8_179 : Cond.methodLink RX8 179 yX8_checkCreated ∈ AW := aw_of (i := 788) (by decide +kernel) (by decide +kernel)
theorem im_X8_checkCreated : Cond.instanceMethod yX8_checkCreated ∈ AW := aw_of (i := 790) (by decide +kernel) (by decide +kernel)
theorem se_X8_checkCreated : Cond.selects RX8 yX8_checkCreated yX8_checkCreated ∈ AW := aw_of (i := 35) (by decide +kernel) (by decide +kernel)
theorem lk_X8_179 : LKV RX8 179 MX8_checkCreated 1 6 := ⟨⟨aw_ml_X8_179, wd_X8_checkCreated, ini_RX8, by decide +kernel, by decide +kernel, by decide⟩, im_X8_checkCreated, _, _, _, _, cls_6, se_X8_checkCreated⟩
theorem aw_cl_X8_182 : Cond.classLink RX8 182 "java/util/NoSuchElementException" ∈ AW := aw_of (i := 807) (by decide +kernel) (by decide +kernel)
theorem ini_x182 : Cond.initialized "java/util/NoSuchElementException" ∈ AW := aw_of (i := 106) (by decide +kernel) (by decide +kernel)
theorem th_X8_182 : TH RX8 182 184 "java/util/NoSuchElementException" ["java/lang/RuntimeException", "java/lang/Exception"] := by
  refine ⟨by decide +kernel, by decide +kernel, aw_cl_X8_182, ini_x182, ?_, ?_⟩
  · have h : ((vx_at0 RX8 184 "java/util/NoSuchElementException" ["java/lang/RuntimeException", "java/lang/Exception"]).all fun w => lw_tbl.contains w && (goodWord w || ngW w)) = true := by decide +kernel
    intro w hw
    have h2 := List.all_eq_true.mp h w hw
    rw [Bool.and_eq_true, Bool.or_eq_true] at h2
    exact ⟨List.contains_iff_mem.mp h2.1, h2.2⟩
  · have h : ((Cond.classLink RX8 182 "java/util/NoSuchElementException" :: Cond.initialized "java/util/NoSuchElementException" :: vx_at0 RX8 184 "java/util/NoSuchElementException" ["java/lang/RuntimeException", "java/lang/Exception"]).all vx_ot) = true := by decide +kernel
    exact fun w hw => List.all_eq_true.mp h w hw
theorem aw_fl_X8_185 : Cond.fieldLink RX8 185 RX4 (TX4 1).2.1 (TX4 1).2.2.1 ∈ AW := aw_of (i := 747) (by decide +kernel) (by decide +kernel)
theorem fl_X8_185 : FL RX8 185 4 1 := ⟨_, _, _, _, cls_4, by decide, aw_fl_X8_185⟩
theorem aw_cl_X8_26 : Cond.classLink RX8 26 RX4 ∈ AW := aw_of (i := 116) (by decide +kernel) (by decide +kernel)
theorem nl_X8_26 : NL RX8 26 4 := ⟨_, _, _, _, cls_4, aw_cl_X8_26⟩
theorem aw_ml_X8_188 : Cond.methodLink RX8 188 yX7_size ∈ AW := aw_of (i := 706) (by decide +kernel) (by decide +kernel)
theorem lk_X8_188 : LKS RX8 188 MX7_size 1 := ⟨⟨aw_ml_X8_188, wd_X7_size, ini_RX7, by decide +kernel, by decide +kernel, by decide⟩, sm_X7_size⟩
theorem wd_X4_init : wdM MX4_init ∈ AW := aw_of (i := 741) (by decide +kernel) (by decide +kernel)
theorem aw_ml_X8_191 : Cond.methodLink RX8 191 yX4_init ∈ AW := aw_of (i := 739) (by decide +kernel) (by decide +kernel)
theorem im_X4_init : Cond.instanceMethod yX4_init ∈ AW := aw_of (i := 740) (by decide +kernel) (by decide +kernel)
theorem lk_X8_191 : LKI RX8 191 MX4_init 3 := ⟨⟨aw_ml_X8_191, wd_X4_init, ini_RX4, by decide +kernel, by decide +kernel, by decide⟩, im_X4_init, rfl⟩
theorem wd_X8_addOfTwo : wdM MX8_addOfTwo ∈ AW := aw_of (i := 892) (by decide +kernel) (by decide +kernel)
theorem aw_ml_X8_194 : Cond.methodLink RX8 194 yX8_addOfTwo ∈ AW := aw_of (i := 889) (by decide +kernel) (by decide +kernel)
theorem im_X8_addOfTwo : Cond.instanceMethod yX8_addOfTwo ∈ AW := aw_of (i := 891) (by decide +kernel) (by decide +kernel)
theorem se_X8_addOfTwo : Cond.selects RX8 yX8_addOfTwo yX8_addOfTwo ∈ AW := aw_of (i := 40) (by decide +kernel) (by decide +kernel)
theorem lk_X8_194 : LKV RX8 194 MX8_addOfTwo 3 6 := ⟨⟨aw_ml_X8_194, wd_X8_addOfTwo, ini_RX8, by decide +kernel, by decide +kernel, by decide⟩, im_X8_addOfTwo, _, _, _, _, cls_6, se_X8_addOfTwo⟩
theorem wd_X8_addOfOne : wdM MX8_addOfOne ∈ AW := aw_of (i := 960) (by decide +kernel) (by decide +kernel)
theorem aw_ml_X8_198 : Cond.methodLink RX8 198 yX8_addOfOne ∈ AW := aw_of (i := 957) (by decide +kernel) (by decide +kernel)
theorem im_X8_addOfOne : Cond.instanceMethod yX8_addOfOne ∈ AW := aw_of (i := 959) (by decide +kernel) (by decide +kernel)
theorem se_X8_addOfOne : Cond.selects RX8 yX8_addOfOne yX8_addOfOne ∈ AW := aw_of (i := 41) (by decide +kernel) (by decide +kernel)
theorem lk_X8_198 : LKV RX8 198 MX8_addOfOne 2 6 := ⟨⟨aw_ml_X8_198, wd_X8_addOfOne, ini_RX8, by decide +kernel, by decide +kernel, by decide⟩, im_X8_addOfOne, _, _, _, _, cls_6, se_X8_addOfOne⟩
theorem aw_ml_X8_201 : Cond.methodLink RX8 201 yX0_applyToOne ∈ AW := aw_of (i := 961) (by decide +kernel) (by decide +kernel)
theorem lk_X8_201 : LKV RX8 201 MX0_applyToOne 2 0 := ⟨⟨aw_ml_X8_201, wd_X0_applyToOne, ini_RX0, by decide +kernel, by decide +kernel, by decide⟩, im_X0_applyToOne, _, _, _, _, cls_0, se_X0_applyToOne⟩
theorem aw_ml_X8_205 : Cond.methodLink RX8 205 yX0_applyToTwo ∈ AW := aw_of (i := 893) (by decide +kernel) (by decide +kernel)
theorem lk_X8_205 : LKV RX8 205 MX0_applyToTwo 3 0 := ⟨⟨aw_ml_X8_205, wd_X0_applyToTwo, ini_RX0, by decide +kernel, by decide +kernel, by decide⟩, im_X0_applyToTwo, _, _, _, _, cls_0, se_X0_applyToTwo⟩
theorem wd_X8_checkElement : wdM MX8_checkElement ∈ AW := aw_of (i := 993) (by decide +kernel) (by decide +kernel)
theorem aw_ml_X8_209 : Cond.methodLink RX8 209 yX8_checkElement ∈ AW := aw_of (i := 990) (by decide +kernel) (by decide +kernel)
theorem im_X8_checkElement : Cond.instanceMethod yX8_checkElement ∈ AW := aw_of (i := 992) (by decide +kernel) (by decide +kernel)
theorem se_X8_checkElement : Cond.selects RX8 yX8_checkElement yX8_checkElement ∈ AW := aw_of (i := 42) (by decide +kernel) (by decide +kernel)
theorem lk_X8_209 : LKV RX8 209 MX8_checkElement 1 6 := ⟨⟨aw_ml_X8_209, wd_X8_checkElement, ini_RX8, by decide +kernel, by decide +kernel, by decide⟩, im_X8_checkElement, _, _, _, _, cls_6, se_X8_checkElement⟩
theorem aw_ml_X8_212 : Cond.methodLink RX8 212 yX7_swap ∈ AW := aw_of (i := 994) (by decide +kernel) (by decide +kernel)
theorem lk_X8_212 : LKS RX8 212 MX7_swap 2 := ⟨⟨aw_ml_X8_212, wd_X7_swap, ini_RX7, by decide +kernel, by decide +kernel, by decide⟩, sm_X7_swap⟩
theorem fl_X8_80 : FL RX8 80 6 14 := ⟨_, _, _, _, cls_6, by decide, aw_fl_X8_80⟩
theorem aw_ml_X8_215 : Cond.methodLink RX8 215 yX2_of ∈ AW := aw_of (i := 1002) (by decide +kernel) (by decide +kernel)
theorem lk_X8_215 : LKV RX8 215 MX2_of 1 2 := ⟨⟨aw_ml_X8_215, wd_X2_of, ini_RX2, by decide +kernel, by decide +kernel, by decide⟩, im_X2_of, _, _, _, _, cls_2, se_X2_of⟩
theorem aw_ml_X8_218 : Cond.methodLink RX8 218 yX7_has ∈ AW := aw_of (i := 1034) (by decide +kernel) (by decide +kernel)
theorem lk_X8_218 : LKS RX8 218 MX7_has 2 := ⟨⟨aw_ml_X8_218, wd_X7_has, ini_RX7, by decide +kernel, by decide +kernel, by decide⟩, sm_X7_has⟩
theorem wd_X7_isInside : wdM MX7_isInside ∈ AW := aw_of (i := 1044) (by decide +kernel) (by decide +kernel)
theorem aw_ml_X8_222 : Cond.methodLink RX8 222 yX7_isInside ∈ AW := aw_of (i := 1042) (by decide +kernel) (by decide +kernel)
theorem sm_X7_isInside : Cond.static yX7_isInside ∈ AW := aw_of (i := 1043) (by decide +kernel) (by decide +kernel)
theorem lk_X8_222 : LKS RX8 222 MX7_isInside 2 := ⟨⟨aw_ml_X8_222, wd_X7_isInside, ini_RX7, by decide +kernel, by decide +kernel, by decide⟩, sm_X7_isInside⟩
theorem wd_X7_sizeBelow : wdM MX7_sizeBelow ∈ AW := aw_of (i := 1068) (by decide +kernel) (by decide +kernel)
theorem aw_ml_X8_226 : Cond.methodLink RX8 226 yX7_sizeBelow ∈ AW := aw_of (i := 1066) (by decide +kernel) (by decide +kernel)
theorem sm_X7_sizeBelow : Cond.static yX7_sizeBelow ∈ AW := aw_of (i := 1067) (by decide +kernel) (by decide +kernel)
theorem lk_X8_226 : LKS RX8 226 MX7_sizeBelow 2 := ⟨⟨aw_ml_X8_226, wd_X7_sizeBelow, ini_RX7, by decide +kernel, by decide +kernel, by decide⟩, sm_X7_sizeBelow⟩
theorem wd_X2_replace : wdM MX2_replace ∈ AW := aw_of (i := 1079) (by decide +kernel) (by decide +kernel)
theorem aw_ml_X8_229 : Cond.methodLink RX8 229 yX2_replace ∈ AW := aw_of (i := 1076) (by decide +kernel) (by decide +kernel)
theorem im_X2_replace : Cond.instanceMethod yX2_replace ∈ AW := aw_of (i := 1077) (by decide +kernel) (by decide +kernel)
theorem se_X2_replace : Cond.selects RX2 yX2_replace yX2_replace ∈ AW := aw_of (i := 1078) (by decide +kernel) (by decide +kernel)
theorem lk_X8_229 : LKV RX8 229 MX2_replace 2 2 := ⟨⟨aw_ml_X8_229, wd_X2_replace, ini_RX2, by decide +kernel, by decide +kernel, by decide⟩, im_X2_replace, _, _, _, _, cls_2, se_X2_replace⟩
theorem wd_X8_filledFamilyOf : wdM MX8_filledFamilyOf ∈ AW := aw_of (i := 1090) (by decide +kernel) (by decide +kernel)
theorem aw_ml_X8_232 : Cond.methodLink RX8 232 yX8_filledFamilyOf ∈ AW := aw_of (i := 1087) (by decide +kernel) (by decide +kernel)
theorem im_X8_filledFamilyOf : Cond.instanceMethod yX8_filledFamilyOf ∈ AW := aw_of (i := 1089) (by decide +kernel) (by decide +kernel)
theorem se_X8_filledFamilyOf : Cond.selects RX8 yX8_filledFamilyOf yX8_filledFamilyOf ∈ AW := aw_of (i := 43) (by decide +kernel) (by decide +kernel)
theorem lk_X8_232 : LKV RX8 232 MX8_filledFamilyOf 1 6 := ⟨⟨aw_ml_X8_232, wd_X8_filledFamilyOf, ini_RX8, by decide +kernel, by decide +kernel, by decide⟩, im_X8_filledFamilyOf, _, _, _, _, cls_6, se_X8_filledFamilyOf⟩
theorem aw_ml_X8_235 : Cond.methodLink RX8 235 Lib.Math.min.name ∈ AW := aw_of (i := 1091) (by decide +kernel) (by decide +kernel)
theorem mm_X8_235 : MNL RX8 235 := ⟨aw_ml_X8_235, aw_smin, aw_im, aw_cmin⟩
theorem wd_X2_rank : wdM MX2_rank ∈ AW := aw_of (i := 1109) (by decide +kernel) (by decide +kernel)
theorem aw_ml_X8_238 : Cond.methodLink RX8 238 yX2_rank ∈ AW := aw_of (i := 1106) (by decide +kernel) (by decide +kernel)
theorem im_X2_rank : Cond.instanceMethod yX2_rank ∈ AW := aw_of (i := 1107) (by decide +kernel) (by decide +kernel)
theorem se_X2_rank : Cond.selects RX2 yX2_rank yX2_rank ∈ AW := aw_of (i := 1108) (by decide +kernel) (by decide +kernel)
theorem lk_X8_238 : LKV RX8 238 MX2_rank 1 2 := ⟨⟨aw_ml_X8_238, wd_X2_rank, ini_RX2, by decide +kernel, by decide +kernel, by decide⟩, im_X2_rank, _, _, _, _, cls_2, se_X2_rank⟩
theorem wd_X8_keepCheapest : wdM MX8_keepCheapest ∈ AW := aw_of (i := 1114) (by decide +kernel) (by decide +kernel)
theorem aw_ml_X8_241 : Cond.methodLink RX8 241 yX8_keepCheapest ∈ AW := aw_of (i := 1111) (by decide +kernel) (by decide +kernel)
theorem im_X8_keepCheapest : Cond.instanceMethod yX8_keepCheapest ∈ AW := aw_of (i := 1113) (by decide +kernel) (by decide +kernel)
theorem se_X8_keepCheapest : Cond.selects RX8 yX8_keepCheapest yX8_keepCheapest ∈ AW := aw_of (i := 44) (by decide +kernel) (by decide +kernel)
theorem lk_X8_241 : LKV RX8 241 MX8_keepCheapest 2 6 := ⟨⟨aw_ml_X8_241, wd_X8_keepCheapest, ini_RX8, by decide +kernel, by decide +kernel, by decide⟩, im_X8_keepCheapest, _, _, _, _, cls_6, se_X8_keepCheapest⟩
theorem fl_X8_87 : FL RX8 87 6 16 := ⟨_, _, _, _, cls_6, by decide, aw_fl_X8_87⟩
theorem wd_X5_order : wdM MX5_order ∈ AW := aw_of (i := 1117) (by decide +kernel) (by decide +kernel)
theorem aw_ml_X8_245 : Cond.methodLink RX8 245 yX5_order ∈ AW := aw_of (i := 1115) (by decide +kernel) (by decide +kernel)
theorem sm_X5_order : Cond.static yX5_order ∈ AW := aw_of (i := 1116) (by decide +kernel) (by decide +kernel)
theorem lk_X8_245 : LKS RX8 245 MX5_order 2 := ⟨⟨aw_ml_X8_245, wd_X5_order, ini_RX5, by decide +kernel, by decide +kernel, by decide⟩, sm_X5_order⟩
theorem fl_X8_84 : FL RX8 84 6 15 := ⟨_, _, _, _, cls_6, by decide, aw_fl_X8_84⟩
theorem wd_X5_takeLeast : wdM MX5_takeLeast ∈ AW := aw_of (i := 1123) (by decide +kernel) (by decide +kernel)
theorem aw_ml_X8_251 : Cond.methodLink RX8 251 yX5_takeLeast ∈ AW := aw_of (i := 1121) (by decide +kernel) (by decide +kernel)
theorem sm_X5_takeLeast : Cond.static yX5_takeLeast ∈ AW := aw_of (i := 1122) (by decide +kernel) (by decide +kernel)
theorem lk_X8_251 : LKS RX8 251 MX5_takeLeast 2 := ⟨⟨aw_ml_X8_251, wd_X5_takeLeast, ini_RX5, by decide +kernel, by decide +kernel, by decide⟩, sm_X5_takeLeast⟩
theorem k_X8_255 : Cond.constantLong RX8 255 29 ∈ AW := aw_of (i := 313) (by decide +kernel) (by decide +kernel)
theorem k_X8_257 : Cond.constantLong RX8 257 31 ∈ AW := aw_of (i := 314) (by decide +kernel) (by decide +kernel)
theorem aw_fn_X8_259 : Cond.fieldLinkNest RX8 259 RX2 (TX2 0).2.1 (TX2 0).2.2.1 RX8 ∈ lw_tbl := List.mem_of_getElem? (i := 235) (by decide +kernel)
theorem fn_X8_259 : FLN RX8 259 2 0 := ⟨_, _, _, _, _, cls_2, by decide, aw_fn_X8_259⟩
theorem aw_ml_X9_1 : Cond.methodLink RX9 1 Lib.objectInit ∈ AW := aw_of (i := 1136) (by decide +kernel) (by decide +kernel)
theorem oi_X9_1 : OBI RX9 1 := ⟨aw_ml_X9_1, aw_io, aw_co⟩
theorem aw_fl_X9_9 : Cond.fieldLink RX9 9 RX9 (TX9 1).2.1 (TX9 1).2.2.1 ∈ AW := aw_of (i := 1138) (by decide +kernel) (by decide +kernel)
theorem ff_X9_9 : FLF RX9 9 7 1 := ⟨_, _, _, _, cls_7, by decide, aw_fl_X9_9, by decide +kernel, rfl⟩
theorem aw_fl_X9_13 : Cond.fieldLink RX9 13 RX9 (TX9 3).2.1 (TX9 3).2.2.1 ∈ AW := aw_of (i := 1140) (by decide +kernel) (by decide +kernel)
theorem ff_X9_13 : FLF RX9 13 7 3 := ⟨_, _, _, _, cls_7, by decide, aw_fl_X9_13, by decide +kernel, rfl⟩
theorem aw_fl_X9_16 : Cond.fieldLink RX9 16 RX9 (TX9 5).2.1 (TX9 5).2.2.1 ∈ AW := aw_of (i := 1142) (by decide +kernel) (by decide +kernel)
theorem fw_X9_16 : FLW RX9 16 7 5 := ⟨_, _, _, _, cls_7, by decide, aw_fl_X9_16, by decide +kernel⟩
theorem ac_boolean : Cond.arrayClass .boolean ∈ AW := aw_of (i := 1219) (by decide +kernel) (by decide +kernel)
theorem aw_fl_X9_20 : Cond.fieldLink RX9 20 RX9 (TX9 8).2.1 (TX9 8).2.2.1 ∈ AW := aw_of (i := 1145) (by decide +kernel) (by decide +kernel)
theorem ff_X9_20 : FLF RX9 20 7 8 := ⟨_, _, _, _, cls_7, by decide, aw_fl_X9_20, by decide +kernel, rfl⟩
theorem aw_fl_X9_24 : Cond.fieldLink RX9 24 RX9 (TX9 9).2.1 (TX9 9).2.2.1 ∈ AW := aw_of (i := 1146) (by decide +kernel) (by decide +kernel)
theorem ff_X9_24 : FLF RX9 24 7 9 := ⟨_, _, _, _, cls_7, by decide, aw_fl_X9_24, by decide +kernel, rfl⟩
theorem aw_fl_X9_28 : Cond.fieldLink RX9 28 RX9 (TX9 10).2.1 (TX9 10).2.2.1 ∈ AW := aw_of (i := 1147) (by decide +kernel) (by decide +kernel)
theorem ff_X9_28 : FLF RX9 28 7 10 := ⟨_, _, _, _, cls_7, by decide, aw_fl_X9_28, by decide +kernel, rfl⟩
theorem aw_fl_X9_32 : Cond.fieldLink RX9 32 RX9 (TX9 11).2.1 (TX9 11).2.2.1 ∈ AW := aw_of (i := 1148) (by decide +kernel) (by decide +kernel)
theorem ff_X9_32 : FLF RX9 32 7 11 := ⟨_, _, _, _, cls_7, by decide, aw_fl_X9_32, by decide +kernel, rfl⟩
theorem aw_fl_X9_35 : Cond.fieldLink RX9 35 RX9 (TX9 13).2.1 (TX9 13).2.2.1 ∈ AW := aw_of (i := 1150) (by decide +kernel) (by decide +kernel)
theorem ff_X9_35 : FLF RX9 35 7 13 := ⟨_, _, _, _, cls_7, by decide, aw_fl_X9_35, by decide +kernel, rfl⟩
theorem aw_fl_X9_38 : Cond.fieldLink RX9 38 RX9 (TX9 14).2.1 (TX9 14).2.2.1 ∈ AW := aw_of (i := 1151) (by decide +kernel) (by decide +kernel)
theorem ff_X9_38 : FLF RX9 38 7 14 := ⟨_, _, _, _, cls_7, by decide, aw_fl_X9_38, by decide +kernel, rfl⟩
theorem aw_fl_X9_41 : Cond.fieldLink RX9 41 RX9 (TX9 15).2.1 (TX9 15).2.2.1 ∈ AW := aw_of (i := 1152) (by decide +kernel) (by decide +kernel)
theorem ff_X9_41 : FLF RX9 41 7 15 := ⟨_, _, _, _, cls_7, by decide, aw_fl_X9_41, by decide +kernel, rfl⟩
theorem aw_fl_X9_44 : Cond.fieldLink RX9 44 RX9 (TX9 16).2.1 (TX9 16).2.2.1 ∈ AW := aw_of (i := 1153) (by decide +kernel) (by decide +kernel)
theorem fw_X9_44 : FLW RX9 44 7 16 := ⟨_, _, _, _, cls_7, by decide, aw_fl_X9_44, by decide +kernel⟩
theorem aw_fl_X9_47 : Cond.fieldLink RX9 47 RX9 (TX9 17).2.1 (TX9 17).2.2.1 ∈ AW := aw_of (i := 1154) (by decide +kernel) (by decide +kernel)
theorem fw_X9_47 : FLW RX9 47 7 17 := ⟨_, _, _, _, cls_7, by decide, aw_fl_X9_47, by decide +kernel⟩
theorem aw_fl_X9_50 : Cond.fieldLink RX9 50 RX9 (TX9 18).2.1 (TX9 18).2.2.1 ∈ AW := aw_of (i := 1155) (by decide +kernel) (by decide +kernel)
theorem fw_X9_50 : FLW RX9 50 7 18 := ⟨_, _, _, _, cls_7, by decide, aw_fl_X9_50, by decide +kernel⟩
theorem aw_fl_X9_53 : Cond.fieldLink RX9 53 RX9 (TX9 19).2.1 (TX9 19).2.2.1 ∈ AW := aw_of (i := 1156) (by decide +kernel) (by decide +kernel)
theorem fw_X9_53 : FLW RX9 53 7 19 := ⟨_, _, _, _, cls_7, by decide, aw_fl_X9_53, by decide +kernel⟩
theorem aw_fl_X9_56 : Cond.fieldLink RX9 56 RX9 (TX9 21).2.1 (TX9 21).2.2.1 ∈ AW := aw_of (i := 1158) (by decide +kernel) (by decide +kernel)
theorem ff_X9_56 : FLF RX9 56 7 21 := ⟨_, _, _, _, cls_7, by decide, aw_fl_X9_56, by decide +kernel, rfl⟩
theorem aw_fl_X9_59 : Cond.fieldLink RX9 59 RX9 (TX9 22).2.1 (TX9 22).2.2.1 ∈ AW := aw_of (i := 1159) (by decide +kernel) (by decide +kernel)
theorem ff_X9_59 : FLF RX9 59 7 22 := ⟨_, _, _, _, cls_7, by decide, aw_fl_X9_59, by decide +kernel, rfl⟩
theorem aw_fl_X9_62 : Cond.fieldLink RX9 62 RX9 (TX9 0).2.1 (TX9 0).2.2.1 ∈ AW := aw_of (i := 1137) (by decide +kernel) (by decide +kernel)
theorem fl_X9_62 : FL RX9 62 7 0 := ⟨_, _, _, _, cls_7, by decide, aw_fl_X9_62⟩
theorem fw_X9_62 : FLW RX9 62 7 0 := ⟨_, _, _, _, cls_7, by decide, aw_fl_X9_62, by decide +kernel⟩
theorem wd_X9_has : wdM MX9_has ∈ AW := aw_of (i := 1321) (by decide +kernel) (by decide +kernel)
theorem aw_ml_X9_65 : Cond.methodLink RX9 65 yX9_has ∈ AW := aw_of (i := 1319) (by decide +kernel) (by decide +kernel)
theorem sm_X9_has : Cond.static yX9_has ∈ AW := aw_of (i := 1320) (by decide +kernel) (by decide +kernel)
theorem lk_X9_65 : LKS RX9 65 MX9_has 3 := ⟨⟨aw_ml_X9_65, wd_X9_has, ini_RX9, by decide +kernel, by decide +kernel, by decide⟩, sm_X9_has⟩
theorem fl_X9_41 : FL RX9 41 7 15 := ⟨_, _, _, _, cls_7, by decide, aw_fl_X9_41⟩
theorem wd_X9_clear : wdM MX9_clear ∈ AW := aw_of (i := 1300) (by decide +kernel) (by decide +kernel)
theorem aw_ml_X9_69 : Cond.methodLink RX9 69 yX9_clear ∈ AW := aw_of (i := 1298) (by decide +kernel) (by decide +kernel)
theorem sm_X9_clear : Cond.static yX9_clear ∈ AW := aw_of (i := 1299) (by decide +kernel) (by decide +kernel)
theorem lk_X9_69 : LKS RX9 69 MX9_clear 2 := ⟨⟨aw_ml_X9_69, wd_X9_clear, ini_RX9, by decide +kernel, by decide +kernel, by decide⟩, sm_X9_clear⟩
theorem wd_X9_joinRows : wdM MX9_joinRows ∈ AW := aw_of (i := 1315) (by decide +kernel) (by decide +kernel)
theorem aw_ml_X9_73 : Cond.methodLink RX9 73 yX9_joinRows ∈ AW := aw_of (i := 1312) (by decide +kernel) (by decide +kernel)
theorem im_X9_joinRows : Cond.instanceMethod yX9_joinRows ∈ AW := aw_of (i := 1314) (by decide +kernel) (by decide +kernel)
theorem se_X9_joinRows : Cond.selects RX9 yX9_joinRows yX9_joinRows ∈ AW := aw_of (i := 61) (by decide +kernel) (by decide +kernel)
theorem lk_X9_73 : LKV RX9 73 MX9_joinRows 2 7 := ⟨⟨aw_ml_X9_73, wd_X9_joinRows, ini_RX9, by decide +kernel, by decide +kernel, by decide⟩, im_X9_joinRows, _, _, _, _, cls_7, se_X9_joinRows⟩
theorem wd_X9_meetRows : wdM MX9_meetRows ∈ AW := aw_of (i := 1325) (by decide +kernel) (by decide +kernel)
theorem aw_ml_X9_77 : Cond.methodLink RX9 77 yX9_meetRows ∈ AW := aw_of (i := 1322) (by decide +kernel) (by decide +kernel)
theorem im_X9_meetRows : Cond.instanceMethod yX9_meetRows ∈ AW := aw_of (i := 1324) (by decide +kernel) (by decide +kernel)
theorem se_X9_meetRows : Cond.selects RX9 yX9_meetRows yX9_meetRows ∈ AW := aw_of (i := 62) (by decide +kernel) (by decide +kernel)
theorem lk_X9_77 : LKV RX9 77 MX9_meetRows 2 7 := ⟨⟨aw_ml_X9_77, wd_X9_meetRows, ini_RX9, by decide +kernel, by decide +kernel, by decide⟩, im_X9_meetRows, _, _, _, _, cls_7, se_X9_meetRows⟩
theorem wd_X9_divideRows : wdM MX9_divideRows ∈ AW := aw_of (i := 1332) (by decide +kernel) (by decide +kernel)
theorem aw_ml_X9_80 : Cond.methodLink RX9 80 yX9_divideRows ∈ AW := aw_of (i := 1329) (by decide +kernel) (by decide +kernel)
theorem im_X9_divideRows : Cond.instanceMethod yX9_divideRows ∈ AW := aw_of (i := 1331) (by decide +kernel) (by decide +kernel)
theorem se_X9_divideRows : Cond.selects RX9 yX9_divideRows yX9_divideRows ∈ AW := aw_of (i := 63) (by decide +kernel) (by decide +kernel)
theorem lk_X9_80 : LKV RX9 80 MX9_divideRows 2 7 := ⟨⟨aw_ml_X9_80, wd_X9_divideRows, ini_RX9, by decide +kernel, by decide +kernel, by decide⟩, im_X9_divideRows, _, _, _, _, cls_7, se_X9_divideRows⟩
theorem wd_X9_restRows : wdM MX9_restRows ∈ AW := aw_of (i := 1336) (by decide +kernel) (by decide +kernel)
theorem aw_ml_X9_83 : Cond.methodLink RX9 83 yX9_restRows ∈ AW := aw_of (i := 1333) (by decide +kernel) (by decide +kernel)
theorem im_X9_restRows : Cond.instanceMethod yX9_restRows ∈ AW := aw_of (i := 1335) (by decide +kernel) (by decide +kernel)
theorem se_X9_restRows : Cond.selects RX9 yX9_restRows yX9_restRows ∈ AW := aw_of (i := 64) (by decide +kernel) (by decide +kernel)
theorem lk_X9_83 : LKV RX9 83 MX9_restRows 2 7 := ⟨⟨aw_ml_X9_83, wd_X9_restRows, ini_RX9, by decide +kernel, by decide +kernel, by decide⟩, im_X9_restRows, _, _, _, _, cls_7, se_X9_restRows⟩
theorem wd_X9_hit : wdM MX9_hit ∈ AW := aw_of (i := 1341) (by decide +kernel) (by decide +kernel)
theorem aw_ml_X9_86 : Cond.methodLink RX9 86 yX9_hit ∈ AW := aw_of (i := 1338) (by decide +kernel) (by decide +kernel)
theorem im_X9_hit : Cond.instanceMethod yX9_hit ∈ AW := aw_of (i := 1340) (by decide +kernel) (by decide +kernel)
theorem se_X9_hit : Cond.selects RX9 yX9_hit yX9_hit ∈ AW := aw_of (i := 65) (by decide +kernel) (by decide +kernel)
theorem lk_X9_86 : LKV RX9 86 MX9_hit 1 7 := ⟨⟨aw_ml_X9_86, wd_X9_hit, ini_RX9, by decide +kernel, by decide +kernel, by decide⟩, im_X9_hit, _, _, _, _, cls_7, se_X9_hit⟩
theorem wd_X9_filter : wdM MX9_filter ∈ AW := aw_of (i := 1345) (by decide +kernel) (by decide +kernel)
theorem aw_ml_X9_90 : Cond.methodLink RX9 90 yX9_filter ∈ AW := aw_of (i := 1342) (by decide +kernel) (by decide +kernel)
theorem im_X9_filter : Cond.instanceMethod yX9_filter ∈ AW := aw_of (i := 1344) (by decide +kernel) (by decide +kernel)
theorem se_X9_filter : Cond.selects RX9 yX9_filter yX9_filter ∈ AW := aw_of (i := 66) (by decide +kernel) (by decide +kernel)
theorem lk_X9_90 : LKV RX9 90 MX9_filter 3 7 := ⟨⟨aw_ml_X9_90, wd_X9_filter, ini_RX9, by decide +kernel, by decide +kernel, by decide⟩, im_X9_filter, _, _, _, _, cls_7, se_X9_filter⟩
theorem fl_X9_35 : FL RX9 35 7 13 := ⟨_, _, _, _, cls_7, by decide, aw_fl_X9_35⟩
theorem wd_X9_countSubsets : wdM MX9_countSubsets ∈ AW := aw_of (i := 1318) (by decide +kernel) (by decide +kernel)
theorem aw_ml_X9_94 : Cond.methodLink RX9 94 yX9_countSubsets ∈ AW := aw_of (i := 1316) (by decide +kernel) (by decide +kernel)
theorem sm_X9_countSubsets : Cond.static yX9_countSubsets ∈ AW := aw_of (i := 1317) (by decide +kernel) (by decide +kernel)
theorem lk_X9_94 : LKS RX9 94 MX9_countSubsets 3 := ⟨⟨aw_ml_X9_94, wd_X9_countSubsets, ini_RX9, by decide +kernel, by decide +kernel, by decide⟩, sm_X9_countSubsets⟩
theorem fl_X9_38 : FL RX9 38 7 14 := ⟨_, _, _, _, cls_7, by decide, aw_fl_X9_38⟩
theorem wd_X9_put : wdM MX9_put ∈ AW := aw_of (i := 1307) (by decide +kernel) (by decide +kernel)
theorem aw_ml_X9_98 : Cond.methodLink RX9 98 yX9_put ∈ AW := aw_of (i := 1305) (by decide +kernel) (by decide +kernel)
theorem sm_X9_put : Cond.static yX9_put ∈ AW := aw_of (i := 1306) (by decide +kernel) (by decide +kernel)
theorem lk_X9_98 : LKS RX9 98 MX9_put 3 := ⟨⟨aw_ml_X9_98, wd_X9_put, ini_RX9, by decide +kernel, by decide +kernel, by decide⟩, sm_X9_put⟩
theorem wd_X9_countSupersets : wdM MX9_countSupersets ∈ AW := aw_of (i := 1328) (by decide +kernel) (by decide +kernel)
theorem aw_ml_X9_102 : Cond.methodLink RX9 102 yX9_countSupersets ∈ AW := aw_of (i := 1326) (by decide +kernel) (by decide +kernel)
theorem sm_X9_countSupersets : Cond.static yX9_countSupersets ∈ AW := aw_of (i := 1327) (by decide +kernel) (by decide +kernel)
theorem lk_X9_102 : LKS RX9 102 MX9_countSupersets 3 := ⟨⟨aw_ml_X9_102, wd_X9_countSupersets, ini_RX9, by decide +kernel, by decide +kernel, by decide⟩, sm_X9_countSupersets⟩
theorem k_X9_105 : Cond.constantLong RX9 105 (-1) ∈ AW := aw_of (i := 1337) (by decide +kernel) (by decide +kernel)
theorem wd_X9_isKept : wdM MX9_isKept ∈ AW := aw_of (i := 1349) (by decide +kernel) (by decide +kernel)
theorem aw_ml_X9_107 : Cond.methodLink RX9 107 yX9_isKept ∈ AW := aw_of (i := 1346) (by decide +kernel) (by decide +kernel)
theorem im_X9_isKept : Cond.instanceMethod yX9_isKept ∈ AW := aw_of (i := 1348) (by decide +kernel) (by decide +kernel)
theorem se_X9_isKept : Cond.selects RX9 yX9_isKept yX9_isKept ∈ AW := aw_of (i := 67) (by decide +kernel) (by decide +kernel)
theorem lk_X9_107 : LKV RX9 107 MX9_isKept 4 7 := ⟨⟨aw_ml_X9_107, wd_X9_isKept, ini_RX9, by decide +kernel, by decide +kernel, by decide⟩, im_X9_isKept, _, _, _, _, cls_7, se_X9_isKept⟩
theorem aw_fl_X9_111 : Cond.fieldLink RX9 111 RX9 (TX9 20).2.1 (TX9 20).2.2.1 ∈ AW := aw_of (i := 1157) (by decide +kernel) (by decide +kernel)
theorem fw_X9_111 : FLW RX9 111 7 20 := ⟨_, _, _, _, cls_7, by decide, aw_fl_X9_111, by decide +kernel⟩
theorem fl_X9_53 : FL RX9 53 7 19 := ⟨_, _, _, _, cls_7, by decide, aw_fl_X9_53⟩
theorem k_X9_114 : Cond.constant RX9 114 1000003 ∈ AW := aw_of (i := 1420) (by decide +kernel) (by decide +kernel)
theorem k_X9_115 : Cond.constant RX9 115 40503 ∈ AW := aw_of (i := 1421) (by decide +kernel) (by decide +kernel)
theorem fl_X9_44 : FL RX9 44 7 16 := ⟨_, _, _, _, cls_7, by decide, aw_fl_X9_44⟩
theorem fl_X9_47 : FL RX9 47 7 17 := ⟨_, _, _, _, cls_7, by decide, aw_fl_X9_47⟩
theorem fl_X9_50 : FL RX9 50 7 18 := ⟨_, _, _, _, cls_7, by decide, aw_fl_X9_50⟩
theorem fl_X9_111 : FL RX9 111 7 20 := ⟨_, _, _, _, cls_7, by decide, aw_fl_X9_111⟩
theorem wd_X9_grow : wdM MX9_grow ∈ AW := aw_of (i := 1425) (by decide +kernel) (by decide +kernel)
theorem aw_ml_X9_116 : Cond.methodLink RX9 116 yX9_grow ∈ AW := aw_of (i := 1422) (by decide +kernel) (by decide +kernel)
theorem im_X9_grow : Cond.instanceMethod yX9_grow ∈ AW := aw_of (i := 1424) (by decide +kernel) (by decide +kernel)
theorem se_X9_grow : Cond.selects RX9 yX9_grow yX9_grow ∈ AW := aw_of (i := 75) (by decide +kernel) (by decide +kernel)
theorem lk_X9_116 : LKV RX9 116 MX9_grow 0 7 := ⟨⟨aw_ml_X9_116, wd_X9_grow, ini_RX9, by decide +kernel, by decide +kernel, by decide⟩, im_X9_grow, _, _, _, _, cls_7, se_X9_grow⟩
theorem wd_X9_nodeOf : wdM MX9_nodeOf ∈ AW := aw_of (i := 1419) (by decide +kernel) (by decide +kernel)
theorem aw_ml_X9_119 : Cond.methodLink RX9 119 yX9_nodeOf ∈ AW := aw_of (i := 1416) (by decide +kernel) (by decide +kernel)
theorem im_X9_nodeOf : Cond.instanceMethod yX9_nodeOf ∈ AW := aw_of (i := 1418) (by decide +kernel) (by decide +kernel)
theorem se_X9_nodeOf : Cond.selects RX9 yX9_nodeOf yX9_nodeOf ∈ AW := aw_of (i := 74) (by decide +kernel) (by decide +kernel)
theorem lk_X9_119 : LKV RX9 119 MX9_nodeOf 3 7 := ⟨⟨aw_ml_X9_119, wd_X9_nodeOf, ini_RX9, by decide +kernel, by decide +kernel, by decide⟩, im_X9_nodeOf, _, _, _, _, cls_7, se_X9_nodeOf⟩
theorem wd_X9_longer : wdM MX9_longer ∈ AW := aw_of (i := 1428) (by decide +kernel) (by decide +kernel)
theorem aw_ml_X9_123 : Cond.methodLink RX9 123 yX9_longer ∈ AW := aw_of (i := 1426) (by decide +kernel) (by decide +kernel)
theorem sm_X9_longer : Cond.static yX9_longer ∈ AW := aw_of (i := 1427) (by decide +kernel) (by decide +kernel)
theorem lk_X9_123 : LKS RX9 123 MX9_longer 1 := ⟨⟨aw_ml_X9_123, wd_X9_longer, ini_RX9, by decide +kernel, by decide +kernel, by decide⟩, sm_X9_longer⟩
theorem wd_X9_clearNodes : wdM MX9_clearNodes ∈ AW := aw_of (i := 1411) (by decide +kernel) (by decide +kernel)
theorem aw_ml_X9_127 : Cond.methodLink RX9 127 yX9_clearNodes ∈ AW := aw_of (i := 1408) (by decide +kernel) (by decide +kernel)
theorem im_X9_clearNodes : Cond.instanceMethod yX9_clearNodes ∈ AW := aw_of (i := 1410) (by decide +kernel) (by decide +kernel)
theorem se_X9_clearNodes : Cond.selects RX9 yX9_clearNodes yX9_clearNodes ∈ AW := aw_of (i := 72) (by decide +kernel) (by decide +kernel)
theorem lk_X9_127 : LKV RX9 127 MX9_clearNodes 0 7 := ⟨⟨aw_ml_X9_127, wd_X9_clearNodes, ini_RX9, by decide +kernel, by decide +kernel, by decide⟩, im_X9_clearNodes, _, _, _, _, cls_7, se_X9_clearNodes⟩
theorem fl_X9_56 : FL RX9 56 7 21 := ⟨_, _, _, _, cls_7, by decide, aw_fl_X9_56⟩
theorem fl_X9_24 : FL RX9 24 7 9 := ⟨_, _, _, _, cls_7, by decide, aw_fl_X9_24⟩
theorem wd_X9_number : wdM MX9_number ∈ AW := aw_of (i := 1415) (by decide +kernel) (by decide +kernel)
theorem aw_ml_X9_130 : Cond.methodLink RX9 130 yX9_number ∈ AW := aw_of (i := 1412) (by decide +kernel) (by decide +kernel)
theorem im_X9_number : Cond.instanceMethod yX9_number ∈ AW := aw_of (i := 1414) (by decide +kernel) (by decide +kernel)
theorem se_X9_number : Cond.selects RX9 yX9_number yX9_number ∈ AW := aw_of (i := 73) (by decide +kernel) (by decide +kernel)
theorem lk_X9_130 : LKV RX9 130 MX9_number 1 7 := ⟨⟨aw_ml_X9_130, wd_X9_number, ini_RX9, by decide +kernel, by decide +kernel, by decide⟩, im_X9_number, _, _, _, _, cls_7, se_X9_number⟩
theorem aw_fl_X9_133 : Cond.fieldLink RX9 133 RX9 (TX9 6).2.1 (TX9 6).2.2.1 ∈ AW := aw_of (i := 1143) (by decide +kernel) (by decide +kernel)
theorem fl_X9_133 : FL RX9 133 7 6 := ⟨_, _, _, _, cls_7, by decide, aw_fl_X9_133⟩
theorem fl_X9_20 : FL RX9 20 7 8 := ⟨_, _, _, _, cls_7, by decide, aw_fl_X9_20⟩
theorem aw_fl_X9_136 : Cond.fieldLink RX9 136 RX9 (TX9 2).2.1 (TX9 2).2.2.1 ∈ AW := aw_of (i := 1139) (by decide +kernel) (by decide +kernel)
theorem fl_X9_136 : FL RX9 136 7 2 := ⟨_, _, _, _, cls_7, by decide, aw_fl_X9_136⟩
theorem wd_X9_fail : wdM MX9_fail ∈ AW := aw_of (i := 1231) (by decide +kernel) (by decide +kernel)
theorem aw_ml_X9_139 : Cond.methodLink RX9 139 yX9_fail ∈ AW := aw_of (i := 1228) (by decide +kernel) (by decide +kernel)
theorem im_X9_fail : Cond.instanceMethod yX9_fail ∈ AW := aw_of (i := 1230) (by decide +kernel) (by decide +kernel)
theorem se_X9_fail : Cond.selects RX9 yX9_fail yX9_fail ∈ AW := aw_of (i := 45) (by decide +kernel) (by decide +kernel)
theorem lk_X9_139 : LKV RX9 139 MX9_fail 1 7 := ⟨⟨aw_ml_X9_139, wd_X9_fail, ini_RX9, by decide +kernel, by decide +kernel, by decide⟩, im_X9_fail, _, _, _, _, cls_7, se_X9_fail⟩
theorem wd_X9_four : wdM MX9_four ∈ AW := aw_of (i := 1235) (by decide +kernel) (by decide +kernel)
theorem aw_ml_X9_143 : Cond.methodLink RX9 143 yX9_four ∈ AW := aw_of (i := 1232) (by decide +kernel) (by decide +kernel)
theorem im_X9_four : Cond.instanceMethod yX9_four ∈ AW := aw_of (i := 1234) (by decide +kernel) (by decide +kernel)
theorem se_X9_four : Cond.selects RX9 yX9_four yX9_four ∈ AW := aw_of (i := 46) (by decide +kernel) (by decide +kernel)
theorem lk_X9_143 : LKV RX9 143 MX9_four 1 7 := ⟨⟨aw_ml_X9_143, wd_X9_four, ini_RX9, by decide +kernel, by decide +kernel, by decide⟩, im_X9_four, _, _, _, _, cls_7, se_X9_four⟩
theorem fl_X9_9 : FL RX9 9 7 1 := ⟨_, _, _, _, cls_7, by decide, aw_fl_X9_9⟩
theorem fw_X9_136 : FLW RX9 136 7 2 := ⟨_, _, _, _, cls_7, by decide, aw_fl_X9_136, by decide +kernel⟩
theorem aw_fl_X9_146 : Cond.fieldLink RX9 146 RX9 (TX9 26).2.1 (TX9 26).2.2.1 ∈ AW := aw_of (i := 1163) (by decide +kernel) (by decide +kernel)
theorem fl_X9_146 : FL RX9 146 7 26 := ⟨_, _, _, _, cls_7, by decide, aw_fl_X9_146⟩
theorem fw_X9_146 : FLW RX9 146 7 26 := ⟨_, _, _, _, cls_7, by decide, aw_fl_X9_146, by decide +kernel⟩
theorem aw_fl_X9_149 : Cond.fieldLink RX9 149 RX9 (TX9 24).2.1 (TX9 24).2.2.1 ∈ AW := aw_of (i := 1161) (by decide +kernel) (by decide +kernel)
theorem fl_X9_149 : FL RX9 149 7 24 := ⟨_, _, _, _, cls_7, by decide, aw_fl_X9_149⟩
theorem fw_X9_149 : FLW RX9 149 7 24 := ⟨_, _, _, _, cls_7, by decide, aw_fl_X9_149, by decide +kernel⟩
theorem fl_X9_59 : FL RX9 59 7 22 := ⟨_, _, _, _, cls_7, by decide, aw_fl_X9_59⟩
theorem aw_fl_X9_152 : Cond.fieldLink RX9 152 RX9 (TX9 23).2.1 (TX9 23).2.2.1 ∈ AW := aw_of (i := 1160) (by decide +kernel) (by decide +kernel)
theorem fl_X9_152 : FL RX9 152 7 23 := ⟨_, _, _, _, cls_7, by decide, aw_fl_X9_152⟩
theorem fw_X9_152 : FLW RX9 152 7 23 := ⟨_, _, _, _, cls_7, by decide, aw_fl_X9_152, by decide +kernel⟩
theorem wd_X9_product : wdM MX9_product ∈ AW := aw_of (i := 1251) (by decide +kernel) (by decide +kernel)
theorem aw_ml_X9_155 : Cond.methodLink RX9 155 yX9_product ∈ AW := aw_of (i := 1248) (by decide +kernel) (by decide +kernel)
theorem im_X9_product : Cond.instanceMethod yX9_product ∈ AW := aw_of (i := 1250) (by decide +kernel) (by decide +kernel)
theorem se_X9_product : Cond.selects RX9 yX9_product yX9_product ∈ AW := aw_of (i := 48) (by decide +kernel) (by decide +kernel)
theorem lk_X9_155 : LKV RX9 155 MX9_product 0 7 := ⟨⟨aw_ml_X9_155, wd_X9_product, ini_RX9, by decide +kernel, by decide +kernel, by decide⟩, im_X9_product, _, _, _, _, cls_7, se_X9_product⟩
theorem wd_X9_look : wdM MX9_look ∈ AW := aw_of (i := 1259) (by decide +kernel) (by decide +kernel)
theorem aw_ml_X9_158 : Cond.methodLink RX9 158 yX9_look ∈ AW := aw_of (i := 1256) (by decide +kernel) (by decide +kernel)
theorem im_X9_look : Cond.instanceMethod yX9_look ∈ AW := aw_of (i := 1258) (by decide +kernel) (by decide +kernel)
theorem se_X9_look : Cond.selects RX9 yX9_look yX9_look ∈ AW := aw_of (i := 50) (by decide +kernel) (by decide +kernel)
theorem lk_X9_158 : LKV RX9 158 MX9_look 0 7 := ⟨⟨aw_ml_X9_158, wd_X9_look, ini_RX9, by decide +kernel, by decide +kernel, by decide⟩, im_X9_look, _, _, _, _, cls_7, se_X9_look⟩
theorem wd_X9_add : wdM MX9_add ∈ AW := aw_of (i := 1282) (by decide +kernel) (by decide +kernel)
theorem aw_ml_X9_162 : Cond.methodLink RX9 162 yX9_add ∈ AW := aw_of (i := 1279) (by decide +kernel) (by decide +kernel)
theorem im_X9_add : Cond.instanceMethod yX9_add ∈ AW := aw_of (i := 1281) (by decide +kernel) (by decide +kernel)
theorem se_X9_add : Cond.selects RX9 yX9_add yX9_add ∈ AW := aw_of (i := 55) (by decide +kernel) (by decide +kernel)
theorem lk_X9_162 : LKV RX9 162 MX9_add 1 7 := ⟨⟨aw_ml_X9_162, wd_X9_add, ini_RX9, by decide +kernel, by decide +kernel, by decide⟩, im_X9_add, _, _, _, _, cls_7, se_X9_add⟩
theorem wd_X9_factor : wdM MX9_factor ∈ AW := aw_of (i := 1255) (by decide +kernel) (by decide +kernel)
theorem aw_ml_X9_165 : Cond.methodLink RX9 165 yX9_factor ∈ AW := aw_of (i := 1252) (by decide +kernel) (by decide +kernel)
theorem im_X9_factor : Cond.instanceMethod yX9_factor ∈ AW := aw_of (i := 1254) (by decide +kernel) (by decide +kernel)
theorem se_X9_factor : Cond.selects RX9 yX9_factor yX9_factor ∈ AW := aw_of (i := 49) (by decide +kernel) (by decide +kernel)
theorem lk_X9_165 : LKV RX9 165 MX9_factor 0 7 := ⟨⟨aw_ml_X9_165, wd_X9_factor, ini_RX9, by decide +kernel, by decide +kernel, by decide⟩, im_X9_factor, _, _, _, _, cls_7, se_X9_factor⟩
theorem wd_X9_group : wdM MX9_group ∈ AW := aw_of (i := 1263) (by decide +kernel) (by decide +kernel)
theorem aw_ml_X9_168 : Cond.methodLink RX9 168 yX9_group ∈ AW := aw_of (i := 1260) (by decide +kernel) (by decide +kernel)
theorem im_X9_group : Cond.instanceMethod yX9_group ∈ AW := aw_of (i := 1262) (by decide +kernel) (by decide +kernel)
theorem se_X9_group : Cond.selects RX9 yX9_group yX9_group ∈ AW := aw_of (i := 51) (by decide +kernel) (by decide +kernel)
theorem lk_X9_168 : LKV RX9 168 MX9_group 0 7 := ⟨⟨aw_ml_X9_168, wd_X9_group, ini_RX9, by decide +kernel, by decide +kernel, by decide⟩, im_X9_group, _, _, _, _, cls_7, se_X9_group⟩
theorem wd_X9_isLetter : wdM MX9_isLetter ∈ AW := aw_of (i := 1270) (by decide +kernel) (by decide +kernel)
theorem aw_ml_X9_171 : Cond.methodLink RX9 171 yX9_isLetter ∈ AW := aw_of (i := 1268) (by decide +kernel) (by decide +kernel)
theorem sm_X9_isLetter : Cond.static yX9_isLetter ∈ AW := aw_of (i := 1269) (by decide +kernel) (by decide +kernel)
theorem lk_X9_171 : LKS RX9 171 MX9_isLetter 1 := ⟨⟨aw_ml_X9_171, wd_X9_isLetter, ini_RX9, by decide +kernel, by decide +kernel, by decide⟩, sm_X9_isLetter⟩
theorem wd_X9_word : wdM MX9_word ∈ AW := aw_of (i := 1274) (by decide +kernel) (by decide +kernel)
theorem aw_ml_X9_175 : Cond.methodLink RX9 175 yX9_word ∈ AW := aw_of (i := 1271) (by decide +kernel) (by decide +kernel)
theorem im_X9_word : Cond.instanceMethod yX9_word ∈ AW := aw_of (i := 1273) (by decide +kernel) (by decide +kernel)
theorem se_X9_word : Cond.selects RX9 yX9_word yX9_word ∈ AW := aw_of (i := 53) (by decide +kernel) (by decide +kernel)
theorem lk_X9_175 : LKV RX9 175 MX9_word 0 7 := ⟨⟨aw_ml_X9_175, wd_X9_word, ini_RX9, by decide +kernel, by decide +kernel, by decide⟩, im_X9_word, _, _, _, _, cls_7, se_X9_word⟩
theorem wd_X9_reference : wdM MX9_reference ∈ AW := aw_of (i := 1286) (by decide +kernel) (by decide +kernel)
theorem aw_ml_X9_178 : Cond.methodLink RX9 178 yX9_reference ∈ AW := aw_of (i := 1283) (by decide +kernel) (by decide +kernel)
theorem im_X9_reference : Cond.instanceMethod yX9_reference ∈ AW := aw_of (i := 1285) (by decide +kernel) (by decide +kernel)
theorem se_X9_reference : Cond.selects RX9 yX9_reference yX9_reference ∈ AW := aw_of (i := 56) (by decide +kernel) (by decide +kernel)
theorem lk_X9_178 : LKV RX9 178 MX9_reference 0 7 := ⟨⟨aw_ml_X9_178, wd_X9_reference, ini_RX9, by decide +kernel, by decide +kernel, by decide⟩, im_X9_reference, _, _, _, _, cls_7, se_X9_reference⟩
theorem wd_X9_isDigit : wdM MX9_isDigit ∈ AW := aw_of (i := 1293) (by decide +kernel) (by decide +kernel)
theorem aw_ml_X9_181 : Cond.methodLink RX9 181 yX9_isDigit ∈ AW := aw_of (i := 1291) (by decide +kernel) (by decide +kernel)
theorem sm_X9_isDigit : Cond.static yX9_isDigit ∈ AW := aw_of (i := 1292) (by decide +kernel) (by decide +kernel)
theorem lk_X9_181 : LKS RX9 181 MX9_isDigit 1 := ⟨⟨aw_ml_X9_181, wd_X9_isDigit, ini_RX9, by decide +kernel, by decide +kernel, by decide⟩, sm_X9_isDigit⟩
theorem wd_X9_digits : wdM MX9_digits ∈ AW := aw_of (i := 1290) (by decide +kernel) (by decide +kernel)
theorem aw_ml_X9_184 : Cond.methodLink RX9 184 yX9_digits ∈ AW := aw_of (i := 1287) (by decide +kernel) (by decide +kernel)
theorem im_X9_digits : Cond.instanceMethod yX9_digits ∈ AW := aw_of (i := 1289) (by decide +kernel) (by decide +kernel)
theorem se_X9_digits : Cond.selects RX9 yX9_digits yX9_digits ∈ AW := aw_of (i := 57) (by decide +kernel) (by decide +kernel)
theorem lk_X9_184 : LKV RX9 184 MX9_digits 0 7 := ⟨⟨aw_ml_X9_184, wd_X9_digits, ini_RX9, by decide +kernel, by decide +kernel, by decide⟩, im_X9_digits, _, _, _, _, cls_7, se_X9_digits⟩
theorem wd_X9_wrong : wdM MX9_wrong ∈ AW := aw_of (i := 1267) (by decide +kernel) (by decide +kernel)
theorem aw_ml_X9_187 : Cond.methodLink RX9 187 yX9_wrong ∈ AW := aw_of (i := 1264) (by decide +kernel) (by decide +kernel)
theorem im_X9_wrong : Cond.instanceMethod yX9_wrong ∈ AW := aw_of (i := 1266) (by decide +kernel) (by decide +kernel)
theorem se_X9_wrong : Cond.selects RX9 yX9_wrong yX9_wrong ∈ AW := aw_of (i := 52) (by decide +kernel) (by decide +kernel)
theorem lk_X9_187 : LKV RX9 187 MX9_wrong 1 7 := ⟨⟨aw_ml_X9_187, wd_X9_wrong, ini_RX9, by decide +kernel, by decide +kernel, by decide⟩, im_X9_wrong, _, _, _, _, cls_7, se_X9_wrong⟩
theorem aw_fl_X9_190 : Cond.fieldLink RX9 190 RX9 (TX9 25).2.1 (TX9 25).2.2.1 ∈ AW := aw_of (i := 1162) (by decide +kernel) (by decide +kernel)
theorem fl_X9_190 : FL RX9 190 7 25 := ⟨_, _, _, _, cls_7, by decide, aw_fl_X9_190⟩
theorem fw_X9_190 : FLW RX9 190 7 25 := ⟨_, _, _, _, cls_7, by decide, aw_fl_X9_190, by decide +kernel⟩
theorem wd_X9_sum : wdM MX9_sum ∈ AW := aw_of (i := 1247) (by decide +kernel) (by decide +kernel)
theorem aw_ml_X9_193 : Cond.methodLink RX9 193 yX9_sum ∈ AW := aw_of (i := 1244) (by decide +kernel) (by decide +kernel)
theorem im_X9_sum : Cond.instanceMethod yX9_sum ∈ AW := aw_of (i := 1246) (by decide +kernel) (by decide +kernel)
theorem se_X9_sum : Cond.selects RX9 yX9_sum yX9_sum ∈ AW := aw_of (i := 47) (by decide +kernel) (by decide +kernel)
theorem lk_X9_193 : LKV RX9 193 MX9_sum 0 7 := ⟨⟨aw_ml_X9_193, wd_X9_sum, ini_RX9, by decide +kernel, by decide +kernel, by decide⟩, im_X9_sum, _, _, _, _, cls_7, se_X9_sum⟩
theorem wd_X9_isWord : wdM MX9_isWord ∈ AW := aw_of (i := 1278) (by decide +kernel) (by decide +kernel)
theorem aw_ml_X9_196 : Cond.methodLink RX9 196 yX9_isWord ∈ AW := aw_of (i := 1275) (by decide +kernel) (by decide +kernel)
theorem im_X9_isWord : Cond.instanceMethod yX9_isWord ∈ AW := aw_of (i := 1277) (by decide +kernel) (by decide +kernel)
theorem se_X9_isWord : Cond.selects RX9 yX9_isWord yX9_isWord ∈ AW := aw_of (i := 54) (by decide +kernel) (by decide +kernel)
theorem lk_X9_196 : LKV RX9 196 MX9_isWord 4 7 := ⟨⟨aw_ml_X9_196, wd_X9_isWord, ini_RX9, by decide +kernel, by decide +kernel, by decide⟩, im_X9_isWord, _, _, _, _, cls_7, se_X9_isWord⟩
theorem wd_X9_run : wdM MX9_run ∈ AW := aw_of (i := 1297) (by decide +kernel) (by decide +kernel)
theorem aw_ml_X9_200 : Cond.methodLink RX9 200 yX9_run ∈ AW := aw_of (i := 1294) (by decide +kernel) (by decide +kernel)
theorem im_X9_run : Cond.instanceMethod yX9_run ∈ AW := aw_of (i := 1296) (by decide +kernel) (by decide +kernel)
theorem se_X9_run : Cond.selects RX9 yX9_run yX9_run ∈ AW := aw_of (i := 58) (by decide +kernel) (by decide +kernel)
theorem lk_X9_200 : LKV RX9 200 MX9_run 0 7 := ⟨⟨aw_ml_X9_200, wd_X9_run, ini_RX9, by decide +kernel, by decide +kernel, by decide⟩, im_X9_run, _, _, _, _, cls_7, se_X9_run⟩
theorem wd_X9_made : wdM MX9_made ∈ AW := aw_of (i := 1356) (by decide +kernel) (by decide +kernel)
theorem aw_ml_X9_204 : Cond.methodLink RX9 204 yX9_made ∈ AW := aw_of (i := 1353) (by decide +kernel) (by decide +kernel)
theorem im_X9_made : Cond.instanceMethod yX9_made ∈ AW := aw_of (i := 1355) (by decide +kernel) (by decide +kernel)
theorem se_X9_made : Cond.selects RX9 yX9_made yX9_made ∈ AW := aw_of (i := 68) (by decide +kernel) (by decide +kernel)
theorem lk_X9_204 : LKV RX9 204 MX9_made 0 7 := ⟨⟨aw_ml_X9_204, wd_X9_made, ini_RX9, by decide +kernel, by decide +kernel, by decide⟩, im_X9_made, _, _, _, _, cls_7, se_X9_made⟩
theorem wd_X9_load : wdM MX9_load ∈ AW := aw_of (i := 1304) (by decide +kernel) (by decide +kernel)
theorem aw_ml_X9_207 : Cond.methodLink RX9 207 yX9_load ∈ AW := aw_of (i := 1301) (by decide +kernel) (by decide +kernel)
theorem im_X9_load : Cond.instanceMethod yX9_load ∈ AW := aw_of (i := 1303) (by decide +kernel) (by decide +kernel)
theorem se_X9_load : Cond.selects RX9 yX9_load yX9_load ∈ AW := aw_of (i := 59) (by decide +kernel) (by decide +kernel)
theorem lk_X9_207 : LKV RX9 207 MX9_load 2 7 := ⟨⟨aw_ml_X9_207, wd_X9_load, ini_RX9, by decide +kernel, by decide +kernel, by decide⟩, im_X9_load, _, _, _, _, cls_7, se_X9_load⟩
theorem wd_X9_operate : wdM MX9_operate ∈ AW := aw_of (i := 1311) (by decide +kernel) (by decide +kernel)
theorem aw_ml_X9_210 : Cond.methodLink RX9 210 yX9_operate ∈ AW := aw_of (i := 1308) (by decide +kernel) (by decide +kernel)
theorem im_X9_operate : Cond.instanceMethod yX9_operate ∈ AW := aw_of (i := 1310) (by decide +kernel) (by decide +kernel)
theorem se_X9_operate : Cond.selects RX9 yX9_operate yX9_operate ∈ AW := aw_of (i := 60) (by decide +kernel) (by decide +kernel)
theorem lk_X9_210 : LKV RX9 210 MX9_operate 3 7 := ⟨⟨aw_ml_X9_210, wd_X9_operate, ini_RX9, by decide +kernel, by decide +kernel, by decide⟩, im_X9_operate, _, _, _, _, cls_7, se_X9_operate⟩
theorem wd_X9_many : wdM MX9_many ∈ AW := aw_of (i := 1352) (by decide +kernel) (by decide +kernel)
theorem aw_ml_X9_213 : Cond.methodLink RX9 213 yX9_many ∈ AW := aw_of (i := 1350) (by decide +kernel) (by decide +kernel)
theorem sm_X9_many : Cond.static yX9_many ∈ AW := aw_of (i := 1351) (by decide +kernel) (by decide +kernel)
theorem lk_X9_213 : LKS RX9 213 MX9_many 2 := ⟨⟨aw_ml_X9_213, wd_X9_many, ini_RX9, by decide +kernel, by decide +kernel, by decide⟩, sm_X9_many⟩
theorem fw_X9_133 : FLW RX9 133 7 6 := ⟨_, _, _, _, cls_7, by decide, aw_fl_X9_133, by decide +kernel⟩
theorem aw_fl_X9_217 : Cond.fieldLink RX9 217 RX9 (TX9 7).2.1 (TX9 7).2.2.1 ∈ AW := aw_of (i := 1144) (by decide +kernel) (by decide +kernel)
theorem fl_X9_217 : FL RX9 217 7 7 := ⟨_, _, _, _, cls_7, by decide, aw_fl_X9_217⟩
theorem fw_X9_217 : FLW RX9 217 7 7 := ⟨_, _, _, _, cls_7, by decide, aw_fl_X9_217, by decide +kernel⟩
theorem fl_X9_16 : FL RX9 16 7 5 := ⟨_, _, _, _, cls_7, by decide, aw_fl_X9_16⟩
theorem wd_X9_look_ : wdM MX9_look_ ∈ AW := aw_of (i := 1368) (by decide +kernel) (by decide +kernel)
theorem aw_ml_X9_220 : Cond.methodLink RX9 220 yX9_look_ ∈ AW := aw_of (i := 1365) (by decide +kernel) (by decide +kernel)
theorem im_X9_look_ : Cond.instanceMethod yX9_look_ ∈ AW := aw_of (i := 1367) (by decide +kernel) (by decide +kernel)
theorem se_X9_look_ : Cond.selects RX9 yX9_look_ yX9_look_ ∈ AW := aw_of (i := 69) (by decide +kernel) (by decide +kernel)
theorem lk_X9_220 : LKV RX9 220 MX9_look_ 1 7 := ⟨⟨aw_ml_X9_220, wd_X9_look_, ini_RX9, by decide +kernel, by decide +kernel, by decide⟩, im_X9_look_, _, _, _, _, cls_7, se_X9_look_⟩
theorem aw_ml_X9_222 : Cond.methodLink RX9 222 Lib.Math.max.name ∈ AW := aw_of (i := 1372) (by decide +kernel) (by decide +kernel)
theorem mm_X9_222 : MXL RX9 222 := ⟨aw_ml_X9_222, aw_smax, aw_im, aw_cmax⟩
theorem wd_X9_elementsIn : wdM MX9_elementsIn ∈ AW := aw_of (i := 1371) (by decide +kernel) (by decide +kernel)
theorem aw_ml_X9_228 : Cond.methodLink RX9 228 yX9_elementsIn ∈ AW := aw_of (i := 1369) (by decide +kernel) (by decide +kernel)
theorem sm_X9_elementsIn : Cond.static yX9_elementsIn ∈ AW := aw_of (i := 1370) (by decide +kernel) (by decide +kernel)
theorem lk_X9_228 : LKS RX9 228 MX9_elementsIn 1 := ⟨⟨aw_ml_X9_228, wd_X9_elementsIn, ini_RX9, by decide +kernel, by decide +kernel, by decide⟩, sm_X9_elementsIn⟩
theorem aw_fl_X9_231 : Cond.fieldLink RX9 231 RX9 (TX9 4).2.1 (TX9 4).2.2.1 ∈ AW := aw_of (i := 1141) (by decide +kernel) (by decide +kernel)
theorem fw_X9_231 : FLW RX9 231 7 4 := ⟨_, _, _, _, cls_7, by decide, aw_fl_X9_231, by decide +kernel⟩
theorem fl_X9_231 : FL RX9 231 7 4 := ⟨_, _, _, _, cls_7, by decide, aw_fl_X9_231⟩
theorem wd_X9_letter : wdM MX9_letter ∈ AW := aw_of (i := 1376) (by decide +kernel) (by decide +kernel)
theorem aw_ml_X9_234 : Cond.methodLink RX9 234 yX9_letter ∈ AW := aw_of (i := 1373) (by decide +kernel) (by decide +kernel)
theorem im_X9_letter : Cond.instanceMethod yX9_letter ∈ AW := aw_of (i := 1375) (by decide +kernel) (by decide +kernel)
theorem se_X9_letter : Cond.selects RX9 yX9_letter yX9_letter ∈ AW := aw_of (i := 70) (by decide +kernel) (by decide +kernel)
theorem lk_X9_234 : LKV RX9 234 MX9_letter 1 7 := ⟨⟨aw_ml_X9_234, wd_X9_letter, ini_RX9, by decide +kernel, by decide +kernel, by decide⟩, im_X9_letter, _, _, _, _, cls_7, se_X9_letter⟩
theorem fl_X9_13 : FL RX9 13 7 3 := ⟨_, _, _, _, cls_7, by decide, aw_fl_X9_13⟩
theorem wd_X9_isMask : wdM MX9_isMask ∈ AW := aw_of (i := 1387) (by decide +kernel) (by decide +kernel)
theorem aw_ml_X9_237 : Cond.methodLink RX9 237 yX9_isMask ∈ AW := aw_of (i := 1385) (by decide +kernel) (by decide +kernel)
theorem sm_X9_isMask : Cond.static yX9_isMask ∈ AW := aw_of (i := 1386) (by decide +kernel) (by decide +kernel)
theorem lk_X9_237 : LKS RX9 237 MX9_isMask 1 := ⟨⟨aw_ml_X9_237, wd_X9_isMask, ini_RX9, by decide +kernel, by decide +kernel, by decide⟩, sm_X9_isMask⟩
theorem wd_X9_countAllNodes : wdM MX9_countAllNodes ∈ AW := aw_of (i := 1407) (by decide +kernel) (by decide +kernel)
theorem aw_ml_X9_240 : Cond.methodLink RX9 240 yX9_countAllNodes ∈ AW := aw_of (i := 1404) (by decide +kernel) (by decide +kernel)
theorem im_X9_countAllNodes : Cond.instanceMethod yX9_countAllNodes ∈ AW := aw_of (i := 1406) (by decide +kernel) (by decide +kernel)
theorem se_X9_countAllNodes : Cond.selects RX9 yX9_countAllNodes yX9_countAllNodes ∈ AW := aw_of (i := 71) (by decide +kernel) (by decide +kernel)
theorem lk_X9_240 : LKV RX9 240 MX9_countAllNodes 0 7 := ⟨⟨aw_ml_X9_240, wd_X9_countAllNodes, ini_RX9, by decide +kernel, by decide +kernel, by decide⟩, im_X9_countAllNodes, _, _, _, _, cls_7, se_X9_countAllNodes⟩
theorem wd_X9_countNodes : wdM MX9_countNodes ∈ AW := aw_of (i := 1436) (by decide +kernel) (by decide +kernel)
theorem aw_ml_X9_243 : Cond.methodLink RX9 243 yX9_countNodes ∈ AW := aw_of (i := 1433) (by decide +kernel) (by decide +kernel)
theorem im_X9_countNodes : Cond.instanceMethod yX9_countNodes ∈ AW := aw_of (i := 1435) (by decide +kernel) (by decide +kernel)
theorem se_X9_countNodes : Cond.selects RX9 yX9_countNodes yX9_countNodes ∈ AW := aw_of (i := 76) (by decide +kernel) (by decide +kernel)
theorem lk_X9_243 : LKV RX9 243 MX9_countNodes 1 7 := ⟨⟨aw_ml_X9_243, wd_X9_countNodes, ini_RX9, by decide +kernel, by decide +kernel, by decide⟩, im_X9_countNodes, _, _, _, _, cls_7, se_X9_countNodes⟩
theorem wd_X9_look__ : wdM MX9_look__ ∈ AW := aw_of (i := 1448) (by decide +kernel) (by decide +kernel)
theorem aw_ml_X9_246 : Cond.methodLink RX9 246 yX9_look__ ∈ AW := aw_of (i := 1445) (by decide +kernel) (by decide +kernel)
theorem im_X9_look__ : Cond.instanceMethod yX9_look__ ∈ AW := aw_of (i := 1447) (by decide +kernel) (by decide +kernel)
theorem se_X9_look__ : Cond.selects RX9 yX9_look__ yX9_look__ ∈ AW := aw_of (i := 78) (by decide +kernel) (by decide +kernel)
theorem lk_X9_246 : LKV RX9 246 MX9_look__ 2 7 := ⟨⟨aw_ml_X9_246, wd_X9_look__, ini_RX9, by decide +kernel, by decide +kernel, by decide⟩, im_X9_look__, _, _, _, _, cls_7, se_X9_look__⟩
theorem wd_X9_two : wdM MX9_two ∈ AW := aw_of (i := 1444) (by decide +kernel) (by decide +kernel)
theorem aw_ml_X9_248 : Cond.methodLink RX9 248 yX9_two ∈ AW := aw_of (i := 1441) (by decide +kernel) (by decide +kernel)
theorem im_X9_two : Cond.instanceMethod yX9_two ∈ AW := aw_of (i := 1443) (by decide +kernel) (by decide +kernel)
theorem se_X9_two : Cond.selects RX9 yX9_two yX9_two ∈ AW := aw_of (i := 77) (by decide +kernel) (by decide +kernel)
theorem lk_X9_248 : LKV RX9 248 MX9_two 3 7 := ⟨⟨aw_ml_X9_248, wd_X9_two, ini_RX9, by decide +kernel, by decide +kernel, by decide⟩, im_X9_two, _, _, _, _, cls_7, se_X9_two⟩
theorem wd_X9_one : wdM MX9_one ∈ AW := aw_of (i := 1488) (by decide +kernel) (by decide +kernel)
theorem aw_ml_X9_251 : Cond.methodLink RX9 251 yX9_one ∈ AW := aw_of (i := 1485) (by decide +kernel) (by decide +kernel)
theorem im_X9_one : Cond.instanceMethod yX9_one ∈ AW := aw_of (i := 1487) (by decide +kernel) (by decide +kernel)
theorem se_X9_one : Cond.selects RX9 yX9_one yX9_one ∈ AW := aw_of (i := 79) (by decide +kernel) (by decide +kernel)
theorem lk_X9_251 : LKV RX9 251 MX9_one 2 7 := ⟨⟨aw_ml_X9_251, wd_X9_one, ini_RX9, by decide +kernel, by decide +kernel, by decide⟩, im_X9_one, _, _, _, _, cls_7, se_X9_one⟩
theorem wd_X9_isElement : wdM MX9_isElement ∈ AW := aw_of (i := 1507) (by decide +kernel) (by decide +kernel)
theorem aw_ml_X9_254 : Cond.methodLink RX9 254 yX9_isElement ∈ AW := aw_of (i := 1505) (by decide +kernel) (by decide +kernel)
theorem sm_X9_isElement : Cond.static yX9_isElement ∈ AW := aw_of (i := 1506) (by decide +kernel) (by decide +kernel)
theorem lk_X9_254 : LKS RX9 254 MX9_isElement 1 := ⟨⟨aw_ml_X9_254, wd_X9_isElement, ini_RX9, by decide +kernel, by decide +kernel, by decide⟩, sm_X9_isElement⟩
theorem fl_X9_28 : FL RX9 28 7 10 := ⟨_, _, _, _, cls_7, by decide, aw_fl_X9_28⟩
theorem wd_X9_costOf : wdM MX9_costOf ∈ AW := aw_of (i := 1515) (by decide +kernel) (by decide +kernel)
theorem aw_ml_X9_257 : Cond.methodLink RX9 257 yX9_costOf ∈ AW := aw_of (i := 1512) (by decide +kernel) (by decide +kernel)
theorem im_X9_costOf : Cond.instanceMethod yX9_costOf ∈ AW := aw_of (i := 1514) (by decide +kernel) (by decide +kernel)
theorem se_X9_costOf : Cond.selects RX9 yX9_costOf yX9_costOf ∈ AW := aw_of (i := 80) (by decide +kernel) (by decide +kernel)
theorem lk_X9_257 : LKV RX9 257 MX9_costOf 1 7 := ⟨⟨aw_ml_X9_257, wd_X9_costOf, ini_RX9, by decide +kernel, by decide +kernel, by decide⟩, im_X9_costOf, _, _, _, _, cls_7, se_X9_costOf⟩
theorem aw_ml_X9_260 : Cond.methodLink RX9 260 Lib.Math.min.name ∈ AW := aw_of (i := 1556) (by decide +kernel) (by decide +kernel)
theorem mm_X9_260 : MNL RX9 260 := ⟨aw_ml_X9_260, aw_smin, aw_im, aw_cmin⟩
theorem aw_fl_X9_263 : Cond.fieldLink RX9 263 RX9 (TX9 12).2.1 (TX9 12).2.2.1 ∈ AW := aw_of (i := 1149) (by decide +kernel) (by decide +kernel)
theorem fw_X9_263 : FLW RX9 263 7 12 := ⟨_, _, _, _, cls_7, by decide, aw_fl_X9_263, by decide +kernel⟩
theorem fl_X9_263 : FL RX9 263 7 12 := ⟨_, _, _, _, cls_7, by decide, aw_fl_X9_263⟩
theorem fl_X9_32 : FL RX9 32 7 11 := ⟨_, _, _, _, cls_7, by decide, aw_fl_X9_32⟩
theorem k_X9_266 : Cond.constantLong RX9 266 899 ∈ AW := aw_of (i := 1573) (by decide +kernel) (by decide +kernel)
theorem k_X9_268 : Cond.constantLong RX9 268 31 ∈ AW := aw_of (i := 1574) (by decide +kernel) (by decide +kernel)
theorem k_J6_264 : Cond.constant RJ6 264 65536 ∈ AW := aw_of (i := 643) (by decide +kernel) (by decide +kernel)
theorem k_J6_265 : Cond.constant RJ6 265 1431655765 ∈ AW := aw_of (i := 830) (by decide +kernel) (by decide +kernel)
theorem k_J6_266 : Cond.constant RJ6 266 858993459 ∈ AW := aw_of (i := 831) (by decide +kernel) (by decide +kernel)
theorem k_J6_267 : Cond.constant RJ6 267 252645135 ∈ AW := aw_of (i := 832) (by decide +kernel) (by decide +kernel)
theorem wd_J6_numberOfLeadingZeros_0f7a4 : wdM MJ6_numberOfLeadingZeros_0f7a4 ∈ AW := aw_of (i := 657) (by decide +kernel) (by decide +kernel)
theorem aw_ml_J13_308 : Cond.methodLink RJ13 308 yJ6_numberOfLeadingZeros_0f7a4 ∈ AW := aw_of (i := 655) (by decide +kernel) (by decide +kernel)
theorem sm_J6_numberOfLeadingZeros_0f7a4 : Cond.static yJ6_numberOfLeadingZeros_0f7a4 ∈ AW := aw_of (i := 656) (by decide +kernel) (by decide +kernel)
theorem lk_J13_308 : LKS RJ13 308 MJ6_numberOfLeadingZeros_0f7a4 1 := ⟨⟨aw_ml_J13_308, wd_J6_numberOfLeadingZeros_0f7a4, ini_RJ6, by decide +kernel, by decide +kernel, by decide⟩, sm_J6_numberOfLeadingZeros_0f7a4⟩
theorem wd_J6_numberOfTrailingZeros_0f7a4 : wdM MJ6_numberOfTrailingZeros_0f7a4 ∈ AW := aw_of (i := 642) (by decide +kernel) (by decide +kernel)
theorem aw_ml_J13_311 : Cond.methodLink RJ13 311 yJ6_numberOfTrailingZeros_0f7a4 ∈ AW := aw_of (i := 640) (by decide +kernel) (by decide +kernel)
theorem sm_J6_numberOfTrailingZeros_0f7a4 : Cond.static yJ6_numberOfTrailingZeros_0f7a4 ∈ AW := aw_of (i := 641) (by decide +kernel) (by decide +kernel)
theorem lk_J13_311 : LKS RJ13 311 MJ6_numberOfTrailingZeros_0f7a4 1 := ⟨⟨aw_ml_J13_311, wd_J6_numberOfTrailingZeros_0f7a4, ini_RJ6, by decide +kernel, by decide +kernel, by decide⟩, sm_J6_numberOfTrailingZeros_0f7a4⟩
theorem k_J13_314 : Cond.constantLong RJ13 314 6148914691236517205 ∈ AW := aw_of (i := 617) (by decide +kernel) (by decide +kernel)
theorem k_J13_316 : Cond.constantLong RJ13 316 3689348814741910323 ∈ AW := aw_of (i := 618) (by decide +kernel) (by decide +kernel)
theorem k_J13_318 : Cond.constantLong RJ13 318 1085102592571150095 ∈ AW := aw_of (i := 619) (by decide +kernel) (by decide +kernel)
theorem aw_ml_J7_304 : Cond.methodLink RJ7 304 Lib.Math.min.name ∈ AW := aw_of (i := 699) (by decide +kernel) (by decide +kernel)
theorem mm_J7_304 : MNL RJ7 304 := ⟨aw_ml_J7_304, aw_smin, aw_im, aw_cmin⟩
theorem aw_ml_J7_150 : Cond.methodLink RJ7 150 arraycopyName ∈ AW := aw_of (i := 700) (by decide +kernel) (by decide +kernel)
theorem ac_J7_150 : ACL RJ7 150 := ⟨aw_ml_J7_150, aw_na, aw_sa, aw_ia⟩
theorem wd_X8_feed : wdM MX8_feed ∈ AW := aw_of (i := 322) (by decide +kernel) (by decide +kernel)
theorem aw_ml_L_7 : Cond.methodLink RL 7 yX8_feed ∈ AW := aw_of (i := 319) (by decide +kernel) (by decide +kernel)
theorem im_X8_feed : Cond.instanceMethod yX8_feed ∈ AW := aw_of (i := 320) (by decide +kernel) (by decide +kernel)
theorem se_X8_feed : Cond.selects RX8 yX8_feed yX8_feed ∈ AW := aw_of (i := 321) (by decide +kernel) (by decide +kernel)
theorem lk_L_7 : LKV RL 7 MX8_feed 5 6 := ⟨⟨aw_ml_L_7, wd_X8_feed, ini_RX8, by decide +kernel, by decide +kernel, by decide⟩, im_X8_feed, _, _, _, _, cls_6, se_X8_feed⟩
theorem wd_X8_trim : wdM MX8_trim ∈ AW := aw_of (i := 401) (by decide +kernel) (by decide +kernel)
theorem aw_ml_L_15 : Cond.methodLink RL 15 yX8_trim ∈ AW := aw_of (i := 398) (by decide +kernel) (by decide +kernel)
theorem im_X8_trim : Cond.instanceMethod yX8_trim ∈ AW := aw_of (i := 399) (by decide +kernel) (by decide +kernel)
theorem se_X8_trim : Cond.selects RX8 yX8_trim yX8_trim ∈ AW := aw_of (i := 400) (by decide +kernel) (by decide +kernel)
theorem lk_L_15 : LKV RL 15 MX8_trim 1 6 := ⟨⟨aw_ml_L_15, wd_X8_trim, ini_RX8, by decide +kernel, by decide +kernel, by decide⟩, im_X8_trim, _, _, _, _, cls_6, se_X8_trim⟩
theorem wd_X8_evaluate : wdM MX8_evaluate ∈ AW := aw_of (i := 450) (by decide +kernel) (by decide +kernel)
theorem aw_ml_L_21 : Cond.methodLink RL 21 yX8_evaluate ∈ AW := aw_of (i := 447) (by decide +kernel) (by decide +kernel)
theorem im_X8_evaluate : Cond.instanceMethod yX8_evaluate ∈ AW := aw_of (i := 448) (by decide +kernel) (by decide +kernel)
theorem se_X8_evaluate : Cond.selects RX8 yX8_evaluate yX8_evaluate ∈ AW := aw_of (i := 449) (by decide +kernel) (by decide +kernel)
theorem lk_L_21 : LKV RL 21 MX8_evaluate 0 6 := ⟨⟨aw_ml_L_21, wd_X8_evaluate, ini_RX8, by decide +kernel, by decide +kernel, by decide⟩, im_X8_evaluate, _, _, _, _, cls_6, se_X8_evaluate⟩
theorem wd_X8_write : wdM MX8_write ∈ AW := aw_of (i := 783) (by decide +kernel) (by decide +kernel)
theorem aw_ml_L_27 : Cond.methodLink RL 27 yX8_write ∈ AW := aw_of (i := 780) (by decide +kernel) (by decide +kernel)
theorem im_X8_write : Cond.instanceMethod yX8_write ∈ AW := aw_of (i := 781) (by decide +kernel) (by decide +kernel)
theorem se_X8_write : Cond.selects RX8 yX8_write yX8_write ∈ AW := aw_of (i := 782) (by decide +kernel) (by decide +kernel)
theorem lk_L_27 : LKV RL 27 MX8_write 1 6 := ⟨⟨aw_ml_L_27, wd_X8_write, ini_RX8, by decide +kernel, by decide +kernel, by decide⟩, im_X8_write, _, _, _, _, cls_6, se_X8_write⟩
theorem wd_X8_outputByte : wdM MX8_outputByte ∈ AW := aw_of (i := 848) (by decide +kernel) (by decide +kernel)
theorem aw_ml_L_34 : Cond.methodLink RL 34 yX8_outputByte ∈ AW := aw_of (i := 845) (by decide +kernel) (by decide +kernel)
theorem im_X8_outputByte : Cond.instanceMethod yX8_outputByte ∈ AW := aw_of (i := 846) (by decide +kernel) (by decide +kernel)
theorem se_X8_outputByte : Cond.selects RX8 yX8_outputByte yX8_outputByte ∈ AW := aw_of (i := 847) (by decide +kernel) (by decide +kernel)
theorem lk_L_34 : LKV RL 34 MX8_outputByte 1 6 := ⟨⟨aw_ml_L_34, wd_X8_outputByte, ini_RX8, by decide +kernel, by decide +kernel, by decide⟩, im_X8_outputByte, _, _, _, _, cls_6, se_X8_outputByte⟩
theorem wd_X8_single : wdM MX8_single ∈ AW := aw_of (i := 855) (by decide +kernel) (by decide +kernel)
theorem aw_ml_L_37 : Cond.methodLink RL 37 yX8_single ∈ AW := aw_of (i := 852) (by decide +kernel) (by decide +kernel)
theorem im_X8_single : Cond.instanceMethod yX8_single ∈ AW := aw_of (i := 853) (by decide +kernel) (by decide +kernel)
theorem se_X8_single : Cond.selects RX8 yX8_single yX8_single ∈ AW := aw_of (i := 854) (by decide +kernel) (by decide +kernel)
theorem lk_L_37 : LKV RL 37 MX8_single 1 6 := ⟨⟨aw_ml_L_37, wd_X8_single, ini_RX8, by decide +kernel, by decide +kernel, by decide⟩, im_X8_single, _, _, _, _, cls_6, se_X8_single⟩
theorem wd_X8_subsetsOf : wdM MX8_subsetsOf ∈ AW := aw_of (i := 867) (by decide +kernel) (by decide +kernel)
theorem aw_ml_L_40 : Cond.methodLink RL 40 yX8_subsetsOf ∈ AW := aw_of (i := 864) (by decide +kernel) (by decide +kernel)
theorem im_X8_subsetsOf : Cond.instanceMethod yX8_subsetsOf ∈ AW := aw_of (i := 865) (by decide +kernel) (by decide +kernel)
theorem se_X8_subsetsOf : Cond.selects RX8 yX8_subsetsOf yX8_subsetsOf ∈ AW := aw_of (i := 866) (by decide +kernel) (by decide +kernel)
theorem lk_L_40 : LKV RL 40 MX8_subsetsOf 2 6 := ⟨⟨aw_ml_L_40, wd_X8_subsetsOf, ini_RX8, by decide +kernel, by decide +kernel, by decide⟩, im_X8_subsetsOf, _, _, _, _, cls_6, se_X8_subsetsOf⟩
theorem wd_X8_release : wdM MX8_release ∈ AW := aw_of (i := 874) (by decide +kernel) (by decide +kernel)
theorem aw_ml_L_44 : Cond.methodLink RL 44 yX8_release ∈ AW := aw_of (i := 871) (by decide +kernel) (by decide +kernel)
theorem im_X8_release : Cond.instanceMethod yX8_release ∈ AW := aw_of (i := 872) (by decide +kernel) (by decide +kernel)
theorem se_X8_release : Cond.selects RX8 yX8_release yX8_release ∈ AW := aw_of (i := 873) (by decide +kernel) (by decide +kernel)
theorem lk_L_44 : LKV RL 44 MX8_release 1 6 := ⟨⟨aw_ml_L_44, wd_X8_release, ini_RX8, by decide +kernel, by decide +kernel, by decide⟩, im_X8_release, _, _, _, _, cls_6, se_X8_release⟩
theorem wd_X8_nodesOf : wdM MX8_nodesOf ∈ AW := aw_of (i := 881) (by decide +kernel) (by decide +kernel)
theorem aw_ml_L_47 : Cond.methodLink RL 47 yX8_nodesOf ∈ AW := aw_of (i := 878) (by decide +kernel) (by decide +kernel)
theorem im_X8_nodesOf : Cond.instanceMethod yX8_nodesOf ∈ AW := aw_of (i := 879) (by decide +kernel) (by decide +kernel)
theorem se_X8_nodesOf : Cond.selects RX8 yX8_nodesOf yX8_nodesOf ∈ AW := aw_of (i := 880) (by decide +kernel) (by decide +kernel)
theorem lk_L_47 : LKV RL 47 MX8_nodesOf 1 6 := ⟨⟨aw_ml_L_47, wd_X8_nodesOf, ini_RX8, by decide +kernel, by decide +kernel, by decide⟩, im_X8_nodesOf, _, _, _, _, cls_6, se_X8_nodesOf⟩
theorem wd_X8_union : wdM MX8_union ∈ AW := aw_of (i := 888) (by decide +kernel) (by decide +kernel)
theorem aw_ml_L_50 : Cond.methodLink RL 50 yX8_union ∈ AW := aw_of (i := 885) (by decide +kernel) (by decide +kernel)
theorem im_X8_union : Cond.instanceMethod yX8_union ∈ AW := aw_of (i := 886) (by decide +kernel) (by decide +kernel)
theorem se_X8_union : Cond.selects RX8 yX8_union yX8_union ∈ AW := aw_of (i := 887) (by decide +kernel) (by decide +kernel)
theorem lk_L_50 : LKV RL 50 MX8_union 2 6 := ⟨⟨aw_ml_L_50, wd_X8_union, ini_RX8, by decide +kernel, by decide +kernel, by decide⟩, im_X8_union, _, _, _, _, cls_6, se_X8_union⟩
theorem wd_X8_intersection : wdM MX8_intersection ∈ AW := aw_of (i := 900) (by decide +kernel) (by decide +kernel)
theorem aw_ml_L_53 : Cond.methodLink RL 53 yX8_intersection ∈ AW := aw_of (i := 897) (by decide +kernel) (by decide +kernel)
theorem im_X8_intersection : Cond.instanceMethod yX8_intersection ∈ AW := aw_of (i := 898) (by decide +kernel) (by decide +kernel)
theorem se_X8_intersection : Cond.selects RX8 yX8_intersection yX8_intersection ∈ AW := aw_of (i := 899) (by decide +kernel) (by decide +kernel)
theorem lk_L_53 : LKV RL 53 MX8_intersection 2 6 := ⟨⟨aw_ml_L_53, wd_X8_intersection, ini_RX8, by decide +kernel, by decide +kernel, by decide⟩, im_X8_intersection, _, _, _, _, cls_6, se_X8_intersection⟩
theorem wd_X8_difference : wdM MX8_difference ∈ AW := aw_of (i := 907) (by decide +kernel) (by decide +kernel)
theorem aw_ml_L_56 : Cond.methodLink RL 56 yX8_difference ∈ AW := aw_of (i := 904) (by decide +kernel) (by decide +kernel)
theorem im_X8_difference : Cond.instanceMethod yX8_difference ∈ AW := aw_of (i := 905) (by decide +kernel) (by decide +kernel)
theorem se_X8_difference : Cond.selects RX8 yX8_difference yX8_difference ∈ AW := aw_of (i := 906) (by decide +kernel) (by decide +kernel)
theorem lk_L_56 : LKV RL 56 MX8_difference 2 6 := ⟨⟨aw_ml_L_56, wd_X8_difference, ini_RX8, by decide +kernel, by decide +kernel, by decide⟩, im_X8_difference, _, _, _, _, cls_6, se_X8_difference⟩
theorem wd_X8_join : wdM MX8_join ∈ AW := aw_of (i := 914) (by decide +kernel) (by decide +kernel)
theorem aw_ml_L_59 : Cond.methodLink RL 59 yX8_join ∈ AW := aw_of (i := 911) (by decide +kernel) (by decide +kernel)
theorem im_X8_join : Cond.instanceMethod yX8_join ∈ AW := aw_of (i := 912) (by decide +kernel) (by decide +kernel)
theorem se_X8_join : Cond.selects RX8 yX8_join yX8_join ∈ AW := aw_of (i := 913) (by decide +kernel) (by decide +kernel)
theorem lk_L_59 : LKV RL 59 MX8_join 2 6 := ⟨⟨aw_ml_L_59, wd_X8_join, ini_RX8, by decide +kernel, by decide +kernel, by decide⟩, im_X8_join, _, _, _, _, cls_6, se_X8_join⟩
theorem wd_X8_meet : wdM MX8_meet ∈ AW := aw_of (i := 921) (by decide +kernel) (by decide +kernel)
theorem aw_ml_L_62 : Cond.methodLink RL 62 yX8_meet ∈ AW := aw_of (i := 918) (by decide +kernel) (by decide +kernel)
theorem im_X8_meet : Cond.instanceMethod yX8_meet ∈ AW := aw_of (i := 919) (by decide +kernel) (by decide +kernel)
theorem se_X8_meet : Cond.selects RX8 yX8_meet yX8_meet ∈ AW := aw_of (i := 920) (by decide +kernel) (by decide +kernel)
theorem lk_L_62 : LKV RL 62 MX8_meet 2 6 := ⟨⟨aw_ml_L_62, wd_X8_meet, ini_RX8, by decide +kernel, by decide +kernel, by decide⟩, im_X8_meet, _, _, _, _, cls_6, se_X8_meet⟩
theorem wd_X8_quotient : wdM MX8_quotient ∈ AW := aw_of (i := 928) (by decide +kernel) (by decide +kernel)
theorem aw_ml_L_65 : Cond.methodLink RL 65 yX8_quotient ∈ AW := aw_of (i := 925) (by decide +kernel) (by decide +kernel)
theorem im_X8_quotient : Cond.instanceMethod yX8_quotient ∈ AW := aw_of (i := 926) (by decide +kernel) (by decide +kernel)
theorem se_X8_quotient : Cond.selects RX8 yX8_quotient yX8_quotient ∈ AW := aw_of (i := 927) (by decide +kernel) (by decide +kernel)
theorem lk_L_65 : LKV RL 65 MX8_quotient 2 6 := ⟨⟨aw_ml_L_65, wd_X8_quotient, ini_RX8, by decide +kernel, by decide +kernel, by decide⟩, im_X8_quotient, _, _, _, _, cls_6, se_X8_quotient⟩
theorem wd_X8_remainder : wdM MX8_remainder ∈ AW := aw_of (i := 935) (by decide +kernel) (by decide +kernel)
theorem aw_ml_L_68 : Cond.methodLink RL 68 yX8_remainder ∈ AW := aw_of (i := 932) (by decide +kernel) (by decide +kernel)
theorem im_X8_remainder : Cond.instanceMethod yX8_remainder ∈ AW := aw_of (i := 933) (by decide +kernel) (by decide +kernel)
theorem se_X8_remainder : Cond.selects RX8 yX8_remainder yX8_remainder ∈ AW := aw_of (i := 934) (by decide +kernel) (by decide +kernel)
theorem lk_L_68 : LKV RL 68 MX8_remainder 2 6 := ⟨⟨aw_ml_L_68, wd_X8_remainder, ini_RX8, by decide +kernel, by decide +kernel, by decide⟩, im_X8_remainder, _, _, _, _, cls_6, se_X8_remainder⟩
theorem wd_X8_supersets : wdM MX8_supersets ∈ AW := aw_of (i := 942) (by decide +kernel) (by decide +kernel)
theorem aw_ml_L_71 : Cond.methodLink RL 71 yX8_supersets ∈ AW := aw_of (i := 939) (by decide +kernel) (by decide +kernel)
theorem im_X8_supersets : Cond.instanceMethod yX8_supersets ∈ AW := aw_of (i := 940) (by decide +kernel) (by decide +kernel)
theorem se_X8_supersets : Cond.selects RX8 yX8_supersets yX8_supersets ∈ AW := aw_of (i := 941) (by decide +kernel) (by decide +kernel)
theorem lk_L_71 : LKV RL 71 MX8_supersets 2 6 := ⟨⟨aw_ml_L_71, wd_X8_supersets, ini_RX8, by decide +kernel, by decide +kernel, by decide⟩, im_X8_supersets, _, _, _, _, cls_6, se_X8_supersets⟩
theorem wd_X8_subsets : wdM MX8_subsets ∈ AW := aw_of (i := 949) (by decide +kernel) (by decide +kernel)
theorem aw_ml_L_74 : Cond.methodLink RL 74 yX8_subsets ∈ AW := aw_of (i := 946) (by decide +kernel) (by decide +kernel)
theorem im_X8_subsets : Cond.instanceMethod yX8_subsets ∈ AW := aw_of (i := 947) (by decide +kernel) (by decide +kernel)
theorem se_X8_subsets : Cond.selects RX8 yX8_subsets yX8_subsets ∈ AW := aw_of (i := 948) (by decide +kernel) (by decide +kernel)
theorem lk_L_74 : LKV RL 74 MX8_subsets 2 6 := ⟨⟨aw_ml_L_74, wd_X8_subsets, ini_RX8, by decide +kernel, by decide +kernel, by decide⟩, im_X8_subsets, _, _, _, _, cls_6, se_X8_subsets⟩
theorem wd_X8_maximal : wdM MX8_maximal ∈ AW := aw_of (i := 956) (by decide +kernel) (by decide +kernel)
theorem aw_ml_L_77 : Cond.methodLink RL 77 yX8_maximal ∈ AW := aw_of (i := 953) (by decide +kernel) (by decide +kernel)
theorem im_X8_maximal : Cond.instanceMethod yX8_maximal ∈ AW := aw_of (i := 954) (by decide +kernel) (by decide +kernel)
theorem se_X8_maximal : Cond.selects RX8 yX8_maximal yX8_maximal ∈ AW := aw_of (i := 955) (by decide +kernel) (by decide +kernel)
theorem lk_L_77 : LKV RL 77 MX8_maximal 1 6 := ⟨⟨aw_ml_L_77, wd_X8_maximal, ini_RX8, by decide +kernel, by decide +kernel, by decide⟩, im_X8_maximal, _, _, _, _, cls_6, se_X8_maximal⟩
theorem wd_X8_minimal : wdM MX8_minimal ∈ AW := aw_of (i := 968) (by decide +kernel) (by decide +kernel)
theorem aw_ml_L_80 : Cond.methodLink RL 80 yX8_minimal ∈ AW := aw_of (i := 965) (by decide +kernel) (by decide +kernel)
theorem im_X8_minimal : Cond.instanceMethod yX8_minimal ∈ AW := aw_of (i := 966) (by decide +kernel) (by decide +kernel)
theorem se_X8_minimal : Cond.selects RX8 yX8_minimal yX8_minimal ∈ AW := aw_of (i := 967) (by decide +kernel) (by decide +kernel)
theorem lk_L_80 : LKV RL 80 MX8_minimal 1 6 := ⟨⟨aw_ml_L_80, wd_X8_minimal, ini_RX8, by decide +kernel, by decide +kernel, by decide⟩, im_X8_minimal, _, _, _, _, cls_6, se_X8_minimal⟩
theorem wd_X8_hitting : wdM MX8_hitting ∈ AW := aw_of (i := 975) (by decide +kernel) (by decide +kernel)
theorem aw_ml_L_83 : Cond.methodLink RL 83 yX8_hitting ∈ AW := aw_of (i := 972) (by decide +kernel) (by decide +kernel)
theorem im_X8_hitting : Cond.instanceMethod yX8_hitting ∈ AW := aw_of (i := 973) (by decide +kernel) (by decide +kernel)
theorem se_X8_hitting : Cond.selects RX8 yX8_hitting yX8_hitting ∈ AW := aw_of (i := 974) (by decide +kernel) (by decide +kernel)
theorem lk_L_83 : LKV RL 83 MX8_hitting 1 6 := ⟨⟨aw_ml_L_83, wd_X8_hitting, ini_RX8, by decide +kernel, by decide +kernel, by decide⟩, im_X8_hitting, _, _, _, _, cls_6, se_X8_hitting⟩
theorem wd_X8_closure : wdM MX8_closure ∈ AW := aw_of (i := 982) (by decide +kernel) (by decide +kernel)
theorem aw_ml_L_86 : Cond.methodLink RL 86 yX8_closure ∈ AW := aw_of (i := 979) (by decide +kernel) (by decide +kernel)
theorem im_X8_closure : Cond.instanceMethod yX8_closure ∈ AW := aw_of (i := 980) (by decide +kernel) (by decide +kernel)
theorem se_X8_closure : Cond.selects RX8 yX8_closure yX8_closure ∈ AW := aw_of (i := 981) (by decide +kernel) (by decide +kernel)
theorem lk_L_86 : LKV RL 86 MX8_closure 1 6 := ⟨⟨aw_ml_L_86, wd_X8_closure, ini_RX8, by decide +kernel, by decide +kernel, by decide⟩, im_X8_closure, _, _, _, _, cls_6, se_X8_closure⟩
theorem wd_X8_change : wdM MX8_change ∈ AW := aw_of (i := 989) (by decide +kernel) (by decide +kernel)
theorem aw_ml_L_89 : Cond.methodLink RL 89 yX8_change ∈ AW := aw_of (i := 986) (by decide +kernel) (by decide +kernel)
theorem im_X8_change : Cond.instanceMethod yX8_change ∈ AW := aw_of (i := 987) (by decide +kernel) (by decide +kernel)
theorem se_X8_change : Cond.selects RX8 yX8_change yX8_change ∈ AW := aw_of (i := 988) (by decide +kernel) (by decide +kernel)
theorem lk_L_89 : LKV RL 89 MX8_change 2 6 := ⟨⟨aw_ml_L_89, wd_X8_change, ini_RX8, by decide +kernel, by decide +kernel, by decide⟩, im_X8_change, _, _, _, _, cls_6, se_X8_change⟩
theorem wd_X8_withCost : wdM MX8_withCost ∈ AW := aw_of (i := 1001) (by decide +kernel) (by decide +kernel)
theorem aw_ml_L_92 : Cond.methodLink RL 92 yX8_withCost ∈ AW := aw_of (i := 998) (by decide +kernel) (by decide +kernel)
theorem im_X8_withCost : Cond.instanceMethod yX8_withCost ∈ AW := aw_of (i := 999) (by decide +kernel) (by decide +kernel)
theorem se_X8_withCost : Cond.selects RX8 yX8_withCost yX8_withCost ∈ AW := aw_of (i := 1000) (by decide +kernel) (by decide +kernel)
theorem lk_L_92 : LKV RL 92 MX8_withCost 3 6 := ⟨⟨aw_ml_L_92, wd_X8_withCost, ini_RX8, by decide +kernel, by decide +kernel, by decide⟩, im_X8_withCost, _, _, _, _, cls_6, se_X8_withCost⟩
theorem wd_X8_count : wdM MX8_count ∈ AW := aw_of (i := 1012) (by decide +kernel) (by decide +kernel)
theorem aw_ml_L_96 : Cond.methodLink RL 96 yX8_count ∈ AW := aw_of (i := 1009) (by decide +kernel) (by decide +kernel)
theorem im_X8_count : Cond.instanceMethod yX8_count ∈ AW := aw_of (i := 1010) (by decide +kernel) (by decide +kernel)
theorem se_X8_count : Cond.selects RX8 yX8_count yX8_count ∈ AW := aw_of (i := 1011) (by decide +kernel) (by decide +kernel)
theorem lk_L_96 : LKV RL 96 MX8_count 1 6 := ⟨⟨aw_ml_L_96, wd_X8_count, ini_RX8, by decide +kernel, by decide +kernel, by decide⟩, im_X8_count, _, _, _, _, cls_6, se_X8_count⟩
theorem wd_X8_countOfSize : wdM MX8_countOfSize ∈ AW := aw_of (i := 1019) (by decide +kernel) (by decide +kernel)
theorem aw_ml_L_99 : Cond.methodLink RL 99 yX8_countOfSize ∈ AW := aw_of (i := 1016) (by decide +kernel) (by decide +kernel)
theorem im_X8_countOfSize : Cond.instanceMethod yX8_countOfSize ∈ AW := aw_of (i := 1017) (by decide +kernel) (by decide +kernel)
theorem se_X8_countOfSize : Cond.selects RX8 yX8_countOfSize yX8_countOfSize ∈ AW := aw_of (i := 1018) (by decide +kernel) (by decide +kernel)
theorem lk_L_99 : LKV RL 99 MX8_countOfSize 2 6 := ⟨⟨aw_ml_L_99, wd_X8_countOfSize, ini_RX8, by decide +kernel, by decide +kernel, by decide⟩, im_X8_countOfSize, _, _, _, _, cls_6, se_X8_countOfSize⟩
theorem wd_X8_countWith : wdM MX8_countWith ∈ AW := aw_of (i := 1026) (by decide +kernel) (by decide +kernel)
theorem aw_ml_L_102 : Cond.methodLink RL 102 yX8_countWith ∈ AW := aw_of (i := 1023) (by decide +kernel) (by decide +kernel)
theorem im_X8_countWith : Cond.instanceMethod yX8_countWith ∈ AW := aw_of (i := 1024) (by decide +kernel) (by decide +kernel)
theorem se_X8_countWith : Cond.selects RX8 yX8_countWith yX8_countWith ∈ AW := aw_of (i := 1025) (by decide +kernel) (by decide +kernel)
theorem lk_L_102 : LKV RL 102 MX8_countWith 2 6 := ⟨⟨aw_ml_L_102, wd_X8_countWith, ini_RX8, by decide +kernel, by decide +kernel, by decide⟩, im_X8_countWith, _, _, _, _, cls_6, se_X8_countWith⟩
theorem wd_X8_contains : wdM MX8_contains ∈ AW := aw_of (i := 1033) (by decide +kernel) (by decide +kernel)
theorem aw_ml_L_105 : Cond.methodLink RL 105 yX8_contains ∈ AW := aw_of (i := 1030) (by decide +kernel) (by decide +kernel)
theorem im_X8_contains : Cond.instanceMethod yX8_contains ∈ AW := aw_of (i := 1031) (by decide +kernel) (by decide +kernel)
theorem se_X8_contains : Cond.selects RX8 yX8_contains yX8_contains ∈ AW := aw_of (i := 1032) (by decide +kernel) (by decide +kernel)
theorem lk_L_105 : LKV RL 105 MX8_contains 2 6 := ⟨⟨aw_ml_L_105, wd_X8_contains, ini_RX8, by decide +kernel, by decide +kernel, by decide⟩, im_X8_contains, _, _, _, _, cls_6, se_X8_contains⟩
theorem wd_X8_areEqual : wdM MX8_areEqual ∈ AW := aw_of (i := 1041) (by decide +kernel) (by decide +kernel)
theorem aw_ml_L_109 : Cond.methodLink RL 109 yX8_areEqual ∈ AW := aw_of (i := 1038) (by decide +kernel) (by decide +kernel)
theorem im_X8_areEqual : Cond.instanceMethod yX8_areEqual ∈ AW := aw_of (i := 1039) (by decide +kernel) (by decide +kernel)
theorem se_X8_areEqual : Cond.selects RX8 yX8_areEqual yX8_areEqual ∈ AW := aw_of (i := 1040) (by decide +kernel) (by decide +kernel)
theorem lk_L_109 : LKV RL 109 MX8_areEqual 2 6 := ⟨⟨aw_ml_L_109, wd_X8_areEqual, ini_RX8, by decide +kernel, by decide +kernel, by decide⟩, im_X8_areEqual, _, _, _, _, cls_6, se_X8_areEqual⟩
theorem wd_X8_isPartOf : wdM MX8_isPartOf ∈ AW := aw_of (i := 1051) (by decide +kernel) (by decide +kernel)
theorem aw_ml_L_112 : Cond.methodLink RL 112 yX8_isPartOf ∈ AW := aw_of (i := 1048) (by decide +kernel) (by decide +kernel)
theorem im_X8_isPartOf : Cond.instanceMethod yX8_isPartOf ∈ AW := aw_of (i := 1049) (by decide +kernel) (by decide +kernel)
theorem se_X8_isPartOf : Cond.selects RX8 yX8_isPartOf yX8_isPartOf ∈ AW := aw_of (i := 1050) (by decide +kernel) (by decide +kernel)
theorem lk_L_112 : LKV RL 112 MX8_isPartOf 2 6 := ⟨⟨aw_ml_L_112, wd_X8_isPartOf, ini_RX8, by decide +kernel, by decide +kernel, by decide⟩, im_X8_isPartOf, _, _, _, _, cls_6, se_X8_isPartOf⟩
theorem wd_X8_setAt : wdM MX8_setAt ∈ AW := aw_of (i := 1058) (by decide +kernel) (by decide +kernel)
theorem aw_ml_L_115 : Cond.methodLink RL 115 yX8_setAt ∈ AW := aw_of (i := 1055) (by decide +kernel) (by decide +kernel)
theorem im_X8_setAt : Cond.instanceMethod yX8_setAt ∈ AW := aw_of (i := 1056) (by decide +kernel) (by decide +kernel)
theorem se_X8_setAt : Cond.selects RX8 yX8_setAt yX8_setAt ∈ AW := aw_of (i := 1057) (by decide +kernel) (by decide +kernel)
theorem lk_L_115 : LKV RL 115 MX8_setAt 2 6 := ⟨⟨aw_ml_L_115, wd_X8_setAt, ini_RX8, by decide +kernel, by decide +kernel, by decide⟩, im_X8_setAt, _, _, _, _, cls_6, se_X8_setAt⟩
theorem wd_X8_indexOf : wdM MX8_indexOf ∈ AW := aw_of (i := 1065) (by decide +kernel) (by decide +kernel)
theorem aw_ml_L_118 : Cond.methodLink RL 118 yX8_indexOf ∈ AW := aw_of (i := 1062) (by decide +kernel) (by decide +kernel)
theorem im_X8_indexOf : Cond.instanceMethod yX8_indexOf ∈ AW := aw_of (i := 1063) (by decide +kernel) (by decide +kernel)
theorem se_X8_indexOf : Cond.selects RX8 yX8_indexOf yX8_indexOf ∈ AW := aw_of (i := 1064) (by decide +kernel) (by decide +kernel)
theorem lk_L_118 : LKV RL 118 MX8_indexOf 2 6 := ⟨⟨aw_ml_L_118, wd_X8_indexOf, ini_RX8, by decide +kernel, by decide +kernel, by decide⟩, im_X8_indexOf, _, _, _, _, cls_6, se_X8_indexOf⟩
theorem wd_X8_setCost : wdM MX8_setCost ∈ AW := aw_of (i := 1075) (by decide +kernel) (by decide +kernel)
theorem aw_ml_L_121 : Cond.methodLink RL 121 yX8_setCost ∈ AW := aw_of (i := 1072) (by decide +kernel) (by decide +kernel)
theorem im_X8_setCost : Cond.instanceMethod yX8_setCost ∈ AW := aw_of (i := 1073) (by decide +kernel) (by decide +kernel)
theorem se_X8_setCost : Cond.selects RX8 yX8_setCost yX8_setCost ∈ AW := aw_of (i := 1074) (by decide +kernel) (by decide +kernel)
theorem lk_L_121 : LKV RL 121 MX8_setCost 2 6 := ⟨⟨aw_ml_L_121, wd_X8_setCost, ini_RX8, by decide +kernel, by decide +kernel, by decide⟩, im_X8_setCost, _, _, _, _, cls_6, se_X8_setCost⟩
theorem wd_X8_leastCost : wdM MX8_leastCost ∈ AW := aw_of (i := 1086) (by decide +kernel) (by decide +kernel)
theorem aw_ml_L_124 : Cond.methodLink RL 124 yX8_leastCost ∈ AW := aw_of (i := 1083) (by decide +kernel) (by decide +kernel)
theorem im_X8_leastCost : Cond.instanceMethod yX8_leastCost ∈ AW := aw_of (i := 1084) (by decide +kernel) (by decide +kernel)
theorem se_X8_leastCost : Cond.selects RX8 yX8_leastCost yX8_leastCost ∈ AW := aw_of (i := 1085) (by decide +kernel) (by decide +kernel)
theorem lk_L_124 : LKV RL 124 MX8_leastCost 1 6 := ⟨⟨aw_ml_L_124, wd_X8_leastCost, ini_RX8, by decide +kernel, by decide +kernel, by decide⟩, im_X8_leastCost, _, _, _, _, cls_6, se_X8_leastCost⟩
theorem wd_X8_meanCost : wdM MX8_meanCost ∈ AW := aw_of (i := 1098) (by decide +kernel) (by decide +kernel)
theorem aw_ml_L_127 : Cond.methodLink RL 127 yX8_meanCost ∈ AW := aw_of (i := 1095) (by decide +kernel) (by decide +kernel)
theorem im_X8_meanCost : Cond.instanceMethod yX8_meanCost ∈ AW := aw_of (i := 1096) (by decide +kernel) (by decide +kernel)
theorem se_X8_meanCost : Cond.selects RX8 yX8_meanCost yX8_meanCost ∈ AW := aw_of (i := 1097) (by decide +kernel) (by decide +kernel)
theorem lk_L_127 : LKV RL 127 MX8_meanCost 1 6 := ⟨⟨aw_ml_L_127, wd_X8_meanCost, ini_RX8, by decide +kernel, by decide +kernel, by decide⟩, im_X8_meanCost, _, _, _, _, cls_6, se_X8_meanCost⟩
theorem wd_X8_enumerate : wdM MX8_enumerate ∈ AW := aw_of (i := 1105) (by decide +kernel) (by decide +kernel)
theorem aw_ml_L_131 : Cond.methodLink RL 131 yX8_enumerate ∈ AW := aw_of (i := 1102) (by decide +kernel) (by decide +kernel)
theorem im_X8_enumerate : Cond.instanceMethod yX8_enumerate ∈ AW := aw_of (i := 1103) (by decide +kernel) (by decide +kernel)
theorem se_X8_enumerate : Cond.selects RX8 yX8_enumerate yX8_enumerate ∈ AW := aw_of (i := 1104) (by decide +kernel) (by decide +kernel)
theorem lk_L_131 : LKV RL 131 MX8_enumerate 3 6 := ⟨⟨aw_ml_L_131, wd_X8_enumerate, ini_RX8, by decide +kernel, by decide +kernel, by decide⟩, im_X8_enumerate, _, _, _, _, cls_6, se_X8_enumerate⟩
theorem wd_X8_enumerated : wdM MX8_enumerated ∈ AW := aw_of (i := 1130) (by decide +kernel) (by decide +kernel)
theorem aw_ml_L_134 : Cond.methodLink RL 134 yX8_enumerated ∈ AW := aw_of (i := 1127) (by decide +kernel) (by decide +kernel)
theorem im_X8_enumerated : Cond.instanceMethod yX8_enumerated ∈ AW := aw_of (i := 1128) (by decide +kernel) (by decide +kernel)
theorem se_X8_enumerated : Cond.selects RX8 yX8_enumerated yX8_enumerated ∈ AW := aw_of (i := 1129) (by decide +kernel) (by decide +kernel)
theorem lk_L_134 : LKV RL 134 MX8_enumerated 1 6 := ⟨⟨aw_ml_L_134, wd_X8_enumerated, ini_RX8, by decide +kernel, by decide +kernel, by decide⟩, im_X8_enumerated, _, _, _, _, cls_6, se_X8_enumerated⟩
theorem aw_cl_L_8 : Cond.classLink RL 8 RX8 ∈ AW := aw_of (i := 108) (by decide +kernel) (by decide +kernel)
theorem nl_L_8 : NL RL 8 6 := ⟨_, _, _, _, cls_6, aw_cl_L_8⟩
theorem wd_X8_init : wdM MX8_init ∈ AW := aw_of (i := 112) (by decide +kernel) (by decide +kernel)
theorem aw_ml_L_137 : Cond.methodLink RL 137 yX8_init ∈ AW := aw_of (i := 110) (by decide +kernel) (by decide +kernel)
theorem im_X8_init : Cond.instanceMethod yX8_init ∈ AW := aw_of (i := 111) (by decide +kernel) (by decide +kernel)
theorem lk_L_137 : LKI RL 137 MX8_init 0 := ⟨⟨aw_ml_L_137, wd_X8_init, ini_RX8, by decide +kernel, by decide +kernel, by decide⟩, im_X8_init, rfl⟩
theorem aw_cl_L_138 : Cond.classLink RL 138 RX9 ∈ AW := aw_of (i := 1131) (by decide +kernel) (by decide +kernel)
theorem nl_L_138 : NL RL 138 7 := ⟨_, _, _, _, cls_7, aw_cl_L_138⟩
theorem wd_X9_init : wdM MX9_init ∈ AW := aw_of (i := 1135) (by decide +kernel) (by decide +kernel)
theorem aw_ml_L_140 : Cond.methodLink RL 140 yX9_init ∈ AW := aw_of (i := 1133) (by decide +kernel) (by decide +kernel)
theorem im_X9_init : Cond.instanceMethod yX9_init ∈ AW := aw_of (i := 1134) (by decide +kernel) (by decide +kernel)
theorem lk_L_140 : LKI RL 140 MX9_init 0 := ⟨⟨aw_ml_L_140, wd_X9_init, ini_RX9, by decide +kernel, by decide +kernel, by decide⟩, im_X9_init, rfl⟩
theorem ac_double : Cond.arrayClass .double ∈ AW := aw_of (i := 1575) (by decide +kernel) (by decide +kernel)
theorem wd_L_feed : wdM ML_feed ∈ AW := aw_of (i := 317) (by decide +kernel) (by decide +kernel)
theorem ini_RL : Cond.initialized RL ∈ AW := aw_of (i := 81) (by decide +kernel) (by decide +kernel)
theorem aw_ml_L_141 : Cond.methodLink RL 141 yL_feed ∈ AW := aw_of (i := 315) (by decide +kernel) (by decide +kernel)
theorem sm_L_feed : Cond.static yL_feed ∈ AW := aw_of (i := 316) (by decide +kernel) (by decide +kernel)
theorem lk_L_141 : LKS RL 141 ML_feed 7 := ⟨⟨aw_ml_L_141, wd_L_feed, ini_RL, by decide +kernel, by decide +kernel, by decide⟩, sm_L_feed⟩
theorem wd_X9_feed : wdM MX9_feed ∈ AW := aw_of (i := 1227) (by decide +kernel) (by decide +kernel)
theorem aw_ml_L_146 : Cond.methodLink RL 146 yX9_feed ∈ AW := aw_of (i := 1224) (by decide +kernel) (by decide +kernel)
theorem im_X9_feed : Cond.instanceMethod yX9_feed ∈ AW := aw_of (i := 1225) (by decide +kernel) (by decide +kernel)
theorem se_X9_feed : Cond.selects RX9 yX9_feed yX9_feed ∈ AW := aw_of (i := 1226) (by decide +kernel) (by decide +kernel)
theorem lk_L_146 : LKV RL 146 MX9_feed 5 7 := ⟨⟨aw_ml_L_146, wd_X9_feed, ini_RX9, by decide +kernel, by decide +kernel, by decide⟩, im_X9_feed, _, _, _, _, cls_7, se_X9_feed⟩
theorem wd_X9_thrown : wdM MX9_thrown ∈ AW := aw_of (i := 1223) (by decide +kernel) (by decide +kernel)
theorem aw_ml_L_147 : Cond.methodLink RL 147 yX9_thrown ∈ AW := aw_of (i := 1220) (by decide +kernel) (by decide +kernel)
theorem im_X9_thrown : Cond.instanceMethod yX9_thrown ∈ AW := aw_of (i := 1221) (by decide +kernel) (by decide +kernel)
theorem se_X9_thrown : Cond.selects RX9 yX9_thrown yX9_thrown ∈ AW := aw_of (i := 1222) (by decide +kernel) (by decide +kernel)
theorem lk_L_147 : LKV RL 147 MX9_thrown 0 7 := ⟨⟨aw_ml_L_147, wd_X9_thrown, ini_RX9, by decide +kernel, by decide +kernel, by decide⟩, im_X9_thrown, _, _, _, _, cls_7, se_X9_thrown⟩
theorem wd_L_trim : wdM ML_trim ∈ AW := aw_of (i := 396) (by decide +kernel) (by decide +kernel)
theorem aw_ml_L_150 : Cond.methodLink RL 150 yL_trim ∈ AW := aw_of (i := 394) (by decide +kernel) (by decide +kernel)
theorem sm_L_trim : Cond.static yL_trim ∈ AW := aw_of (i := 395) (by decide +kernel) (by decide +kernel)
theorem lk_L_150 : LKS RL 150 ML_trim 3 := ⟨⟨aw_ml_L_150, wd_L_trim, ini_RL, by decide +kernel, by decide +kernel, by decide⟩, sm_L_trim⟩
theorem wd_X9_trim : wdM MX9_trim ∈ AW := aw_of (i := 1239) (by decide +kernel) (by decide +kernel)
theorem aw_ml_L_153 : Cond.methodLink RL 153 yX9_trim ∈ AW := aw_of (i := 1236) (by decide +kernel) (by decide +kernel)
theorem im_X9_trim : Cond.instanceMethod yX9_trim ∈ AW := aw_of (i := 1237) (by decide +kernel) (by decide +kernel)
theorem se_X9_trim : Cond.selects RX9 yX9_trim yX9_trim ∈ AW := aw_of (i := 1238) (by decide +kernel) (by decide +kernel)
theorem lk_L_153 : LKV RL 153 MX9_trim 1 7 := ⟨⟨aw_ml_L_153, wd_X9_trim, ini_RX9, by decide +kernel, by decide +kernel, by decide⟩, im_X9_trim, _, _, _, _, cls_7, se_X9_trim⟩
theorem wd_L_evaluate : wdM ML_evaluate ∈ AW := aw_of (i := 419) (by decide +kernel) (by decide +kernel)
theorem aw_ml_L_154 : Cond.methodLink RL 154 yL_evaluate ∈ AW := aw_of (i := 417) (by decide +kernel) (by decide +kernel)
theorem sm_L_evaluate : Cond.static yL_evaluate ∈ AW := aw_of (i := 418) (by decide +kernel) (by decide +kernel)
theorem lk_L_154 : LKS RL 154 ML_evaluate 2 := ⟨⟨aw_ml_L_154, wd_L_evaluate, ini_RL, by decide +kernel, by decide +kernel, by decide⟩, sm_L_evaluate⟩
theorem wd_X9_evaluate : wdM MX9_evaluate ∈ AW := aw_of (i := 1243) (by decide +kernel) (by decide +kernel)
theorem aw_ml_L_157 : Cond.methodLink RL 157 yX9_evaluate ∈ AW := aw_of (i := 1240) (by decide +kernel) (by decide +kernel)
theorem im_X9_evaluate : Cond.instanceMethod yX9_evaluate ∈ AW := aw_of (i := 1241) (by decide +kernel) (by decide +kernel)
theorem se_X9_evaluate : Cond.selects RX9 yX9_evaluate yX9_evaluate ∈ AW := aw_of (i := 1242) (by decide +kernel) (by decide +kernel)
theorem lk_L_157 : LKV RL 157 MX9_evaluate 0 7 := ⟨⟨aw_ml_L_157, wd_X9_evaluate, ini_RX9, by decide +kernel, by decide +kernel, by decide⟩, im_X9_evaluate, _, _, _, _, cls_7, se_X9_evaluate⟩
theorem wd_X8_errorPosition : wdM MX8_errorPosition ∈ AW := aw_of (i := 300) (by decide +kernel) (by decide +kernel)
theorem aw_ml_L_158 : Cond.methodLink RL 158 yX8_errorPosition ∈ AW := aw_of (i := 297) (by decide +kernel) (by decide +kernel)
theorem im_X8_errorPosition : Cond.instanceMethod yX8_errorPosition ∈ AW := aw_of (i := 298) (by decide +kernel) (by decide +kernel)
theorem se_X8_errorPosition : Cond.selects RX8 yX8_errorPosition yX8_errorPosition ∈ AW := aw_of (i := 299) (by decide +kernel) (by decide +kernel)
theorem lk_L_158 : LKV RL 158 MX8_errorPosition 0 6 := ⟨⟨aw_ml_L_158, wd_X8_errorPosition, ini_RX8, by decide +kernel, by decide +kernel, by decide⟩, im_X8_errorPosition, _, _, _, _, cls_6, se_X8_errorPosition⟩
theorem wd_X9_errorPosition : wdM MX9_errorPosition ∈ AW := aw_of (i := 1360) (by decide +kernel) (by decide +kernel)
theorem aw_ml_L_161 : Cond.methodLink RL 161 yX9_errorPosition ∈ AW := aw_of (i := 1357) (by decide +kernel) (by decide +kernel)
theorem im_X9_errorPosition : Cond.instanceMethod yX9_errorPosition ∈ AW := aw_of (i := 1358) (by decide +kernel) (by decide +kernel)
theorem se_X9_errorPosition : Cond.selects RX9 yX9_errorPosition yX9_errorPosition ∈ AW := aw_of (i := 1359) (by decide +kernel) (by decide +kernel)
theorem lk_L_161 : LKV RL 161 MX9_errorPosition 0 7 := ⟨⟨aw_ml_L_161, wd_X9_errorPosition, ini_RX9, by decide +kernel, by decide +kernel, by decide⟩, im_X9_errorPosition, _, _, _, _, cls_7, se_X9_errorPosition⟩
theorem wd_L_write : wdM ML_write ∈ AW := aw_of (i := 759) (by decide +kernel) (by decide +kernel)
theorem aw_ml_L_162 : Cond.methodLink RL 162 yL_write ∈ AW := aw_of (i := 757) (by decide +kernel) (by decide +kernel)
theorem sm_L_write : Cond.static yL_write ∈ AW := aw_of (i := 758) (by decide +kernel) (by decide +kernel)
theorem lk_L_162 : LKS RL 162 ML_write 3 := ⟨⟨aw_ml_L_162, wd_L_write, ini_RL, by decide +kernel, by decide +kernel, by decide⟩, sm_L_write⟩
theorem wd_X9_write : wdM MX9_write ∈ AW := aw_of (i := 1364) (by decide +kernel) (by decide +kernel)
theorem aw_ml_L_164 : Cond.methodLink RL 164 yX9_write ∈ AW := aw_of (i := 1361) (by decide +kernel) (by decide +kernel)
theorem im_X9_write : Cond.instanceMethod yX9_write ∈ AW := aw_of (i := 1362) (by decide +kernel) (by decide +kernel)
theorem se_X9_write : Cond.selects RX9 yX9_write yX9_write ∈ AW := aw_of (i := 1363) (by decide +kernel) (by decide +kernel)
theorem lk_L_164 : LKV RL 164 MX9_write 1 7 := ⟨⟨aw_ml_L_164, wd_X9_write, ini_RX9, by decide +kernel, by decide +kernel, by decide⟩, im_X9_write, _, _, _, _, cls_7, se_X9_write⟩
theorem wd_L_outputByte : wdM ML_outputByte ∈ AW := aw_of (i := 844) (by decide +kernel) (by decide +kernel)
theorem aw_ml_L_165 : Cond.methodLink RL 165 yL_outputByte ∈ AW := aw_of (i := 842) (by decide +kernel) (by decide +kernel)
theorem sm_L_outputByte : Cond.static yL_outputByte ∈ AW := aw_of (i := 843) (by decide +kernel) (by decide +kernel)
theorem lk_L_165 : LKS RL 165 ML_outputByte 3 := ⟨⟨aw_ml_L_165, wd_L_outputByte, ini_RL, by decide +kernel, by decide +kernel, by decide⟩, sm_L_outputByte⟩
theorem wd_X9_outputByte : wdM MX9_outputByte ∈ AW := aw_of (i := 1380) (by decide +kernel) (by decide +kernel)
theorem aw_ml_L_167 : Cond.methodLink RL 167 yX9_outputByte ∈ AW := aw_of (i := 1377) (by decide +kernel) (by decide +kernel)
theorem im_X9_outputByte : Cond.instanceMethod yX9_outputByte ∈ AW := aw_of (i := 1378) (by decide +kernel) (by decide +kernel)
theorem se_X9_outputByte : Cond.selects RX9 yX9_outputByte yX9_outputByte ∈ AW := aw_of (i := 1379) (by decide +kernel) (by decide +kernel)
theorem lk_L_167 : LKV RL 167 MX9_outputByte 1 7 := ⟨⟨aw_ml_L_167, wd_X9_outputByte, ini_RX9, by decide +kernel, by decide +kernel, by decide⟩, im_X9_outputByte, _, _, _, _, cls_7, se_X9_outputByte⟩
theorem wd_L_single : wdM ML_single ∈ AW := aw_of (i := 851) (by decide +kernel) (by decide +kernel)
theorem aw_ml_L_168 : Cond.methodLink RL 168 yL_single ∈ AW := aw_of (i := 849) (by decide +kernel) (by decide +kernel)
theorem sm_L_single : Cond.static yL_single ∈ AW := aw_of (i := 850) (by decide +kernel) (by decide +kernel)
theorem lk_L_168 : LKS RL 168 ML_single 3 := ⟨⟨aw_ml_L_168, wd_L_single, ini_RL, by decide +kernel, by decide +kernel, by decide⟩, sm_L_single⟩
theorem wd_X9_single : wdM MX9_single ∈ AW := aw_of (i := 1384) (by decide +kernel) (by decide +kernel)
theorem aw_ml_L_170 : Cond.methodLink RL 170 yX9_single ∈ AW := aw_of (i := 1381) (by decide +kernel) (by decide +kernel)
theorem im_X9_single : Cond.instanceMethod yX9_single ∈ AW := aw_of (i := 1382) (by decide +kernel) (by decide +kernel)
theorem se_X9_single : Cond.selects RX9 yX9_single yX9_single ∈ AW := aw_of (i := 1383) (by decide +kernel) (by decide +kernel)
theorem lk_L_170 : LKV RL 170 MX9_single 1 7 := ⟨⟨aw_ml_L_170, wd_X9_single, ini_RX9, by decide +kernel, by decide +kernel, by decide⟩, im_X9_single, _, _, _, _, cls_7, se_X9_single⟩
theorem wd_L_subsetsOf : wdM ML_subsetsOf ∈ AW := aw_of (i := 863) (by decide +kernel) (by decide +kernel)
theorem aw_ml_L_171 : Cond.methodLink RL 171 yL_subsetsOf ∈ AW := aw_of (i := 861) (by decide +kernel) (by decide +kernel)
theorem sm_L_subsetsOf : Cond.static yL_subsetsOf ∈ AW := aw_of (i := 862) (by decide +kernel) (by decide +kernel)
theorem lk_L_171 : LKS RL 171 ML_subsetsOf 4 := ⟨⟨aw_ml_L_171, wd_L_subsetsOf, ini_RL, by decide +kernel, by decide +kernel, by decide⟩, sm_L_subsetsOf⟩
theorem wd_X9_subsetsOf : wdM MX9_subsetsOf ∈ AW := aw_of (i := 1391) (by decide +kernel) (by decide +kernel)
theorem aw_ml_L_174 : Cond.methodLink RL 174 yX9_subsetsOf ∈ AW := aw_of (i := 1388) (by decide +kernel) (by decide +kernel)
theorem im_X9_subsetsOf : Cond.instanceMethod yX9_subsetsOf ∈ AW := aw_of (i := 1389) (by decide +kernel) (by decide +kernel)
theorem se_X9_subsetsOf : Cond.selects RX9 yX9_subsetsOf yX9_subsetsOf ∈ AW := aw_of (i := 1390) (by decide +kernel) (by decide +kernel)
theorem lk_L_174 : LKV RL 174 MX9_subsetsOf 2 7 := ⟨⟨aw_ml_L_174, wd_X9_subsetsOf, ini_RX9, by decide +kernel, by decide +kernel, by decide⟩, im_X9_subsetsOf, _, _, _, _, cls_7, se_X9_subsetsOf⟩
theorem wd_L_release : wdM ML_release ∈ AW := aw_of (i := 870) (by decide +kernel) (by decide +kernel)
theorem aw_ml_L_175 : Cond.methodLink RL 175 yL_release ∈ AW := aw_of (i := 868) (by decide +kernel) (by decide +kernel)
theorem sm_L_release : Cond.static yL_release ∈ AW := aw_of (i := 869) (by decide +kernel) (by decide +kernel)
theorem lk_L_175 : LKS RL 175 ML_release 3 := ⟨⟨aw_ml_L_175, wd_L_release, ini_RL, by decide +kernel, by decide +kernel, by decide⟩, sm_L_release⟩
theorem wd_X9_release : wdM MX9_release ∈ AW := aw_of (i := 1395) (by decide +kernel) (by decide +kernel)
theorem aw_ml_L_177 : Cond.methodLink RL 177 yX9_release ∈ AW := aw_of (i := 1392) (by decide +kernel) (by decide +kernel)
theorem im_X9_release : Cond.instanceMethod yX9_release ∈ AW := aw_of (i := 1393) (by decide +kernel) (by decide +kernel)
theorem se_X9_release : Cond.selects RX9 yX9_release yX9_release ∈ AW := aw_of (i := 1394) (by decide +kernel) (by decide +kernel)
theorem lk_L_177 : LKV RL 177 MX9_release 1 7 := ⟨⟨aw_ml_L_177, wd_X9_release, ini_RX9, by decide +kernel, by decide +kernel, by decide⟩, im_X9_release, _, _, _, _, cls_7, se_X9_release⟩
theorem wd_X8_createdCount : wdM MX8_createdCount ∈ AW := aw_of (i := 304) (by decide +kernel) (by decide +kernel)
theorem aw_ml_L_178 : Cond.methodLink RL 178 yX8_createdCount ∈ AW := aw_of (i := 301) (by decide +kernel) (by decide +kernel)
theorem im_X8_createdCount : Cond.instanceMethod yX8_createdCount ∈ AW := aw_of (i := 302) (by decide +kernel) (by decide +kernel)
theorem se_X8_createdCount : Cond.selects RX8 yX8_createdCount yX8_createdCount ∈ AW := aw_of (i := 303) (by decide +kernel) (by decide +kernel)
theorem lk_L_178 : LKV RL 178 MX8_createdCount 0 6 := ⟨⟨aw_ml_L_178, wd_X8_createdCount, ini_RX8, by decide +kernel, by decide +kernel, by decide⟩, im_X8_createdCount, _, _, _, _, cls_6, se_X8_createdCount⟩
theorem wd_X9_createdCount : wdM MX9_createdCount ∈ AW := aw_of (i := 1399) (by decide +kernel) (by decide +kernel)
theorem aw_ml_L_181 : Cond.methodLink RL 181 yX9_createdCount ∈ AW := aw_of (i := 1396) (by decide +kernel) (by decide +kernel)
theorem im_X9_createdCount : Cond.instanceMethod yX9_createdCount ∈ AW := aw_of (i := 1397) (by decide +kernel) (by decide +kernel)
theorem se_X9_createdCount : Cond.selects RX9 yX9_createdCount yX9_createdCount ∈ AW := aw_of (i := 1398) (by decide +kernel) (by decide +kernel)
theorem lk_L_181 : LKV RL 181 MX9_createdCount 0 7 := ⟨⟨aw_ml_L_181, wd_X9_createdCount, ini_RX9, by decide +kernel, by decide +kernel, by decide⟩, im_X9_createdCount, _, _, _, _, cls_7, se_X9_createdCount⟩
theorem wd_X8_nodeCount : wdM MX8_nodeCount ∈ AW := aw_of (i := 308) (by decide +kernel) (by decide +kernel)
theorem aw_ml_L_182 : Cond.methodLink RL 182 yX8_nodeCount ∈ AW := aw_of (i := 305) (by decide +kernel) (by decide +kernel)
theorem im_X8_nodeCount : Cond.instanceMethod yX8_nodeCount ∈ AW := aw_of (i := 306) (by decide +kernel) (by decide +kernel)
theorem se_X8_nodeCount : Cond.selects RX8 yX8_nodeCount yX8_nodeCount ∈ AW := aw_of (i := 307) (by decide +kernel) (by decide +kernel)
theorem lk_L_182 : LKV RL 182 MX8_nodeCount 0 6 := ⟨⟨aw_ml_L_182, wd_X8_nodeCount, ini_RX8, by decide +kernel, by decide +kernel, by decide⟩, im_X8_nodeCount, _, _, _, _, cls_6, se_X8_nodeCount⟩
theorem wd_X9_nodeCount : wdM MX9_nodeCount ∈ AW := aw_of (i := 1403) (by decide +kernel) (by decide +kernel)
theorem aw_ml_L_185 : Cond.methodLink RL 185 yX9_nodeCount ∈ AW := aw_of (i := 1400) (by decide +kernel) (by decide +kernel)
theorem im_X9_nodeCount : Cond.instanceMethod yX9_nodeCount ∈ AW := aw_of (i := 1401) (by decide +kernel) (by decide +kernel)
theorem se_X9_nodeCount : Cond.selects RX9 yX9_nodeCount yX9_nodeCount ∈ AW := aw_of (i := 1402) (by decide +kernel) (by decide +kernel)
theorem lk_L_185 : LKV RL 185 MX9_nodeCount 0 7 := ⟨⟨aw_ml_L_185, wd_X9_nodeCount, ini_RX9, by decide +kernel, by decide +kernel, by decide⟩, im_X9_nodeCount, _, _, _, _, cls_7, se_X9_nodeCount⟩
theorem wd_L_nodesOf : wdM ML_nodesOf ∈ AW := aw_of (i := 877) (by decide +kernel) (by decide +kernel)
theorem aw_ml_L_186 : Cond.methodLink RL 186 yL_nodesOf ∈ AW := aw_of (i := 875) (by decide +kernel) (by decide +kernel)
theorem sm_L_nodesOf : Cond.static yL_nodesOf ∈ AW := aw_of (i := 876) (by decide +kernel) (by decide +kernel)
theorem lk_L_186 : LKS RL 186 ML_nodesOf 3 := ⟨⟨aw_ml_L_186, wd_L_nodesOf, ini_RL, by decide +kernel, by decide +kernel, by decide⟩, sm_L_nodesOf⟩
theorem wd_X9_nodesOf : wdM MX9_nodesOf ∈ AW := aw_of (i := 1432) (by decide +kernel) (by decide +kernel)
theorem aw_ml_L_188 : Cond.methodLink RL 188 yX9_nodesOf ∈ AW := aw_of (i := 1429) (by decide +kernel) (by decide +kernel)
theorem im_X9_nodesOf : Cond.instanceMethod yX9_nodesOf ∈ AW := aw_of (i := 1430) (by decide +kernel) (by decide +kernel)
theorem se_X9_nodesOf : Cond.selects RX9 yX9_nodesOf yX9_nodesOf ∈ AW := aw_of (i := 1431) (by decide +kernel) (by decide +kernel)
theorem lk_L_188 : LKV RL 188 MX9_nodesOf 1 7 := ⟨⟨aw_ml_L_188, wd_X9_nodesOf, ini_RX9, by decide +kernel, by decide +kernel, by decide⟩, im_X9_nodesOf, _, _, _, _, cls_7, se_X9_nodesOf⟩
theorem wd_L_union : wdM ML_union ∈ AW := aw_of (i := 884) (by decide +kernel) (by decide +kernel)
theorem aw_ml_L_189 : Cond.methodLink RL 189 yL_union ∈ AW := aw_of (i := 882) (by decide +kernel) (by decide +kernel)
theorem sm_L_union : Cond.static yL_union ∈ AW := aw_of (i := 883) (by decide +kernel) (by decide +kernel)
theorem lk_L_189 : LKS RL 189 ML_union 4 := ⟨⟨aw_ml_L_189, wd_L_union, ini_RL, by decide +kernel, by decide +kernel, by decide⟩, sm_L_union⟩
theorem wd_X9_union : wdM MX9_union ∈ AW := aw_of (i := 1440) (by decide +kernel) (by decide +kernel)
theorem aw_ml_L_191 : Cond.methodLink RL 191 yX9_union ∈ AW := aw_of (i := 1437) (by decide +kernel) (by decide +kernel)
theorem im_X9_union : Cond.instanceMethod yX9_union ∈ AW := aw_of (i := 1438) (by decide +kernel) (by decide +kernel)
theorem se_X9_union : Cond.selects RX9 yX9_union yX9_union ∈ AW := aw_of (i := 1439) (by decide +kernel) (by decide +kernel)
theorem lk_L_191 : LKV RL 191 MX9_union 2 7 := ⟨⟨aw_ml_L_191, wd_X9_union, ini_RX9, by decide +kernel, by decide +kernel, by decide⟩, im_X9_union, _, _, _, _, cls_7, se_X9_union⟩
theorem wd_L_intersection : wdM ML_intersection ∈ AW := aw_of (i := 896) (by decide +kernel) (by decide +kernel)
theorem aw_ml_L_192 : Cond.methodLink RL 192 yL_intersection ∈ AW := aw_of (i := 894) (by decide +kernel) (by decide +kernel)
theorem sm_L_intersection : Cond.static yL_intersection ∈ AW := aw_of (i := 895) (by decide +kernel) (by decide +kernel)
theorem lk_L_192 : LKS RL 192 ML_intersection 4 := ⟨⟨aw_ml_L_192, wd_L_intersection, ini_RL, by decide +kernel, by decide +kernel, by decide⟩, sm_L_intersection⟩
theorem wd_X9_intersection : wdM MX9_intersection ∈ AW := aw_of (i := 1452) (by decide +kernel) (by decide +kernel)
theorem aw_ml_L_194 : Cond.methodLink RL 194 yX9_intersection ∈ AW := aw_of (i := 1449) (by decide +kernel) (by decide +kernel)
theorem im_X9_intersection : Cond.instanceMethod yX9_intersection ∈ AW := aw_of (i := 1450) (by decide +kernel) (by decide +kernel)
theorem se_X9_intersection : Cond.selects RX9 yX9_intersection yX9_intersection ∈ AW := aw_of (i := 1451) (by decide +kernel) (by decide +kernel)
theorem lk_L_194 : LKV RL 194 MX9_intersection 2 7 := ⟨⟨aw_ml_L_194, wd_X9_intersection, ini_RX9, by decide +kernel, by decide +kernel, by decide⟩, im_X9_intersection, _, _, _, _, cls_7, se_X9_intersection⟩
theorem wd_L_difference : wdM ML_difference ∈ AW := aw_of (i := 903) (by decide +kernel) (by decide +kernel)
theorem aw_ml_L_195 : Cond.methodLink RL 195 yL_difference ∈ AW := aw_of (i := 901) (by decide +kernel) (by decide +kernel)
theorem sm_L_difference : Cond.static yL_difference ∈ AW := aw_of (i := 902) (by decide +kernel) (by decide +kernel)
theorem lk_L_195 : LKS RL 195 ML_difference 4 := ⟨⟨aw_ml_L_195, wd_L_difference, ini_RL, by decide +kernel, by decide +kernel, by decide⟩, sm_L_difference⟩
theorem wd_X9_difference : wdM MX9_difference ∈ AW := aw_of (i := 1456) (by decide +kernel) (by decide +kernel)
theorem aw_ml_L_197 : Cond.methodLink RL 197 yX9_difference ∈ AW := aw_of (i := 1453) (by decide +kernel) (by decide +kernel)
theorem im_X9_difference : Cond.instanceMethod yX9_difference ∈ AW := aw_of (i := 1454) (by decide +kernel) (by decide +kernel)
theorem se_X9_difference : Cond.selects RX9 yX9_difference yX9_difference ∈ AW := aw_of (i := 1455) (by decide +kernel) (by decide +kernel)
theorem lk_L_197 : LKV RL 197 MX9_difference 2 7 := ⟨⟨aw_ml_L_197, wd_X9_difference, ini_RX9, by decide +kernel, by decide +kernel, by decide⟩, im_X9_difference, _, _, _, _, cls_7, se_X9_difference⟩
theorem wd_L_join : wdM ML_join ∈ AW := aw_of (i := 910) (by decide +kernel) (by decide +kernel)
theorem aw_ml_L_198 : Cond.methodLink RL 198 yL_join ∈ AW := aw_of (i := 908) (by decide +kernel) (by decide +kernel)
theorem sm_L_join : Cond.static yL_join ∈ AW := aw_of (i := 909) (by decide +kernel) (by decide +kernel)
theorem lk_L_198 : LKS RL 198 ML_join 4 := ⟨⟨aw_ml_L_198, wd_L_join, ini_RL, by decide +kernel, by decide +kernel, by decide⟩, sm_L_join⟩
theorem wd_X9_join : wdM MX9_join ∈ AW := aw_of (i := 1460) (by decide +kernel) (by decide +kernel)
theorem aw_ml_L_200 : Cond.methodLink RL 200 yX9_join ∈ AW := aw_of (i := 1457) (by decide +kernel) (by decide +kernel)
theorem im_X9_join : Cond.instanceMethod yX9_join ∈ AW := aw_of (i := 1458) (by decide +kernel) (by decide +kernel)
theorem se_X9_join : Cond.selects RX9 yX9_join yX9_join ∈ AW := aw_of (i := 1459) (by decide +kernel) (by decide +kernel)
theorem lk_L_200 : LKV RL 200 MX9_join 2 7 := ⟨⟨aw_ml_L_200, wd_X9_join, ini_RX9, by decide +kernel, by decide +kernel, by decide⟩, im_X9_join, _, _, _, _, cls_7, se_X9_join⟩
theorem wd_L_meet : wdM ML_meet ∈ AW := aw_of (i := 917) (by decide +kernel) (by decide +kernel)
theorem aw_ml_L_201 : Cond.methodLink RL 201 yL_meet ∈ AW := aw_of (i := 915) (by decide +kernel) (by decide +kernel)
theorem sm_L_meet : Cond.static yL_meet ∈ AW := aw_of (i := 916) (by decide +kernel) (by decide +kernel)
theorem lk_L_201 : LKS RL 201 ML_meet 4 := ⟨⟨aw_ml_L_201, wd_L_meet, ini_RL, by decide +kernel, by decide +kernel, by decide⟩, sm_L_meet⟩
theorem wd_X9_meet : wdM MX9_meet ∈ AW := aw_of (i := 1464) (by decide +kernel) (by decide +kernel)
theorem aw_ml_L_203 : Cond.methodLink RL 203 yX9_meet ∈ AW := aw_of (i := 1461) (by decide +kernel) (by decide +kernel)
theorem im_X9_meet : Cond.instanceMethod yX9_meet ∈ AW := aw_of (i := 1462) (by decide +kernel) (by decide +kernel)
theorem se_X9_meet : Cond.selects RX9 yX9_meet yX9_meet ∈ AW := aw_of (i := 1463) (by decide +kernel) (by decide +kernel)
theorem lk_L_203 : LKV RL 203 MX9_meet 2 7 := ⟨⟨aw_ml_L_203, wd_X9_meet, ini_RX9, by decide +kernel, by decide +kernel, by decide⟩, im_X9_meet, _, _, _, _, cls_7, se_X9_meet⟩
theorem wd_L_quotient : wdM ML_quotient ∈ AW := aw_of (i := 924) (by decide +kernel) (by decide +kernel)
theorem aw_ml_L_204 : Cond.methodLink RL 204 yL_quotient ∈ AW := aw_of (i := 922) (by decide +kernel) (by decide +kernel)
theorem sm_L_quotient : Cond.static yL_quotient ∈ AW := aw_of (i := 923) (by decide +kernel) (by decide +kernel)
theorem lk_L_204 : LKS RL 204 ML_quotient 4 := ⟨⟨aw_ml_L_204, wd_L_quotient, ini_RL, by decide +kernel, by decide +kernel, by decide⟩, sm_L_quotient⟩
theorem wd_X9_quotient : wdM MX9_quotient ∈ AW := aw_of (i := 1468) (by decide +kernel) (by decide +kernel)
theorem aw_ml_L_206 : Cond.methodLink RL 206 yX9_quotient ∈ AW := aw_of (i := 1465) (by decide +kernel) (by decide +kernel)
theorem im_X9_quotient : Cond.instanceMethod yX9_quotient ∈ AW := aw_of (i := 1466) (by decide +kernel) (by decide +kernel)
theorem se_X9_quotient : Cond.selects RX9 yX9_quotient yX9_quotient ∈ AW := aw_of (i := 1467) (by decide +kernel) (by decide +kernel)
theorem lk_L_206 : LKV RL 206 MX9_quotient 2 7 := ⟨⟨aw_ml_L_206, wd_X9_quotient, ini_RX9, by decide +kernel, by decide +kernel, by decide⟩, im_X9_quotient, _, _, _, _, cls_7, se_X9_quotient⟩
theorem wd_L_remainder : wdM ML_remainder ∈ AW := aw_of (i := 931) (by decide +kernel) (by decide +kernel)
theorem aw_ml_L_207 : Cond.methodLink RL 207 yL_remainder ∈ AW := aw_of (i := 929) (by decide +kernel) (by decide +kernel)
theorem sm_L_remainder : Cond.static yL_remainder ∈ AW := aw_of (i := 930) (by decide +kernel) (by decide +kernel)
theorem lk_L_207 : LKS RL 207 ML_remainder 4 := ⟨⟨aw_ml_L_207, wd_L_remainder, ini_RL, by decide +kernel, by decide +kernel, by decide⟩, sm_L_remainder⟩
theorem wd_X9_remainder : wdM MX9_remainder ∈ AW := aw_of (i := 1472) (by decide +kernel) (by decide +kernel)
theorem aw_ml_L_209 : Cond.methodLink RL 209 yX9_remainder ∈ AW := aw_of (i := 1469) (by decide +kernel) (by decide +kernel)
theorem im_X9_remainder : Cond.instanceMethod yX9_remainder ∈ AW := aw_of (i := 1470) (by decide +kernel) (by decide +kernel)
theorem se_X9_remainder : Cond.selects RX9 yX9_remainder yX9_remainder ∈ AW := aw_of (i := 1471) (by decide +kernel) (by decide +kernel)
theorem lk_L_209 : LKV RL 209 MX9_remainder 2 7 := ⟨⟨aw_ml_L_209, wd_X9_remainder, ini_RX9, by decide +kernel, by decide +kernel, by decide⟩, im_X9_remainder, _, _, _, _, cls_7, se_X9_remainder⟩
theorem wd_L_supersets : wdM ML_supersets ∈ AW := aw_of (i := 938) (by decide +kernel) (by decide +kernel)
theorem aw_ml_L_210 : Cond.methodLink RL 210 yL_supersets ∈ AW := aw_of (i := 936) (by decide +kernel) (by decide +kernel)
theorem sm_L_supersets : Cond.static yL_supersets ∈ AW := aw_of (i := 937) (by decide +kernel) (by decide +kernel)
theorem lk_L_210 : LKS RL 210 ML_supersets 4 := ⟨⟨aw_ml_L_210, wd_L_supersets, ini_RL, by decide +kernel, by decide +kernel, by decide⟩, sm_L_supersets⟩
theorem wd_X9_supersets : wdM MX9_supersets ∈ AW := aw_of (i := 1476) (by decide +kernel) (by decide +kernel)
theorem aw_ml_L_212 : Cond.methodLink RL 212 yX9_supersets ∈ AW := aw_of (i := 1473) (by decide +kernel) (by decide +kernel)
theorem im_X9_supersets : Cond.instanceMethod yX9_supersets ∈ AW := aw_of (i := 1474) (by decide +kernel) (by decide +kernel)
theorem se_X9_supersets : Cond.selects RX9 yX9_supersets yX9_supersets ∈ AW := aw_of (i := 1475) (by decide +kernel) (by decide +kernel)
theorem lk_L_212 : LKV RL 212 MX9_supersets 2 7 := ⟨⟨aw_ml_L_212, wd_X9_supersets, ini_RX9, by decide +kernel, by decide +kernel, by decide⟩, im_X9_supersets, _, _, _, _, cls_7, se_X9_supersets⟩
theorem wd_L_subsets : wdM ML_subsets ∈ AW := aw_of (i := 945) (by decide +kernel) (by decide +kernel)
theorem aw_ml_L_213 : Cond.methodLink RL 213 yL_subsets ∈ AW := aw_of (i := 943) (by decide +kernel) (by decide +kernel)
theorem sm_L_subsets : Cond.static yL_subsets ∈ AW := aw_of (i := 944) (by decide +kernel) (by decide +kernel)
theorem lk_L_213 : LKS RL 213 ML_subsets 4 := ⟨⟨aw_ml_L_213, wd_L_subsets, ini_RL, by decide +kernel, by decide +kernel, by decide⟩, sm_L_subsets⟩
theorem wd_X9_subsets : wdM MX9_subsets ∈ AW := aw_of (i := 1480) (by decide +kernel) (by decide +kernel)
theorem aw_ml_L_215 : Cond.methodLink RL 215 yX9_subsets ∈ AW := aw_of (i := 1477) (by decide +kernel) (by decide +kernel)
theorem im_X9_subsets : Cond.instanceMethod yX9_subsets ∈ AW := aw_of (i := 1478) (by decide +kernel) (by decide +kernel)
theorem se_X9_subsets : Cond.selects RX9 yX9_subsets yX9_subsets ∈ AW := aw_of (i := 1479) (by decide +kernel) (by decide +kernel)
theorem lk_L_215 : LKV RL 215 MX9_subsets 2 7 := ⟨⟨aw_ml_L_215, wd_X9_subsets, ini_RX9, by decide +kernel, by decide +kernel, by decide⟩, im_X9_subsets, _, _, _, _, cls_7, se_X9_subsets⟩
theorem wd_L_maximal : wdM ML_maximal ∈ AW := aw_of (i := 952) (by decide +kernel) (by decide +kernel)
theorem aw_ml_L_216 : Cond.methodLink RL 216 yL_maximal ∈ AW := aw_of (i := 950) (by decide +kernel) (by decide +kernel)
theorem sm_L_maximal : Cond.static yL_maximal ∈ AW := aw_of (i := 951) (by decide +kernel) (by decide +kernel)
theorem lk_L_216 : LKS RL 216 ML_maximal 3 := ⟨⟨aw_ml_L_216, wd_L_maximal, ini_RL, by decide +kernel, by decide +kernel, by decide⟩, sm_L_maximal⟩
theorem wd_X9_maximal : wdM MX9_maximal ∈ AW := aw_of (i := 1484) (by decide +kernel) (by decide +kernel)
theorem aw_ml_L_218 : Cond.methodLink RL 218 yX9_maximal ∈ AW := aw_of (i := 1481) (by decide +kernel) (by decide +kernel)
theorem im_X9_maximal : Cond.instanceMethod yX9_maximal ∈ AW := aw_of (i := 1482) (by decide +kernel) (by decide +kernel)
theorem se_X9_maximal : Cond.selects RX9 yX9_maximal yX9_maximal ∈ AW := aw_of (i := 1483) (by decide +kernel) (by decide +kernel)
theorem lk_L_218 : LKV RL 218 MX9_maximal 1 7 := ⟨⟨aw_ml_L_218, wd_X9_maximal, ini_RX9, by decide +kernel, by decide +kernel, by decide⟩, im_X9_maximal, _, _, _, _, cls_7, se_X9_maximal⟩
theorem wd_L_minimal : wdM ML_minimal ∈ AW := aw_of (i := 964) (by decide +kernel) (by decide +kernel)
theorem aw_ml_L_219 : Cond.methodLink RL 219 yL_minimal ∈ AW := aw_of (i := 962) (by decide +kernel) (by decide +kernel)
theorem sm_L_minimal : Cond.static yL_minimal ∈ AW := aw_of (i := 963) (by decide +kernel) (by decide +kernel)
theorem lk_L_219 : LKS RL 219 ML_minimal 3 := ⟨⟨aw_ml_L_219, wd_L_minimal, ini_RL, by decide +kernel, by decide +kernel, by decide⟩, sm_L_minimal⟩
theorem wd_X9_minimal : wdM MX9_minimal ∈ AW := aw_of (i := 1492) (by decide +kernel) (by decide +kernel)
theorem aw_ml_L_221 : Cond.methodLink RL 221 yX9_minimal ∈ AW := aw_of (i := 1489) (by decide +kernel) (by decide +kernel)
theorem im_X9_minimal : Cond.instanceMethod yX9_minimal ∈ AW := aw_of (i := 1490) (by decide +kernel) (by decide +kernel)
theorem se_X9_minimal : Cond.selects RX9 yX9_minimal yX9_minimal ∈ AW := aw_of (i := 1491) (by decide +kernel) (by decide +kernel)
theorem lk_L_221 : LKV RL 221 MX9_minimal 1 7 := ⟨⟨aw_ml_L_221, wd_X9_minimal, ini_RX9, by decide +kernel, by decide +kernel, by decide⟩, im_X9_minimal, _, _, _, _, cls_7, se_X9_minimal⟩
theorem wd_L_hitting : wdM ML_hitting ∈ AW := aw_of (i := 971) (by decide +kernel) (by decide +kernel)
theorem aw_ml_L_222 : Cond.methodLink RL 222 yL_hitting ∈ AW := aw_of (i := 969) (by decide +kernel) (by decide +kernel)
theorem sm_L_hitting : Cond.static yL_hitting ∈ AW := aw_of (i := 970) (by decide +kernel) (by decide +kernel)
theorem lk_L_222 : LKS RL 222 ML_hitting 3 := ⟨⟨aw_ml_L_222, wd_L_hitting, ini_RL, by decide +kernel, by decide +kernel, by decide⟩, sm_L_hitting⟩
theorem wd_X9_hitting : wdM MX9_hitting ∈ AW := aw_of (i := 1496) (by decide +kernel) (by decide +kernel)
theorem aw_ml_L_224 : Cond.methodLink RL 224 yX9_hitting ∈ AW := aw_of (i := 1493) (by decide +kernel) (by decide +kernel)
theorem im_X9_hitting : Cond.instanceMethod yX9_hitting ∈ AW := aw_of (i := 1494) (by decide +kernel) (by decide +kernel)
theorem se_X9_hitting : Cond.selects RX9 yX9_hitting yX9_hitting ∈ AW := aw_of (i := 1495) (by decide +kernel) (by decide +kernel)
theorem lk_L_224 : LKV RL 224 MX9_hitting 1 7 := ⟨⟨aw_ml_L_224, wd_X9_hitting, ini_RX9, by decide +kernel, by decide +kernel, by decide⟩, im_X9_hitting, _, _, _, _, cls_7, se_X9_hitting⟩
theorem wd_L_closure : wdM ML_closure ∈ AW := aw_of (i := 978) (by decide +kernel) (by decide +kernel)
theorem aw_ml_L_225 : Cond.methodLink RL 225 yL_closure ∈ AW := aw_of (i := 976) (by decide +kernel) (by decide +kernel)
theorem sm_L_closure : Cond.static yL_closure ∈ AW := aw_of (i := 977) (by decide +kernel) (by decide +kernel)
theorem lk_L_225 : LKS RL 225 ML_closure 3 := ⟨⟨aw_ml_L_225, wd_L_closure, ini_RL, by decide +kernel, by decide +kernel, by decide⟩, sm_L_closure⟩
theorem wd_X9_closure : wdM MX9_closure ∈ AW := aw_of (i := 1500) (by decide +kernel) (by decide +kernel)
theorem aw_ml_L_227 : Cond.methodLink RL 227 yX9_closure ∈ AW := aw_of (i := 1497) (by decide +kernel) (by decide +kernel)
theorem im_X9_closure : Cond.instanceMethod yX9_closure ∈ AW := aw_of (i := 1498) (by decide +kernel) (by decide +kernel)
theorem se_X9_closure : Cond.selects RX9 yX9_closure yX9_closure ∈ AW := aw_of (i := 1499) (by decide +kernel) (by decide +kernel)
theorem lk_L_227 : LKV RL 227 MX9_closure 1 7 := ⟨⟨aw_ml_L_227, wd_X9_closure, ini_RX9, by decide +kernel, by decide +kernel, by decide⟩, im_X9_closure, _, _, _, _, cls_7, se_X9_closure⟩
theorem wd_L_change : wdM ML_change ∈ AW := aw_of (i := 985) (by decide +kernel) (by decide +kernel)
theorem aw_ml_L_228 : Cond.methodLink RL 228 yL_change ∈ AW := aw_of (i := 983) (by decide +kernel) (by decide +kernel)
theorem sm_L_change : Cond.static yL_change ∈ AW := aw_of (i := 984) (by decide +kernel) (by decide +kernel)
theorem lk_L_228 : LKS RL 228 ML_change 4 := ⟨⟨aw_ml_L_228, wd_L_change, ini_RL, by decide +kernel, by decide +kernel, by decide⟩, sm_L_change⟩
theorem wd_X9_change : wdM MX9_change ∈ AW := aw_of (i := 1504) (by decide +kernel) (by decide +kernel)
theorem aw_ml_L_230 : Cond.methodLink RL 230 yX9_change ∈ AW := aw_of (i := 1501) (by decide +kernel) (by decide +kernel)
theorem im_X9_change : Cond.instanceMethod yX9_change ∈ AW := aw_of (i := 1502) (by decide +kernel) (by decide +kernel)
theorem se_X9_change : Cond.selects RX9 yX9_change yX9_change ∈ AW := aw_of (i := 1503) (by decide +kernel) (by decide +kernel)
theorem lk_L_230 : LKV RL 230 MX9_change 2 7 := ⟨⟨aw_ml_L_230, wd_X9_change, ini_RX9, by decide +kernel, by decide +kernel, by decide⟩, im_X9_change, _, _, _, _, cls_7, se_X9_change⟩
theorem wd_L_withCost : wdM ML_withCost ∈ AW := aw_of (i := 997) (by decide +kernel) (by decide +kernel)
theorem aw_ml_L_231 : Cond.methodLink RL 231 yL_withCost ∈ AW := aw_of (i := 995) (by decide +kernel) (by decide +kernel)
theorem sm_L_withCost : Cond.static yL_withCost ∈ AW := aw_of (i := 996) (by decide +kernel) (by decide +kernel)
theorem lk_L_231 : LKS RL 231 ML_withCost 5 := ⟨⟨aw_ml_L_231, wd_L_withCost, ini_RL, by decide +kernel, by decide +kernel, by decide⟩, sm_L_withCost⟩
theorem wd_X9_withCost : wdM MX9_withCost ∈ AW := aw_of (i := 1511) (by decide +kernel) (by decide +kernel)
theorem aw_ml_L_234 : Cond.methodLink RL 234 yX9_withCost ∈ AW := aw_of (i := 1508) (by decide +kernel) (by decide +kernel)
theorem im_X9_withCost : Cond.instanceMethod yX9_withCost ∈ AW := aw_of (i := 1509) (by decide +kernel) (by decide +kernel)
theorem se_X9_withCost : Cond.selects RX9 yX9_withCost yX9_withCost ∈ AW := aw_of (i := 1510) (by decide +kernel) (by decide +kernel)
theorem lk_L_234 : LKV RL 234 MX9_withCost 3 7 := ⟨⟨aw_ml_L_234, wd_X9_withCost, ini_RX9, by decide +kernel, by decide +kernel, by decide⟩, im_X9_withCost, _, _, _, _, cls_7, se_X9_withCost⟩
theorem wd_L_count : wdM ML_count ∈ AW := aw_of (i := 1008) (by decide +kernel) (by decide +kernel)
theorem aw_ml_L_235 : Cond.methodLink RL 235 yL_count ∈ AW := aw_of (i := 1006) (by decide +kernel) (by decide +kernel)
theorem sm_L_count : Cond.static yL_count ∈ AW := aw_of (i := 1007) (by decide +kernel) (by decide +kernel)
theorem lk_L_235 : LKS RL 235 ML_count 3 := ⟨⟨aw_ml_L_235, wd_L_count, ini_RL, by decide +kernel, by decide +kernel, by decide⟩, sm_L_count⟩
theorem wd_X9_count : wdM MX9_count ∈ AW := aw_of (i := 1519) (by decide +kernel) (by decide +kernel)
theorem aw_ml_L_237 : Cond.methodLink RL 237 yX9_count ∈ AW := aw_of (i := 1516) (by decide +kernel) (by decide +kernel)
theorem im_X9_count : Cond.instanceMethod yX9_count ∈ AW := aw_of (i := 1517) (by decide +kernel) (by decide +kernel)
theorem se_X9_count : Cond.selects RX9 yX9_count yX9_count ∈ AW := aw_of (i := 1518) (by decide +kernel) (by decide +kernel)
theorem lk_L_237 : LKV RL 237 MX9_count 1 7 := ⟨⟨aw_ml_L_237, wd_X9_count, ini_RX9, by decide +kernel, by decide +kernel, by decide⟩, im_X9_count, _, _, _, _, cls_7, se_X9_count⟩
theorem wd_L_countOfSize : wdM ML_countOfSize ∈ AW := aw_of (i := 1015) (by decide +kernel) (by decide +kernel)
theorem aw_ml_L_238 : Cond.methodLink RL 238 yL_countOfSize ∈ AW := aw_of (i := 1013) (by decide +kernel) (by decide +kernel)
theorem sm_L_countOfSize : Cond.static yL_countOfSize ∈ AW := aw_of (i := 1014) (by decide +kernel) (by decide +kernel)
theorem lk_L_238 : LKS RL 238 ML_countOfSize 4 := ⟨⟨aw_ml_L_238, wd_L_countOfSize, ini_RL, by decide +kernel, by decide +kernel, by decide⟩, sm_L_countOfSize⟩
theorem wd_X9_countOfSize : wdM MX9_countOfSize ∈ AW := aw_of (i := 1523) (by decide +kernel) (by decide +kernel)
theorem aw_ml_L_240 : Cond.methodLink RL 240 yX9_countOfSize ∈ AW := aw_of (i := 1520) (by decide +kernel) (by decide +kernel)
theorem im_X9_countOfSize : Cond.instanceMethod yX9_countOfSize ∈ AW := aw_of (i := 1521) (by decide +kernel) (by decide +kernel)
theorem se_X9_countOfSize : Cond.selects RX9 yX9_countOfSize yX9_countOfSize ∈ AW := aw_of (i := 1522) (by decide +kernel) (by decide +kernel)
theorem lk_L_240 : LKV RL 240 MX9_countOfSize 2 7 := ⟨⟨aw_ml_L_240, wd_X9_countOfSize, ini_RX9, by decide +kernel, by decide +kernel, by decide⟩, im_X9_countOfSize, _, _, _, _, cls_7, se_X9_countOfSize⟩
theorem wd_L_countWith : wdM ML_countWith ∈ AW := aw_of (i := 1022) (by decide +kernel) (by decide +kernel)
theorem aw_ml_L_241 : Cond.methodLink RL 241 yL_countWith ∈ AW := aw_of (i := 1020) (by decide +kernel) (by decide +kernel)
theorem sm_L_countWith : Cond.static yL_countWith ∈ AW := aw_of (i := 1021) (by decide +kernel) (by decide +kernel)
theorem lk_L_241 : LKS RL 241 ML_countWith 4 := ⟨⟨aw_ml_L_241, wd_L_countWith, ini_RL, by decide +kernel, by decide +kernel, by decide⟩, sm_L_countWith⟩
theorem wd_X9_countWith : wdM MX9_countWith ∈ AW := aw_of (i := 1527) (by decide +kernel) (by decide +kernel)
theorem aw_ml_L_243 : Cond.methodLink RL 243 yX9_countWith ∈ AW := aw_of (i := 1524) (by decide +kernel) (by decide +kernel)
theorem im_X9_countWith : Cond.instanceMethod yX9_countWith ∈ AW := aw_of (i := 1525) (by decide +kernel) (by decide +kernel)
theorem se_X9_countWith : Cond.selects RX9 yX9_countWith yX9_countWith ∈ AW := aw_of (i := 1526) (by decide +kernel) (by decide +kernel)
theorem lk_L_243 : LKV RL 243 MX9_countWith 2 7 := ⟨⟨aw_ml_L_243, wd_X9_countWith, ini_RX9, by decide +kernel, by decide +kernel, by decide⟩, im_X9_countWith, _, _, _, _, cls_7, se_X9_countWith⟩
theorem wd_L_contains : wdM ML_contains ∈ AW := aw_of (i := 1029) (by decide +kernel) (by decide +kernel)
theorem aw_ml_L_244 : Cond.methodLink RL 244 yL_contains ∈ AW := aw_of (i := 1027) (by decide +kernel) (by decide +kernel)
theorem sm_L_contains : Cond.static yL_contains ∈ AW := aw_of (i := 1028) (by decide +kernel) (by decide +kernel)
theorem lk_L_244 : LKS RL 244 ML_contains 4 := ⟨⟨aw_ml_L_244, wd_L_contains, ini_RL, by decide +kernel, by decide +kernel, by decide⟩, sm_L_contains⟩
theorem wd_X9_contains : wdM MX9_contains ∈ AW := aw_of (i := 1531) (by decide +kernel) (by decide +kernel)
theorem aw_ml_L_246 : Cond.methodLink RL 246 yX9_contains ∈ AW := aw_of (i := 1528) (by decide +kernel) (by decide +kernel)
theorem im_X9_contains : Cond.instanceMethod yX9_contains ∈ AW := aw_of (i := 1529) (by decide +kernel) (by decide +kernel)
theorem se_X9_contains : Cond.selects RX9 yX9_contains yX9_contains ∈ AW := aw_of (i := 1530) (by decide +kernel) (by decide +kernel)
theorem lk_L_246 : LKV RL 246 MX9_contains 2 7 := ⟨⟨aw_ml_L_246, wd_X9_contains, ini_RX9, by decide +kernel, by decide +kernel, by decide⟩, im_X9_contains, _, _, _, _, cls_7, se_X9_contains⟩
theorem wd_L_areEqual : wdM ML_areEqual ∈ AW := aw_of (i := 1037) (by decide +kernel) (by decide +kernel)
theorem aw_ml_L_247 : Cond.methodLink RL 247 yL_areEqual ∈ AW := aw_of (i := 1035) (by decide +kernel) (by decide +kernel)
theorem sm_L_areEqual : Cond.static yL_areEqual ∈ AW := aw_of (i := 1036) (by decide +kernel) (by decide +kernel)
theorem lk_L_247 : LKS RL 247 ML_areEqual 4 := ⟨⟨aw_ml_L_247, wd_L_areEqual, ini_RL, by decide +kernel, by decide +kernel, by decide⟩, sm_L_areEqual⟩
theorem wd_X9_areEqual : wdM MX9_areEqual ∈ AW := aw_of (i := 1535) (by decide +kernel) (by decide +kernel)
theorem aw_ml_L_249 : Cond.methodLink RL 249 yX9_areEqual ∈ AW := aw_of (i := 1532) (by decide +kernel) (by decide +kernel)
theorem im_X9_areEqual : Cond.instanceMethod yX9_areEqual ∈ AW := aw_of (i := 1533) (by decide +kernel) (by decide +kernel)
theorem se_X9_areEqual : Cond.selects RX9 yX9_areEqual yX9_areEqual ∈ AW := aw_of (i := 1534) (by decide +kernel) (by decide +kernel)
theorem lk_L_249 : LKV RL 249 MX9_areEqual 2 7 := ⟨⟨aw_ml_L_249, wd_X9_areEqual, ini_RX9, by decide +kernel, by decide +kernel, by decide⟩, im_X9_areEqual, _, _, _, _, cls_7, se_X9_areEqual⟩
theorem wd_L_isPartOf : wdM ML_isPartOf ∈ AW := aw_of (i := 1047) (by decide +kernel) (by decide +kernel)
theorem aw_ml_L_250 : Cond.methodLink RL 250 yL_isPartOf ∈ AW := aw_of (i := 1045) (by decide +kernel) (by decide +kernel)
theorem sm_L_isPartOf : Cond.static yL_isPartOf ∈ AW := aw_of (i := 1046) (by decide +kernel) (by decide +kernel)
theorem lk_L_250 : LKS RL 250 ML_isPartOf 4 := ⟨⟨aw_ml_L_250, wd_L_isPartOf, ini_RL, by decide +kernel, by decide +kernel, by decide⟩, sm_L_isPartOf⟩
theorem wd_X9_isPartOf : wdM MX9_isPartOf ∈ AW := aw_of (i := 1539) (by decide +kernel) (by decide +kernel)
theorem aw_ml_L_252 : Cond.methodLink RL 252 yX9_isPartOf ∈ AW := aw_of (i := 1536) (by decide +kernel) (by decide +kernel)
theorem im_X9_isPartOf : Cond.instanceMethod yX9_isPartOf ∈ AW := aw_of (i := 1537) (by decide +kernel) (by decide +kernel)
theorem se_X9_isPartOf : Cond.selects RX9 yX9_isPartOf yX9_isPartOf ∈ AW := aw_of (i := 1538) (by decide +kernel) (by decide +kernel)
theorem lk_L_252 : LKV RL 252 MX9_isPartOf 2 7 := ⟨⟨aw_ml_L_252, wd_X9_isPartOf, ini_RX9, by decide +kernel, by decide +kernel, by decide⟩, im_X9_isPartOf, _, _, _, _, cls_7, se_X9_isPartOf⟩
theorem wd_L_setAt : wdM ML_setAt ∈ AW := aw_of (i := 1054) (by decide +kernel) (by decide +kernel)
theorem aw_ml_L_253 : Cond.methodLink RL 253 yL_setAt ∈ AW := aw_of (i := 1052) (by decide +kernel) (by decide +kernel)
theorem sm_L_setAt : Cond.static yL_setAt ∈ AW := aw_of (i := 1053) (by decide +kernel) (by decide +kernel)
theorem lk_L_253 : LKS RL 253 ML_setAt 4 := ⟨⟨aw_ml_L_253, wd_L_setAt, ini_RL, by decide +kernel, by decide +kernel, by decide⟩, sm_L_setAt⟩
theorem wd_X9_setAt : wdM MX9_setAt ∈ AW := aw_of (i := 1543) (by decide +kernel) (by decide +kernel)
theorem aw_ml_L_255 : Cond.methodLink RL 255 yX9_setAt ∈ AW := aw_of (i := 1540) (by decide +kernel) (by decide +kernel)
theorem im_X9_setAt : Cond.instanceMethod yX9_setAt ∈ AW := aw_of (i := 1541) (by decide +kernel) (by decide +kernel)
theorem se_X9_setAt : Cond.selects RX9 yX9_setAt yX9_setAt ∈ AW := aw_of (i := 1542) (by decide +kernel) (by decide +kernel)
theorem lk_L_255 : LKV RL 255 MX9_setAt 2 7 := ⟨⟨aw_ml_L_255, wd_X9_setAt, ini_RX9, by decide +kernel, by decide +kernel, by decide⟩, im_X9_setAt, _, _, _, _, cls_7, se_X9_setAt⟩
theorem wd_L_indexOf : wdM ML_indexOf ∈ AW := aw_of (i := 1061) (by decide +kernel) (by decide +kernel)
theorem aw_ml_L_256 : Cond.methodLink RL 256 yL_indexOf ∈ AW := aw_of (i := 1059) (by decide +kernel) (by decide +kernel)
theorem sm_L_indexOf : Cond.static yL_indexOf ∈ AW := aw_of (i := 1060) (by decide +kernel) (by decide +kernel)
theorem lk_L_256 : LKS RL 256 ML_indexOf 4 := ⟨⟨aw_ml_L_256, wd_L_indexOf, ini_RL, by decide +kernel, by decide +kernel, by decide⟩, sm_L_indexOf⟩
theorem wd_X9_indexOf : wdM MX9_indexOf ∈ AW := aw_of (i := 1547) (by decide +kernel) (by decide +kernel)
theorem aw_ml_L_258 : Cond.methodLink RL 258 yX9_indexOf ∈ AW := aw_of (i := 1544) (by decide +kernel) (by decide +kernel)
theorem im_X9_indexOf : Cond.instanceMethod yX9_indexOf ∈ AW := aw_of (i := 1545) (by decide +kernel) (by decide +kernel)
theorem se_X9_indexOf : Cond.selects RX9 yX9_indexOf yX9_indexOf ∈ AW := aw_of (i := 1546) (by decide +kernel) (by decide +kernel)
theorem lk_L_258 : LKV RL 258 MX9_indexOf 2 7 := ⟨⟨aw_ml_L_258, wd_X9_indexOf, ini_RX9, by decide +kernel, by decide +kernel, by decide⟩, im_X9_indexOf, _, _, _, _, cls_7, se_X9_indexOf⟩
theorem wd_L_setCost : wdM ML_setCost ∈ AW := aw_of (i := 1071) (by decide +kernel) (by decide +kernel)
theorem aw_ml_L_259 : Cond.methodLink RL 259 yL_setCost ∈ AW := aw_of (i := 1069) (by decide +kernel) (by decide +kernel)
theorem sm_L_setCost : Cond.static yL_setCost ∈ AW := aw_of (i := 1070) (by decide +kernel) (by decide +kernel)
theorem lk_L_259 : LKS RL 259 ML_setCost 4 := ⟨⟨aw_ml_L_259, wd_L_setCost, ini_RL, by decide +kernel, by decide +kernel, by decide⟩, sm_L_setCost⟩
theorem wd_X9_setCost : wdM MX9_setCost ∈ AW := aw_of (i := 1551) (by decide +kernel) (by decide +kernel)
theorem aw_ml_L_261 : Cond.methodLink RL 261 yX9_setCost ∈ AW := aw_of (i := 1548) (by decide +kernel) (by decide +kernel)
theorem im_X9_setCost : Cond.instanceMethod yX9_setCost ∈ AW := aw_of (i := 1549) (by decide +kernel) (by decide +kernel)
theorem se_X9_setCost : Cond.selects RX9 yX9_setCost yX9_setCost ∈ AW := aw_of (i := 1550) (by decide +kernel) (by decide +kernel)
theorem lk_L_261 : LKV RL 261 MX9_setCost 2 7 := ⟨⟨aw_ml_L_261, wd_X9_setCost, ini_RX9, by decide +kernel, by decide +kernel, by decide⟩, im_X9_setCost, _, _, _, _, cls_7, se_X9_setCost⟩
theorem wd_L_leastCost : wdM ML_leastCost ∈ AW := aw_of (i := 1082) (by decide +kernel) (by decide +kernel)
theorem aw_ml_L_262 : Cond.methodLink RL 262 yL_leastCost ∈ AW := aw_of (i := 1080) (by decide +kernel) (by decide +kernel)
theorem sm_L_leastCost : Cond.static yL_leastCost ∈ AW := aw_of (i := 1081) (by decide +kernel) (by decide +kernel)
theorem lk_L_262 : LKS RL 262 ML_leastCost 3 := ⟨⟨aw_ml_L_262, wd_L_leastCost, ini_RL, by decide +kernel, by decide +kernel, by decide⟩, sm_L_leastCost⟩
theorem wd_X9_leastCost : wdM MX9_leastCost ∈ AW := aw_of (i := 1555) (by decide +kernel) (by decide +kernel)
theorem aw_ml_L_264 : Cond.methodLink RL 264 yX9_leastCost ∈ AW := aw_of (i := 1552) (by decide +kernel) (by decide +kernel)
theorem im_X9_leastCost : Cond.instanceMethod yX9_leastCost ∈ AW := aw_of (i := 1553) (by decide +kernel) (by decide +kernel)
theorem se_X9_leastCost : Cond.selects RX9 yX9_leastCost yX9_leastCost ∈ AW := aw_of (i := 1554) (by decide +kernel) (by decide +kernel)
theorem lk_L_264 : LKV RL 264 MX9_leastCost 1 7 := ⟨⟨aw_ml_L_264, wd_X9_leastCost, ini_RX9, by decide +kernel, by decide +kernel, by decide⟩, im_X9_leastCost, _, _, _, _, cls_7, se_X9_leastCost⟩
theorem wd_L_meanCost : wdM ML_meanCost ∈ AW := aw_of (i := 1094) (by decide +kernel) (by decide +kernel)
theorem aw_ml_L_265 : Cond.methodLink RL 265 yL_meanCost ∈ AW := aw_of (i := 1092) (by decide +kernel) (by decide +kernel)
theorem sm_L_meanCost : Cond.static yL_meanCost ∈ AW := aw_of (i := 1093) (by decide +kernel) (by decide +kernel)
theorem lk_L_265 : LKS RL 265 ML_meanCost 3 := ⟨⟨aw_ml_L_265, wd_L_meanCost, ini_RL, by decide +kernel, by decide +kernel, by decide⟩, sm_L_meanCost⟩
theorem wd_X9_meanCost : wdM MX9_meanCost ∈ AW := aw_of (i := 1560) (by decide +kernel) (by decide +kernel)
theorem aw_ml_L_268 : Cond.methodLink RL 268 yX9_meanCost ∈ AW := aw_of (i := 1557) (by decide +kernel) (by decide +kernel)
theorem im_X9_meanCost : Cond.instanceMethod yX9_meanCost ∈ AW := aw_of (i := 1558) (by decide +kernel) (by decide +kernel)
theorem se_X9_meanCost : Cond.selects RX9 yX9_meanCost yX9_meanCost ∈ AW := aw_of (i := 1559) (by decide +kernel) (by decide +kernel)
theorem lk_L_268 : LKV RL 268 MX9_meanCost 1 7 := ⟨⟨aw_ml_L_268, wd_X9_meanCost, ini_RX9, by decide +kernel, by decide +kernel, by decide⟩, im_X9_meanCost, _, _, _, _, cls_7, se_X9_meanCost⟩
theorem wd_L_enumerate : wdM ML_enumerate ∈ AW := aw_of (i := 1101) (by decide +kernel) (by decide +kernel)
theorem aw_ml_L_269 : Cond.methodLink RL 269 yL_enumerate ∈ AW := aw_of (i := 1099) (by decide +kernel) (by decide +kernel)
theorem sm_L_enumerate : Cond.static yL_enumerate ∈ AW := aw_of (i := 1100) (by decide +kernel) (by decide +kernel)
theorem lk_L_269 : LKS RL 269 ML_enumerate 5 := ⟨⟨aw_ml_L_269, wd_L_enumerate, ini_RL, by decide +kernel, by decide +kernel, by decide⟩, sm_L_enumerate⟩
theorem wd_X9_enumerate : wdM MX9_enumerate ∈ AW := aw_of (i := 1564) (by decide +kernel) (by decide +kernel)
theorem aw_ml_L_271 : Cond.methodLink RL 271 yX9_enumerate ∈ AW := aw_of (i := 1561) (by decide +kernel) (by decide +kernel)
theorem im_X9_enumerate : Cond.instanceMethod yX9_enumerate ∈ AW := aw_of (i := 1562) (by decide +kernel) (by decide +kernel)
theorem se_X9_enumerate : Cond.selects RX9 yX9_enumerate yX9_enumerate ∈ AW := aw_of (i := 1563) (by decide +kernel) (by decide +kernel)
theorem lk_L_271 : LKV RL 271 MX9_enumerate 3 7 := ⟨⟨aw_ml_L_271, wd_X9_enumerate, ini_RX9, by decide +kernel, by decide +kernel, by decide⟩, im_X9_enumerate, _, _, _, _, cls_7, se_X9_enumerate⟩
theorem wd_L_enumerated : wdM ML_enumerated ∈ AW := aw_of (i := 1126) (by decide +kernel) (by decide +kernel)
theorem aw_ml_L_272 : Cond.methodLink RL 272 yL_enumerated ∈ AW := aw_of (i := 1124) (by decide +kernel) (by decide +kernel)
theorem sm_L_enumerated : Cond.static yL_enumerated ∈ AW := aw_of (i := 1125) (by decide +kernel) (by decide +kernel)
theorem lk_L_272 : LKS RL 272 ML_enumerated 3 := ⟨⟨aw_ml_L_272, wd_L_enumerated, ini_RL, by decide +kernel, by decide +kernel, by decide⟩, sm_L_enumerated⟩
theorem wd_X9_enumerated : wdM MX9_enumerated ∈ AW := aw_of (i := 1568) (by decide +kernel) (by decide +kernel)
theorem aw_ml_L_274 : Cond.methodLink RL 274 yX9_enumerated ∈ AW := aw_of (i := 1565) (by decide +kernel) (by decide +kernel)
theorem im_X9_enumerated : Cond.instanceMethod yX9_enumerated ∈ AW := aw_of (i := 1566) (by decide +kernel) (by decide +kernel)
theorem se_X9_enumerated : Cond.selects RX9 yX9_enumerated yX9_enumerated ∈ AW := aw_of (i := 1567) (by decide +kernel) (by decide +kernel)
theorem lk_L_274 : LKV RL 274 MX9_enumerated 1 7 := ⟨⟨aw_ml_L_274, wd_X9_enumerated, ini_RX9, by decide +kernel, by decide +kernel, by decide⟩, im_X9_enumerated, _, _, _, _, cls_7, se_X9_enumerated⟩
theorem wd_X8_digest : wdM MX8_digest ∈ AW := aw_of (i := 312) (by decide +kernel) (by decide +kernel)
theorem aw_ml_L_275 : Cond.methodLink RL 275 yX8_digest ∈ AW := aw_of (i := 309) (by decide +kernel) (by decide +kernel)
theorem im_X8_digest : Cond.instanceMethod yX8_digest ∈ AW := aw_of (i := 310) (by decide +kernel) (by decide +kernel)
theorem se_X8_digest : Cond.selects RX8 yX8_digest yX8_digest ∈ AW := aw_of (i := 311) (by decide +kernel) (by decide +kernel)
theorem lk_L_275 : LKV RL 275 MX8_digest 0 6 := ⟨⟨aw_ml_L_275, wd_X8_digest, ini_RX8, by decide +kernel, by decide +kernel, by decide⟩, im_X8_digest, _, _, _, _, cls_6, se_X8_digest⟩
theorem wd_X9_digest : wdM MX9_digest ∈ AW := aw_of (i := 1572) (by decide +kernel) (by decide +kernel)
theorem aw_ml_L_279 : Cond.methodLink RL 279 yX9_digest ∈ AW := aw_of (i := 1569) (by decide +kernel) (by decide +kernel)
theorem im_X9_digest : Cond.instanceMethod yX9_digest ∈ AW := aw_of (i := 1570) (by decide +kernel) (by decide +kernel)
theorem se_X9_digest : Cond.selects RX9 yX9_digest yX9_digest ∈ AW := aw_of (i := 1571) (by decide +kernel) (by decide +kernel)
theorem lk_L_279 : LKV RL 279 MX9_digest 0 7 := ⟨⟨aw_ml_L_279, wd_X9_digest, ini_RX9, by decide +kernel, by decide +kernel, by decide⟩, im_X9_digest, _, _, _, _, cls_7, se_X9_digest⟩
theorem ao_F : Cond.arrayOver (.object RX4) ∈ lw_tbl := List.mem_of_getElem? (i := 117) (by decide +kernel)
theorem ao_J : Cond.arrayOver (.array .long) ∈ lw_tbl := List.mem_of_getElem? (i := 220) (by decide +kernel)
