def mt_X5_allows : mt_ := (yX5_allows, cX5_allows, 2, (some .boolean))
def mt_X5_renew : mt_ := (yX5_renew, cX5_renew, 5, none)
def mt_X6_refuse : mt_ := (yX6_refuse, cX6_refuse, 2, (some .int))
def mt_X7_row : mt_ := (yX7_row, cX7_row, 3, (some .int))
def mt_X5_lacks : mt_ := (yX5_lacks, cX5_lacks, 2, (some .boolean))
def mt_X5_findingAt : mt_ := (yX5_findingAt, cX5_findingAt, 3, (some .int))
def mt_X6_tell : mt_ := (yX6_tell, cX6_tell, 2, (some .int))
def mt_X7_lay : mt_ := (yX7_lay, cX7_lay, 6, (some .int))
def mt_X7_at : mt_ := (yX7_at, cX7_at, 4, (some .int))
def mt_X7_tear : mt_ := (yX7_tear, cX7_tear, 2, (some .int))
def mt_X5_spans : mt_ := (yX5_spans, cX5_spans, 4, (some .boolean))
def mt_X7_copy : mt_ := (yX7_copy, cX7_copy, 6, (some .int))
def mt_X5_sum : mt_ := (yX5_sum, cX5_sum, 5, (some .long))
def mt_X7_mean : mt_ := (yX7_mean, cX7_mean, 3, (some .int))
def mt_X7_text : mt_ := (yX7_text, cX7_text, 3, (some .int))
def mt_X7_put : mt_ := (yX7_put, cX7_put, 6, (some .int))
def mt_X4_kindBy : mt_ := (yX4_kindBy, cX4_kindBy, 2, (some .int))
def mt_X4_opensItem : mt_ := (yX4_opensItem, cX4_opensItem, 4, (some .boolean))
def mt_X4_takesFigure : mt_ := (yX4_takesFigure, cX4_takesFigure, 5, (some .boolean))
def mt_X4_goesOn : mt_ := (yX4_goesOn, cX4_goesOn, 2, (some .boolean))
def mt_X4_into : mt_ := (yX4_into, cX4_into, 5, (some .int))
def mt_X7_fault : mt_ := (yX7_fault, cX7_fault, 2, (some .int))
def mt_X2_repeat : mt_ := (yX2_repeat, cX2_repeat, 5, none)
def mt_X2_goBack : mt_ := (yX2_goBack, cX2_goBack, 3, none)
def mt_X7_office : mt_ := (yX7_office, cX7_office, 4, (some .int))
def mt_X2_has : mt_ := (yX2_has, cX2_has, 3, (some .boolean))
def mt_X2_together : mt_ := (yX2_together, cX2_together, 4, (some .int))
def mt_X2_ofHead : mt_ := (yX2_ofHead, cX2_ofHead, 3, (some .int))
def mt_X7_head : mt_ := (yX7_head, cX7_head, 3, (some .int))
def mt_X7_thumb : mt_ := (yX7_thumb, cX7_thumb, 3, (some .int))
def mt_X7_post : mt_ := (yX7_post, cX7_post, 3, (some .int))
def mt_X2_isOf : mt_ := (yX2_isOf, cX2_isOf, 3, (some .boolean))
def mt_X2_felt : mt_ := (yX2_felt, cX2_felt, 5, (some .int))
def mt_X2_middle : mt_ := (yX2_middle, cX2_middle, 4, (some .int))
def mt_X2_middleBy : mt_ := (yX2_middleBy, cX2_middleBy, 5, (some .int))
def mt_X1_dull : mt_ := (yX1_dull, cX1_dull, 5, (some .int))
def mt_X2_least : mt_ := (yX2_least, cX2_least, 5, (some .int))
def mt_X1_clerk : mt_ := (yX1_clerk, cX1_clerk, 5, (some .int))
def mt_X1_hasItsWish : mt_ := (yX1_hasItsWish, cX1_hasItsWish, 5, (some .boolean))
def mt_X1_wishing : mt_ := (yX1_wishing, cX1_wishing, 4, (some .int))
def mt_X2_most : mt_ := (yX2_most, cX2_most, 5, (some .int))
def mt_X1_light : mt_ := (yX1_light, cX1_light, 5, (some .int))
def mt_X1_heavy : mt_ := (yX1_heavy, cX1_heavy, 4, (some .int))
def mt_X7_mark : mt_ := (yX7_mark, cX7_mark, 3, (some .int))
def mt_X7_error : mt_ := (yX7_error, cX7_error, 4, (some .int))
def mt_X7_isPlace : mt_ := (yX7_isPlace, cX7_isPlace, 1, (some .boolean))
def mt_X2_act : mt_ := (yX2_act, cX2_act, 3, none)
def mt_X7_pad : mt_ := (yX7_pad, cX7_pad, 3, (some .int))
def mt_X7_grow : mt_ := (yX7_grow, cX7_grow, 2, (some .int))
def mt_X7_cut : mt_ := (yX7_cut, cX7_cut, 4, (some .int))
def mt_X7_undo : mt_ := (yX7_undo, cX7_undo, 3, (some .int))
def mt_X7_isKeptPlace : mt_ := (yX7_isKeptPlace, cX7_isKeptPlace, 1, (some .boolean))
def mt_X0_take : mt_ := (yX0_take, cX0_take, 3, none)
def mt_X7_keep : mt_ := (yX7_keep, cX7_keep, 2, (some .int))
def mt_X0_giveTo : mt_ := (yX0_giveTo, cX0_giveTo, 3, none)
def mt_X7_on : mt_ := (yX7_on, cX7_on, 2, (some .int))
def mt_X7_reads : mt_ := (yX7_reads, cX7_reads, 4, (some .int))
def mt_X7_findingOfReading : mt_ := (yX7_findingOfReading, cX7_findingOfReading, 3, (some .int))
def mt_X2_canRead : mt_ := (yX2_canRead, cX2_canRead, 5, (some .boolean))
def mt_X7_fits : mt_ := (yX7_fits, cX7_fits, 5, (some .int))
def mt_X2_headsThatFit : mt_ := (yX2_headsThatFit, cX2_headsThatFit, 5, (some .int))
def mt_X7_whose : mt_ := (yX7_whose, cX7_whose, 6, (some .int))
def mt_X7_who : mt_ := (yX7_who, cX7_who, 6, (some .int))
def mt_X2_ways : mt_ := (yX2_ways, cX2_ways, 4, (some .int))
def mt_X2_weight : mt_ := (yX2_weight, cX2_weight, 8, (some .long))
def mt_X6_commonDivisor : mt_ := (yX6_commonDivisor, cX6_commonDivisor, 7, (some .long))
def mt_X6_tellFraction : mt_ := (yX6_tellFraction, cX6_tellFraction, 7, (some .int))
def mt_X7_odds : mt_ := (yX7_odds, cX7_odds, 9, (some .int))
def mt_X2_isApart : mt_ := (yX2_isApart, cX2_isApart, 5, (some .boolean))
def mt_X2_pairsApart : mt_ := (yX2_pairsApart, cX2_pairsApart, 6, (some .int))
def mt_X7_look : mt_ := (yX7_look, cX7_look, 6, (some .int))
def mt_X2_maySeem : mt_ := (yX2_maySeem, cX2_maySeem, 5, (some .boolean))
def mt_X7_alike : mt_ := (yX7_alike, cX7_alike, 5, (some .int))
def mt_X2_isSure : mt_ := (yX2_isSure, cX2_isSure, 6, (some .boolean))
def mt_X2_isLucky : mt_ := (yX2_isLucky, cX2_isLucky, 5, (some .boolean))
def mt_X7_suits : mt_ := (yX7_suits, cX7_suits, 4, (some .int))
def mt_X7_luck : mt_ := (yX7_luck, cX7_luck, 11, (some .int))
def mt_X2_fewestPads : mt_ := (yX2_fewestPads, cX2_fewestPads, 6, (some .int))
def mt_X7_pads : mt_ := (yX7_pads, cX7_pads, 8, (some .int))
def mt_X7_all : mt_ := (yX7_all, cX7_all, 8, (some .int))
def mt_X7_finds : mt_ := (yX7_finds, cX7_finds, 5, (some .int))
def mt_X2_surePosts : mt_ := (yX2_surePosts, cX2_surePosts, 6, (some .int))
def mt_X7_posts : mt_ := (yX7_posts, cX7_posts, 5, (some .int))
def mt_X3_openByOne : mt_ := (yX3_openByOne, cX3_openByOne, 4, none)
def mt_X3_isFree : mt_ := (yX3_isFree, cX3_isFree, 4, (some .boolean))
def mt_X3_payBy : mt_ := (yX3_payBy, cX3_payBy, 5, (some .int))
def mt_X3_reckonFrom : mt_ := (yX3_reckonFrom, cX3_reckonFrom, 5, none)
def mt_X3_reckon : mt_ := (yX3_reckon, cX3_reckon, 6, none)
def mt_X3_bestPay : mt_ := (yX3_bestPay, cX3_bestPay, 1, (some .int))
def mt_X3_bestPost : mt_ := (yX3_bestPost, cX3_bestPost, 5, (some .int))
def mt_X7_layBestPlan : mt_ := (yX7_layBestPlan, cX7_layBestPlan, 6, (some .int))
def mt_X7_plan : mt_ := (yX7_plan, cX7_plan, 3, (some .int))
def mt_X7_plans : mt_ := (yX7_plans, cX7_plans, 2, (some .int))
def mt_X3_openByAll : mt_ := (yX3_openByAll, cX3_openByAll, 4, none)
def mt_X7_safest : mt_ := (yX7_safest, cX7_safest, 2, (some .int))
def mt_X7_gain : mt_ := (yX7_gain, cX7_gain, 7, (some .int))
def mt_X7_findingOfThrees : mt_ := (yX7_findingOfThrees, cX7_findingOfThrees, 5, (some .int))
def mt_X7_threesFit : mt_ := (yX7_threesFit, cX7_threesFit, 9, (some .boolean))
def mt_X7_learn : mt_ := (yX7_learn, cX7_learn, 8, (some .int))
def mt_X7_findingOfFates : mt_ := (yX7_findingOfFates, cX7_findingOfFates, 3, (some .int))
def mt_X2_placesAbove : mt_ := (yX2_placesAbove, cX2_placesAbove, 5, (some .int))
def mt_X7_tells : mt_ := (yX7_tells, cX7_tells, 7, (some .int))
def mt_X7_nextLot : mt_ := (yX7_nextLot, cX7_nextLot, 2, (some .long))
def mt_X7_lots : mt_ := (yX7_lots, cX7_lots, 11, (some .int))
def mt_X7_asked : mt_ := (yX7_asked, cX7_asked, 1, (some .int))
def mt_X7_upper : mt_ := (yX7_upper, cX7_upper, 1, (some .long))
def mt_X7_lower : mt_ := (yX7_lower, cX7_lower, 1, (some .long))
def mt_X7_presentOffices : mt_ := (yX7_presentOffices, cX7_presentOffices, 3, (some .int))
def mt_X5_present : mt_ := (yX5_present, cX5_present, 3, (some .int))
def mt_X2_wishingOnes : mt_ := (yX2_wishingOnes, cX2_wishingOnes, 3, (some .int))
def mt_X2_allTogether : mt_ := (yX2_allTogether, cX2_allTogether, 3, (some .int))
def mt_X7_count : mt_ := (yX7_count, cX7_count, 2, (some .int))
def mt_X7_finding : mt_ := (yX7_finding, cX7_finding, 1, (some .int))
def mt_X7_findings : mt_ := (yX7_findings, cX7_findings, 2, (some .int))
def mt_X2_mix : mt_ := (yX2_mix, cX2_mix, 5, (some .long))
def mt_X5_mix : mt_ := (yX5_mix, cX5_mix, 5, (some .long))
def mt_X7_digest : mt_ := (yX7_digest, cX7_digest, 4, (some .long))
def mt_X8_in : mt_ := (yX8_in, cX8_in, 3, (some .boolean))
def mt_X8_meet : mt_ := (yX8_meet, cX8_meet, 2, (some .int))
def mt_X8_ask : mt_ := (yX8_ask, cX8_ask, 3, (some .int))
def mt_X8_has : mt_ := (yX8_has, cX8_has, 2, (some .boolean))
def mt_X8_lesser : mt_ := (yX8_lesser, cX8_lesser, 2, (some .int))
def mt_X8_greater : mt_ := (yX8_greater, cX8_greater, 2, (some .int))
def mt_X8_part : mt_ := (yX8_part, cX8_part, 11, (some .int))
def mt_X8_isRow : mt_ := (yX8_isRow, cX8_isRow, 1, (some .boolean))
def mt_X8_isText : mt_ := (yX8_isText, cX8_isText, 1, (some .boolean))
def mt_X8_askedRow : mt_ := (yX8_askedRow, cX8_askedRow, 2, (some .int))
def mt_X8_askedText : mt_ := (yX8_askedText, cX8_askedText, 2, (some .int))
def mt_X8_rowAt : mt_ := (yX8_rowAt, cX8_rowAt, 3, (some .int))
def mt_X8_setRow : mt_ := (yX8_setRow, cX8_setRow, 4, none)
def mt_X8_row : mt_ := (yX8_row, cX8_row, 4, (some .int))
def mt_X8_at : mt_ := (yX8_at, cX8_at, 4, (some .int))
def mt_X8_lay : mt_ := (yX8_lay, cX8_lay, 5, (some .int))
def mt_X8_tear : mt_ := (yX8_tear, cX8_tear, 3, (some .int))
def mt_X8_copy : mt_ := (yX8_copy, cX8_copy, 7, (some .int))
def mt_X8_mean : mt_ := (yX8_mean, cX8_mean, 6, (some .int))
def mt_X8_text : mt_ := (yX8_text, cX8_text, 4, (some .int))
def mt_X8_put : mt_ := (yX8_put, cX8_put, 6, (some .int))
def mt_X8_here : mt_ := (yX8_here, cX8_here, 2, (some .int))
def mt_X8_figure : mt_ := (yX8_figure, cX8_figure, 6, (some .boolean))
def mt_X8_kindOf : mt_ := (yX8_kindOf, cX8_kindOf, 1, (some .int))
def mt_X8_readsHead : mt_ := (yX8_readsHead, cX8_readsHead, 4, (some .boolean))
def mt_X8_readsThumb : mt_ := (yX8_readsThumb, cX8_readsThumb, 5, (some .boolean))
def mt_X8_readsPost : mt_ := (yX8_readsPost, cX8_readsPost, 4, (some .boolean))
def mt_X8_goesOn : mt_ := (yX8_goesOn, cX8_goesOn, 3, (some .int))
def mt_X8_fault : mt_ := (yX8_fault, cX8_fault, 3, (some .int))
def mt_X8_office : mt_ := (yX8_office, cX8_office, 4, (some .int))
def mt_X8_isHead : mt_ := (yX8_isHead, cX8_isHead, 2, (some .boolean))
def mt_X8_isThumb : mt_ := (yX8_isThumb, cX8_isThumb, 2, (some .boolean))
def mt_X8_isPost : mt_ := (yX8_isPost, cX8_isPost, 2, (some .boolean))
def mt_X8_isPlace : mt_ := (yX8_isPlace, cX8_isPlace, 1, (some .boolean))
def mt_X8_bump : mt_ := (yX8_bump, cX8_bump, 3, (some .int))
def mt_X8_bumps : mt_ := (yX8_bumps, cX8_bumps, 2, (some .int))
def mt_X8_headOf : mt_ := (yX8_headOf, cX8_headOf, 3, (some .int))
def mt_X8_head : mt_ := (yX8_head, cX8_head, 3, (some .int))
def mt_X8_thumb : mt_ := (yX8_thumb, cX8_thumb, 3, (some .int))
def mt_X8_post : mt_ := (yX8_post, cX8_post, 3, (some .int))
def mt_X8_isA : mt_ := (yX8_isA, cX8_isA, 4, (some .boolean))
def mt_X8_felt : mt_ := (yX8_felt, cX8_felt, 3, (some .int))
def mt_X8_middleOf : mt_ := (yX8_middleOf, cX8_middleOf, 4, (some .int))
def mt_X8_middle : mt_ := (yX8_middle, cX8_middle, 4, (some .int))
def mt_X8_least : mt_ := (yX8_least, cX8_least, 4, (some .int))
def mt_X8_most : mt_ := (yX8_most, cX8_most, 4, (some .int))
def mt_X8_marked : mt_ := (yX8_marked, cX8_marked, 8, (some .int))
def mt_X8_mark : mt_ := (yX8_mark, cX8_mark, 3, (some .int))
def mt_X8_error : mt_ := (yX8_error, cX8_error, 4, (some .int))
def mt_X8_write : mt_ := (yX8_write, cX8_write, 4, none)
def mt_X8_readBack : mt_ := (yX8_readBack, cX8_readBack, 4, none)
def mt_X8_note : mt_ := (yX8_note, cX8_note, 1, none)
def mt_X8_pad : mt_ := (yX8_pad, cX8_pad, 3, (some .int))
def mt_X8_grow : mt_ := (yX8_grow, cX8_grow, 3, (some .int))
def mt_X8_cut : mt_ := (yX8_cut, cX8_cut, 4, (some .int))
def mt_X8_undo : mt_ := (yX8_undo, cX8_undo, 3, (some .int))
def mt_X8_keep : mt_ := (yX8_keep, cX8_keep, 4, (some .int))
def mt_X8_on : mt_ := (yX8_on, cX8_on, 4, (some .int))
def mt_X8_reads : mt_ := (yX8_reads, cX8_reads, 4, (some .int))
def mt_X8_askedReading : mt_ := (yX8_askedReading, cX8_askedReading, 4, (some .int))
def mt_X8_doesFit : mt_ := (yX8_doesFit, cX8_doesFit, 6, (some .boolean))
def mt_X8_fits : mt_ := (yX8_fits, cX8_fits, 5, (some .int))
def mt_X8_headsBy : mt_ := (yX8_headsBy, cX8_headsBy, 5, (some .int))
def mt_X8_whose : mt_ := (yX8_whose, cX8_whose, 6, (some .int))
def mt_X8_who : mt_ := (yX8_who, cX8_who, 6, (some .int))
def mt_X8_spread : mt_ := (yX8_spread, cX8_spread, 4, (some .int))
def mt_X8_weight : mt_ := (yX8_weight, cX8_weight, 7, (some .long))
def mt_X8_odds : mt_ := (yX8_odds, cX8_odds, 8, (some .int))
def mt_X8_areApart : mt_ := (yX8_areApart, cX8_areApart, 5, (some .boolean))
def mt_X8_look : mt_ := (yX8_look, cX8_look, 8, (some .int))
def mt_X8_alike : mt_ := (yX8_alike, cX8_alike, 7, (some .int))
def mt_X8_need : mt_ := (yX8_need, cX8_need, 3, (some .int))
def mt_X8_suitsOf : mt_ := (yX8_suitsOf, cX8_suitsOf, 7, (some .int))
def mt_X8_suits : mt_ := (yX8_suits, cX8_suits, 4, (some .int))
def mt_X8_luck : mt_ := (yX8_luck, cX8_luck, 10, (some .int))
def mt_X8_padsAt : mt_ := (yX8_padsAt, cX8_padsAt, 8, (some .int))
def mt_X8_pads : mt_ := (yX8_pads, cX8_pads, 8, (some .int))
def mt_X8_all : mt_ := (yX8_all, cX8_all, 8, (some .int))
def mt_X8_finds : mt_ := (yX8_finds, cX8_finds, 9, (some .int))
def mt_X8_posts : mt_ := (yX8_posts, cX8_posts, 6, (some .int))
def mt_X8_layMay : mt_ := (yX8_layMay, cX8_layMay, 6, none)
def mt_X8_planOn : mt_ := (yX8_planOn, cX8_planOn, 5, none)
def mt_X8_goPlans : mt_ := (yX8_goPlans, cX8_goPlans, 2, none)
def mt_X8_layPlan : mt_ := (yX8_layPlan, cX8_layPlan, 3, (some .int))
def mt_X8_plan : mt_ := (yX8_plan, cX8_plan, 3, (some .int))
def mt_X8_plans : mt_ := (yX8_plans, cX8_plans, 2, (some .int))
def mt_X8_safest : mt_ := (yX8_safest, cX8_safest, 2, (some .int))
def mt_X8_gain : mt_ := (yX8_gain, cX8_gain, 7, (some .int))
def mt_X8_doesLearn : mt_ := (yX8_doesLearn, cX8_doesLearn, 9, (some .boolean))
def mt_X8_learn : mt_ := (yX8_learn, cX8_learn, 8, (some .int))
def mt_X8_tells : mt_ := (yX8_tells, cX8_tells, 9, (some .int))
def mt_X8_isAlone : mt_ := (yX8_isAlone, cX8_isAlone, 7, (some .boolean))
def mt_X8_lots : mt_ := (yX8_lots, cX8_lots, 10, (some .int))
def mt_X8_asked : mt_ := (yX8_asked, cX8_asked, 1, (some .int))
def mt_X8_upper : mt_ := (yX8_upper, cX8_upper, 1, (some .long))
def mt_X8_lower : mt_ := (yX8_lower, cX8_lower, 1, (some .long))
def mt_X8_tellsOf : mt_ := (yX8_tellsOf, cX8_tellsOf, 5, (some .int))
def mt_X8_count : mt_ := (yX8_count, cX8_count, 2, (some .int))
def mt_X8_finding : mt_ := (yX8_finding, cX8_finding, 1, (some .int))
def mt_X8_findings : mt_ := (yX8_findings, cX8_findings, 2, (some .int))
def mt_X8_mix : mt_ := (yX8_mix, cX8_mix, 2, none)
def mt_X8_mixOffice : mt_ := (yX8_mixOffice, cX8_mixOffice, 3, none)
def mt_X8_digest : mt_ := (yX8_digest, cX8_digest, 3, (some .long))
theorem kk_X5_allows : mk_ mt_X5_allows 1 := ⟨List.mem_of_getElem? (i := 258) (by decide +kernel), List.mem_of_getElem? (i := 62) (by decide +kernel), by decide +kernel, by decide⟩
theorem ki_X5_allows : mi_ mt_X5_allows := ⟨List.mem_of_getElem? (i := 256) (by decide +kernel), List.mem_of_getElem? (i := 257) (by decide +kernel)⟩
theorem kk_X5_renew : mk_ mt_X5_renew 3 := ⟨List.mem_of_getElem? (i := 266) (by decide +kernel), List.mem_of_getElem? (i := 62) (by decide +kernel), by decide +kernel, by decide⟩
theorem ki_X5_renew : mi_ mt_X5_renew := ⟨List.mem_of_getElem? (i := 264) (by decide +kernel), List.mem_of_getElem? (i := 265) (by decide +kernel)⟩
theorem kk_X6_refuse : mk_ mt_X6_refuse 1 := ⟨List.mem_of_getElem? (i := 262) (by decide +kernel), List.mem_of_getElem? (i := 65) (by decide +kernel), by decide +kernel, by decide⟩
theorem ki_X6_refuse : mi_ mt_X6_refuse := ⟨List.mem_of_getElem? (i := 260) (by decide +kernel), List.mem_of_getElem? (i := 261) (by decide +kernel)⟩
theorem kk_X7_row : mk_ mt_X7_row 2 := ⟨List.mem_of_getElem? (i := 254) (by decide +kernel), List.mem_of_getElem? (i := 61) (by decide +kernel), by decide +kernel, by decide⟩
theorem ki_X7_row : mi_ mt_X7_row := ⟨List.mem_of_getElem? (i := 252) (by decide +kernel), List.mem_of_getElem? (i := 253) (by decide +kernel)⟩
theorem kk_X5_lacks : mk_ mt_X5_lacks 1 := ⟨List.mem_of_getElem? (i := 278) (by decide +kernel), List.mem_of_getElem? (i := 62) (by decide +kernel), by decide +kernel, by decide⟩
theorem ki_X5_lacks : mi_ mt_X5_lacks := ⟨List.mem_of_getElem? (i := 276) (by decide +kernel), List.mem_of_getElem? (i := 277) (by decide +kernel)⟩
theorem kk_X5_findingAt : mk_ mt_X5_findingAt 2 := ⟨List.mem_of_getElem? (i := 274) (by decide +kernel), List.mem_of_getElem? (i := 62) (by decide +kernel), by decide +kernel, by decide⟩
theorem ki_X5_findingAt : mi_ mt_X5_findingAt := ⟨List.mem_of_getElem? (i := 272) (by decide +kernel), List.mem_of_getElem? (i := 273) (by decide +kernel)⟩
theorem kk_X6_tell : mk_ mt_X6_tell 1 := ⟨List.mem_of_getElem? (i := 282) (by decide +kernel), List.mem_of_getElem? (i := 65) (by decide +kernel), by decide +kernel, by decide⟩
theorem ki_X6_tell : mi_ mt_X6_tell := ⟨List.mem_of_getElem? (i := 280) (by decide +kernel), List.mem_of_getElem? (i := 281) (by decide +kernel)⟩
theorem kk_X7_lay : mk_ mt_X7_lay 3 := ⟨List.mem_of_getElem? (i := 270) (by decide +kernel), List.mem_of_getElem? (i := 61) (by decide +kernel), by decide +kernel, by decide⟩
theorem ki_X7_lay : mi_ mt_X7_lay := ⟨List.mem_of_getElem? (i := 268) (by decide +kernel), List.mem_of_getElem? (i := 269) (by decide +kernel)⟩
theorem kk_X7_at : mk_ mt_X7_at 2 := ⟨List.mem_of_getElem? (i := 286) (by decide +kernel), List.mem_of_getElem? (i := 61) (by decide +kernel), by decide +kernel, by decide⟩
theorem ki_X7_at : mi_ mt_X7_at := ⟨List.mem_of_getElem? (i := 284) (by decide +kernel), List.mem_of_getElem? (i := 285) (by decide +kernel)⟩
theorem kk_X7_tear : mk_ mt_X7_tear 1 := ⟨List.mem_of_getElem? (i := 290) (by decide +kernel), List.mem_of_getElem? (i := 61) (by decide +kernel), by decide +kernel, by decide⟩
theorem ki_X7_tear : mi_ mt_X7_tear := ⟨List.mem_of_getElem? (i := 288) (by decide +kernel), List.mem_of_getElem? (i := 289) (by decide +kernel)⟩
theorem kk_X5_spans : mk_ mt_X5_spans 3 := ⟨List.mem_of_getElem? (i := 299) (by decide +kernel), List.mem_of_getElem? (i := 62) (by decide +kernel), by decide +kernel, by decide⟩
theorem ki_X5_spans : mi_ mt_X5_spans := ⟨List.mem_of_getElem? (i := 297) (by decide +kernel), List.mem_of_getElem? (i := 298) (by decide +kernel)⟩
theorem kk_X7_copy : mk_ mt_X7_copy 5 := ⟨List.mem_of_getElem? (i := 295) (by decide +kernel), List.mem_of_getElem? (i := 61) (by decide +kernel), by decide +kernel, by decide⟩
theorem ki_X7_copy : mi_ mt_X7_copy := ⟨List.mem_of_getElem? (i := 293) (by decide +kernel), List.mem_of_getElem? (i := 294) (by decide +kernel)⟩
theorem kk_X5_sum : mk_ mt_X5_sum 1 := ⟨List.mem_of_getElem? (i := 310) (by decide +kernel), List.mem_of_getElem? (i := 62) (by decide +kernel), by decide +kernel, by decide⟩
theorem ki_X5_sum : mi_ mt_X5_sum := ⟨List.mem_of_getElem? (i := 308) (by decide +kernel), List.mem_of_getElem? (i := 309) (by decide +kernel)⟩
theorem kk_X7_mean : mk_ mt_X7_mean 1 := ⟨List.mem_of_getElem? (i := 306) (by decide +kernel), List.mem_of_getElem? (i := 61) (by decide +kernel), by decide +kernel, by decide⟩
theorem ki_X7_mean : mi_ mt_X7_mean := ⟨List.mem_of_getElem? (i := 304) (by decide +kernel), List.mem_of_getElem? (i := 305) (by decide +kernel)⟩
theorem kk_X7_text : mk_ mt_X7_text 2 := ⟨List.mem_of_getElem? (i := 314) (by decide +kernel), List.mem_of_getElem? (i := 61) (by decide +kernel), by decide +kernel, by decide⟩
theorem ki_X7_text : mi_ mt_X7_text := ⟨List.mem_of_getElem? (i := 312) (by decide +kernel), List.mem_of_getElem? (i := 313) (by decide +kernel)⟩
theorem kk_X7_put : mk_ mt_X7_put 3 := ⟨List.mem_of_getElem? (i := 318) (by decide +kernel), List.mem_of_getElem? (i := 61) (by decide +kernel), by decide +kernel, by decide⟩
theorem ki_X7_put : mi_ mt_X7_put := ⟨List.mem_of_getElem? (i := 316) (by decide +kernel), List.mem_of_getElem? (i := 317) (by decide +kernel)⟩
theorem kk_X4_kindBy : mk_ mt_X4_kindBy 1 := ⟨List.mem_of_getElem? (i := 347) (by decide +kernel), List.mem_of_getElem? (i := 63) (by decide +kernel), by decide +kernel, by decide⟩
theorem ks_X4_kindBy : Cond.static mt_X4_kindBy.1 ∈ lw_tbl := List.mem_of_getElem? (i := 346) (by decide +kernel)
theorem kk_X4_opensItem : mk_ mt_X4_opensItem 1 := ⟨List.mem_of_getElem? (i := 344) (by decide +kernel), List.mem_of_getElem? (i := 63) (by decide +kernel), by decide +kernel, by decide⟩
theorem ki_X4_opensItem : mi_ mt_X4_opensItem := ⟨List.mem_of_getElem? (i := 343) (by decide +kernel), List.mem_of_getElem? (i := 2) (by decide +kernel)⟩
theorem kk_X4_takesFigure : mk_ mt_X4_takesFigure 1 := ⟨List.mem_of_getElem? (i := 334) (by decide +kernel), List.mem_of_getElem? (i := 63) (by decide +kernel), by decide +kernel, by decide⟩
theorem ki_X4_takesFigure : mi_ mt_X4_takesFigure := ⟨List.mem_of_getElem? (i := 333) (by decide +kernel), List.mem_of_getElem? (i := 1) (by decide +kernel)⟩
theorem kk_X4_goesOn : mk_ mt_X4_goesOn 1 := ⟨List.mem_of_getElem? (i := 330) (by decide +kernel), List.mem_of_getElem? (i := 63) (by decide +kernel), by decide +kernel, by decide⟩
theorem ki_X4_goesOn : mi_ mt_X4_goesOn := ⟨List.mem_of_getElem? (i := 329) (by decide +kernel), List.mem_of_getElem? (i := 0) (by decide +kernel)⟩
theorem kk_X4_into : mk_ mt_X4_into 3 := ⟨List.mem_of_getElem? (i := 326) (by decide +kernel), List.mem_of_getElem? (i := 63) (by decide +kernel), by decide +kernel, by decide⟩
theorem ki_X4_into : mi_ mt_X4_into := ⟨List.mem_of_getElem? (i := 324) (by decide +kernel), List.mem_of_getElem? (i := 325) (by decide +kernel)⟩
theorem kk_X7_fault : mk_ mt_X7_fault 1 := ⟨List.mem_of_getElem? (i := 322) (by decide +kernel), List.mem_of_getElem? (i := 61) (by decide +kernel), by decide +kernel, by decide⟩
theorem ki_X7_fault : mi_ mt_X7_fault := ⟨List.mem_of_getElem? (i := 320) (by decide +kernel), List.mem_of_getElem? (i := 321) (by decide +kernel)⟩
theorem kk_X2_repeat : mk_ mt_X2_repeat 1 := ⟨List.mem_of_getElem? (i := 364) (by decide +kernel), List.mem_of_getElem? (i := 66) (by decide +kernel), by decide +kernel, by decide⟩
theorem ki_X2_repeat : mi_ mt_X2_repeat := ⟨List.mem_of_getElem? (i := 363) (by decide +kernel), List.mem_of_getElem? (i := 3) (by decide +kernel)⟩
theorem kk_X2_goBack : mk_ mt_X2_goBack 1 := ⟨List.mem_of_getElem? (i := 359) (by decide +kernel), List.mem_of_getElem? (i := 66) (by decide +kernel), by decide +kernel, by decide⟩
theorem ki_X2_goBack : mi_ mt_X2_goBack := ⟨List.mem_of_getElem? (i := 357) (by decide +kernel), List.mem_of_getElem? (i := 358) (by decide +kernel)⟩
theorem kk_X7_office : mk_ mt_X7_office 1 := ⟨List.mem_of_getElem? (i := 355) (by decide +kernel), List.mem_of_getElem? (i := 61) (by decide +kernel), by decide +kernel, by decide⟩
theorem ki_X7_office : mi_ mt_X7_office := ⟨List.mem_of_getElem? (i := 353) (by decide +kernel), List.mem_of_getElem? (i := 354) (by decide +kernel)⟩
theorem kk_X2_has : mk_ mt_X2_has 2 := ⟨List.mem_of_getElem? (i := 375) (by decide +kernel), List.mem_of_getElem? (i := 66) (by decide +kernel), by decide +kernel, by decide⟩
theorem ki_X2_has : mi_ mt_X2_has := ⟨List.mem_of_getElem? (i := 373) (by decide +kernel), List.mem_of_getElem? (i := 374) (by decide +kernel)⟩
theorem kk_X2_together : mk_ mt_X2_together 1 := ⟨List.mem_of_getElem? (i := 383) (by decide +kernel), List.mem_of_getElem? (i := 66) (by decide +kernel), by decide +kernel, by decide⟩
theorem ki_X2_together : mi_ mt_X2_together := ⟨List.mem_of_getElem? (i := 381) (by decide +kernel), List.mem_of_getElem? (i := 382) (by decide +kernel)⟩
theorem kk_X2_ofHead : mk_ mt_X2_ofHead 2 := ⟨List.mem_of_getElem? (i := 379) (by decide +kernel), List.mem_of_getElem? (i := 66) (by decide +kernel), by decide +kernel, by decide⟩
theorem ki_X2_ofHead : mi_ mt_X2_ofHead := ⟨List.mem_of_getElem? (i := 377) (by decide +kernel), List.mem_of_getElem? (i := 378) (by decide +kernel)⟩
theorem kk_X7_head : mk_ mt_X7_head 2 := ⟨List.mem_of_getElem? (i := 371) (by decide +kernel), List.mem_of_getElem? (i := 61) (by decide +kernel), by decide +kernel, by decide⟩
theorem ki_X7_head : mi_ mt_X7_head := ⟨List.mem_of_getElem? (i := 369) (by decide +kernel), List.mem_of_getElem? (i := 370) (by decide +kernel)⟩
theorem kk_X7_thumb : mk_ mt_X7_thumb 2 := ⟨List.mem_of_getElem? (i := 387) (by decide +kernel), List.mem_of_getElem? (i := 61) (by decide +kernel), by decide +kernel, by decide⟩
theorem ki_X7_thumb : mi_ mt_X7_thumb := ⟨List.mem_of_getElem? (i := 385) (by decide +kernel), List.mem_of_getElem? (i := 386) (by decide +kernel)⟩
theorem kk_X7_post : mk_ mt_X7_post 2 := ⟨List.mem_of_getElem? (i := 391) (by decide +kernel), List.mem_of_getElem? (i := 61) (by decide +kernel), by decide +kernel, by decide⟩
theorem ki_X7_post : mi_ mt_X7_post := ⟨List.mem_of_getElem? (i := 389) (by decide +kernel), List.mem_of_getElem? (i := 390) (by decide +kernel)⟩
theorem kk_X2_isOf : mk_ mt_X2_isOf 2 := ⟨List.mem_of_getElem? (i := 399) (by decide +kernel), List.mem_of_getElem? (i := 66) (by decide +kernel), by decide +kernel, by decide⟩
theorem ki_X2_isOf : mi_ mt_X2_isOf := ⟨List.mem_of_getElem? (i := 397) (by decide +kernel), List.mem_of_getElem? (i := 398) (by decide +kernel)⟩
theorem kk_X2_felt : mk_ mt_X2_felt 3 := ⟨List.mem_of_getElem? (i := 408) (by decide +kernel), List.mem_of_getElem? (i := 66) (by decide +kernel), by decide +kernel, by decide⟩
theorem ki_X2_felt : mi_ mt_X2_felt := ⟨List.mem_of_getElem? (i := 406) (by decide +kernel), List.mem_of_getElem? (i := 407) (by decide +kernel)⟩
theorem kk_X2_middle : mk_ mt_X2_middle 3 := ⟨List.mem_of_getElem? (i := 423) (by decide +kernel), List.mem_of_getElem? (i := 66) (by decide +kernel), by decide +kernel, by decide⟩
theorem ks_X2_middle : Cond.static mt_X2_middle.1 ∈ lw_tbl := List.mem_of_getElem? (i := 422) (by decide +kernel)
theorem kk_X2_middleBy : mk_ mt_X2_middleBy 4 := ⟨List.mem_of_getElem? (i := 419) (by decide +kernel), List.mem_of_getElem? (i := 66) (by decide +kernel), by decide +kernel, by decide⟩
theorem ki_X2_middleBy : mi_ mt_X2_middleBy := ⟨List.mem_of_getElem? (i := 417) (by decide +kernel), List.mem_of_getElem? (i := 418) (by decide +kernel)⟩
theorem kk_X1_dull : mk_ mt_X1_dull 2 := ⟨List.mem_of_getElem? (i := 449) (by decide +kernel), List.mem_of_getElem? (i := 71) (by decide +kernel), by decide +kernel, by decide⟩
theorem ks_X1_dull : Cond.static mt_X1_dull.1 ∈ lw_tbl := List.mem_of_getElem? (i := 448) (by decide +kernel)
theorem kk_X2_least : mk_ mt_X2_least 4 := ⟨List.mem_of_getElem? (i := 442) (by decide +kernel), List.mem_of_getElem? (i := 66) (by decide +kernel), by decide +kernel, by decide⟩
theorem ki_X2_least : mi_ mt_X2_least := ⟨List.mem_of_getElem? (i := 440) (by decide +kernel), List.mem_of_getElem? (i := 441) (by decide +kernel)⟩
theorem kk_X1_clerk : mk_ mt_X1_clerk 2 := ⟨List.mem_of_getElem? (i := 446) (by decide +kernel), List.mem_of_getElem? (i := 71) (by decide +kernel), by decide +kernel, by decide⟩
theorem ks_X1_clerk : Cond.static mt_X1_clerk.1 ∈ lw_tbl := List.mem_of_getElem? (i := 445) (by decide +kernel)
theorem kk_X1_hasItsWish : mk_ mt_X1_hasItsWish 3 := ⟨List.mem_of_getElem? (i := 438) (by decide +kernel), List.mem_of_getElem? (i := 71) (by decide +kernel), by decide +kernel, by decide⟩
theorem ks_X1_hasItsWish : Cond.static mt_X1_hasItsWish.1 ∈ lw_tbl := List.mem_of_getElem? (i := 437) (by decide +kernel)
theorem kk_X1_wishing : mk_ mt_X1_wishing 2 := ⟨List.mem_of_getElem? (i := 435) (by decide +kernel), List.mem_of_getElem? (i := 71) (by decide +kernel), by decide +kernel, by decide⟩
theorem ks_X1_wishing : Cond.static mt_X1_wishing.1 ∈ lw_tbl := List.mem_of_getElem? (i := 434) (by decide +kernel)
theorem kk_X2_most : mk_ mt_X2_most 4 := ⟨List.mem_of_getElem? (i := 415) (by decide +kernel), List.mem_of_getElem? (i := 66) (by decide +kernel), by decide +kernel, by decide⟩
theorem ki_X2_most : mi_ mt_X2_most := ⟨List.mem_of_getElem? (i := 413) (by decide +kernel), List.mem_of_getElem? (i := 414) (by decide +kernel)⟩
theorem kk_X1_light : mk_ mt_X1_light 2 := ⟨List.mem_of_getElem? (i := 411) (by decide +kernel), List.mem_of_getElem? (i := 71) (by decide +kernel), by decide +kernel, by decide⟩
theorem ks_X1_light : Cond.static mt_X1_light.1 ∈ lw_tbl := List.mem_of_getElem? (i := 410) (by decide +kernel)
theorem kk_X1_heavy : mk_ mt_X1_heavy 1 := ⟨List.mem_of_getElem? (i := 404) (by decide +kernel), List.mem_of_getElem? (i := 71) (by decide +kernel), by decide +kernel, by decide⟩
theorem ks_X1_heavy : Cond.static mt_X1_heavy.1 ∈ lw_tbl := List.mem_of_getElem? (i := 403) (by decide +kernel)
theorem kk_X7_mark : mk_ mt_X7_mark 2 := ⟨List.mem_of_getElem? (i := 395) (by decide +kernel), List.mem_of_getElem? (i := 61) (by decide +kernel), by decide +kernel, by decide⟩
theorem ki_X7_mark : mi_ mt_X7_mark := ⟨List.mem_of_getElem? (i := 393) (by decide +kernel), List.mem_of_getElem? (i := 394) (by decide +kernel)⟩
theorem kk_X7_error : mk_ mt_X7_error 2 := ⟨List.mem_of_getElem? (i := 454) (by decide +kernel), List.mem_of_getElem? (i := 61) (by decide +kernel), by decide +kernel, by decide⟩
theorem ki_X7_error : mi_ mt_X7_error := ⟨List.mem_of_getElem? (i := 452) (by decide +kernel), List.mem_of_getElem? (i := 453) (by decide +kernel)⟩
theorem kk_X7_isPlace : mk_ mt_X7_isPlace 1 := ⟨List.mem_of_getElem? (i := 461) (by decide +kernel), List.mem_of_getElem? (i := 61) (by decide +kernel), by decide +kernel, by decide⟩
theorem ks_X7_isPlace : Cond.static mt_X7_isPlace.1 ∈ lw_tbl := List.mem_of_getElem? (i := 460) (by decide +kernel)
theorem kk_X2_act : mk_ mt_X2_act 2 := ⟨List.mem_of_getElem? (i := 465) (by decide +kernel), List.mem_of_getElem? (i := 66) (by decide +kernel), by decide +kernel, by decide⟩
theorem ki_X2_act : mi_ mt_X2_act := ⟨List.mem_of_getElem? (i := 463) (by decide +kernel), List.mem_of_getElem? (i := 464) (by decide +kernel)⟩
theorem kk_X7_pad : mk_ mt_X7_pad 2 := ⟨List.mem_of_getElem? (i := 458) (by decide +kernel), List.mem_of_getElem? (i := 61) (by decide +kernel), by decide +kernel, by decide⟩
theorem ki_X7_pad : mi_ mt_X7_pad := ⟨List.mem_of_getElem? (i := 456) (by decide +kernel), List.mem_of_getElem? (i := 457) (by decide +kernel)⟩
theorem kk_X7_grow : mk_ mt_X7_grow 1 := ⟨List.mem_of_getElem? (i := 469) (by decide +kernel), List.mem_of_getElem? (i := 61) (by decide +kernel), by decide +kernel, by decide⟩
theorem ki_X7_grow : mi_ mt_X7_grow := ⟨List.mem_of_getElem? (i := 467) (by decide +kernel), List.mem_of_getElem? (i := 468) (by decide +kernel)⟩
theorem kk_X7_cut : mk_ mt_X7_cut 2 := ⟨List.mem_of_getElem? (i := 474) (by decide +kernel), List.mem_of_getElem? (i := 61) (by decide +kernel), by decide +kernel, by decide⟩
theorem ki_X7_cut : mi_ mt_X7_cut := ⟨List.mem_of_getElem? (i := 472) (by decide +kernel), List.mem_of_getElem? (i := 473) (by decide +kernel)⟩
theorem kk_X7_undo : mk_ mt_X7_undo 1 := ⟨List.mem_of_getElem? (i := 478) (by decide +kernel), List.mem_of_getElem? (i := 61) (by decide +kernel), by decide +kernel, by decide⟩
theorem ki_X7_undo : mi_ mt_X7_undo := ⟨List.mem_of_getElem? (i := 476) (by decide +kernel), List.mem_of_getElem? (i := 477) (by decide +kernel)⟩
theorem kk_X7_isKeptPlace : mk_ mt_X7_isKeptPlace 1 := ⟨List.mem_of_getElem? (i := 485) (by decide +kernel), List.mem_of_getElem? (i := 61) (by decide +kernel), by decide +kernel, by decide⟩
theorem ks_X7_isKeptPlace : Cond.static mt_X7_isKeptPlace.1 ∈ lw_tbl := List.mem_of_getElem? (i := 484) (by decide +kernel)
theorem kk_X0_take : mk_ mt_X0_take 1 := ⟨List.mem_of_getElem? (i := 489) (by decide +kernel), List.mem_of_getElem? (i := 67) (by decide +kernel), by decide +kernel, by decide⟩
theorem ki_X0_take : mi_ mt_X0_take := ⟨List.mem_of_getElem? (i := 487) (by decide +kernel), List.mem_of_getElem? (i := 488) (by decide +kernel)⟩
theorem kk_X7_keep : mk_ mt_X7_keep 1 := ⟨List.mem_of_getElem? (i := 482) (by decide +kernel), List.mem_of_getElem? (i := 61) (by decide +kernel), by decide +kernel, by decide⟩
theorem ki_X7_keep : mi_ mt_X7_keep := ⟨List.mem_of_getElem? (i := 480) (by decide +kernel), List.mem_of_getElem? (i := 481) (by decide +kernel)⟩
theorem kk_X0_giveTo : mk_ mt_X0_giveTo 1 := ⟨List.mem_of_getElem? (i := 498) (by decide +kernel), List.mem_of_getElem? (i := 67) (by decide +kernel), by decide +kernel, by decide⟩
theorem ki_X0_giveTo : mi_ mt_X0_giveTo := ⟨List.mem_of_getElem? (i := 496) (by decide +kernel), List.mem_of_getElem? (i := 497) (by decide +kernel)⟩
theorem kk_X7_on : mk_ mt_X7_on 1 := ⟨List.mem_of_getElem? (i := 494) (by decide +kernel), List.mem_of_getElem? (i := 61) (by decide +kernel), by decide +kernel, by decide⟩
theorem ki_X7_on : mi_ mt_X7_on := ⟨List.mem_of_getElem? (i := 492) (by decide +kernel), List.mem_of_getElem? (i := 493) (by decide +kernel)⟩
theorem kk_X7_reads : mk_ mt_X7_reads 3 := ⟨List.mem_of_getElem? (i := 503) (by decide +kernel), List.mem_of_getElem? (i := 61) (by decide +kernel), by decide +kernel, by decide⟩
theorem ki_X7_reads : mi_ mt_X7_reads := ⟨List.mem_of_getElem? (i := 501) (by decide +kernel), List.mem_of_getElem? (i := 502) (by decide +kernel)⟩
theorem kk_X7_findingOfReading : mk_ mt_X7_findingOfReading 1 := ⟨List.mem_of_getElem? (i := 513) (by decide +kernel), List.mem_of_getElem? (i := 61) (by decide +kernel), by decide +kernel, by decide⟩
theorem ki_X7_findingOfReading : mi_ mt_X7_findingOfReading := ⟨List.mem_of_getElem? (i := 512) (by decide +kernel), List.mem_of_getElem? (i := 4) (by decide +kernel)⟩
theorem kk_X2_canRead : mk_ mt_X2_canRead 3 := ⟨List.mem_of_getElem? (i := 517) (by decide +kernel), List.mem_of_getElem? (i := 66) (by decide +kernel), by decide +kernel, by decide⟩
theorem ki_X2_canRead : mi_ mt_X2_canRead := ⟨List.mem_of_getElem? (i := 515) (by decide +kernel), List.mem_of_getElem? (i := 516) (by decide +kernel)⟩
theorem kk_X7_fits : mk_ mt_X7_fits 3 := ⟨List.mem_of_getElem? (i := 509) (by decide +kernel), List.mem_of_getElem? (i := 61) (by decide +kernel), by decide +kernel, by decide⟩
theorem ki_X7_fits : mi_ mt_X7_fits := ⟨List.mem_of_getElem? (i := 507) (by decide +kernel), List.mem_of_getElem? (i := 508) (by decide +kernel)⟩
theorem kk_X2_headsThatFit : mk_ mt_X2_headsThatFit 2 := ⟨List.mem_of_getElem? (i := 527) (by decide +kernel), List.mem_of_getElem? (i := 66) (by decide +kernel), by decide +kernel, by decide⟩
theorem ki_X2_headsThatFit : mi_ mt_X2_headsThatFit := ⟨List.mem_of_getElem? (i := 525) (by decide +kernel), List.mem_of_getElem? (i := 526) (by decide +kernel)⟩
theorem kk_X7_whose : mk_ mt_X7_whose 2 := ⟨List.mem_of_getElem? (i := 523) (by decide +kernel), List.mem_of_getElem? (i := 61) (by decide +kernel), by decide +kernel, by decide⟩
theorem ki_X7_whose : mi_ mt_X7_whose := ⟨List.mem_of_getElem? (i := 521) (by decide +kernel), List.mem_of_getElem? (i := 522) (by decide +kernel)⟩
theorem kk_X7_who : mk_ mt_X7_who 2 := ⟨List.mem_of_getElem? (i := 532) (by decide +kernel), List.mem_of_getElem? (i := 61) (by decide +kernel), by decide +kernel, by decide⟩
theorem ki_X7_who : mi_ mt_X7_who := ⟨List.mem_of_getElem? (i := 530) (by decide +kernel), List.mem_of_getElem? (i := 531) (by decide +kernel)⟩
theorem kk_X2_ways : mk_ mt_X2_ways 3 := ⟨List.mem_of_getElem? (i := 544) (by decide +kernel), List.mem_of_getElem? (i := 66) (by decide +kernel), by decide +kernel, by decide⟩
theorem ki_X2_ways : mi_ mt_X2_ways := ⟨List.mem_of_getElem? (i := 542) (by decide +kernel), List.mem_of_getElem? (i := 543) (by decide +kernel)⟩
theorem kk_X2_weight : mk_ mt_X2_weight 3 := ⟨List.mem_of_getElem? (i := 540) (by decide +kernel), List.mem_of_getElem? (i := 66) (by decide +kernel), by decide +kernel, by decide⟩
theorem ki_X2_weight : mi_ mt_X2_weight := ⟨List.mem_of_getElem? (i := 538) (by decide +kernel), List.mem_of_getElem? (i := 539) (by decide +kernel)⟩
theorem kk_X6_commonDivisor : mk_ mt_X6_commonDivisor 2 := ⟨List.mem_of_getElem? (i := 551) (by decide +kernel), List.mem_of_getElem? (i := 65) (by decide +kernel), by decide +kernel, by decide⟩
theorem ks_X6_commonDivisor : Cond.static mt_X6_commonDivisor.1 ∈ lw_tbl := List.mem_of_getElem? (i := 550) (by decide +kernel)
theorem kk_X6_tellFraction : mk_ mt_X6_tellFraction 2 := ⟨List.mem_of_getElem? (i := 548) (by decide +kernel), List.mem_of_getElem? (i := 65) (by decide +kernel), by decide +kernel, by decide⟩
theorem ki_X6_tellFraction : mi_ mt_X6_tellFraction := ⟨List.mem_of_getElem? (i := 546) (by decide +kernel), List.mem_of_getElem? (i := 547) (by decide +kernel)⟩
theorem kk_X7_odds : mk_ mt_X7_odds 3 := ⟨List.mem_of_getElem? (i := 536) (by decide +kernel), List.mem_of_getElem? (i := 61) (by decide +kernel), by decide +kernel, by decide⟩
theorem ki_X7_odds : mi_ mt_X7_odds := ⟨List.mem_of_getElem? (i := 534) (by decide +kernel), List.mem_of_getElem? (i := 535) (by decide +kernel)⟩
theorem kk_X2_isApart : mk_ mt_X2_isApart 4 := ⟨List.mem_of_getElem? (i := 563) (by decide +kernel), List.mem_of_getElem? (i := 66) (by decide +kernel), by decide +kernel, by decide⟩
theorem ki_X2_isApart : mi_ mt_X2_isApart := ⟨List.mem_of_getElem? (i := 562) (by decide +kernel), List.mem_of_getElem? (i := 5) (by decide +kernel)⟩
theorem kk_X2_pairsApart : mk_ mt_X2_pairsApart 2 := ⟨List.mem_of_getElem? (i := 559) (by decide +kernel), List.mem_of_getElem? (i := 66) (by decide +kernel), by decide +kernel, by decide⟩
theorem ki_X2_pairsApart : mi_ mt_X2_pairsApart := ⟨List.mem_of_getElem? (i := 557) (by decide +kernel), List.mem_of_getElem? (i := 558) (by decide +kernel)⟩
theorem kk_X7_look : mk_ mt_X7_look 1 := ⟨List.mem_of_getElem? (i := 555) (by decide +kernel), List.mem_of_getElem? (i := 61) (by decide +kernel), by decide +kernel, by decide⟩
theorem ki_X7_look : mi_ mt_X7_look := ⟨List.mem_of_getElem? (i := 553) (by decide +kernel), List.mem_of_getElem? (i := 554) (by decide +kernel)⟩
theorem kk_X2_maySeem : mk_ mt_X2_maySeem 3 := ⟨List.mem_of_getElem? (i := 571) (by decide +kernel), List.mem_of_getElem? (i := 66) (by decide +kernel), by decide +kernel, by decide⟩
theorem ki_X2_maySeem : mi_ mt_X2_maySeem := ⟨List.mem_of_getElem? (i := 569) (by decide +kernel), List.mem_of_getElem? (i := 570) (by decide +kernel)⟩
theorem kk_X7_alike : mk_ mt_X7_alike 2 := ⟨List.mem_of_getElem? (i := 567) (by decide +kernel), List.mem_of_getElem? (i := 61) (by decide +kernel), by decide +kernel, by decide⟩
theorem ki_X7_alike : mi_ mt_X7_alike := ⟨List.mem_of_getElem? (i := 565) (by decide +kernel), List.mem_of_getElem? (i := 566) (by decide +kernel)⟩
theorem kk_X2_isSure : mk_ mt_X2_isSure 4 := ⟨List.mem_of_getElem? (i := 579) (by decide +kernel), List.mem_of_getElem? (i := 66) (by decide +kernel), by decide +kernel, by decide⟩
theorem ki_X2_isSure : mi_ mt_X2_isSure := ⟨List.mem_of_getElem? (i := 577) (by decide +kernel), List.mem_of_getElem? (i := 578) (by decide +kernel)⟩
theorem kk_X2_isLucky : mk_ mt_X2_isLucky 3 := ⟨List.mem_of_getElem? (i := 583) (by decide +kernel), List.mem_of_getElem? (i := 66) (by decide +kernel), by decide +kernel, by decide⟩
theorem ki_X2_isLucky : mi_ mt_X2_isLucky := ⟨List.mem_of_getElem? (i := 581) (by decide +kernel), List.mem_of_getElem? (i := 582) (by decide +kernel)⟩
theorem kk_X7_suits : mk_ mt_X7_suits 3 := ⟨List.mem_of_getElem? (i := 575) (by decide +kernel), List.mem_of_getElem? (i := 61) (by decide +kernel), by decide +kernel, by decide⟩
theorem ki_X7_suits : mi_ mt_X7_suits := ⟨List.mem_of_getElem? (i := 573) (by decide +kernel), List.mem_of_getElem? (i := 574) (by decide +kernel)⟩
theorem kk_X7_luck : mk_ mt_X7_luck 3 := ⟨List.mem_of_getElem? (i := 587) (by decide +kernel), List.mem_of_getElem? (i := 61) (by decide +kernel), by decide +kernel, by decide⟩
theorem ki_X7_luck : mi_ mt_X7_luck := ⟨List.mem_of_getElem? (i := 585) (by decide +kernel), List.mem_of_getElem? (i := 586) (by decide +kernel)⟩
theorem kk_X2_fewestPads : mk_ mt_X2_fewestPads 4 := ⟨List.mem_of_getElem? (i := 597) (by decide +kernel), List.mem_of_getElem? (i := 66) (by decide +kernel), by decide +kernel, by decide⟩
theorem ki_X2_fewestPads : mi_ mt_X2_fewestPads := ⟨List.mem_of_getElem? (i := 595) (by decide +kernel), List.mem_of_getElem? (i := 596) (by decide +kernel)⟩
theorem kk_X7_pads : mk_ mt_X7_pads 4 := ⟨List.mem_of_getElem? (i := 593) (by decide +kernel), List.mem_of_getElem? (i := 61) (by decide +kernel), by decide +kernel, by decide⟩
theorem ki_X7_pads : mi_ mt_X7_pads := ⟨List.mem_of_getElem? (i := 591) (by decide +kernel), List.mem_of_getElem? (i := 592) (by decide +kernel)⟩
theorem kk_X7_all : mk_ mt_X7_all 2 := ⟨List.mem_of_getElem? (i := 601) (by decide +kernel), List.mem_of_getElem? (i := 61) (by decide +kernel), by decide +kernel, by decide⟩
theorem ki_X7_all : mi_ mt_X7_all := ⟨List.mem_of_getElem? (i := 599) (by decide +kernel), List.mem_of_getElem? (i := 600) (by decide +kernel)⟩
theorem kk_X7_finds : mk_ mt_X7_finds 3 := ⟨List.mem_of_getElem? (i := 605) (by decide +kernel), List.mem_of_getElem? (i := 61) (by decide +kernel), by decide +kernel, by decide⟩
theorem ki_X7_finds : mi_ mt_X7_finds := ⟨List.mem_of_getElem? (i := 603) (by decide +kernel), List.mem_of_getElem? (i := 604) (by decide +kernel)⟩
theorem kk_X2_surePosts : mk_ mt_X2_surePosts 3 := ⟨List.mem_of_getElem? (i := 613) (by decide +kernel), List.mem_of_getElem? (i := 66) (by decide +kernel), by decide +kernel, by decide⟩
theorem ki_X2_surePosts : mi_ mt_X2_surePosts := ⟨List.mem_of_getElem? (i := 611) (by decide +kernel), List.mem_of_getElem? (i := 612) (by decide +kernel)⟩
theorem kk_X7_posts : mk_ mt_X7_posts 2 := ⟨List.mem_of_getElem? (i := 609) (by decide +kernel), List.mem_of_getElem? (i := 61) (by decide +kernel), by decide +kernel, by decide⟩
theorem ki_X7_posts : mi_ mt_X7_posts := ⟨List.mem_of_getElem? (i := 607) (by decide +kernel), List.mem_of_getElem? (i := 608) (by decide +kernel)⟩
theorem kk_X3_openByOne : mk_ mt_X3_openByOne 2 := ⟨List.mem_of_getElem? (i := 622) (by decide +kernel), List.mem_of_getElem? (i := 64) (by decide +kernel), by decide +kernel, by decide⟩
theorem ki_X3_openByOne : mi_ mt_X3_openByOne := ⟨List.mem_of_getElem? (i := 620) (by decide +kernel), List.mem_of_getElem? (i := 621) (by decide +kernel)⟩
theorem kk_X3_isFree : mk_ mt_X3_isFree 3 := ⟨List.mem_of_getElem? (i := 635) (by decide +kernel), List.mem_of_getElem? (i := 64) (by decide +kernel), by decide +kernel, by decide⟩
theorem ki_X3_isFree : mi_ mt_X3_isFree := ⟨List.mem_of_getElem? (i := 634) (by decide +kernel), List.mem_of_getElem? (i := 7) (by decide +kernel)⟩
theorem kk_X3_payBy : mk_ mt_X3_payBy 4 := ⟨List.mem_of_getElem? (i := 639) (by decide +kernel), List.mem_of_getElem? (i := 64) (by decide +kernel), by decide +kernel, by decide⟩
theorem ki_X3_payBy : mi_ mt_X3_payBy := ⟨List.mem_of_getElem? (i := 638) (by decide +kernel), List.mem_of_getElem? (i := 8) (by decide +kernel)⟩
theorem kk_X3_reckonFrom : mk_ mt_X3_reckonFrom 3 := ⟨List.mem_of_getElem? (i := 631) (by decide +kernel), List.mem_of_getElem? (i := 64) (by decide +kernel), by decide +kernel, by decide⟩
theorem ki_X3_reckonFrom : mi_ mt_X3_reckonFrom := ⟨List.mem_of_getElem? (i := 630) (by decide +kernel), List.mem_of_getElem? (i := 6) (by decide +kernel)⟩
theorem kk_X3_reckon : mk_ mt_X3_reckon 1 := ⟨List.mem_of_getElem? (i := 627) (by decide +kernel), List.mem_of_getElem? (i := 64) (by decide +kernel), by decide +kernel, by decide⟩
theorem ki_X3_reckon : mi_ mt_X3_reckon := ⟨List.mem_of_getElem? (i := 625) (by decide +kernel), List.mem_of_getElem? (i := 626) (by decide +kernel)⟩
theorem kk_X3_bestPay : mk_ mt_X3_bestPay 0 := ⟨List.mem_of_getElem? (i := 652) (by decide +kernel), List.mem_of_getElem? (i := 64) (by decide +kernel), by decide +kernel, by decide⟩
theorem ki_X3_bestPay : mi_ mt_X3_bestPay := ⟨List.mem_of_getElem? (i := 650) (by decide +kernel), List.mem_of_getElem? (i := 651) (by decide +kernel)⟩
theorem kk_X3_bestPost : mk_ mt_X3_bestPost 3 := ⟨List.mem_of_getElem? (i := 648) (by decide +kernel), List.mem_of_getElem? (i := 64) (by decide +kernel), by decide +kernel, by decide⟩
theorem ki_X3_bestPost : mi_ mt_X3_bestPost := ⟨List.mem_of_getElem? (i := 646) (by decide +kernel), List.mem_of_getElem? (i := 647) (by decide +kernel)⟩
theorem kk_X7_layBestPlan : mk_ mt_X7_layBestPlan 1 := ⟨List.mem_of_getElem? (i := 644) (by decide +kernel), List.mem_of_getElem? (i := 61) (by decide +kernel), by decide +kernel, by decide⟩
theorem ki_X7_layBestPlan : mi_ mt_X7_layBestPlan := ⟨List.mem_of_getElem? (i := 643) (by decide +kernel), List.mem_of_getElem? (i := 9) (by decide +kernel)⟩
theorem kk_X7_plan : mk_ mt_X7_plan 2 := ⟨List.mem_of_getElem? (i := 618) (by decide +kernel), List.mem_of_getElem? (i := 61) (by decide +kernel), by decide +kernel, by decide⟩
theorem ki_X7_plan : mi_ mt_X7_plan := ⟨List.mem_of_getElem? (i := 616) (by decide +kernel), List.mem_of_getElem? (i := 617) (by decide +kernel)⟩
theorem kk_X7_plans : mk_ mt_X7_plans 1 := ⟨List.mem_of_getElem? (i := 656) (by decide +kernel), List.mem_of_getElem? (i := 61) (by decide +kernel), by decide +kernel, by decide⟩
theorem ki_X7_plans : mi_ mt_X7_plans := ⟨List.mem_of_getElem? (i := 654) (by decide +kernel), List.mem_of_getElem? (i := 655) (by decide +kernel)⟩
theorem kk_X3_openByAll : mk_ mt_X3_openByAll 1 := ⟨List.mem_of_getElem? (i := 664) (by decide +kernel), List.mem_of_getElem? (i := 64) (by decide +kernel), by decide +kernel, by decide⟩
theorem ki_X3_openByAll : mi_ mt_X3_openByAll := ⟨List.mem_of_getElem? (i := 662) (by decide +kernel), List.mem_of_getElem? (i := 663) (by decide +kernel)⟩
theorem kk_X7_safest : mk_ mt_X7_safest 1 := ⟨List.mem_of_getElem? (i := 660) (by decide +kernel), List.mem_of_getElem? (i := 61) (by decide +kernel), by decide +kernel, by decide⟩
theorem ki_X7_safest : mi_ mt_X7_safest := ⟨List.mem_of_getElem? (i := 658) (by decide +kernel), List.mem_of_getElem? (i := 659) (by decide +kernel)⟩
theorem kk_X7_gain : mk_ mt_X7_gain 2 := ⟨List.mem_of_getElem? (i := 668) (by decide +kernel), List.mem_of_getElem? (i := 61) (by decide +kernel), by decide +kernel, by decide⟩
theorem ki_X7_gain : mi_ mt_X7_gain := ⟨List.mem_of_getElem? (i := 666) (by decide +kernel), List.mem_of_getElem? (i := 667) (by decide +kernel)⟩
theorem kk_X7_findingOfThrees : mk_ mt_X7_findingOfThrees 1 := ⟨List.mem_of_getElem? (i := 676) (by decide +kernel), List.mem_of_getElem? (i := 61) (by decide +kernel), by decide +kernel, by decide⟩
theorem ki_X7_findingOfThrees : mi_ mt_X7_findingOfThrees := ⟨List.mem_of_getElem? (i := 675) (by decide +kernel), List.mem_of_getElem? (i := 10) (by decide +kernel)⟩
theorem kk_X7_threesFit : mk_ mt_X7_threesFit 4 := ⟨List.mem_of_getElem? (i := 680) (by decide +kernel), List.mem_of_getElem? (i := 61) (by decide +kernel), by decide +kernel, by decide⟩
theorem ki_X7_threesFit : mi_ mt_X7_threesFit := ⟨List.mem_of_getElem? (i := 679) (by decide +kernel), List.mem_of_getElem? (i := 11) (by decide +kernel)⟩
theorem kk_X7_learn : mk_ mt_X7_learn 2 := ⟨List.mem_of_getElem? (i := 672) (by decide +kernel), List.mem_of_getElem? (i := 61) (by decide +kernel), by decide +kernel, by decide⟩
theorem ki_X7_learn : mi_ mt_X7_learn := ⟨List.mem_of_getElem? (i := 670) (by decide +kernel), List.mem_of_getElem? (i := 671) (by decide +kernel)⟩
theorem kk_X7_findingOfFates : mk_ mt_X7_findingOfFates 1 := ⟨List.mem_of_getElem? (i := 693) (by decide +kernel), List.mem_of_getElem? (i := 61) (by decide +kernel), by decide +kernel, by decide⟩
theorem ki_X7_findingOfFates : mi_ mt_X7_findingOfFates := ⟨List.mem_of_getElem? (i := 692) (by decide +kernel), List.mem_of_getElem? (i := 12) (by decide +kernel)⟩
theorem kk_X2_placesAbove : mk_ mt_X2_placesAbove 2 := ⟨List.mem_of_getElem? (i := 697) (by decide +kernel), List.mem_of_getElem? (i := 66) (by decide +kernel), by decide +kernel, by decide⟩
theorem ki_X2_placesAbove : mi_ mt_X2_placesAbove := ⟨List.mem_of_getElem? (i := 695) (by decide +kernel), List.mem_of_getElem? (i := 696) (by decide +kernel)⟩
theorem kk_X7_tells : mk_ mt_X7_tells 1 := ⟨List.mem_of_getElem? (i := 689) (by decide +kernel), List.mem_of_getElem? (i := 61) (by decide +kernel), by decide +kernel, by decide⟩
theorem ki_X7_tells : mi_ mt_X7_tells := ⟨List.mem_of_getElem? (i := 687) (by decide +kernel), List.mem_of_getElem? (i := 688) (by decide +kernel)⟩
theorem kk_X7_nextLot : mk_ mt_X7_nextLot 1 := ⟨List.mem_of_getElem? (i := 705) (by decide +kernel), List.mem_of_getElem? (i := 61) (by decide +kernel), by decide +kernel, by decide⟩
theorem ks_X7_nextLot : Cond.static mt_X7_nextLot.1 ∈ lw_tbl := List.mem_of_getElem? (i := 704) (by decide +kernel)
theorem kk_X7_lots : mk_ mt_X7_lots 3 := ⟨List.mem_of_getElem? (i := 701) (by decide +kernel), List.mem_of_getElem? (i := 61) (by decide +kernel), by decide +kernel, by decide⟩
theorem ki_X7_lots : mi_ mt_X7_lots := ⟨List.mem_of_getElem? (i := 699) (by decide +kernel), List.mem_of_getElem? (i := 700) (by decide +kernel)⟩
theorem kk_X7_asked : mk_ mt_X7_asked 0 := ⟨List.mem_of_getElem? (i := 710) (by decide +kernel), List.mem_of_getElem? (i := 61) (by decide +kernel), by decide +kernel, by decide⟩
theorem ki_X7_asked : mi_ mt_X7_asked := ⟨List.mem_of_getElem? (i := 708) (by decide +kernel), List.mem_of_getElem? (i := 709) (by decide +kernel)⟩
theorem kk_X7_upper : mk_ mt_X7_upper 0 := ⟨List.mem_of_getElem? (i := 714) (by decide +kernel), List.mem_of_getElem? (i := 61) (by decide +kernel), by decide +kernel, by decide⟩
theorem ki_X7_upper : mi_ mt_X7_upper := ⟨List.mem_of_getElem? (i := 712) (by decide +kernel), List.mem_of_getElem? (i := 713) (by decide +kernel)⟩
theorem kk_X7_lower : mk_ mt_X7_lower 0 := ⟨List.mem_of_getElem? (i := 718) (by decide +kernel), List.mem_of_getElem? (i := 61) (by decide +kernel), by decide +kernel, by decide⟩
theorem ki_X7_lower : mi_ mt_X7_lower := ⟨List.mem_of_getElem? (i := 716) (by decide +kernel), List.mem_of_getElem? (i := 717) (by decide +kernel)⟩
theorem kk_X7_presentOffices : mk_ mt_X7_presentOffices 0 := ⟨List.mem_of_getElem? (i := 739) (by decide +kernel), List.mem_of_getElem? (i := 61) (by decide +kernel), by decide +kernel, by decide⟩
theorem ki_X7_presentOffices : mi_ mt_X7_presentOffices := ⟨List.mem_of_getElem? (i := 738) (by decide +kernel), List.mem_of_getElem? (i := 13) (by decide +kernel)⟩
theorem kk_X5_present : mk_ mt_X5_present 0 := ⟨List.mem_of_getElem? (i := 735) (by decide +kernel), List.mem_of_getElem? (i := 62) (by decide +kernel), by decide +kernel, by decide⟩
theorem ki_X5_present : mi_ mt_X5_present := ⟨List.mem_of_getElem? (i := 733) (by decide +kernel), List.mem_of_getElem? (i := 734) (by decide +kernel)⟩
theorem kk_X2_wishingOnes : mk_ mt_X2_wishingOnes 0 := ⟨List.mem_of_getElem? (i := 730) (by decide +kernel), List.mem_of_getElem? (i := 66) (by decide +kernel), by decide +kernel, by decide⟩
theorem ki_X2_wishingOnes : mi_ mt_X2_wishingOnes := ⟨List.mem_of_getElem? (i := 728) (by decide +kernel), List.mem_of_getElem? (i := 729) (by decide +kernel)⟩
theorem kk_X2_allTogether : mk_ mt_X2_allTogether 0 := ⟨List.mem_of_getElem? (i := 726) (by decide +kernel), List.mem_of_getElem? (i := 66) (by decide +kernel), by decide +kernel, by decide⟩
theorem ki_X2_allTogether : mi_ mt_X2_allTogether := ⟨List.mem_of_getElem? (i := 724) (by decide +kernel), List.mem_of_getElem? (i := 725) (by decide +kernel)⟩
theorem kk_X7_count : mk_ mt_X7_count 1 := ⟨List.mem_of_getElem? (i := 722) (by decide +kernel), List.mem_of_getElem? (i := 61) (by decide +kernel), by decide +kernel, by decide⟩
theorem ki_X7_count : mi_ mt_X7_count := ⟨List.mem_of_getElem? (i := 720) (by decide +kernel), List.mem_of_getElem? (i := 721) (by decide +kernel)⟩
theorem kk_X7_finding : mk_ mt_X7_finding 0 := ⟨List.mem_of_getElem? (i := 743) (by decide +kernel), List.mem_of_getElem? (i := 61) (by decide +kernel), by decide +kernel, by decide⟩
theorem ki_X7_finding : mi_ mt_X7_finding := ⟨List.mem_of_getElem? (i := 741) (by decide +kernel), List.mem_of_getElem? (i := 742) (by decide +kernel)⟩
theorem kk_X7_findings : mk_ mt_X7_findings 1 := ⟨List.mem_of_getElem? (i := 747) (by decide +kernel), List.mem_of_getElem? (i := 61) (by decide +kernel), by decide +kernel, by decide⟩
theorem ki_X7_findings : mi_ mt_X7_findings := ⟨List.mem_of_getElem? (i := 745) (by decide +kernel), List.mem_of_getElem? (i := 746) (by decide +kernel)⟩
theorem kk_X2_mix : mk_ mt_X2_mix 1 := ⟨List.mem_of_getElem? (i := 758) (by decide +kernel), List.mem_of_getElem? (i := 66) (by decide +kernel), by decide +kernel, by decide⟩
theorem ki_X2_mix : mi_ mt_X2_mix := ⟨List.mem_of_getElem? (i := 756) (by decide +kernel), List.mem_of_getElem? (i := 757) (by decide +kernel)⟩
theorem kk_X5_mix : mk_ mt_X5_mix 1 := ⟨List.mem_of_getElem? (i := 764) (by decide +kernel), List.mem_of_getElem? (i := 62) (by decide +kernel), by decide +kernel, by decide⟩
theorem ki_X5_mix : mi_ mt_X5_mix := ⟨List.mem_of_getElem? (i := 762) (by decide +kernel), List.mem_of_getElem? (i := 763) (by decide +kernel)⟩
theorem kk_X7_digest : mk_ mt_X7_digest 0 := ⟨List.mem_of_getElem? (i := 751) (by decide +kernel), List.mem_of_getElem? (i := 61) (by decide +kernel), by decide +kernel, by decide⟩
theorem ki_X7_digest : mi_ mt_X7_digest := ⟨List.mem_of_getElem? (i := 749) (by decide +kernel), List.mem_of_getElem? (i := 750) (by decide +kernel)⟩
theorem kk_X8_in : mk_ mt_X8_in 3 := ⟨List.mem_of_getElem? (i := 875) (by decide +kernel), List.mem_of_getElem? (i := 68) (by decide +kernel), by decide +kernel, by decide⟩
theorem ks_X8_in : Cond.static mt_X8_in.1 ∈ lw_tbl := List.mem_of_getElem? (i := 874) (by decide +kernel)
theorem kk_X8_meet : mk_ mt_X8_meet 1 := ⟨List.mem_of_getElem? (i := 879) (by decide +kernel), List.mem_of_getElem? (i := 68) (by decide +kernel), by decide +kernel, by decide⟩
theorem ki_X8_meet : mi_ mt_X8_meet := ⟨List.mem_of_getElem? (i := 878) (by decide +kernel), List.mem_of_getElem? (i := 14) (by decide +kernel)⟩
theorem kk_X8_ask : mk_ mt_X8_ask 2 := ⟨List.mem_of_getElem? (i := 899) (by decide +kernel), List.mem_of_getElem? (i := 68) (by decide +kernel), by decide +kernel, by decide⟩
theorem ki_X8_ask : mi_ mt_X8_ask := ⟨List.mem_of_getElem? (i := 898) (by decide +kernel), List.mem_of_getElem? (i := 18) (by decide +kernel)⟩
theorem kk_X8_has : mk_ mt_X8_has 2 := ⟨List.mem_of_getElem? (i := 1194) (by decide +kernel), List.mem_of_getElem? (i := 68) (by decide +kernel), by decide +kernel, by decide⟩
theorem ks_X8_has : Cond.static mt_X8_has.1 ∈ lw_tbl := List.mem_of_getElem? (i := 1193) (by decide +kernel)
theorem kk_X8_lesser : mk_ mt_X8_lesser 2 := ⟨List.mem_of_getElem? (i := 1035) (by decide +kernel), List.mem_of_getElem? (i := 68) (by decide +kernel), by decide +kernel, by decide⟩
theorem ks_X8_lesser : Cond.static mt_X8_lesser.1 ∈ lw_tbl := List.mem_of_getElem? (i := 1034) (by decide +kernel)
theorem kk_X8_greater : mk_ mt_X8_greater 2 := ⟨List.mem_of_getElem? (i := 1029) (by decide +kernel), List.mem_of_getElem? (i := 68) (by decide +kernel), by decide +kernel, by decide⟩
theorem ks_X8_greater : Cond.static mt_X8_greater.1 ∈ lw_tbl := List.mem_of_getElem? (i := 1028) (by decide +kernel)
theorem kk_X8_part : mk_ mt_X8_part 2 := ⟨List.mem_of_getElem? (i := 1126) (by decide +kernel), List.mem_of_getElem? (i := 68) (by decide +kernel), by decide +kernel, by decide⟩
theorem ki_X8_part : mi_ mt_X8_part := ⟨List.mem_of_getElem? (i := 1125) (by decide +kernel), List.mem_of_getElem? (i := 46) (by decide +kernel)⟩
theorem kk_X8_isRow : mk_ mt_X8_isRow 1 := ⟨List.mem_of_getElem? (i := 872) (by decide +kernel), List.mem_of_getElem? (i := 68) (by decide +kernel), by decide +kernel, by decide⟩
theorem ks_X8_isRow : Cond.static mt_X8_isRow.1 ∈ lw_tbl := List.mem_of_getElem? (i := 871) (by decide +kernel)
theorem kk_X8_isText : mk_ mt_X8_isText 1 := ⟨List.mem_of_getElem? (i := 923) (by decide +kernel), List.mem_of_getElem? (i := 68) (by decide +kernel), by decide +kernel, by decide⟩
theorem ks_X8_isText : Cond.static mt_X8_isText.1 ∈ lw_tbl := List.mem_of_getElem? (i := 922) (by decide +kernel)
theorem kk_X8_askedRow : mk_ mt_X8_askedRow 1 := ⟨List.mem_of_getElem? (i := 891) (by decide +kernel), List.mem_of_getElem? (i := 68) (by decide +kernel), by decide +kernel, by decide⟩
theorem ki_X8_askedRow : mi_ mt_X8_askedRow := ⟨List.mem_of_getElem? (i := 890) (by decide +kernel), List.mem_of_getElem? (i := 16) (by decide +kernel)⟩
theorem kk_X8_askedText : mk_ mt_X8_askedText 1 := ⟨List.mem_of_getElem? (i := 931) (by decide +kernel), List.mem_of_getElem? (i := 68) (by decide +kernel), by decide +kernel, by decide⟩
theorem ki_X8_askedText : mi_ mt_X8_askedText := ⟨List.mem_of_getElem? (i := 930) (by decide +kernel), List.mem_of_getElem? (i := 19) (by decide +kernel)⟩
theorem kk_X8_rowAt : mk_ mt_X8_rowAt 2 := ⟨List.mem_of_getElem? (i := 895) (by decide +kernel), List.mem_of_getElem? (i := 68) (by decide +kernel), by decide +kernel, by decide⟩
theorem ki_X8_rowAt : mi_ mt_X8_rowAt := ⟨List.mem_of_getElem? (i := 894) (by decide +kernel), List.mem_of_getElem? (i := 17) (by decide +kernel)⟩
theorem kk_X8_setRow : mk_ mt_X8_setRow 3 := ⟨List.mem_of_getElem? (i := 883) (by decide +kernel), List.mem_of_getElem? (i := 68) (by decide +kernel), by decide +kernel, by decide⟩
theorem ki_X8_setRow : mi_ mt_X8_setRow := ⟨List.mem_of_getElem? (i := 882) (by decide +kernel), List.mem_of_getElem? (i := 15) (by decide +kernel)⟩
theorem kk_X8_row : mk_ mt_X8_row 2 := ⟨List.mem_of_getElem? (i := 869) (by decide +kernel), List.mem_of_getElem? (i := 68) (by decide +kernel), by decide +kernel, by decide⟩
theorem ki_X8_row : mi_ mt_X8_row := ⟨List.mem_of_getElem? (i := 867) (by decide +kernel), List.mem_of_getElem? (i := 868) (by decide +kernel)⟩
theorem kk_X8_at : mk_ mt_X8_at 2 := ⟨List.mem_of_getElem? (i := 887) (by decide +kernel), List.mem_of_getElem? (i := 68) (by decide +kernel), by decide +kernel, by decide⟩
theorem ki_X8_at : mi_ mt_X8_at := ⟨List.mem_of_getElem? (i := 885) (by decide +kernel), List.mem_of_getElem? (i := 886) (by decide +kernel)⟩
theorem kk_X8_lay : mk_ mt_X8_lay 3 := ⟨List.mem_of_getElem? (i := 903) (by decide +kernel), List.mem_of_getElem? (i := 68) (by decide +kernel), by decide +kernel, by decide⟩
theorem ki_X8_lay : mi_ mt_X8_lay := ⟨List.mem_of_getElem? (i := 901) (by decide +kernel), List.mem_of_getElem? (i := 902) (by decide +kernel)⟩
theorem kk_X8_tear : mk_ mt_X8_tear 1 := ⟨List.mem_of_getElem? (i := 908) (by decide +kernel), List.mem_of_getElem? (i := 68) (by decide +kernel), by decide +kernel, by decide⟩
theorem ki_X8_tear : mi_ mt_X8_tear := ⟨List.mem_of_getElem? (i := 906) (by decide +kernel), List.mem_of_getElem? (i := 907) (by decide +kernel)⟩
theorem kk_X8_copy : mk_ mt_X8_copy 5 := ⟨List.mem_of_getElem? (i := 912) (by decide +kernel), List.mem_of_getElem? (i := 68) (by decide +kernel), by decide +kernel, by decide⟩
theorem ki_X8_copy : mi_ mt_X8_copy := ⟨List.mem_of_getElem? (i := 910) (by decide +kernel), List.mem_of_getElem? (i := 911) (by decide +kernel)⟩
theorem kk_X8_mean : mk_ mt_X8_mean 1 := ⟨List.mem_of_getElem? (i := 916) (by decide +kernel), List.mem_of_getElem? (i := 68) (by decide +kernel), by decide +kernel, by decide⟩
theorem ki_X8_mean : mi_ mt_X8_mean := ⟨List.mem_of_getElem? (i := 914) (by decide +kernel), List.mem_of_getElem? (i := 915) (by decide +kernel)⟩
theorem kk_X8_text : mk_ mt_X8_text 2 := ⟨List.mem_of_getElem? (i := 920) (by decide +kernel), List.mem_of_getElem? (i := 68) (by decide +kernel), by decide +kernel, by decide⟩
theorem ki_X8_text : mi_ mt_X8_text := ⟨List.mem_of_getElem? (i := 918) (by decide +kernel), List.mem_of_getElem? (i := 919) (by decide +kernel)⟩
theorem kk_X8_put : mk_ mt_X8_put 3 := ⟨List.mem_of_getElem? (i := 927) (by decide +kernel), List.mem_of_getElem? (i := 68) (by decide +kernel), by decide +kernel, by decide⟩
theorem ki_X8_put : mi_ mt_X8_put := ⟨List.mem_of_getElem? (i := 925) (by decide +kernel), List.mem_of_getElem? (i := 926) (by decide +kernel)⟩
theorem kk_X8_here : mk_ mt_X8_here 1 := ⟨List.mem_of_getElem? (i := 943) (by decide +kernel), List.mem_of_getElem? (i := 68) (by decide +kernel), by decide +kernel, by decide⟩
theorem ki_X8_here : mi_ mt_X8_here := ⟨List.mem_of_getElem? (i := 942) (by decide +kernel), List.mem_of_getElem? (i := 21) (by decide +kernel)⟩
theorem kk_X8_figure : mk_ mt_X8_figure 4 := ⟨List.mem_of_getElem? (i := 951) (by decide +kernel), List.mem_of_getElem? (i := 68) (by decide +kernel), by decide +kernel, by decide⟩
theorem ki_X8_figure : mi_ mt_X8_figure := ⟨List.mem_of_getElem? (i := 950) (by decide +kernel), List.mem_of_getElem? (i := 23) (by decide +kernel)⟩
theorem kk_X8_kindOf : mk_ mt_X8_kindOf 1 := ⟨List.mem_of_getElem? (i := 962) (by decide +kernel), List.mem_of_getElem? (i := 68) (by decide +kernel), by decide +kernel, by decide⟩
theorem ks_X8_kindOf : Cond.static mt_X8_kindOf.1 ∈ lw_tbl := List.mem_of_getElem? (i := 961) (by decide +kernel)
theorem kk_X8_readsHead : mk_ mt_X8_readsHead 1 := ⟨List.mem_of_getElem? (i := 947) (by decide +kernel), List.mem_of_getElem? (i := 68) (by decide +kernel), by decide +kernel, by decide⟩
theorem ki_X8_readsHead : mi_ mt_X8_readsHead := ⟨List.mem_of_getElem? (i := 946) (by decide +kernel), List.mem_of_getElem? (i := 22) (by decide +kernel)⟩
theorem kk_X8_readsThumb : mk_ mt_X8_readsThumb 1 := ⟨List.mem_of_getElem? (i := 959) (by decide +kernel), List.mem_of_getElem? (i := 68) (by decide +kernel), by decide +kernel, by decide⟩
theorem ki_X8_readsThumb : mi_ mt_X8_readsThumb := ⟨List.mem_of_getElem? (i := 958) (by decide +kernel), List.mem_of_getElem? (i := 25) (by decide +kernel)⟩
theorem kk_X8_readsPost : mk_ mt_X8_readsPost 1 := ⟨List.mem_of_getElem? (i := 955) (by decide +kernel), List.mem_of_getElem? (i := 68) (by decide +kernel), by decide +kernel, by decide⟩
theorem ki_X8_readsPost : mi_ mt_X8_readsPost := ⟨List.mem_of_getElem? (i := 954) (by decide +kernel), List.mem_of_getElem? (i := 24) (by decide +kernel)⟩
theorem kk_X8_goesOn : mk_ mt_X8_goesOn 1 := ⟨List.mem_of_getElem? (i := 939) (by decide +kernel), List.mem_of_getElem? (i := 68) (by decide +kernel), by decide +kernel, by decide⟩
theorem ki_X8_goesOn : mi_ mt_X8_goesOn := ⟨List.mem_of_getElem? (i := 938) (by decide +kernel), List.mem_of_getElem? (i := 20) (by decide +kernel)⟩
theorem kk_X8_fault : mk_ mt_X8_fault 1 := ⟨List.mem_of_getElem? (i := 935) (by decide +kernel), List.mem_of_getElem? (i := 68) (by decide +kernel), by decide +kernel, by decide⟩
theorem ki_X8_fault : mi_ mt_X8_fault := ⟨List.mem_of_getElem? (i := 933) (by decide +kernel), List.mem_of_getElem? (i := 934) (by decide +kernel)⟩
theorem kk_X8_office : mk_ mt_X8_office 1 := ⟨List.mem_of_getElem? (i := 966) (by decide +kernel), List.mem_of_getElem? (i := 68) (by decide +kernel), by decide +kernel, by decide⟩
theorem ki_X8_office : mi_ mt_X8_office := ⟨List.mem_of_getElem? (i := 964) (by decide +kernel), List.mem_of_getElem? (i := 965) (by decide +kernel)⟩
theorem kk_X8_isHead : mk_ mt_X8_isHead 1 := ⟨List.mem_of_getElem? (i := 974) (by decide +kernel), List.mem_of_getElem? (i := 68) (by decide +kernel), by decide +kernel, by decide⟩
theorem ki_X8_isHead : mi_ mt_X8_isHead := ⟨List.mem_of_getElem? (i := 973) (by decide +kernel), List.mem_of_getElem? (i := 26) (by decide +kernel)⟩
theorem kk_X8_isThumb : mk_ mt_X8_isThumb 1 := ⟨List.mem_of_getElem? (i := 994) (by decide +kernel), List.mem_of_getElem? (i := 68) (by decide +kernel), by decide +kernel, by decide⟩
theorem ki_X8_isThumb : mi_ mt_X8_isThumb := ⟨List.mem_of_getElem? (i := 993) (by decide +kernel), List.mem_of_getElem? (i := 30) (by decide +kernel)⟩
theorem kk_X8_isPost : mk_ mt_X8_isPost 1 := ⟨List.mem_of_getElem? (i := 1002) (by decide +kernel), List.mem_of_getElem? (i := 68) (by decide +kernel), by decide +kernel, by decide⟩
theorem ki_X8_isPost : mi_ mt_X8_isPost := ⟨List.mem_of_getElem? (i := 1001) (by decide +kernel), List.mem_of_getElem? (i := 31) (by decide +kernel)⟩
theorem kk_X8_isPlace : mk_ mt_X8_isPlace 1 := ⟨List.mem_of_getElem? (i := 1050) (by decide +kernel), List.mem_of_getElem? (i := 68) (by decide +kernel), by decide +kernel, by decide⟩
theorem ks_X8_isPlace : Cond.static mt_X8_isPlace.1 ∈ lw_tbl := List.mem_of_getElem? (i := 1049) (by decide +kernel)
theorem kk_X8_bump : mk_ mt_X8_bump 2 := ⟨List.mem_of_getElem? (i := 986) (by decide +kernel), List.mem_of_getElem? (i := 68) (by decide +kernel), by decide +kernel, by decide⟩
theorem ki_X8_bump : mi_ mt_X8_bump := ⟨List.mem_of_getElem? (i := 985) (by decide +kernel), List.mem_of_getElem? (i := 29) (by decide +kernel)⟩
theorem kk_X8_bumps : mk_ mt_X8_bumps 1 := ⟨List.mem_of_getElem? (i := 982) (by decide +kernel), List.mem_of_getElem? (i := 68) (by decide +kernel), by decide +kernel, by decide⟩
theorem ki_X8_bumps : mi_ mt_X8_bumps := ⟨List.mem_of_getElem? (i := 981) (by decide +kernel), List.mem_of_getElem? (i := 28) (by decide +kernel)⟩
theorem kk_X8_headOf : mk_ mt_X8_headOf 2 := ⟨List.mem_of_getElem? (i := 978) (by decide +kernel), List.mem_of_getElem? (i := 68) (by decide +kernel), by decide +kernel, by decide⟩
theorem ki_X8_headOf : mi_ mt_X8_headOf := ⟨List.mem_of_getElem? (i := 977) (by decide +kernel), List.mem_of_getElem? (i := 27) (by decide +kernel)⟩
theorem kk_X8_head : mk_ mt_X8_head 2 := ⟨List.mem_of_getElem? (i := 970) (by decide +kernel), List.mem_of_getElem? (i := 68) (by decide +kernel), by decide +kernel, by decide⟩
theorem ki_X8_head : mi_ mt_X8_head := ⟨List.mem_of_getElem? (i := 968) (by decide +kernel), List.mem_of_getElem? (i := 969) (by decide +kernel)⟩
theorem kk_X8_thumb : mk_ mt_X8_thumb 2 := ⟨List.mem_of_getElem? (i := 990) (by decide +kernel), List.mem_of_getElem? (i := 68) (by decide +kernel), by decide +kernel, by decide⟩
theorem ki_X8_thumb : mi_ mt_X8_thumb := ⟨List.mem_of_getElem? (i := 988) (by decide +kernel), List.mem_of_getElem? (i := 989) (by decide +kernel)⟩
theorem kk_X8_post : mk_ mt_X8_post 2 := ⟨List.mem_of_getElem? (i := 998) (by decide +kernel), List.mem_of_getElem? (i := 68) (by decide +kernel), by decide +kernel, by decide⟩
theorem ki_X8_post : mi_ mt_X8_post := ⟨List.mem_of_getElem? (i := 996) (by decide +kernel), List.mem_of_getElem? (i := 997) (by decide +kernel)⟩
theorem kk_X8_isA : mk_ mt_X8_isA 2 := ⟨List.mem_of_getElem? (i := 1010) (by decide +kernel), List.mem_of_getElem? (i := 68) (by decide +kernel), by decide +kernel, by decide⟩
theorem ki_X8_isA : mi_ mt_X8_isA := ⟨List.mem_of_getElem? (i := 1009) (by decide +kernel), List.mem_of_getElem? (i := 32) (by decide +kernel)⟩
theorem kk_X8_felt : mk_ mt_X8_felt 2 := ⟨List.mem_of_getElem? (i := 1026) (by decide +kernel), List.mem_of_getElem? (i := 68) (by decide +kernel), by decide +kernel, by decide⟩
theorem ki_X8_felt : mi_ mt_X8_felt := ⟨List.mem_of_getElem? (i := 1025) (by decide +kernel), List.mem_of_getElem? (i := 36) (by decide +kernel)⟩
theorem kk_X8_middleOf : mk_ mt_X8_middleOf 4 := ⟨List.mem_of_getElem? (i := 1032) (by decide +kernel), List.mem_of_getElem? (i := 68) (by decide +kernel), by decide +kernel, by decide⟩
theorem ks_X8_middleOf : Cond.static mt_X8_middleOf.1 ∈ lw_tbl := List.mem_of_getElem? (i := 1031) (by decide +kernel)
theorem kk_X8_middle : mk_ mt_X8_middle 3 := ⟨List.mem_of_getElem? (i := 1022) (by decide +kernel), List.mem_of_getElem? (i := 68) (by decide +kernel), by decide +kernel, by decide⟩
theorem ki_X8_middle : mi_ mt_X8_middle := ⟨List.mem_of_getElem? (i := 1021) (by decide +kernel), List.mem_of_getElem? (i := 35) (by decide +kernel)⟩
theorem kk_X8_least : mk_ mt_X8_least 3 := ⟨List.mem_of_getElem? (i := 1018) (by decide +kernel), List.mem_of_getElem? (i := 68) (by decide +kernel), by decide +kernel, by decide⟩
theorem ki_X8_least : mi_ mt_X8_least := ⟨List.mem_of_getElem? (i := 1017) (by decide +kernel), List.mem_of_getElem? (i := 34) (by decide +kernel)⟩
theorem kk_X8_most : mk_ mt_X8_most 3 := ⟨List.mem_of_getElem? (i := 1039) (by decide +kernel), List.mem_of_getElem? (i := 68) (by decide +kernel), by decide +kernel, by decide⟩
theorem ki_X8_most : mi_ mt_X8_most := ⟨List.mem_of_getElem? (i := 1038) (by decide +kernel), List.mem_of_getElem? (i := 37) (by decide +kernel)⟩
theorem kk_X8_marked : mk_ mt_X8_marked 2 := ⟨List.mem_of_getElem? (i := 1014) (by decide +kernel), List.mem_of_getElem? (i := 68) (by decide +kernel), by decide +kernel, by decide⟩
theorem ki_X8_marked : mi_ mt_X8_marked := ⟨List.mem_of_getElem? (i := 1013) (by decide +kernel), List.mem_of_getElem? (i := 33) (by decide +kernel)⟩
theorem kk_X8_mark : mk_ mt_X8_mark 2 := ⟨List.mem_of_getElem? (i := 1006) (by decide +kernel), List.mem_of_getElem? (i := 68) (by decide +kernel), by decide +kernel, by decide⟩
theorem ki_X8_mark : mi_ mt_X8_mark := ⟨List.mem_of_getElem? (i := 1004) (by decide +kernel), List.mem_of_getElem? (i := 1005) (by decide +kernel)⟩
theorem kk_X8_error : mk_ mt_X8_error 2 := ⟨List.mem_of_getElem? (i := 1043) (by decide +kernel), List.mem_of_getElem? (i := 68) (by decide +kernel), by decide +kernel, by decide⟩
theorem ki_X8_error : mi_ mt_X8_error := ⟨List.mem_of_getElem? (i := 1041) (by decide +kernel), List.mem_of_getElem? (i := 1042) (by decide +kernel)⟩
theorem kk_X8_write : mk_ mt_X8_write 2 := ⟨List.mem_of_getElem? (i := 1058) (by decide +kernel), List.mem_of_getElem? (i := 68) (by decide +kernel), by decide +kernel, by decide⟩
theorem ki_X8_write : mi_ mt_X8_write := ⟨List.mem_of_getElem? (i := 1057) (by decide +kernel), List.mem_of_getElem? (i := 39) (by decide +kernel)⟩
theorem kk_X8_readBack : mk_ mt_X8_readBack 2 := ⟨List.mem_of_getElem? (i := 1074) (by decide +kernel), List.mem_of_getElem? (i := 68) (by decide +kernel), by decide +kernel, by decide⟩
theorem ki_X8_readBack : mi_ mt_X8_readBack := ⟨List.mem_of_getElem? (i := 1073) (by decide +kernel), List.mem_of_getElem? (i := 40) (by decide +kernel)⟩
theorem kk_X8_note : mk_ mt_X8_note 0 := ⟨List.mem_of_getElem? (i := 1054) (by decide +kernel), List.mem_of_getElem? (i := 68) (by decide +kernel), by decide +kernel, by decide⟩
theorem ki_X8_note : mi_ mt_X8_note := ⟨List.mem_of_getElem? (i := 1053) (by decide +kernel), List.mem_of_getElem? (i := 38) (by decide +kernel)⟩
theorem kk_X8_pad : mk_ mt_X8_pad 2 := ⟨List.mem_of_getElem? (i := 1047) (by decide +kernel), List.mem_of_getElem? (i := 68) (by decide +kernel), by decide +kernel, by decide⟩
theorem ki_X8_pad : mi_ mt_X8_pad := ⟨List.mem_of_getElem? (i := 1045) (by decide +kernel), List.mem_of_getElem? (i := 1046) (by decide +kernel)⟩
theorem kk_X8_grow : mk_ mt_X8_grow 1 := ⟨List.mem_of_getElem? (i := 1062) (by decide +kernel), List.mem_of_getElem? (i := 68) (by decide +kernel), by decide +kernel, by decide⟩
theorem ki_X8_grow : mi_ mt_X8_grow := ⟨List.mem_of_getElem? (i := 1060) (by decide +kernel), List.mem_of_getElem? (i := 1061) (by decide +kernel)⟩
theorem kk_X8_cut : mk_ mt_X8_cut 2 := ⟨List.mem_of_getElem? (i := 1066) (by decide +kernel), List.mem_of_getElem? (i := 68) (by decide +kernel), by decide +kernel, by decide⟩
theorem ki_X8_cut : mi_ mt_X8_cut := ⟨List.mem_of_getElem? (i := 1064) (by decide +kernel), List.mem_of_getElem? (i := 1065) (by decide +kernel)⟩
theorem kk_X8_undo : mk_ mt_X8_undo 1 := ⟨List.mem_of_getElem? (i := 1070) (by decide +kernel), List.mem_of_getElem? (i := 68) (by decide +kernel), by decide +kernel, by decide⟩
theorem ki_X8_undo : mi_ mt_X8_undo := ⟨List.mem_of_getElem? (i := 1068) (by decide +kernel), List.mem_of_getElem? (i := 1069) (by decide +kernel)⟩
theorem kk_X8_keep : mk_ mt_X8_keep 1 := ⟨List.mem_of_getElem? (i := 1078) (by decide +kernel), List.mem_of_getElem? (i := 68) (by decide +kernel), by decide +kernel, by decide⟩
theorem ki_X8_keep : mi_ mt_X8_keep := ⟨List.mem_of_getElem? (i := 1076) (by decide +kernel), List.mem_of_getElem? (i := 1077) (by decide +kernel)⟩
theorem kk_X8_on : mk_ mt_X8_on 1 := ⟨List.mem_of_getElem? (i := 1082) (by decide +kernel), List.mem_of_getElem? (i := 68) (by decide +kernel), by decide +kernel, by decide⟩
theorem ki_X8_on : mi_ mt_X8_on := ⟨List.mem_of_getElem? (i := 1080) (by decide +kernel), List.mem_of_getElem? (i := 1081) (by decide +kernel)⟩
theorem kk_X8_reads : mk_ mt_X8_reads 3 := ⟨List.mem_of_getElem? (i := 1086) (by decide +kernel), List.mem_of_getElem? (i := 68) (by decide +kernel), by decide +kernel, by decide⟩
theorem ki_X8_reads : mi_ mt_X8_reads := ⟨List.mem_of_getElem? (i := 1084) (by decide +kernel), List.mem_of_getElem? (i := 1085) (by decide +kernel)⟩
theorem kk_X8_askedReading : mk_ mt_X8_askedReading 1 := ⟨List.mem_of_getElem? (i := 1094) (by decide +kernel), List.mem_of_getElem? (i := 68) (by decide +kernel), by decide +kernel, by decide⟩
theorem ki_X8_askedReading : mi_ mt_X8_askedReading := ⟨List.mem_of_getElem? (i := 1093) (by decide +kernel), List.mem_of_getElem? (i := 41) (by decide +kernel)⟩
theorem kk_X8_doesFit : mk_ mt_X8_doesFit 3 := ⟨List.mem_of_getElem? (i := 1098) (by decide +kernel), List.mem_of_getElem? (i := 68) (by decide +kernel), by decide +kernel, by decide⟩
theorem ki_X8_doesFit : mi_ mt_X8_doesFit := ⟨List.mem_of_getElem? (i := 1097) (by decide +kernel), List.mem_of_getElem? (i := 42) (by decide +kernel)⟩
theorem kk_X8_fits : mk_ mt_X8_fits 3 := ⟨List.mem_of_getElem? (i := 1090) (by decide +kernel), List.mem_of_getElem? (i := 68) (by decide +kernel), by decide +kernel, by decide⟩
theorem ki_X8_fits : mi_ mt_X8_fits := ⟨List.mem_of_getElem? (i := 1088) (by decide +kernel), List.mem_of_getElem? (i := 1089) (by decide +kernel)⟩
theorem kk_X8_headsBy : mk_ mt_X8_headsBy 2 := ⟨List.mem_of_getElem? (i := 1106) (by decide +kernel), List.mem_of_getElem? (i := 68) (by decide +kernel), by decide +kernel, by decide⟩
theorem ki_X8_headsBy : mi_ mt_X8_headsBy := ⟨List.mem_of_getElem? (i := 1105) (by decide +kernel), List.mem_of_getElem? (i := 43) (by decide +kernel)⟩
theorem kk_X8_whose : mk_ mt_X8_whose 2 := ⟨List.mem_of_getElem? (i := 1102) (by decide +kernel), List.mem_of_getElem? (i := 68) (by decide +kernel), by decide +kernel, by decide⟩
theorem ki_X8_whose : mi_ mt_X8_whose := ⟨List.mem_of_getElem? (i := 1100) (by decide +kernel), List.mem_of_getElem? (i := 1101) (by decide +kernel)⟩
theorem kk_X8_who : mk_ mt_X8_who 2 := ⟨List.mem_of_getElem? (i := 1110) (by decide +kernel), List.mem_of_getElem? (i := 68) (by decide +kernel), by decide +kernel, by decide⟩
theorem ki_X8_who : mi_ mt_X8_who := ⟨List.mem_of_getElem? (i := 1108) (by decide +kernel), List.mem_of_getElem? (i := 1109) (by decide +kernel)⟩
theorem kk_X8_spread : mk_ mt_X8_spread 3 := ⟨List.mem_of_getElem? (i := 1122) (by decide +kernel), List.mem_of_getElem? (i := 68) (by decide +kernel), by decide +kernel, by decide⟩
theorem ki_X8_spread : mi_ mt_X8_spread := ⟨List.mem_of_getElem? (i := 1121) (by decide +kernel), List.mem_of_getElem? (i := 45) (by decide +kernel)⟩
theorem kk_X8_weight : mk_ mt_X8_weight 3 := ⟨List.mem_of_getElem? (i := 1118) (by decide +kernel), List.mem_of_getElem? (i := 68) (by decide +kernel), by decide +kernel, by decide⟩
theorem ki_X8_weight : mi_ mt_X8_weight := ⟨List.mem_of_getElem? (i := 1117) (by decide +kernel), List.mem_of_getElem? (i := 44) (by decide +kernel)⟩
theorem kk_X8_odds : mk_ mt_X8_odds 3 := ⟨List.mem_of_getElem? (i := 1114) (by decide +kernel), List.mem_of_getElem? (i := 68) (by decide +kernel), by decide +kernel, by decide⟩
theorem ki_X8_odds : mi_ mt_X8_odds := ⟨List.mem_of_getElem? (i := 1112) (by decide +kernel), List.mem_of_getElem? (i := 1113) (by decide +kernel)⟩
theorem kk_X8_areApart : mk_ mt_X8_areApart 4 := ⟨List.mem_of_getElem? (i := 1134) (by decide +kernel), List.mem_of_getElem? (i := 68) (by decide +kernel), by decide +kernel, by decide⟩
theorem ki_X8_areApart : mi_ mt_X8_areApart := ⟨List.mem_of_getElem? (i := 1133) (by decide +kernel), List.mem_of_getElem? (i := 47) (by decide +kernel)⟩
theorem kk_X8_look : mk_ mt_X8_look 1 := ⟨List.mem_of_getElem? (i := 1130) (by decide +kernel), List.mem_of_getElem? (i := 68) (by decide +kernel), by decide +kernel, by decide⟩
theorem ki_X8_look : mi_ mt_X8_look := ⟨List.mem_of_getElem? (i := 1128) (by decide +kernel), List.mem_of_getElem? (i := 1129) (by decide +kernel)⟩
theorem kk_X8_alike : mk_ mt_X8_alike 2 := ⟨List.mem_of_getElem? (i := 1138) (by decide +kernel), List.mem_of_getElem? (i := 68) (by decide +kernel), by decide +kernel, by decide⟩
theorem ki_X8_alike : mi_ mt_X8_alike := ⟨List.mem_of_getElem? (i := 1136) (by decide +kernel), List.mem_of_getElem? (i := 1137) (by decide +kernel)⟩
theorem kk_X8_need : mk_ mt_X8_need 2 := ⟨List.mem_of_getElem? (i := 1150) (by decide +kernel), List.mem_of_getElem? (i := 68) (by decide +kernel), by decide +kernel, by decide⟩
theorem ki_X8_need : mi_ mt_X8_need := ⟨List.mem_of_getElem? (i := 1149) (by decide +kernel), List.mem_of_getElem? (i := 49) (by decide +kernel)⟩
theorem kk_X8_suitsOf : mk_ mt_X8_suitsOf 3 := ⟨List.mem_of_getElem? (i := 1146) (by decide +kernel), List.mem_of_getElem? (i := 68) (by decide +kernel), by decide +kernel, by decide⟩
theorem ki_X8_suitsOf : mi_ mt_X8_suitsOf := ⟨List.mem_of_getElem? (i := 1145) (by decide +kernel), List.mem_of_getElem? (i := 48) (by decide +kernel)⟩
theorem kk_X8_suits : mk_ mt_X8_suits 3 := ⟨List.mem_of_getElem? (i := 1142) (by decide +kernel), List.mem_of_getElem? (i := 68) (by decide +kernel), by decide +kernel, by decide⟩
theorem ki_X8_suits : mi_ mt_X8_suits := ⟨List.mem_of_getElem? (i := 1140) (by decide +kernel), List.mem_of_getElem? (i := 1141) (by decide +kernel)⟩
theorem kk_X8_luck : mk_ mt_X8_luck 3 := ⟨List.mem_of_getElem? (i := 1154) (by decide +kernel), List.mem_of_getElem? (i := 68) (by decide +kernel), by decide +kernel, by decide⟩
theorem ki_X8_luck : mi_ mt_X8_luck := ⟨List.mem_of_getElem? (i := 1152) (by decide +kernel), List.mem_of_getElem? (i := 1153) (by decide +kernel)⟩
theorem kk_X8_padsAt : mk_ mt_X8_padsAt 4 := ⟨List.mem_of_getElem? (i := 1162) (by decide +kernel), List.mem_of_getElem? (i := 68) (by decide +kernel), by decide +kernel, by decide⟩
theorem ki_X8_padsAt : mi_ mt_X8_padsAt := ⟨List.mem_of_getElem? (i := 1161) (by decide +kernel), List.mem_of_getElem? (i := 50) (by decide +kernel)⟩
theorem kk_X8_pads : mk_ mt_X8_pads 4 := ⟨List.mem_of_getElem? (i := 1158) (by decide +kernel), List.mem_of_getElem? (i := 68) (by decide +kernel), by decide +kernel, by decide⟩
theorem ki_X8_pads : mi_ mt_X8_pads := ⟨List.mem_of_getElem? (i := 1156) (by decide +kernel), List.mem_of_getElem? (i := 1157) (by decide +kernel)⟩
theorem kk_X8_all : mk_ mt_X8_all 2 := ⟨List.mem_of_getElem? (i := 1167) (by decide +kernel), List.mem_of_getElem? (i := 68) (by decide +kernel), by decide +kernel, by decide⟩
theorem ki_X8_all : mi_ mt_X8_all := ⟨List.mem_of_getElem? (i := 1165) (by decide +kernel), List.mem_of_getElem? (i := 1166) (by decide +kernel)⟩
theorem kk_X8_finds : mk_ mt_X8_finds 3 := ⟨List.mem_of_getElem? (i := 1171) (by decide +kernel), List.mem_of_getElem? (i := 68) (by decide +kernel), by decide +kernel, by decide⟩
theorem ki_X8_finds : mi_ mt_X8_finds := ⟨List.mem_of_getElem? (i := 1169) (by decide +kernel), List.mem_of_getElem? (i := 1170) (by decide +kernel)⟩
theorem kk_X8_posts : mk_ mt_X8_posts 2 := ⟨List.mem_of_getElem? (i := 1175) (by decide +kernel), List.mem_of_getElem? (i := 68) (by decide +kernel), by decide +kernel, by decide⟩
theorem ki_X8_posts : mi_ mt_X8_posts := ⟨List.mem_of_getElem? (i := 1173) (by decide +kernel), List.mem_of_getElem? (i := 1174) (by decide +kernel)⟩
theorem kk_X8_layMay : mk_ mt_X8_layMay 1 := ⟨List.mem_of_getElem? (i := 1187) (by decide +kernel), List.mem_of_getElem? (i := 68) (by decide +kernel), by decide +kernel, by decide⟩
theorem ki_X8_layMay : mi_ mt_X8_layMay := ⟨List.mem_of_getElem? (i := 1186) (by decide +kernel), List.mem_of_getElem? (i := 52) (by decide +kernel)⟩
theorem kk_X8_planOn : mk_ mt_X8_planOn 3 := ⟨List.mem_of_getElem? (i := 1191) (by decide +kernel), List.mem_of_getElem? (i := 68) (by decide +kernel), by decide +kernel, by decide⟩
theorem ki_X8_planOn : mi_ mt_X8_planOn := ⟨List.mem_of_getElem? (i := 1190) (by decide +kernel), List.mem_of_getElem? (i := 53) (by decide +kernel)⟩
theorem kk_X8_goPlans : mk_ mt_X8_goPlans 1 := ⟨List.mem_of_getElem? (i := 1183) (by decide +kernel), List.mem_of_getElem? (i := 68) (by decide +kernel), by decide +kernel, by decide⟩
theorem ki_X8_goPlans : mi_ mt_X8_goPlans := ⟨List.mem_of_getElem? (i := 1182) (by decide +kernel), List.mem_of_getElem? (i := 51) (by decide +kernel)⟩
theorem kk_X8_layPlan : mk_ mt_X8_layPlan 1 := ⟨List.mem_of_getElem? (i := 1198) (by decide +kernel), List.mem_of_getElem? (i := 68) (by decide +kernel), by decide +kernel, by decide⟩
theorem ki_X8_layPlan : mi_ mt_X8_layPlan := ⟨List.mem_of_getElem? (i := 1197) (by decide +kernel), List.mem_of_getElem? (i := 54) (by decide +kernel)⟩
theorem kk_X8_plan : mk_ mt_X8_plan 2 := ⟨List.mem_of_getElem? (i := 1179) (by decide +kernel), List.mem_of_getElem? (i := 68) (by decide +kernel), by decide +kernel, by decide⟩
theorem ki_X8_plan : mi_ mt_X8_plan := ⟨List.mem_of_getElem? (i := 1177) (by decide +kernel), List.mem_of_getElem? (i := 1178) (by decide +kernel)⟩
theorem kk_X8_plans : mk_ mt_X8_plans 1 := ⟨List.mem_of_getElem? (i := 1202) (by decide +kernel), List.mem_of_getElem? (i := 68) (by decide +kernel), by decide +kernel, by decide⟩
theorem ki_X8_plans : mi_ mt_X8_plans := ⟨List.mem_of_getElem? (i := 1200) (by decide +kernel), List.mem_of_getElem? (i := 1201) (by decide +kernel)⟩
theorem kk_X8_safest : mk_ mt_X8_safest 1 := ⟨List.mem_of_getElem? (i := 1206) (by decide +kernel), List.mem_of_getElem? (i := 68) (by decide +kernel), by decide +kernel, by decide⟩
theorem ki_X8_safest : mi_ mt_X8_safest := ⟨List.mem_of_getElem? (i := 1204) (by decide +kernel), List.mem_of_getElem? (i := 1205) (by decide +kernel)⟩
theorem kk_X8_gain : mk_ mt_X8_gain 2 := ⟨List.mem_of_getElem? (i := 1210) (by decide +kernel), List.mem_of_getElem? (i := 68) (by decide +kernel), by decide +kernel, by decide⟩
theorem ki_X8_gain : mi_ mt_X8_gain := ⟨List.mem_of_getElem? (i := 1208) (by decide +kernel), List.mem_of_getElem? (i := 1209) (by decide +kernel)⟩
theorem kk_X8_doesLearn : mk_ mt_X8_doesLearn 4 := ⟨List.mem_of_getElem? (i := 1218) (by decide +kernel), List.mem_of_getElem? (i := 68) (by decide +kernel), by decide +kernel, by decide⟩
theorem ki_X8_doesLearn : mi_ mt_X8_doesLearn := ⟨List.mem_of_getElem? (i := 1217) (by decide +kernel), List.mem_of_getElem? (i := 55) (by decide +kernel)⟩
theorem kk_X8_learn : mk_ mt_X8_learn 2 := ⟨List.mem_of_getElem? (i := 1214) (by decide +kernel), List.mem_of_getElem? (i := 68) (by decide +kernel), by decide +kernel, by decide⟩
theorem ki_X8_learn : mi_ mt_X8_learn := ⟨List.mem_of_getElem? (i := 1212) (by decide +kernel), List.mem_of_getElem? (i := 1213) (by decide +kernel)⟩
theorem kk_X8_tells : mk_ mt_X8_tells 1 := ⟨List.mem_of_getElem? (i := 1222) (by decide +kernel), List.mem_of_getElem? (i := 68) (by decide +kernel), by decide +kernel, by decide⟩
theorem ki_X8_tells : mi_ mt_X8_tells := ⟨List.mem_of_getElem? (i := 1220) (by decide +kernel), List.mem_of_getElem? (i := 1221) (by decide +kernel)⟩
theorem kk_X8_isAlone : mk_ mt_X8_isAlone 2 := ⟨List.mem_of_getElem? (i := 1233) (by decide +kernel), List.mem_of_getElem? (i := 68) (by decide +kernel), by decide +kernel, by decide⟩
theorem ki_X8_isAlone : mi_ mt_X8_isAlone := ⟨List.mem_of_getElem? (i := 1232) (by decide +kernel), List.mem_of_getElem? (i := 56) (by decide +kernel)⟩
theorem kk_X8_lots : mk_ mt_X8_lots 3 := ⟨List.mem_of_getElem? (i := 1226) (by decide +kernel), List.mem_of_getElem? (i := 68) (by decide +kernel), by decide +kernel, by decide⟩
theorem ki_X8_lots : mi_ mt_X8_lots := ⟨List.mem_of_getElem? (i := 1224) (by decide +kernel), List.mem_of_getElem? (i := 1225) (by decide +kernel)⟩
theorem kk_X8_asked : mk_ mt_X8_asked 0 := ⟨List.mem_of_getElem? (i := 1237) (by decide +kernel), List.mem_of_getElem? (i := 68) (by decide +kernel), by decide +kernel, by decide⟩
theorem ki_X8_asked : mi_ mt_X8_asked := ⟨List.mem_of_getElem? (i := 1235) (by decide +kernel), List.mem_of_getElem? (i := 1236) (by decide +kernel)⟩
theorem kk_X8_upper : mk_ mt_X8_upper 0 := ⟨List.mem_of_getElem? (i := 1241) (by decide +kernel), List.mem_of_getElem? (i := 68) (by decide +kernel), by decide +kernel, by decide⟩
theorem ki_X8_upper : mi_ mt_X8_upper := ⟨List.mem_of_getElem? (i := 1239) (by decide +kernel), List.mem_of_getElem? (i := 1240) (by decide +kernel)⟩
theorem kk_X8_lower : mk_ mt_X8_lower 0 := ⟨List.mem_of_getElem? (i := 1245) (by decide +kernel), List.mem_of_getElem? (i := 68) (by decide +kernel), by decide +kernel, by decide⟩
theorem ki_X8_lower : mi_ mt_X8_lower := ⟨List.mem_of_getElem? (i := 1243) (by decide +kernel), List.mem_of_getElem? (i := 1244) (by decide +kernel)⟩
theorem kk_X8_tellsOf : mk_ mt_X8_tellsOf 1 := ⟨List.mem_of_getElem? (i := 1253) (by decide +kernel), List.mem_of_getElem? (i := 68) (by decide +kernel), by decide +kernel, by decide⟩
theorem ki_X8_tellsOf : mi_ mt_X8_tellsOf := ⟨List.mem_of_getElem? (i := 1252) (by decide +kernel), List.mem_of_getElem? (i := 57) (by decide +kernel)⟩
theorem kk_X8_count : mk_ mt_X8_count 1 := ⟨List.mem_of_getElem? (i := 1249) (by decide +kernel), List.mem_of_getElem? (i := 68) (by decide +kernel), by decide +kernel, by decide⟩
theorem ki_X8_count : mi_ mt_X8_count := ⟨List.mem_of_getElem? (i := 1247) (by decide +kernel), List.mem_of_getElem? (i := 1248) (by decide +kernel)⟩
theorem kk_X8_finding : mk_ mt_X8_finding 0 := ⟨List.mem_of_getElem? (i := 1257) (by decide +kernel), List.mem_of_getElem? (i := 68) (by decide +kernel), by decide +kernel, by decide⟩
theorem ki_X8_finding : mi_ mt_X8_finding := ⟨List.mem_of_getElem? (i := 1255) (by decide +kernel), List.mem_of_getElem? (i := 1256) (by decide +kernel)⟩
theorem kk_X8_findings : mk_ mt_X8_findings 1 := ⟨List.mem_of_getElem? (i := 1261) (by decide +kernel), List.mem_of_getElem? (i := 68) (by decide +kernel), by decide +kernel, by decide⟩
theorem ki_X8_findings : mi_ mt_X8_findings := ⟨List.mem_of_getElem? (i := 1259) (by decide +kernel), List.mem_of_getElem? (i := 1260) (by decide +kernel)⟩
theorem kk_X8_mix : mk_ mt_X8_mix 1 := ⟨List.mem_of_getElem? (i := 1270) (by decide +kernel), List.mem_of_getElem? (i := 68) (by decide +kernel), by decide +kernel, by decide⟩
theorem ki_X8_mix : mi_ mt_X8_mix := ⟨List.mem_of_getElem? (i := 1269) (by decide +kernel), List.mem_of_getElem? (i := 58) (by decide +kernel)⟩
theorem kk_X8_mixOffice : mk_ mt_X8_mixOffice 0 := ⟨List.mem_of_getElem? (i := 1275) (by decide +kernel), List.mem_of_getElem? (i := 68) (by decide +kernel), by decide +kernel, by decide⟩
theorem ki_X8_mixOffice : mi_ mt_X8_mixOffice := ⟨List.mem_of_getElem? (i := 1274) (by decide +kernel), List.mem_of_getElem? (i := 59) (by decide +kernel)⟩
theorem kk_X8_digest : mk_ mt_X8_digest 0 := ⟨List.mem_of_getElem? (i := 1265) (by decide +kernel), List.mem_of_getElem? (i := 68) (by decide +kernel), by decide +kernel, by decide⟩
theorem ki_X8_digest : mi_ mt_X8_digest := ⟨List.mem_of_getElem? (i := 1263) (by decide +kernel), List.mem_of_getElem? (i := 1264) (by decide +kernel)⟩
theorem lc_RX2_43 : Cond.constantLong RX2 43 31 ∈ lw_tbl := List.mem_of_getElem? (i := 759) (by decide +kernel)
theorem lc_RX5_24 : Cond.constantLong RX5 24 31 ∈ lw_tbl := List.mem_of_getElem? (i := 765) (by decide +kernel)
theorem lc_RX7_265 : Cond.constantLong RX7 265 2147483647 ∈ lw_tbl := List.mem_of_getElem? (i := 702) (by decide +kernel)
theorem lc_RX7_299 : Cond.constantLong RX7 299 17 ∈ lw_tbl := List.mem_of_getElem? (i := 752) (by decide +kernel)
theorem lc_RX7_301 : Cond.constantLong RX7 301 31 ∈ lw_tbl := List.mem_of_getElem? (i := 753) (by decide +kernel)
theorem lc_RX7_310 : Cond.constantLong RX7 310 48271 ∈ lw_tbl := List.mem_of_getElem? (i := 706) (by decide +kernel)
theorem lc_RX8_274 : Cond.constant RX8 274 2147483646 ∈ lw_tbl := List.mem_of_getElem? (i := 1227) (by decide +kernel)
theorem lc_RX8_275 : Cond.constantLong RX8 275 48271 ∈ lw_tbl := List.mem_of_getElem? (i := 1228) (by decide +kernel)
theorem lc_RX8_277 : Cond.constantLong RX8 277 2147483647 ∈ lw_tbl := List.mem_of_getElem? (i := 1229) (by decide +kernel)
theorem lc_RX8_285 : Cond.constantLong RX8 285 31 ∈ lw_tbl := List.mem_of_getElem? (i := 1271) (by decide +kernel)
theorem lc_RX8_293 : Cond.constantLong RX8 293 17 ∈ lw_tbl := List.mem_of_getElem? (i := 1266) (by decide +kernel)
theorem lf_RX0_15 : fl_ RX0 15 (TX0 1) := Or.inl (List.mem_of_getElem? (i := 213) (by decide +kernel))
theorem lf_RX0_18 : fl_ RX0 18 (TX0 2) := Or.inl (List.mem_of_getElem? (i := 214) (by decide +kernel))
theorem lf_RX0_22 : fl_ RX0 22 (TX2 6) := Or.inr (List.mem_of_getElem? (i := 189) (by decide +kernel))
theorem lf_RX0_25 : fl_ RX0 25 (TX2 5) := Or.inr (List.mem_of_getElem? (i := 188) (by decide +kernel))
theorem lf_RX0_32 : fl_ RX0 32 (TX2 2) := Or.inr (List.mem_of_getElem? (i := 174) (by decide +kernel))
theorem lf_RX0_9 : fl_ RX0 9 (TX0 0) := Or.inl (List.mem_of_getElem? (i := 212) (by decide +kernel))
theorem lf_RX1_35 : fl_ RX1 35 (TX2 2) := Or.inr (List.mem_of_getElem? (i := 176) (by decide +kernel))
theorem lf_RX1_9 : fl_ RX1 9 (TX2 4) := Or.inr (List.mem_of_getElem? (i := 184) (by decide +kernel))
theorem lf_RX2_11 : fl_ RX2 11 (TX2 0) := Or.inl (List.mem_of_getElem? (i := 169) (by decide +kernel))
theorem lf_RX2_16 : fl_ RX2 16 (TX2 1) := Or.inl (List.mem_of_getElem? (i := 171) (by decide +kernel))
theorem lf_RX2_19 : fl_ RX2 19 (TX2 2) := Or.inl (List.mem_of_getElem? (i := 173) (by decide +kernel))
theorem lf_RX2_22 : fl_ RX2 22 (TX2 3) := Or.inl (List.mem_of_getElem? (i := 178) (by decide +kernel))
theorem lf_RX2_25 : fl_ RX2 25 (TX2 4) := Or.inl (List.mem_of_getElem? (i := 182) (by decide +kernel))
theorem lf_RX2_29 : fl_ RX2 29 (TX2 5) := Or.inl (List.mem_of_getElem? (i := 187) (by decide +kernel))
theorem lf_RX2_40 : fl_ RX2 40 ("ThumbReader", (sn_ 5).1, "[I", true) := Or.inr (List.mem_of_getElem? (i := 400) (by decide +kernel))
theorem lf_RX2_49 : fl_ RX2 49 (TX2 6) := Or.inl (List.mem_of_getElem? (i := 190) (by decide +kernel))
theorem lf_RX2_68 : fl_ RX2 68 ("ThumbReader", (sn_ 6).1, "[I", true) := Or.inr (List.mem_of_getElem? (i := 424) (by decide +kernel))
theorem lf_RX2_71 : fl_ RX2 71 ("ThumbReader", (sn_ 7).1, "[I", true) := Or.inr (List.mem_of_getElem? (i := 426) (by decide +kernel))
theorem lf_RX2_74 : fl_ RX2 74 ("ThumbReader", (sn_ 8).1, "[I", true) := Or.inr (List.mem_of_getElem? (i := 428) (by decide +kernel))
theorem lf_RX3_17 : fl_ RX3 17 (TX3 1) := Or.inl (List.mem_of_getElem? (i := 125) (by decide +kernel))
theorem lf_RX3_20 : fl_ RX3 20 (TX3 2) := Or.inl (List.mem_of_getElem? (i := 126) (by decide +kernel))
theorem lf_RX3_23 : fl_ RX3 23 (TX2 4) := Or.inr (List.mem_of_getElem? (i := 183) (by decide +kernel))
theorem lf_RX3_50 : fl_ RX3 50 (TX2 3) := Or.inr (List.mem_of_getElem? (i := 180) (by decide +kernel))
theorem lf_RX3_9 : fl_ RX3 9 (TX3 0) := Or.inl (List.mem_of_getElem? (i := 123) (by decide +kernel))
theorem lf_RX4_15 : fl_ RX4 15 (TX4 1) := Or.inl (List.mem_of_getElem? (i := 107) (by decide +kernel))
theorem lf_RX4_19 : fl_ RX4 19 (TX4 2) := Or.inl (List.mem_of_getElem? (i := 108) (by decide +kernel))
theorem lf_RX4_22 : fl_ RX4 22 (TX2 4) := Or.inr (List.mem_of_getElem? (i := 185) (by decide +kernel))
theorem lf_RX4_42 : fl_ RX4 42 ("ThumbReader", (sn_ 4).1, "[I", true) := Or.inr (List.mem_of_getElem? (i := 350) (by decide +kernel))
theorem lf_RX4_45 : fl_ RX4 45 (TX2 2) := Or.inr (List.mem_of_getElem? (i := 175) (by decide +kernel))
theorem lf_RX4_49 : fl_ RX4 49 ("ThumbReader", (sn_ 0).1, "[I", true) := Or.inr (List.mem_of_getElem? (i := 335) (by decide +kernel))
theorem lf_RX4_52 : fl_ RX4 52 ("ThumbReader", (sn_ 3).1, "[I", true) := Or.inr (List.mem_of_getElem? (i := 348) (by decide +kernel))
theorem lf_RX4_55 : fl_ RX4 55 ("ThumbReader", (sn_ 1).1, "[I", true) := Or.inr (List.mem_of_getElem? (i := 337) (by decide +kernel))
theorem lf_RX4_58 : fl_ RX4 58 ("ThumbReader", (sn_ 2).1, "[I", true) := Or.inr (List.mem_of_getElem? (i := 339) (by decide +kernel))
theorem lf_RX4_61 : fl_ RX4 61 (TX2 0) := Or.inr (List.mem_of_getElem? (i := 170) (by decide +kernel))
theorem lf_RX4_64 : fl_ RX4 64 (TX2 3) := Or.inr (List.mem_of_getElem? (i := 179) (by decide +kernel))
theorem lf_RX4_9 : fl_ RX4 9 (TX4 0) := Or.inl (List.mem_of_getElem? (i := 106) (by decide +kernel))
theorem lf_RX5_11 : fl_ RX5 11 (TX5 0) := Or.inl (List.mem_of_getElem? (i := 88) (by decide +kernel))
theorem lf_RX5_16 : fl_ RX5 16 (TX5 1) := Or.inl (List.mem_of_getElem? (i := 90) (by decide +kernel))
theorem lf_RX6_15 : fl_ RX6 15 (TX6 4) := Or.inl (List.mem_of_getElem? (i := 149) (by decide +kernel))
theorem lf_RX6_19 : fl_ RX6 19 (TX6 2) := Or.inl (List.mem_of_getElem? (i := 145) (by decide +kernel))
theorem lf_RX6_27 : fl_ RX6 27 (TX6 3) := Or.inl (List.mem_of_getElem? (i := 147) (by decide +kernel))
theorem lf_RX6_30 : fl_ RX6 30 (TX6 1) := Or.inl (List.mem_of_getElem? (i := 143) (by decide +kernel))
theorem lf_RX6_9 : fl_ RX6 9 (TX6 0) := Or.inl (List.mem_of_getElem? (i := 141) (by decide +kernel))
theorem lf_RX7_114 : fl_ RX7 114 (TX0 2) := Or.inr (List.mem_of_getElem? (i := 215) (by decide +kernel))
theorem lf_RX7_118 : fl_ RX7 118 (TX2 4) := Or.inr (List.mem_of_getElem? (i := 186) (by decide +kernel))
theorem lf_RX7_126 : fl_ RX7 126 (TX2 2) := Or.inr (List.mem_of_getElem? (i := 177) (by decide +kernel))
theorem lf_RX7_129 : fl_ RX7 129 (TX2 3) := Or.inr (List.mem_of_getElem? (i := 181) (by decide +kernel))
theorem lf_RX7_14 : fl_ RX7 14 (TX7 0) := Or.inl (List.mem_of_getElem? (i := 223) (by decide +kernel))
theorem lf_RX7_157 : fl_ RX7 157 (TX2 1) := Or.inr (List.mem_of_getElem? (i := 172) (by decide +kernel))
theorem lf_RX7_160 : fl_ RX7 160 (TX2 6) := Or.inr (List.mem_of_getElem? (i := 191) (by decide +kernel))
theorem lf_RX7_18 : fl_ RX7 18 (TX7 1) := Or.inl (List.mem_of_getElem? (i := 224) (by decide +kernel))
theorem lf_RX7_23 : fl_ RX7 23 (TX7 2) := Or.inl (List.mem_of_getElem? (i := 225) (by decide +kernel))
theorem lf_RX7_241 : fl_ RX7 241 (TX3 2) := Or.inr (List.mem_of_getElem? (i := 127) (by decide +kernel))
theorem lf_RX7_250 : fl_ RX7 250 (TX3 0) := Or.inr (List.mem_of_getElem? (i := 124) (by decide +kernel))
theorem lf_RX7_271 : fl_ RX7 271 (TX6 2) := Or.inr (List.mem_of_getElem? (i := 146) (by decide +kernel))
theorem lf_RX7_274 : fl_ RX7 274 (TX6 3) := Or.inr (List.mem_of_getElem? (i := 148) (by decide +kernel))
theorem lf_RX7_278 : fl_ RX7 278 (TX6 4) := Or.inr (List.mem_of_getElem? (i := 150) (by decide +kernel))
theorem lf_RX7_293 : fl_ RX7 293 (TX6 1) := Or.inr (List.mem_of_getElem? (i := 144) (by decide +kernel))
theorem lf_RX7_296 : fl_ RX7 296 (TX6 0) := Or.inr (List.mem_of_getElem? (i := 142) (by decide +kernel))
theorem lf_RX7_30 : fl_ RX7 30 (TX7 3) := Or.inl (List.mem_of_getElem? (i := 226) (by decide +kernel))
theorem lf_RX7_37 : fl_ RX7 37 (TX7 4) := Or.inl (List.mem_of_getElem? (i := 227) (by decide +kernel))
theorem lf_RX7_44 : fl_ RX7 44 (TX7 5) := Or.inl (List.mem_of_getElem? (i := 228) (by decide +kernel))
theorem lf_RX7_48 : fl_ RX7 48 (TX7 6) := Or.inl (List.mem_of_getElem? (i := 229) (by decide +kernel))
theorem lf_RX7_55 : fl_ RX7 55 (TX7 7) := Or.inl (List.mem_of_getElem? (i := 230) (by decide +kernel))
theorem lf_RX7_59 : fl_ RX7 59 (TX7 8) := Or.inl (List.mem_of_getElem? (i := 231) (by decide +kernel))
theorem lf_RX7_79 : fl_ RX7 79 (TX5 0) := Or.inr (List.mem_of_getElem? (i := 89) (by decide +kernel))
theorem lf_RX7_89 : fl_ RX7 89 (TX5 1) := Or.inr (List.mem_of_getElem? (i := 91) (by decide +kernel))
theorem lf_RX8_107 : fl_ RX8 107 (TX8 16) := Or.inl (List.mem_of_getElem? (i := 788) (by decide +kernel))
theorem lf_RX8_113 : fl_ RX8 113 (TX8 17) := Or.inl (List.mem_of_getElem? (i := 789) (by decide +kernel))
theorem lf_RX8_116 : fl_ RX8 116 (TX8 18) := Or.inl (List.mem_of_getElem? (i := 790) (by decide +kernel))
theorem lf_RX8_119 : fl_ RX8 119 (TX8 19) := Or.inl (List.mem_of_getElem? (i := 791) (by decide +kernel))
theorem lf_RX8_13 : fl_ RX8 13 (TX8 4) := Or.inl (List.mem_of_getElem? (i := 776) (by decide +kernel))
theorem lf_RX8_141 : fl_ RX8 141 (TX8 10) := Or.inl (List.mem_of_getElem? (i := 782) (by decide +kernel))
theorem lf_RX8_144 : fl_ RX8 144 (TX8 11) := Or.inl (List.mem_of_getElem? (i := 783) (by decide +kernel))
theorem lf_RX8_147 : fl_ RX8 147 (TX8 12) := Or.inl (List.mem_of_getElem? (i := 784) (by decide +kernel))
theorem lf_RX8_150 : fl_ RX8 150 (TX8 21) := Or.inl (List.mem_of_getElem? (i := 793) (by decide +kernel))
theorem lf_RX8_17 : fl_ RX8 17 (TX8 5) := Or.inl (List.mem_of_getElem? (i := 777) (by decide +kernel))
theorem lf_RX8_20 : fl_ RX8 20 (TX8 6) := Or.inl (List.mem_of_getElem? (i := 778) (by decide +kernel))
theorem lf_RX8_23 : fl_ RX8 23 (TX8 7) := Or.inl (List.mem_of_getElem? (i := 779) (by decide +kernel))
theorem lf_RX8_249 : fl_ RX8 249 (TX8 28) := Or.inl (List.mem_of_getElem? (i := 800) (by decide +kernel))
theorem lf_RX8_252 : fl_ RX8 252 (TX8 27) := Or.inl (List.mem_of_getElem? (i := 799) (by decide +kernel))
theorem lf_RX8_26 : fl_ RX8 26 (TX8 8) := Or.inl (List.mem_of_getElem? (i := 780) (by decide +kernel))
theorem lf_RX8_287 : fl_ RX8 287 (TX8 30) := Or.inl (List.mem_of_getElem? (i := 802) (by decide +kernel))
theorem lf_RX8_29 : fl_ RX8 29 (TX8 9) := Or.inl (List.mem_of_getElem? (i := 781) (by decide +kernel))
theorem lf_RX8_32 : fl_ RX8 32 (TX8 13) := Or.inl (List.mem_of_getElem? (i := 785) (by decide +kernel))
theorem lf_RX8_35 : fl_ RX8 35 (TX8 14) := Or.inl (List.mem_of_getElem? (i := 786) (by decide +kernel))
theorem lf_RX8_38 : fl_ RX8 38 (TX8 15) := Or.inl (List.mem_of_getElem? (i := 787) (by decide +kernel))
theorem lf_RX8_41 : fl_ RX8 41 (TX8 20) := Or.inl (List.mem_of_getElem? (i := 792) (by decide +kernel))
theorem lf_RX8_44 : fl_ RX8 44 (TX8 22) := Or.inl (List.mem_of_getElem? (i := 794) (by decide +kernel))
theorem lf_RX8_47 : fl_ RX8 47 (TX8 23) := Or.inl (List.mem_of_getElem? (i := 795) (by decide +kernel))
theorem lf_RX8_50 : fl_ RX8 50 (TX8 24) := Or.inl (List.mem_of_getElem? (i := 796) (by decide +kernel))
theorem lf_RX8_53 : fl_ RX8 53 (TX8 25) := Or.inl (List.mem_of_getElem? (i := 797) (by decide +kernel))
theorem lf_RX8_56 : fl_ RX8 56 (TX8 26) := Or.inl (List.mem_of_getElem? (i := 798) (by decide +kernel))
theorem lf_RX8_59 : fl_ RX8 59 (TX8 29) := Or.inl (List.mem_of_getElem? (i := 801) (by decide +kernel))
theorem lf_RX8_62 : fl_ RX8 62 (TX8 0) := Or.inl (List.mem_of_getElem? (i := 772) (by decide +kernel))
theorem lf_RX8_66 : fl_ RX8 66 (TX8 2) := Or.inl (List.mem_of_getElem? (i := 774) (by decide +kernel))
theorem lf_RX8_69 : fl_ RX8 69 (TX8 3) := Or.inl (List.mem_of_getElem? (i := 775) (by decide +kernel))
theorem lf_RX8_7 : fl_ RX8 7 (TX8 1) := Or.inl (List.mem_of_getElem? (i := 773) (by decide +kernel))
theorem lm_RX0_26 : Cond.methodLink RX0 26 arraycopyName ∈ lw_tbl := List.mem_of_getElem? (i := 490) (by decide +kernel)
theorem lm_RX0_36 : Cond.methodLink RX0 36 yX2_goBack ∈ lw_tbl := List.mem_of_getElem? (i := 499) (by decide +kernel)
theorem lm_RX1_15 : Cond.methodLink RX1 15 yX2_felt ∈ lw_tbl := List.mem_of_getElem? (i := 405) (by decide +kernel)
theorem lm_RX1_19 : Cond.methodLink RX1 19 yX2_most ∈ lw_tbl := List.mem_of_getElem? (i := 412) (by decide +kernel)
theorem lm_RX1_23 : Cond.methodLink RX1 23 Lib.Math.max.name ∈ lw_tbl := List.mem_of_getElem? (i := 430) (by decide +kernel)
theorem lm_RX1_29 : Cond.methodLink RX1 29 yX1_hasItsWish ∈ lw_tbl := List.mem_of_getElem? (i := 436) (by decide +kernel)
theorem lm_RX1_39 : Cond.methodLink RX1 39 yX2_least ∈ lw_tbl := List.mem_of_getElem? (i := 439) (by decide +kernel)
theorem lm_RX1_42 : Cond.methodLink RX1 42 yX2_middleBy ∈ lw_tbl := List.mem_of_getElem? (i := 450) (by decide +kernel)
theorem lm_RX2_102 : Cond.methodLink RX2 102 yX2_ways ∈ lw_tbl := List.mem_of_getElem? (i := 541) (by decide +kernel)
theorem lm_RX2_105 : Cond.methodLink RX2 105 yX2_isApart ∈ lw_tbl := List.mem_of_getElem? (i := 560) (by decide +kernel)
theorem lm_RX2_109 : Cond.methodLink RX2 109 yX2_isSure ∈ lw_tbl := List.mem_of_getElem? (i := 614) (by decide +kernel)
theorem lm_RX2_32 : Cond.methodLink RX2 32 yX2_together ∈ lw_tbl := List.mem_of_getElem? (i := 380) (by decide +kernel)
theorem lm_RX2_36 : Cond.methodLink RX2 36 yX2_isOf ∈ lw_tbl := List.mem_of_getElem? (i := 731) (by decide +kernel)
theorem lm_RX2_45 : Cond.methodLink RX2 45 yX2_ofHead ∈ lw_tbl := List.mem_of_getElem? (i := 760) (by decide +kernel)
theorem lm_RX2_53 : Cond.methodLink RX2 53 yX2_repeat ∈ lw_tbl := List.mem_of_getElem? (i := 361) (by decide +kernel)
theorem lm_RX2_57 : Cond.methodLink RX2 57 arraycopyName ∈ lw_tbl := List.mem_of_getElem? (i := 360) (by decide +kernel)
theorem lm_RX2_63 : Cond.methodLink RX2 63 Lib.Math.min.name ∈ lw_tbl := List.mem_of_getElem? (i := 365) (by decide +kernel)
theorem lm_RX2_77 : Cond.methodLink RX2 77 yX2_felt ∈ lw_tbl := List.mem_of_getElem? (i := 420) (by decide +kernel)
theorem lm_RX2_81 : Cond.methodLink RX2 81 yX2_middle ∈ lw_tbl := List.mem_of_getElem? (i := 421) (by decide +kernel)
theorem lm_RX2_85 : Cond.methodLink RX2 85 yX2_middleBy ∈ lw_tbl := List.mem_of_getElem? (i := 416) (by decide +kernel)
theorem lm_RX2_89 : Cond.methodLink RX2 89 Lib.Math.max.name ∈ lw_tbl := List.mem_of_getElem? (i := 443) (by decide +kernel)
theorem lm_RX2_92 : Cond.methodLink RX2 92 yX2_most ∈ lw_tbl := List.mem_of_getElem? (i := 519) (by decide +kernel)
theorem lm_RX2_95 : Cond.methodLink RX2 95 yX2_least ∈ lw_tbl := List.mem_of_getElem? (i := 518) (by decide +kernel)
theorem lm_RX2_98 : Cond.methodLink RX2 98 yX2_canRead ∈ lw_tbl := List.mem_of_getElem? (i := 528) (by decide +kernel)
theorem lm_RX3_28 : Cond.methodLink RX3 28 yX2_surePosts ∈ lw_tbl := List.mem_of_getElem? (i := 623) (by decide +kernel)
theorem lm_RX3_32 : Cond.methodLink RX3 32 yX3_reckonFrom ∈ lw_tbl := List.mem_of_getElem? (i := 628) (by decide +kernel)
theorem lm_RX3_36 : Cond.methodLink RX3 36 yX3_isFree ∈ lw_tbl := List.mem_of_getElem? (i := 632) (by decide +kernel)
theorem lm_RX3_40 : Cond.methodLink RX3 40 yX3_payBy ∈ lw_tbl := List.mem_of_getElem? (i := 636) (by decide +kernel)
theorem lm_RX3_44 : Cond.methodLink RX3 44 Lib.Math.max.name ∈ lw_tbl := List.mem_of_getElem? (i := 640) (by decide +kernel)
theorem lm_RX4_28 : Cond.methodLink RX4 28 yX4_goesOn ∈ lw_tbl := List.mem_of_getElem? (i := 327) (by decide +kernel)
theorem lm_RX4_32 : Cond.methodLink RX4 32 yX4_takesFigure ∈ lw_tbl := List.mem_of_getElem? (i := 331) (by decide +kernel)
theorem lm_RX4_35 : Cond.methodLink RX4 35 yX4_opensItem ∈ lw_tbl := List.mem_of_getElem? (i := 341) (by decide +kernel)
theorem lm_RX4_38 : Cond.methodLink RX4 38 yX4_kindBy ∈ lw_tbl := List.mem_of_getElem? (i := 345) (by decide +kernel)
theorem lm_RX5_20 : Cond.methodLink RX5 20 yX5_lacks ∈ lw_tbl := List.mem_of_getElem? (i := 275) (by decide +kernel)
theorem lm_RX6_23 : Cond.methodLink RX6 23 yX6_commonDivisor ∈ lw_tbl := List.mem_of_getElem? (i := 549) (by decide +kernel)
theorem lm_RX7_102 : Cond.methodLink RX7 102 yX5_sum ∈ lw_tbl := List.mem_of_getElem? (i := 307) (by decide +kernel)
theorem lm_RX7_106 : Cond.methodLink RX7 106 yX4_into ∈ lw_tbl := List.mem_of_getElem? (i := 323) (by decide +kernel)
theorem lm_RX7_110 : Cond.methodLink RX7 110 yX2_goBack ∈ lw_tbl := List.mem_of_getElem? (i := 356) (by decide +kernel)
theorem lm_RX7_119 : Cond.methodLink RX7 119 yX2_has ∈ lw_tbl := List.mem_of_getElem? (i := 372) (by decide +kernel)
theorem lm_RX7_123 : Cond.methodLink RX7 123 yX2_ofHead ∈ lw_tbl := List.mem_of_getElem? (i := 376) (by decide +kernel)
theorem lm_RX7_132 : Cond.methodLink RX7 132 yX2_isOf ∈ lw_tbl := List.mem_of_getElem? (i := 396) (by decide +kernel)
theorem lm_RX7_135 : Cond.methodLink RX7 135 yX1_heavy ∈ lw_tbl := List.mem_of_getElem? (i := 402) (by decide +kernel)
theorem lm_RX7_141 : Cond.methodLink RX7 141 yX1_light ∈ lw_tbl := List.mem_of_getElem? (i := 409) (by decide +kernel)
theorem lm_RX7_145 : Cond.methodLink RX7 145 yX1_wishing ∈ lw_tbl := List.mem_of_getElem? (i := 433) (by decide +kernel)
theorem lm_RX7_148 : Cond.methodLink RX7 148 yX1_clerk ∈ lw_tbl := List.mem_of_getElem? (i := 444) (by decide +kernel)
theorem lm_RX7_151 : Cond.methodLink RX7 151 yX1_dull ∈ lw_tbl := List.mem_of_getElem? (i := 447) (by decide +kernel)
theorem lm_RX7_154 : Cond.methodLink RX7 154 yX7_isPlace ∈ lw_tbl := List.mem_of_getElem? (i := 459) (by decide +kernel)
theorem lm_RX7_161 : Cond.methodLink RX7 161 yX2_act ∈ lw_tbl := List.mem_of_getElem? (i := 462) (by decide +kernel)
theorem lm_RX7_164 : Cond.methodLink RX7 164 yX2_together ∈ lw_tbl := List.mem_of_getElem? (i := 470) (by decide +kernel)
theorem lm_RX7_167 : Cond.methodLink RX7 167 yX7_isKeptPlace ∈ lw_tbl := List.mem_of_getElem? (i := 483) (by decide +kernel)
theorem lm_RX7_170 : Cond.methodLink RX7 170 yX0_take ∈ lw_tbl := List.mem_of_getElem? (i := 486) (by decide +kernel)
theorem lm_RX7_174 : Cond.methodLink RX7 174 yX0_giveTo ∈ lw_tbl := List.mem_of_getElem? (i := 495) (by decide +kernel)
theorem lm_RX7_177 : Cond.methodLink RX7 177 yX2_most ∈ lw_tbl := List.mem_of_getElem? (i := 504) (by decide +kernel)
theorem lm_RX7_181 : Cond.methodLink RX7 181 yX2_least ∈ lw_tbl := List.mem_of_getElem? (i := 505) (by decide +kernel)
theorem lm_RX7_184 : Cond.methodLink RX7 184 yX7_findingOfReading ∈ lw_tbl := List.mem_of_getElem? (i := 510) (by decide +kernel)
theorem lm_RX7_187 : Cond.methodLink RX7 187 yX2_canRead ∈ lw_tbl := List.mem_of_getElem? (i := 514) (by decide +kernel)
theorem lm_RX7_191 : Cond.methodLink RX7 191 yX2_headsThatFit ∈ lw_tbl := List.mem_of_getElem? (i := 524) (by decide +kernel)
theorem lm_RX7_195 : Cond.methodLink RX7 195 yX2_weight ∈ lw_tbl := List.mem_of_getElem? (i := 537) (by decide +kernel)
theorem lm_RX7_199 : Cond.methodLink RX7 199 yX6_tellFraction ∈ lw_tbl := List.mem_of_getElem? (i := 545) (by decide +kernel)
theorem lm_RX7_203 : Cond.methodLink RX7 203 yX2_pairsApart ∈ lw_tbl := List.mem_of_getElem? (i := 556) (by decide +kernel)
theorem lm_RX7_206 : Cond.methodLink RX7 206 yX2_maySeem ∈ lw_tbl := List.mem_of_getElem? (i := 568) (by decide +kernel)
theorem lm_RX7_209 : Cond.methodLink RX7 209 yX2_isSure ∈ lw_tbl := List.mem_of_getElem? (i := 576) (by decide +kernel)
theorem lm_RX7_213 : Cond.methodLink RX7 213 yX2_isLucky ∈ lw_tbl := List.mem_of_getElem? (i := 580) (by decide +kernel)
theorem lm_RX7_216 : Cond.methodLink RX7 216 Lib.Math.max.name ∈ lw_tbl := List.mem_of_getElem? (i := 588) (by decide +kernel)
theorem lm_RX7_221 : Cond.methodLink RX7 221 yX2_ways ∈ lw_tbl := List.mem_of_getElem? (i := 589) (by decide +kernel)
theorem lm_RX7_225 : Cond.methodLink RX7 225 yX2_fewestPads ∈ lw_tbl := List.mem_of_getElem? (i := 594) (by decide +kernel)
theorem lm_RX7_228 : Cond.methodLink RX7 228 yX2_surePosts ∈ lw_tbl := List.mem_of_getElem? (i := 610) (by decide +kernel)
theorem lm_RX7_231 : Cond.methodLink RX7 231 yX3_openByOne ∈ lw_tbl := List.mem_of_getElem? (i := 619) (by decide +kernel)
theorem lm_RX7_235 : Cond.methodLink RX7 235 yX3_reckon ∈ lw_tbl := List.mem_of_getElem? (i := 624) (by decide +kernel)
theorem lm_RX7_238 : Cond.methodLink RX7 238 yX7_layBestPlan ∈ lw_tbl := List.mem_of_getElem? (i := 641) (by decide +kernel)
theorem lm_RX7_243 : Cond.methodLink RX7 243 yX3_openByAll ∈ lw_tbl := List.mem_of_getElem? (i := 661) (by decide +kernel)
theorem lm_RX7_246 : Cond.methodLink RX7 246 yX3_bestPay ∈ lw_tbl := List.mem_of_getElem? (i := 649) (by decide +kernel)
theorem lm_RX7_253 : Cond.methodLink RX7 253 yX7_findingOfThrees ∈ lw_tbl := List.mem_of_getElem? (i := 673) (by decide +kernel)
theorem lm_RX7_256 : Cond.methodLink RX7 256 yX7_threesFit ∈ lw_tbl := List.mem_of_getElem? (i := 677) (by decide +kernel)
theorem lm_RX7_259 : Cond.methodLink RX7 259 yX7_findingOfFates ∈ lw_tbl := List.mem_of_getElem? (i := 690) (by decide +kernel)
theorem lm_RX7_262 : Cond.methodLink RX7 262 yX2_placesAbove ∈ lw_tbl := List.mem_of_getElem? (i := 694) (by decide +kernel)
theorem lm_RX7_267 : Cond.methodLink RX7 267 yX7_nextLot ∈ lw_tbl := List.mem_of_getElem? (i := 703) (by decide +kernel)
theorem lm_RX7_281 : Cond.methodLink RX7 281 yX2_allTogether ∈ lw_tbl := List.mem_of_getElem? (i := 723) (by decide +kernel)
theorem lm_RX7_284 : Cond.methodLink RX7 284 yX2_wishingOnes ∈ lw_tbl := List.mem_of_getElem? (i := 727) (by decide +kernel)
theorem lm_RX7_287 : Cond.methodLink RX7 287 yX5_present ∈ lw_tbl := List.mem_of_getElem? (i := 732) (by decide +kernel)
theorem lm_RX7_290 : Cond.methodLink RX7 290 yX7_presentOffices ∈ lw_tbl := List.mem_of_getElem? (i := 736) (by decide +kernel)
theorem lm_RX7_303 : Cond.methodLink RX7 303 yX7_count ∈ lw_tbl := List.mem_of_getElem? (i := 754) (by decide +kernel)
theorem lm_RX7_306 : Cond.methodLink RX7 306 yX2_mix ∈ lw_tbl := List.mem_of_getElem? (i := 755) (by decide +kernel)
theorem lm_RX7_309 : Cond.methodLink RX7 309 yX5_mix ∈ lw_tbl := List.mem_of_getElem? (i := 761) (by decide +kernel)
theorem lm_RX7_312 : Cond.methodLink RX7 312 yX2_felt ∈ lw_tbl := List.mem_of_getElem? (i := 681) (by decide +kernel)
theorem lm_RX7_315 : Cond.methodLink RX7 315 yX2_middle ∈ lw_tbl := List.mem_of_getElem? (i := 682) (by decide +kernel)
theorem lm_RX7_319 : Cond.methodLink RX7 319 Lib.Math.abs.name ∈ lw_tbl := List.mem_of_getElem? (i := 683) (by decide +kernel)
theorem lm_RX7_322 : Cond.methodLink RX7 322 yX3_bestPost ∈ lw_tbl := List.mem_of_getElem? (i := 645) (by decide +kernel)
theorem lm_RX7_63 : Cond.methodLink RX7 63 yX5_allows ∈ lw_tbl := List.mem_of_getElem? (i := 255) (by decide +kernel)
theorem lm_RX7_67 : Cond.methodLink RX7 67 yX6_refuse ∈ lw_tbl := List.mem_of_getElem? (i := 259) (by decide +kernel)
theorem lm_RX7_71 : Cond.methodLink RX7 71 yX5_renew ∈ lw_tbl := List.mem_of_getElem? (i := 263) (by decide +kernel)
theorem lm_RX7_75 : Cond.methodLink RX7 75 yX5_findingAt ∈ lw_tbl := List.mem_of_getElem? (i := 271) (by decide +kernel)
theorem lm_RX7_83 : Cond.methodLink RX7 83 yX6_tell ∈ lw_tbl := List.mem_of_getElem? (i := 279) (by decide +kernel)
theorem lm_RX7_86 : Cond.methodLink RX7 86 yX5_lacks ∈ lw_tbl := List.mem_of_getElem? (i := 291) (by decide +kernel)
theorem lm_RX7_92 : Cond.methodLink RX7 92 yX5_spans ∈ lw_tbl := List.mem_of_getElem? (i := 296) (by decide +kernel)
theorem lm_RX7_96 : Cond.methodLink RX7 96 arraycopyName ∈ lw_tbl := List.mem_of_getElem? (i := 300) (by decide +kernel)
theorem lm_RX8_101 : Cond.methodLink RX8 101 yX8_at ∈ lw_tbl := List.mem_of_getElem? (i := 904) (by decide +kernel)
theorem lm_RX8_104 : Cond.methodLink RX8 104 yX8_askedText ∈ lw_tbl := List.mem_of_getElem? (i := 928) (by decide +kernel)
theorem lm_RX8_110 : Cond.methodLink RX8 110 yX8_here ∈ lw_tbl := List.mem_of_getElem? (i := 940) (by decide +kernel)
theorem lm_RX8_122 : Cond.methodLink RX8 122 yX8_figure ∈ lw_tbl := List.mem_of_getElem? (i := 948) (by decide +kernel)
theorem lm_RX8_126 : Cond.methodLink RX8 126 yX8_kindOf ∈ lw_tbl := List.mem_of_getElem? (i := 960) (by decide +kernel)
theorem lm_RX8_129 : Cond.methodLink RX8 129 yX8_readsHead ∈ lw_tbl := List.mem_of_getElem? (i := 944) (by decide +kernel)
theorem lm_RX8_132 : Cond.methodLink RX8 132 yX8_readsPost ∈ lw_tbl := List.mem_of_getElem? (i := 952) (by decide +kernel)
theorem lm_RX8_135 : Cond.methodLink RX8 135 yX8_readsThumb ∈ lw_tbl := List.mem_of_getElem? (i := 956) (by decide +kernel)
theorem lm_RX8_138 : Cond.methodLink RX8 138 yX8_goesOn ∈ lw_tbl := List.mem_of_getElem? (i := 936) (by decide +kernel)
theorem lm_RX8_153 : Cond.methodLink RX8 153 yX8_bump ∈ lw_tbl := List.mem_of_getElem? (i := 983) (by decide +kernel)
theorem lm_RX8_156 : Cond.methodLink RX8 156 yX8_bumps ∈ lw_tbl := List.mem_of_getElem? (i := 979) (by decide +kernel)
theorem lm_RX8_159 : Cond.methodLink RX8 159 yX8_isHead ∈ lw_tbl := List.mem_of_getElem? (i := 971) (by decide +kernel)
theorem lm_RX8_162 : Cond.methodLink RX8 162 yX8_headOf ∈ lw_tbl := List.mem_of_getElem? (i := 975) (by decide +kernel)
theorem lm_RX8_165 : Cond.methodLink RX8 165 yX8_isThumb ∈ lw_tbl := List.mem_of_getElem? (i := 991) (by decide +kernel)
theorem lm_RX8_168 : Cond.methodLink RX8 168 yX8_isPost ∈ lw_tbl := List.mem_of_getElem? (i := 999) (by decide +kernel)
theorem lm_RX8_171 : Cond.methodLink RX8 171 yX8_greater ∈ lw_tbl := List.mem_of_getElem? (i := 1027) (by decide +kernel)
theorem lm_RX8_174 : Cond.methodLink RX8 174 yX8_lesser ∈ lw_tbl := List.mem_of_getElem? (i := 1033) (by decide +kernel)
theorem lm_RX8_177 : Cond.methodLink RX8 177 yX8_felt ∈ lw_tbl := List.mem_of_getElem? (i := 1023) (by decide +kernel)
theorem lm_RX8_180 : Cond.methodLink RX8 180 yX8_middleOf ∈ lw_tbl := List.mem_of_getElem? (i := 1030) (by decide +kernel)
theorem lm_RX8_184 : Cond.methodLink RX8 184 yX8_middle ∈ lw_tbl := List.mem_of_getElem? (i := 1019) (by decide +kernel)
theorem lm_RX8_188 : Cond.methodLink RX8 188 yX8_least ∈ lw_tbl := List.mem_of_getElem? (i := 1015) (by decide +kernel)
theorem lm_RX8_191 : Cond.methodLink RX8 191 yX8_most ∈ lw_tbl := List.mem_of_getElem? (i := 1036) (by decide +kernel)
theorem lm_RX8_194 : Cond.methodLink RX8 194 yX8_isA ∈ lw_tbl := List.mem_of_getElem? (i := 1007) (by decide +kernel)
theorem lm_RX8_198 : Cond.methodLink RX8 198 yX8_marked ∈ lw_tbl := List.mem_of_getElem? (i := 1011) (by decide +kernel)
theorem lm_RX8_201 : Cond.methodLink RX8 201 yX8_write ∈ lw_tbl := List.mem_of_getElem? (i := 1055) (by decide +kernel)
theorem lm_RX8_205 : Cond.methodLink RX8 205 yX8_isPlace ∈ lw_tbl := List.mem_of_getElem? (i := 1048) (by decide +kernel)
theorem lm_RX8_208 : Cond.methodLink RX8 208 yX8_note ∈ lw_tbl := List.mem_of_getElem? (i := 1051) (by decide +kernel)
theorem lm_RX8_211 : Cond.methodLink RX8 211 yX8_readBack ∈ lw_tbl := List.mem_of_getElem? (i := 1071) (by decide +kernel)
theorem lm_RX8_214 : Cond.methodLink RX8 214 yX8_askedReading ∈ lw_tbl := List.mem_of_getElem? (i := 1091) (by decide +kernel)
theorem lm_RX8_217 : Cond.methodLink RX8 217 yX8_doesFit ∈ lw_tbl := List.mem_of_getElem? (i := 1095) (by decide +kernel)
theorem lm_RX8_220 : Cond.methodLink RX8 220 yX8_headsBy ∈ lw_tbl := List.mem_of_getElem? (i := 1103) (by decide +kernel)
theorem lm_RX8_223 : Cond.methodLink RX8 223 yX8_spread ∈ lw_tbl := List.mem_of_getElem? (i := 1119) (by decide +kernel)
theorem lm_RX8_226 : Cond.methodLink RX8 226 yX8_weight ∈ lw_tbl := List.mem_of_getElem? (i := 1115) (by decide +kernel)
theorem lm_RX8_230 : Cond.methodLink RX8 230 yX8_part ∈ lw_tbl := List.mem_of_getElem? (i := 1123) (by decide +kernel)
theorem lm_RX8_234 : Cond.methodLink RX8 234 yX8_areApart ∈ lw_tbl := List.mem_of_getElem? (i := 1131) (by decide +kernel)
theorem lm_RX8_237 : Cond.methodLink RX8 237 yX8_need ∈ lw_tbl := List.mem_of_getElem? (i := 1147) (by decide +kernel)
theorem lm_RX8_240 : Cond.methodLink RX8 240 yX8_suitsOf ∈ lw_tbl := List.mem_of_getElem? (i := 1143) (by decide +kernel)
theorem lm_RX8_243 : Cond.methodLink RX8 243 yX8_padsAt ∈ lw_tbl := List.mem_of_getElem? (i := 1159) (by decide +kernel)
theorem lm_RX8_246 : Cond.methodLink RX8 246 yX8_row ∈ lw_tbl := List.mem_of_getElem? (i := 1163) (by decide +kernel)
theorem lm_RX8_255 : Cond.methodLink RX8 255 yX8_has ∈ lw_tbl := List.mem_of_getElem? (i := 1192) (by decide +kernel)
theorem lm_RX8_258 : Cond.methodLink RX8 258 yX8_planOn ∈ lw_tbl := List.mem_of_getElem? (i := 1188) (by decide +kernel)
theorem lm_RX8_261 : Cond.methodLink RX8 261 yX8_layMay ∈ lw_tbl := List.mem_of_getElem? (i := 1184) (by decide +kernel)
theorem lm_RX8_265 : Cond.methodLink RX8 265 yX8_goPlans ∈ lw_tbl := List.mem_of_getElem? (i := 1180) (by decide +kernel)
theorem lm_RX8_268 : Cond.methodLink RX8 268 yX8_layPlan ∈ lw_tbl := List.mem_of_getElem? (i := 1195) (by decide +kernel)
theorem lm_RX8_271 : Cond.methodLink RX8 271 yX8_doesLearn ∈ lw_tbl := List.mem_of_getElem? (i := 1215) (by decide +kernel)
theorem lm_RX8_279 : Cond.methodLink RX8 279 yX8_isAlone ∈ lw_tbl := List.mem_of_getElem? (i := 1230) (by decide +kernel)
theorem lm_RX8_282 : Cond.methodLink RX8 282 yX8_tellsOf ∈ lw_tbl := List.mem_of_getElem? (i := 1250) (by decide +kernel)
theorem lm_RX8_290 : Cond.methodLink RX8 290 yX8_mix ∈ lw_tbl := List.mem_of_getElem? (i := 1267) (by decide +kernel)
theorem lm_RX8_295 : Cond.methodLink RX8 295 yX8_mixOffice ∈ lw_tbl := List.mem_of_getElem? (i := 1272) (by decide +kernel)
theorem lm_RX8_72 : Cond.methodLink RX8 72 yX8_in ∈ lw_tbl := List.mem_of_getElem? (i := 873) (by decide +kernel)
theorem lm_RX8_76 : Cond.methodLink RX8 76 yX8_isRow ∈ lw_tbl := List.mem_of_getElem? (i := 870) (by decide +kernel)
theorem lm_RX8_80 : Cond.methodLink RX8 80 yX8_meet ∈ lw_tbl := List.mem_of_getElem? (i := 876) (by decide +kernel)
theorem lm_RX8_84 : Cond.methodLink RX8 84 yX8_isText ∈ lw_tbl := List.mem_of_getElem? (i := 921) (by decide +kernel)
theorem lm_RX8_87 : Cond.methodLink RX8 87 yX8_setRow ∈ lw_tbl := List.mem_of_getElem? (i := 880) (by decide +kernel)
theorem lm_RX8_91 : Cond.methodLink RX8 91 yX8_askedRow ∈ lw_tbl := List.mem_of_getElem? (i := 888) (by decide +kernel)
theorem lm_RX8_94 : Cond.methodLink RX8 94 yX8_rowAt ∈ lw_tbl := List.mem_of_getElem? (i := 892) (by decide +kernel)
theorem lm_RX8_98 : Cond.methodLink RX8 98 yX8_ask ∈ lw_tbl := List.mem_of_getElem? (i := 896) (by decide +kernel)
theorem bq_m9 : (Int8.ofInt (-9)).toInt32 = -9 := by decide
theorem bq_m4 : (Int8.ofInt (-4)).toInt32 = -4 := by decide
theorem bq_m3 : (Int8.ofInt (-3)).toInt32 = -3 := by decide
theorem bq_m2 : (Int8.ofInt (-2)).toInt32 = -2 := by decide
theorem bq_6 : (Int8.ofInt (6)).toInt32 = 6 := by decide
theorem bq_7 : (Int8.ofInt (7)).toInt32 = 7 := by decide
theorem bq_8 : (Int8.ofInt (8)).toInt32 = 8 := by decide
theorem bq_9 : (Int8.ofInt (9)).toInt32 = 9 := by decide
theorem bq_12 : (Int8.ofInt (12)).toInt32 = 12 := by decide
theorem bq_15 : (Int8.ofInt (15)).toInt32 = 15 := by decide
theorem bq_20 : (Int8.ofInt (20)).toInt32 = 20 := by decide
theorem bq_24 : (Int8.ofInt (24)).toInt32 = 24 := by decide
theorem bq_25 : (Int8.ofInt (25)).toInt32 = 25 := by decide
theorem bq_30 : (Int8.ofInt (30)).toInt32 = 30 := by decide
theorem bq_32 : (Int8.ofInt (32)).toInt32 = 32 := by decide
theorem bq_37 : (Int8.ofInt (37)).toInt32 = 37 := by decide
theorem bq_40 : (Int8.ofInt (40)).toInt32 = 40 := by decide
theorem bq_48 : (Int8.ofInt (48)).toInt32 = 48 := by decide
theorem bq_60 : (Int8.ofInt (60)).toInt32 = 60 := by decide
theorem bq_80 : (Int8.ofInt (80)).toInt32 = 80 := by decide
theorem bq_99 : (Int8.ofInt (99)).toInt32 = 99 := by decide
theorem bq_100 : (Int8.ofInt (100)).toInt32 = 100 := by decide
theorem bq_104 : (Int8.ofInt (104)).toInt32 = 104 := by decide
theorem bq_108 : (Int8.ofInt (108)).toInt32 = 108 := by decide
theorem bq_112 : (Int8.ofInt (112)).toInt32 = 112 := by decide
theorem bq_116 : (Int8.ofInt (116)).toInt32 = 116 := by decide
theorem bq_118 : (Int8.ofInt (118)).toInt32 = 118 := by decide
theorem bq_119 : (Int8.ofInt (119)).toInt32 = 119 := by decide
theorem sq_1000 : (Int16.ofInt (1000)).toInt32 = 1000 := by decide
theorem sq_1030 : (Int16.ofInt (1030)).toInt32 = 1030 := by decide
