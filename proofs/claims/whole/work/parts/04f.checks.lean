/-! the checks of the program, by the kernel -/
set_option maxRecDepth 100000 in
theorem aOM_X12_team : aMC aM_X12_team = true := by decide +kernel
set_option maxRecDepth 100000 in
theorem aOK_X12_team : aCoC aM_X12_team = true := by decide +kernel
set_option maxRecDepth 100000 in
theorem aOM_X12_helpers : aMC aM_X12_helpers = true := by decide +kernel
set_option maxRecDepth 100000 in
theorem aOK_X12_helpers_0 : ((aL_X12_helpers).take 40).all (aQ cX12_helpers) = true := by decide +kernel
set_option maxRecDepth 100000 in
theorem aOK_X12_helpers_1 : ((aL_X12_helpers).drop 40).all (aQ cX12_helpers) = true := by decide +kernel
theorem aOK_X12_helpers : aCoC aM_X12_helpers = true := aAll2 40 aOK_X12_helpers_0 (aOK_X12_helpers_1)
set_option maxRecDepth 100000 in
theorem aOM_X12_remember : aMC aM_X12_remember = true := by decide +kernel
set_option maxRecDepth 100000 in
theorem aOK_X12_remember_0 : ((aL_X12_remember).take 40).all (aQ cX12_remember) = true := by decide +kernel
set_option maxRecDepth 100000 in
theorem aOK_X12_remember_1 : ((aL_X12_remember).drop 40).all (aQ cX12_remember) = true := by decide +kernel
theorem aOK_X12_remember : aCoC aM_X12_remember = true := aAll2 40 aOK_X12_remember_0 (aOK_X12_remember_1)
set_option maxRecDepth 100000 in
theorem aOM_X12_give : aMC aM_X12_give = true := by decide +kernel
set_option maxRecDepth 100000 in
theorem aOK_X12_give : aCoC aM_X12_give = true := by decide +kernel
set_option maxRecDepth 100000 in
theorem aOM_X12_teach : aMC aM_X12_teach = true := by decide +kernel
set_option maxRecDepth 100000 in
theorem aOK_X12_teach_0 : ((aL_X12_teach).take 40).all (aQ cX12_teach) = true := by decide +kernel
set_option maxRecDepth 100000 in
theorem aOK_X12_teach_1 : ((aL_X12_teach).drop 40).all (aQ cX12_teach) = true := by decide +kernel
theorem aOK_X12_teach : aCoC aM_X12_teach = true := aAll2 40 aOK_X12_teach_0 (aOK_X12_teach_1)
set_option maxRecDepth 100000 in
theorem aOM_X12_works : aMC aM_X12_works = true := by decide +kernel
set_option maxRecDepth 100000 in
theorem aOK_X12_works_0 : ((aL_X12_works).take 40).all (aQ cX12_works) = true := by decide +kernel
set_option maxRecDepth 100000 in
theorem aOK_X12_works_1 : (((aL_X12_works).drop 40).take 40).all (aQ cX12_works) = true := by decide +kernel
set_option maxRecDepth 100000 in
theorem aOK_X12_works_2 : (((aL_X12_works).drop 40).drop 40).all (aQ cX12_works) = true := by decide +kernel
theorem aOK_X12_works : aCoC aM_X12_works = true := aAll2 40 aOK_X12_works_0 (aAll2 40 aOK_X12_works_1 (aOK_X12_works_2))
set_option maxRecDepth 100000 in
theorem aOM_X12_goDay : aMC aM_X12_goDay = true := by decide +kernel
set_option maxRecDepth 100000 in
theorem aOK_X12_goDay_0 : ((aL_X12_goDay).take 40).all (aQ cX12_goDay) = true := by decide +kernel
set_option maxRecDepth 100000 in
theorem aOK_X12_goDay_1 : (((aL_X12_goDay).drop 40).take 40).all (aQ cX12_goDay) = true := by decide +kernel
set_option maxRecDepth 100000 in
theorem aOK_X12_goDay_2 : (((aL_X12_goDay).drop 40).drop 40).all (aQ cX12_goDay) = true := by decide +kernel
theorem aOK_X12_goDay : aCoC aM_X12_goDay = true := aAll2 40 aOK_X12_goDay_0 (aAll2 40 aOK_X12_goDay_1 (aOK_X12_goDay_2))
set_option maxRecDepth 100000 in
theorem aOM_X12_days : aMC aM_X12_days = true := by decide +kernel
set_option maxRecDepth 100000 in
theorem aOK_X12_days : aCoC aM_X12_days = true := by decide +kernel
set_option maxRecDepth 100000 in
theorem aOM_X12_draw : aMC aM_X12_draw = true := by decide +kernel
set_option maxRecDepth 100000 in
theorem aOK_X12_draw : aCoC aM_X12_draw = true := by decide +kernel
set_option maxRecDepth 100000 in
theorem aOM_X12_generation : aMC aM_X12_generation = true := by decide +kernel
set_option maxRecDepth 100000 in
theorem aOK_X12_generation_0 : ((aL_X12_generation).take 40).all (aQ cX12_generation) = true := by decide +kernel
set_option maxRecDepth 100000 in
theorem aOK_X12_generation_1 : (((aL_X12_generation).drop 40).take 40).all (aQ cX12_generation) = true := by decide +kernel
set_option maxRecDepth 100000 in
theorem aOK_X12_generation_2 : (((aL_X12_generation).drop 40).drop 40).all (aQ cX12_generation) = true := by decide +kernel
theorem aOK_X12_generation : aCoC aM_X12_generation = true := aAll2 40 aOK_X12_generation_0 (aAll2 40 aOK_X12_generation_1 (aOK_X12_generation_2))
set_option maxRecDepth 100000 in
theorem aOM_X12_undo : aMC aM_X12_undo = true := by decide +kernel
set_option maxRecDepth 100000 in
theorem aOK_X12_undo : aCoC aM_X12_undo = true := by decide +kernel
set_option maxRecDepth 100000 in
theorem aOM_X12_askAsItIs : aMC aM_X12_askAsItIs = true := by decide +kernel
set_option maxRecDepth 100000 in
theorem aOK_X12_askAsItIs : aCoC aM_X12_askAsItIs = true := by decide +kernel
set_option maxRecDepth 100000 in
theorem aOM_X12_isDealt : aMC aM_X12_isDealt = true := by decide +kernel
set_option maxRecDepth 100000 in
theorem aOK_X12_isDealt : aCoC aM_X12_isDealt = true := by decide +kernel
set_option maxRecDepth 100000 in
theorem aOM_X12_canDo : aMC aM_X12_canDo = true := by decide +kernel
set_option maxRecDepth 100000 in
theorem aOK_X12_canDo_0 : ((aL_X12_canDo).take 40).all (aQ cX12_canDo) = true := by decide +kernel
set_option maxRecDepth 100000 in
theorem aOK_X12_canDo_1 : (((aL_X12_canDo).drop 40).take 40).all (aQ cX12_canDo) = true := by decide +kernel
set_option maxRecDepth 100000 in
theorem aOK_X12_canDo_2 : (((aL_X12_canDo).drop 40).drop 40).all (aQ cX12_canDo) = true := by decide +kernel
theorem aOK_X12_canDo : aCoC aM_X12_canDo = true := aAll2 40 aOK_X12_canDo_0 (aAll2 40 aOK_X12_canDo_1 (aOK_X12_canDo_2))
set_option maxRecDepth 100000 in
theorem aOM_X12_layDeal : aMC aM_X12_layDeal = true := by decide +kernel
set_option maxRecDepth 100000 in
theorem aOK_X12_layDeal_0 : ((aL_X12_layDeal).take 40).all (aQ cX12_layDeal) = true := by decide +kernel
set_option maxRecDepth 100000 in
theorem aOK_X12_layDeal_1 : ((aL_X12_layDeal).drop 40).all (aQ cX12_layDeal) = true := by decide +kernel
theorem aOK_X12_layDeal : aCoC aM_X12_layDeal = true := aAll2 40 aOK_X12_layDeal_0 (aOK_X12_layDeal_1)
set_option maxRecDepth 100000 in
theorem aOM_X12_goDeal : aMC aM_X12_goDeal = true := by decide +kernel
set_option maxRecDepth 100000 in
theorem aOK_X12_goDeal_0 : ((aL_X12_goDeal).take 40).all (aQ cX12_goDeal) = true := by decide +kernel
set_option maxRecDepth 100000 in
theorem aOK_X12_goDeal_1 : (((aL_X12_goDeal).drop 40).take 40).all (aQ cX12_goDeal) = true := by decide +kernel
set_option maxRecDepth 100000 in
theorem aOK_X12_goDeal_2 : (((aL_X12_goDeal).drop 40).drop 40).all (aQ cX12_goDeal) = true := by decide +kernel
theorem aOK_X12_goDeal : aCoC aM_X12_goDeal = true := aAll2 40 aOK_X12_goDeal_0 (aAll2 40 aOK_X12_goDeal_1 (aOK_X12_goDeal_2))
set_option maxRecDepth 100000 in
theorem aOM_X12_deal : aMC aM_X12_deal = true := by decide +kernel
set_option maxRecDepth 100000 in
theorem aOK_X12_deal_0 : ((aL_X12_deal).take 40).all (aQ cX12_deal) = true := by decide +kernel
set_option maxRecDepth 100000 in
theorem aOK_X12_deal_1 : ((aL_X12_deal).drop 40).all (aQ cX12_deal) = true := by decide +kernel
theorem aOK_X12_deal : aCoC aM_X12_deal = true := aAll2 40 aOK_X12_deal_0 (aOK_X12_deal_1)
set_option maxRecDepth 100000 in
theorem aOM_X12_bestOf : aMC aM_X12_bestOf = true := by decide +kernel
set_option maxRecDepth 100000 in
theorem aOK_X12_bestOf_0 : ((aL_X12_bestOf).take 40).all (aQ cX12_bestOf) = true := by decide +kernel
set_option maxRecDepth 100000 in
theorem aOK_X12_bestOf_1 : ((aL_X12_bestOf).drop 40).all (aQ cX12_bestOf) = true := by decide +kernel
theorem aOK_X12_bestOf : aCoC aM_X12_bestOf = true := aAll2 40 aOK_X12_bestOf_0 (aOK_X12_bestOf_1)
set_option maxRecDepth 100000 in
theorem aOM_X12_toDo : aMC aM_X12_toDo = true := by decide +kernel
set_option maxRecDepth 100000 in
theorem aOK_X12_toDo : aCoC aM_X12_toDo = true := by decide +kernel
set_option maxRecDepth 100000 in
theorem aOM_X12_best : aMC aM_X12_best = true := by decide +kernel
set_option maxRecDepth 100000 in
theorem aOK_X12_best : aCoC aM_X12_best = true := by decide +kernel
set_option maxRecDepth 100000 in
theorem aOM_X12_learn : aMC aM_X12_learn = true := by decide +kernel
set_option maxRecDepth 100000 in
theorem aOK_X12_learn_0 : ((aL_X12_learn).take 40).all (aQ cX12_learn) = true := by decide +kernel
set_option maxRecDepth 100000 in
theorem aOK_X12_learn_1 : (((aL_X12_learn).drop 40).take 40).all (aQ cX12_learn) = true := by decide +kernel
set_option maxRecDepth 100000 in
theorem aOK_X12_learn_2 : (((aL_X12_learn).drop 40).drop 40).all (aQ cX12_learn) = true := by decide +kernel
theorem aOK_X12_learn : aCoC aM_X12_learn = true := aAll2 40 aOK_X12_learn_0 (aAll2 40 aOK_X12_learn_1 (aOK_X12_learn_2))
set_option maxRecDepth 100000 in
theorem aOM_X12_goBegin : aMC aM_X12_goBegin = true := by decide +kernel
set_option maxRecDepth 100000 in
theorem aOK_X12_goBegin_0 : ((aL_X12_goBegin).take 40).all (aQ cX12_goBegin) = true := by decide +kernel
set_option maxRecDepth 100000 in
theorem aOK_X12_goBegin_1 : (((aL_X12_goBegin).drop 40).take 40).all (aQ cX12_goBegin) = true := by decide +kernel
set_option maxRecDepth 100000 in
theorem aOK_X12_goBegin_2 : ((((aL_X12_goBegin).drop 40).drop 40).take 40).all (aQ cX12_goBegin) = true := by decide +kernel
set_option maxRecDepth 100000 in
theorem aOK_X12_goBegin_3 : ((((aL_X12_goBegin).drop 40).drop 40).drop 40).all (aQ cX12_goBegin) = true := by decide +kernel
theorem aOK_X12_goBegin : aCoC aM_X12_goBegin = true := aAll2 40 aOK_X12_goBegin_0 (aAll2 40 aOK_X12_goBegin_1 (aAll2 40 aOK_X12_goBegin_2 (aOK_X12_goBegin_3)))
set_option maxRecDepth 100000 in
theorem aOM_X12_begin : aMC aM_X12_begin = true := by decide +kernel
set_option maxRecDepth 100000 in
theorem aOK_X12_begin_0 : ((aL_X12_begin).take 40).all (aQ cX12_begin) = true := by decide +kernel
set_option maxRecDepth 100000 in
theorem aOK_X12_begin_1 : ((aL_X12_begin).drop 40).all (aQ cX12_begin) = true := by decide +kernel
theorem aOK_X12_begin : aCoC aM_X12_begin = true := aAll2 40 aOK_X12_begin_0 (aOK_X12_begin_1)
set_option maxRecDepth 100000 in
theorem aOM_X12_spited : aMC aM_X12_spited = true := by decide +kernel
set_option maxRecDepth 100000 in
theorem aOK_X12_spited_0 : ((aL_X12_spited).take 40).all (aQ cX12_spited) = true := by decide +kernel
set_option maxRecDepth 100000 in
theorem aOK_X12_spited_1 : ((aL_X12_spited).drop 40).all (aQ cX12_spited) = true := by decide +kernel
theorem aOK_X12_spited : aCoC aM_X12_spited = true := aAll2 40 aOK_X12_spited_0 (aOK_X12_spited_1)
set_option maxRecDepth 100000 in
theorem aOM_X12_spite : aMC aM_X12_spite = true := by decide +kernel
set_option maxRecDepth 100000 in
theorem aOK_X12_spite_0 : ((aL_X12_spite).take 40).all (aQ cX12_spite) = true := by decide +kernel
set_option maxRecDepth 100000 in
theorem aOK_X12_spite_1 : ((aL_X12_spite).drop 40).all (aQ cX12_spite) = true := by decide +kernel
theorem aOK_X12_spite : aCoC aM_X12_spite = true := aAll2 40 aOK_X12_spite_0 (aOK_X12_spite_1)
set_option maxRecDepth 100000 in
theorem aOM_X12_worthBy : aMC aM_X12_worthBy = true := by decide +kernel
set_option maxRecDepth 100000 in
theorem aOK_X12_worthBy : aCoC aM_X12_worthBy = true := by decide +kernel
set_option maxRecDepth 100000 in
theorem aOM_X12_wishOf : aMC aM_X12_wishOf = true := by decide +kernel
set_option maxRecDepth 100000 in
theorem aOK_X12_wishOf_0 : ((aL_X12_wishOf).take 40).all (aQ cX12_wishOf) = true := by decide +kernel
set_option maxRecDepth 100000 in
theorem aOK_X12_wishOf_1 : (((aL_X12_wishOf).drop 40).take 40).all (aQ cX12_wishOf) = true := by decide +kernel
set_option maxRecDepth 100000 in
theorem aOK_X12_wishOf_2 : (((aL_X12_wishOf).drop 40).drop 40).all (aQ cX12_wishOf) = true := by decide +kernel
theorem aOK_X12_wishOf : aCoC aM_X12_wishOf = true := aAll2 40 aOK_X12_wishOf_0 (aAll2 40 aOK_X12_wishOf_1 (aOK_X12_wishOf_2))
set_option maxRecDepth 100000 in
theorem aOM_X12_wish : aMC aM_X12_wish = true := by decide +kernel
set_option maxRecDepth 100000 in
theorem aOK_X12_wish : aCoC aM_X12_wish = true := by decide +kernel
set_option maxRecDepth 100000 in
theorem aOM_X12_gainOf : aMC aM_X12_gainOf = true := by decide +kernel
set_option maxRecDepth 100000 in
theorem aOK_X12_gainOf_0 : ((aL_X12_gainOf).take 40).all (aQ cX12_gainOf) = true := by decide +kernel
set_option maxRecDepth 100000 in
theorem aOK_X12_gainOf_1 : ((aL_X12_gainOf).drop 40).all (aQ cX12_gainOf) = true := by decide +kernel
theorem aOK_X12_gainOf : aCoC aM_X12_gainOf = true := aAll2 40 aOK_X12_gainOf_0 (aOK_X12_gainOf_1)
set_option maxRecDepth 100000 in
theorem aOM_X12_layRow : aMC aM_X12_layRow = true := by decide +kernel
set_option maxRecDepth 100000 in
theorem aOK_X12_layRow_0 : ((aL_X12_layRow).take 40).all (aQ cX12_layRow) = true := by decide +kernel
set_option maxRecDepth 100000 in
theorem aOK_X12_layRow_1 : ((aL_X12_layRow).drop 40).all (aQ cX12_layRow) = true := by decide +kernel
theorem aOK_X12_layRow : aCoC aM_X12_layRow = true := aAll2 40 aOK_X12_layRow_0 (aOK_X12_layRow_1)
set_option maxRecDepth 100000 in
theorem aOM_X12_gains : aMC aM_X12_gains = true := by decide +kernel
set_option maxRecDepth 100000 in
theorem aOK_X12_gains : aCoC aM_X12_gains = true := by decide +kernel
set_option maxRecDepth 100000 in
theorem aOM_X12_isRest : aMC aM_X12_isRest = true := by decide +kernel
set_option maxRecDepth 100000 in
theorem aOK_X12_isRest_0 : ((aL_X12_isRest).take 40).all (aQ cX12_isRest) = true := by decide +kernel
set_option maxRecDepth 100000 in
theorem aOK_X12_isRest_1 : ((aL_X12_isRest).drop 40).all (aQ cX12_isRest) = true := by decide +kernel
theorem aOK_X12_isRest : aCoC aM_X12_isRest = true := aAll2 40 aOK_X12_isRest_0 (aOK_X12_isRest_1)
set_option maxRecDepth 100000 in
theorem aOM_X12_goRests : aMC aM_X12_goRests = true := by decide +kernel
set_option maxRecDepth 100000 in
theorem aOK_X12_goRests_0 : ((aL_X12_goRests).take 40).all (aQ cX12_goRests) = true := by decide +kernel
set_option maxRecDepth 100000 in
theorem aOK_X12_goRests_1 : ((aL_X12_goRests).drop 40).all (aQ cX12_goRests) = true := by decide +kernel
theorem aOK_X12_goRests : aCoC aM_X12_goRests = true := aAll2 40 aOK_X12_goRests_0 (aOK_X12_goRests_1)
set_option maxRecDepth 100000 in
theorem aOM_X12_rests : aMC aM_X12_rests = true := by decide +kernel
set_option maxRecDepth 100000 in
theorem aOK_X12_rests_0 : ((aL_X12_rests).take 40).all (aQ cX12_rests) = true := by decide +kernel
set_option maxRecDepth 100000 in
theorem aOK_X12_rests_1 : ((aL_X12_rests).drop 40).all (aQ cX12_rests) = true := by decide +kernel
theorem aOK_X12_rests : aCoC aM_X12_rests = true := aAll2 40 aOK_X12_rests_0 (aOK_X12_rests_1)
set_option maxRecDepth 100000 in
theorem aOM_X12_isRow : aMC aM_X12_isRow = true := by decide +kernel
set_option maxRecDepth 100000 in
theorem aOK_X12_isRow : aCoC aM_X12_isRow = true := by decide +kernel
set_option maxRecDepth 100000 in
theorem aOM_X12_isLaw : aMC aM_X12_isLaw = true := by decide +kernel
set_option maxRecDepth 100000 in
theorem aOK_X12_isLaw : aCoC aM_X12_isLaw = true := by decide +kernel
set_option maxRecDepth 100000 in
theorem aOM_X12_tens : aMC aM_X12_tens = true := by decide +kernel
set_option maxRecDepth 100000 in
theorem aOK_X12_tens : aCoC aM_X12_tens = true := by decide +kernel
set_option maxRecDepth 100000 in
theorem aOM_X12_isFit : aMC aM_X12_isFit = true := by decide +kernel
set_option maxRecDepth 100000 in
theorem aOK_X12_isFit_0 : ((aL_X12_isFit).take 40).all (aQ cX12_isFit) = true := by decide +kernel
set_option maxRecDepth 100000 in
theorem aOK_X12_isFit_1 : (((aL_X12_isFit).drop 40).take 40).all (aQ cX12_isFit) = true := by decide +kernel
set_option maxRecDepth 100000 in
theorem aOK_X12_isFit_2 : (((aL_X12_isFit).drop 40).drop 40).all (aQ cX12_isFit) = true := by decide +kernel
theorem aOK_X12_isFit : aCoC aM_X12_isFit = true := aAll2 40 aOK_X12_isFit_0 (aAll2 40 aOK_X12_isFit_1 (aOK_X12_isFit_2))
