/-! the checks of the program, by the kernel -/
set_option maxRecDepth 100000 in
theorem aOM_X12_term : aMC aM_X12_term = true := by decide +kernel
set_option maxRecDepth 100000 in
theorem aOK_X12_term_0 : ((aL_X12_term).take 40).all (aQ cX12_term) = true := by decide +kernel
set_option maxRecDepth 100000 in
theorem aOK_X12_term_1 : ((aL_X12_term).drop 40).all (aQ cX12_term) = true := by decide +kernel
theorem aOK_X12_term : aCoC aM_X12_term = true := aAll2 40 aOK_X12_term_0 (aOK_X12_term_1)
set_option maxRecDepth 100000 in
theorem aOM_X12_sum : aMC aM_X12_sum = true := by decide +kernel
set_option maxRecDepth 100000 in
theorem aOK_X12_sum_0 : ((aL_X12_sum).take 40).all (aQ cX12_sum) = true := by decide +kernel
set_option maxRecDepth 100000 in
theorem aOK_X12_sum_1 : ((aL_X12_sum).drop 40).all (aQ cX12_sum) = true := by decide +kernel
theorem aOK_X12_sum : aCoC aM_X12_sum = true := aAll2 40 aOK_X12_sum_0 (aOK_X12_sum_1)
set_option maxRecDepth 100000 in
theorem aOM_X12_isSign : aMC aM_X12_isSign = true := by decide +kernel
set_option maxRecDepth 100000 in
theorem aOK_X12_isSign : aCoC aM_X12_isSign = true := by decide +kernel
set_option maxRecDepth 100000 in
theorem aOM_X12_compares : aMC aM_X12_compares = true := by decide +kernel
set_option maxRecDepth 100000 in
theorem aOK_X12_compares_0 : ((aL_X12_compares).take 40).all (aQ cX12_compares) = true := by decide +kernel
set_option maxRecDepth 100000 in
theorem aOK_X12_compares_1 : ((aL_X12_compares).drop 40).all (aQ cX12_compares) = true := by decide +kernel
theorem aOK_X12_compares : aCoC aM_X12_compares = true := aAll2 40 aOK_X12_compares_0 (aOK_X12_compares_1)
set_option maxRecDepth 100000 in
theorem aOM_X12_unit : aMC aM_X12_unit = true := by decide +kernel
set_option maxRecDepth 100000 in
theorem aOK_X12_unit_0 : ((aL_X12_unit).take 40).all (aQ cX12_unit) = true := by decide +kernel
set_option maxRecDepth 100000 in
theorem aOK_X12_unit_1 : ((aL_X12_unit).drop 40).all (aQ cX12_unit) = true := by decide +kernel
theorem aOK_X12_unit : aCoC aM_X12_unit = true := aAll2 40 aOK_X12_unit_0 (aOK_X12_unit_1)
set_option maxRecDepth 100000 in
theorem aOM_X12_part : aMC aM_X12_part = true := by decide +kernel
set_option maxRecDepth 100000 in
theorem aOK_X12_part : aCoC aM_X12_part = true := by decide +kernel
set_option maxRecDepth 100000 in
theorem aOM_X12_condition : aMC aM_X12_condition = true := by decide +kernel
set_option maxRecDepth 100000 in
theorem aOK_X12_condition : aCoC aM_X12_condition = true := by decide +kernel
set_option maxRecDepth 100000 in
theorem aOM_X12_clause : aMC aM_X12_clause = true := by decide +kernel
set_option maxRecDepth 100000 in
theorem aOK_X12_clause_0 : ((aL_X12_clause).take 40).all (aQ cX12_clause) = true := by decide +kernel
set_option maxRecDepth 100000 in
theorem aOK_X12_clause_1 : (((aL_X12_clause).drop 40).take 40).all (aQ cX12_clause) = true := by decide +kernel
set_option maxRecDepth 100000 in
theorem aOK_X12_clause_2 : (((aL_X12_clause).drop 40).drop 40).all (aQ cX12_clause) = true := by decide +kernel
theorem aOK_X12_clause : aCoC aM_X12_clause = true := aAll2 40 aOK_X12_clause_0 (aAll2 40 aOK_X12_clause_1 (aOK_X12_clause_2))
set_option maxRecDepth 100000 in
theorem aOM_X12_starts : aMC aM_X12_starts = true := by decide +kernel
set_option maxRecDepth 100000 in
theorem aOK_X12_starts : aCoC aM_X12_starts = true := by decide +kernel
set_option maxRecDepth 100000 in
theorem aOM_X12_goThrough : aMC aM_X12_goThrough = true := by decide +kernel
set_option maxRecDepth 100000 in
theorem aOK_X12_goThrough_0 : ((aL_X12_goThrough).take 40).all (aQ cX12_goThrough) = true := by decide +kernel
set_option maxRecDepth 100000 in
theorem aOK_X12_goThrough_1 : ((aL_X12_goThrough).drop 40).all (aQ cX12_goThrough) = true := by decide +kernel
theorem aOK_X12_goThrough : aCoC aM_X12_goThrough = true := aAll2 40 aOK_X12_goThrough_0 (aOK_X12_goThrough_1)
set_option maxRecDepth 100000 in
theorem aOM_X12_here : aMC aM_X12_here = true := by decide +kernel
set_option maxRecDepth 100000 in
theorem aOK_X12_here : aCoC aM_X12_here = true := by decide +kernel
set_option maxRecDepth 100000 in
theorem aOM_X12_placeOf : aMC aM_X12_placeOf = true := by decide +kernel
set_option maxRecDepth 100000 in
theorem aOK_X12_placeOf : aCoC aM_X12_placeOf = true := by decide +kernel
set_option maxRecDepth 100000 in
theorem aOM_X12_readItem : aMC aM_X12_readItem = true := by decide +kernel
set_option maxRecDepth 100000 in
theorem aOK_X12_readItem_0 : ((aL_X12_readItem).take 40).all (aQ cX12_readItem) = true := by decide +kernel
set_option maxRecDepth 100000 in
theorem aOK_X12_readItem_1 : ((aL_X12_readItem).drop 40).all (aQ cX12_readItem) = true := by decide +kernel
theorem aOK_X12_readItem : aCoC aM_X12_readItem = true := aAll2 40 aOK_X12_readItem_0 (aOK_X12_readItem_1)
set_option maxRecDepth 100000 in
theorem aOM_X12_readItems : aMC aM_X12_readItems = true := by decide +kernel
set_option maxRecDepth 100000 in
theorem aOK_X12_readItems_0 : ((aL_X12_readItems).take 40).all (aQ cX12_readItems) = true := by decide +kernel
set_option maxRecDepth 100000 in
theorem aOK_X12_readItems_1 : ((aL_X12_readItems).drop 40).all (aQ cX12_readItems) = true := by decide +kernel
theorem aOK_X12_readItems : aCoC aM_X12_readItems = true := aAll2 40 aOK_X12_readItems_0 (aOK_X12_readItems_1)
set_option maxRecDepth 100000 in
theorem aOM_X12_readSteps : aMC aM_X12_readSteps = true := by decide +kernel
set_option maxRecDepth 100000 in
theorem aOK_X12_readSteps_0 : ((aL_X12_readSteps).take 40).all (aQ cX12_readSteps) = true := by decide +kernel
set_option maxRecDepth 100000 in
theorem aOK_X12_readSteps_1 : (((aL_X12_readSteps).drop 40).take 40).all (aQ cX12_readSteps) = true := by decide +kernel
set_option maxRecDepth 100000 in
theorem aOK_X12_readSteps_2 : (((aL_X12_readSteps).drop 40).drop 40).all (aQ cX12_readSteps) = true := by decide +kernel
theorem aOK_X12_readSteps : aCoC aM_X12_readSteps = true := aAll2 40 aOK_X12_readSteps_0 (aAll2 40 aOK_X12_readSteps_1 (aOK_X12_readSteps_2))
set_option maxRecDepth 100000 in
theorem aOM_X12_readThing : aMC aM_X12_readThing = true := by decide +kernel
set_option maxRecDepth 100000 in
theorem aOK_X12_readThing_0 : ((aL_X12_readThing).take 40).all (aQ cX12_readThing) = true := by decide +kernel
set_option maxRecDepth 100000 in
theorem aOK_X12_readThing_1 : ((aL_X12_readThing).drop 40).all (aQ cX12_readThing) = true := by decide +kernel
theorem aOK_X12_readThing : aCoC aM_X12_readThing = true := aAll2 40 aOK_X12_readThing_0 (aOK_X12_readThing_1)
set_option maxRecDepth 100000 in
theorem aOM_X12_readClause : aMC aM_X12_readClause = true := by decide +kernel
set_option maxRecDepth 100000 in
theorem aOK_X12_readClause_0 : ((aL_X12_readClause).take 40).all (aQ cX12_readClause) = true := by decide +kernel
set_option maxRecDepth 100000 in
theorem aOK_X12_readClause_1 : (((aL_X12_readClause).drop 40).take 40).all (aQ cX12_readClause) = true := by decide +kernel
set_option maxRecDepth 100000 in
theorem aOK_X12_readClause_2 : (((aL_X12_readClause).drop 40).drop 40).all (aQ cX12_readClause) = true := by decide +kernel
theorem aOK_X12_readClause : aCoC aM_X12_readClause = true := aAll2 40 aOK_X12_readClause_0 (aAll2 40 aOK_X12_readClause_1 (aOK_X12_readClause_2))
set_option maxRecDepth 100000 in
theorem aOM_X12_readWill : aMC aM_X12_readWill = true := by decide +kernel
set_option maxRecDepth 100000 in
theorem aOK_X12_readWill_0 : ((aL_X12_readWill).take 40).all (aQ cX12_readWill) = true := by decide +kernel
set_option maxRecDepth 100000 in
theorem aOK_X12_readWill_1 : (((aL_X12_readWill).drop 40).take 40).all (aQ cX12_readWill) = true := by decide +kernel
set_option maxRecDepth 100000 in
theorem aOK_X12_readWill_2 : (((aL_X12_readWill).drop 40).drop 40).all (aQ cX12_readWill) = true := by decide +kernel
theorem aOK_X12_readWill : aCoC aM_X12_readWill = true := aAll2 40 aOK_X12_readWill_0 (aAll2 40 aOK_X12_readWill_1 (aOK_X12_readWill_2))
set_option maxRecDepth 100000 in
theorem aOM_X12_readRow : aMC aM_X12_readRow = true := by decide +kernel
set_option maxRecDepth 100000 in
theorem aOK_X12_readRow_0 : ((aL_X12_readRow).take 40).all (aQ cX12_readRow) = true := by decide +kernel
set_option maxRecDepth 100000 in
theorem aOK_X12_readRow_1 : ((aL_X12_readRow).drop 40).all (aQ cX12_readRow) = true := by decide +kernel
theorem aOK_X12_readRow : aCoC aM_X12_readRow = true := aAll2 40 aOK_X12_readRow_0 (aOK_X12_readRow_1)
set_option maxRecDepth 100000 in
theorem aOM_X12_fault : aMC aM_X12_fault = true := by decide +kernel
set_option maxRecDepth 100000 in
theorem aOK_X12_fault : aCoC aM_X12_fault = true := by decide +kernel
set_option maxRecDepth 100000 in
theorem aOM_X12_text : aMC aM_X12_text = true := by decide +kernel
set_option maxRecDepth 100000 in
theorem aOK_X12_text_0 : ((aL_X12_text).take 40).all (aQ cX12_text) = true := by decide +kernel
set_option maxRecDepth 100000 in
theorem aOK_X12_text_1 : (((aL_X12_text).drop 40).take 40).all (aQ cX12_text) = true := by decide +kernel
set_option maxRecDepth 100000 in
theorem aOK_X12_text_2 : ((((aL_X12_text).drop 40).drop 40).take 40).all (aQ cX12_text) = true := by decide +kernel
set_option maxRecDepth 100000 in
theorem aOK_X12_text_3 : (((((aL_X12_text).drop 40).drop 40).drop 40).take 40).all (aQ cX12_text) = true := by decide +kernel
set_option maxRecDepth 100000 in
theorem aOK_X12_text_4 : ((((((aL_X12_text).drop 40).drop 40).drop 40).drop 40).take 40).all (aQ cX12_text) = true := by decide +kernel
set_option maxRecDepth 100000 in
theorem aOK_X12_text_5 : (((((((aL_X12_text).drop 40).drop 40).drop 40).drop 40).drop 40).take 40).all (aQ cX12_text) = true := by decide +kernel
set_option maxRecDepth 100000 in
theorem aOK_X12_text_6 : ((((((((aL_X12_text).drop 40).drop 40).drop 40).drop 40).drop 40).drop 40).take 40).all (aQ cX12_text) = true := by decide +kernel
set_option maxRecDepth 100000 in
theorem aOK_X12_text_7 : (((((((((aL_X12_text).drop 40).drop 40).drop 40).drop 40).drop 40).drop 40).drop 40).take 40).all (aQ cX12_text) = true := by decide +kernel
set_option maxRecDepth 100000 in
theorem aOK_X12_text_8 : (((((((((aL_X12_text).drop 40).drop 40).drop 40).drop 40).drop 40).drop 40).drop 40).drop 40).all (aQ cX12_text) = true := by decide +kernel
theorem aOK_X12_text : aCoC aM_X12_text = true := aAll2 40 aOK_X12_text_0 (aAll2 40 aOK_X12_text_1 (aAll2 40 aOK_X12_text_2 (aAll2 40 aOK_X12_text_3 (aAll2 40 aOK_X12_text_4 (aAll2 40 aOK_X12_text_5 (aAll2 40 aOK_X12_text_6 (aAll2 40 aOK_X12_text_7 (aOK_X12_text_8))))))))
set_option maxRecDepth 100000 in
theorem aOM_X12_isThing : aMC aM_X12_isThing = true := by decide +kernel
set_option maxRecDepth 100000 in
theorem aOK_X12_isThing : aCoC aM_X12_isThing = true := by decide +kernel
set_option maxRecDepth 100000 in
theorem aOM_X12_isHeir : aMC aM_X12_isHeir = true := by decide +kernel
set_option maxRecDepth 100000 in
theorem aOK_X12_isHeir : aCoC aM_X12_isHeir = true := by decide +kernel
set_option maxRecDepth 100000 in
theorem aOM_X12_stepsOf : aMC aM_X12_stepsOf = true := by decide +kernel
set_option maxRecDepth 100000 in
theorem aOK_X12_stepsOf : aCoC aM_X12_stepsOf = true := by decide +kernel
set_option maxRecDepth 100000 in
theorem aOM_X12_doneOf : aMC aM_X12_doneOf = true := by decide +kernel
set_option maxRecDepth 100000 in
theorem aOK_X12_doneOf : aCoC aM_X12_doneOf = true := by decide +kernel
set_option maxRecDepth 100000 in
theorem aOM_X12_isToDo : aMC aM_X12_isToDo = true := by decide +kernel
set_option maxRecDepth 100000 in
theorem aOK_X12_isToDo : aCoC aM_X12_isToDo = true := by decide +kernel
set_option maxRecDepth 100000 in
theorem aOM_X12_skill : aMC aM_X12_skill = true := by decide +kernel
set_option maxRecDepth 100000 in
theorem aOK_X12_skill : aCoC aM_X12_skill = true := by decide +kernel
set_option maxRecDepth 100000 in
theorem aOM_X12_tradeOf : aMC aM_X12_tradeOf = true := by decide +kernel
set_option maxRecDepth 100000 in
theorem aOK_X12_tradeOf : aCoC aM_X12_tradeOf = true := by decide +kernel
set_option maxRecDepth 100000 in
theorem aOM_X12_daysOf : aMC aM_X12_daysOf = true := by decide +kernel
set_option maxRecDepth 100000 in
theorem aOK_X12_daysOf : aCoC aM_X12_daysOf = true := by decide +kernel
set_option maxRecDepth 100000 in
theorem aOM_X12_thing : aMC aM_X12_thing = true := by decide +kernel
set_option maxRecDepth 100000 in
theorem aOK_X12_thing_0 : ((aL_X12_thing).take 40).all (aQ cX12_thing) = true := by decide +kernel
set_option maxRecDepth 100000 in
theorem aOK_X12_thing_1 : ((aL_X12_thing).drop 40).all (aQ cX12_thing) = true := by decide +kernel
theorem aOK_X12_thing : aCoC aM_X12_thing = true := aAll2 40 aOK_X12_thing_0 (aOK_X12_thing_1)
set_option maxRecDepth 100000 in
theorem aOM_X12_step : aMC aM_X12_step = true := by decide +kernel
set_option maxRecDepth 100000 in
theorem aOK_X12_step : aCoC aM_X12_step = true := by decide +kernel
set_option maxRecDepth 100000 in
theorem aOM_X12_heir : aMC aM_X12_heir = true := by decide +kernel
set_option maxRecDepth 100000 in
theorem aOK_X12_heir_0 : ((aL_X12_heir).take 40).all (aQ cX12_heir) = true := by decide +kernel
set_option maxRecDepth 100000 in
theorem aOK_X12_heir_1 : ((aL_X12_heir).drop 40).all (aQ cX12_heir) = true := by decide +kernel
theorem aOK_X12_heir : aCoC aM_X12_heir = true := aAll2 40 aOK_X12_heir_0 (aOK_X12_heir_1)
set_option maxRecDepth 100000 in
theorem aOM_X12_tools : aMC aM_X12_tools = true := by decide +kernel
set_option maxRecDepth 100000 in
theorem aOK_X12_tools : aCoC aM_X12_tools = true := by decide +kernel
set_option maxRecDepth 100000 in
theorem aOM_X12_law : aMC aM_X12_law = true := by decide +kernel
set_option maxRecDepth 100000 in
theorem aOK_X12_law : aCoC aM_X12_law = true := by decide +kernel
set_option maxRecDepth 100000 in
theorem aOM_X12_takesOf : aMC aM_X12_takesOf = true := by decide +kernel
set_option maxRecDepth 100000 in
theorem aOK_X12_takesOf : aCoC aM_X12_takesOf = true := by decide +kernel
set_option maxRecDepth 100000 in
theorem aOM_X12_takes_ : aMC aM_X12_takes_ = true := by decide +kernel
set_option maxRecDepth 100000 in
theorem aOK_X12_takes_ : aCoC aM_X12_takes_ = true := by decide +kernel
set_option maxRecDepth 100000 in
theorem aOM_X12_aloneFrom : aMC aM_X12_aloneFrom = true := by decide +kernel
set_option maxRecDepth 100000 in
theorem aOK_X12_aloneFrom : aCoC aM_X12_aloneFrom = true := by decide +kernel
set_option maxRecDepth 100000 in
theorem aOM_X12_aloneOf : aMC aM_X12_aloneOf = true := by decide +kernel
set_option maxRecDepth 100000 in
theorem aOK_X12_aloneOf : aCoC aM_X12_aloneOf = true := by decide +kernel
set_option maxRecDepth 100000 in
theorem aOM_X12_isInTime : aMC aM_X12_isInTime = true := by decide +kernel
set_option maxRecDepth 100000 in
theorem aOK_X12_isInTime : aCoC aM_X12_isInTime = true := by decide +kernel
set_option maxRecDepth 100000 in
theorem aOM_X12_alone : aMC aM_X12_alone = true := by decide +kernel
set_option maxRecDepth 100000 in
theorem aOK_X12_alone : aCoC aM_X12_alone = true := by decide +kernel
set_option maxRecDepth 100000 in
theorem aOM_X12_whoOf : aMC aM_X12_whoOf = true := by decide +kernel
set_option maxRecDepth 100000 in
theorem aOK_X12_whoOf : aCoC aM_X12_whoOf = true := by decide +kernel
set_option maxRecDepth 100000 in
theorem aOM_X12_who : aMC aM_X12_who = true := by decide +kernel
set_option maxRecDepth 100000 in
theorem aOK_X12_who : aCoC aM_X12_who = true := by decide +kernel
set_option maxRecDepth 100000 in
theorem aOM_X12_stuck : aMC aM_X12_stuck = true := by decide +kernel
set_option maxRecDepth 100000 in
theorem aOK_X12_stuck_0 : ((aL_X12_stuck).take 40).all (aQ cX12_stuck) = true := by decide +kernel
set_option maxRecDepth 100000 in
theorem aOK_X12_stuck_1 : ((aL_X12_stuck).drop 40).all (aQ cX12_stuck) = true := by decide +kernel
theorem aOK_X12_stuck : aCoC aM_X12_stuck = true := aAll2 40 aOK_X12_stuck_0 (aOK_X12_stuck_1)
set_option maxRecDepth 100000 in
theorem aOM_X12_teamOf : aMC aM_X12_teamOf = true := by decide +kernel
set_option maxRecDepth 100000 in
theorem aOK_X12_teamOf_0 : ((aL_X12_teamOf).take 40).all (aQ cX12_teamOf) = true := by decide +kernel
set_option maxRecDepth 100000 in
theorem aOK_X12_teamOf_1 : ((aL_X12_teamOf).drop 40).all (aQ cX12_teamOf) = true := by decide +kernel
theorem aOK_X12_teamOf : aCoC aM_X12_teamOf = true := aAll2 40 aOK_X12_teamOf_0 (aOK_X12_teamOf_1)
