/-! the checks of the program, by the kernel -/
set_option maxRecDepth 100000 in
theorem aOM_X0_has : aMC aM_X0_has = true := by decide +kernel
set_option maxRecDepth 100000 in
theorem aOK_X0_has : aCoC aM_X0_has = true := by decide +kernel
set_option maxRecDepth 100000 in
theorem aOM_X0_read : aMC aM_X0_read = true := by decide +kernel
set_option maxRecDepth 100000 in
theorem aOK_X0_read_0 : ((aL_X0_read).take 40).all (aQ cX0_read) = true := by decide +kernel
set_option maxRecDepth 100000 in
theorem aOK_X0_read_1 : ((aL_X0_read).drop 40).all (aQ cX0_read) = true := by decide +kernel
theorem aOK_X0_read : aCoC aM_X0_read = true := aAll2 40 aOK_X0_read_0 (aOK_X0_read_1)
set_option maxRecDepth 100000 in
theorem aOM_X0_add : aMC aM_X0_add = true := by decide +kernel
set_option maxRecDepth 100000 in
theorem aOK_X0_add : aCoC aM_X0_add = true := by decide +kernel
set_option maxRecDepth 100000 in
theorem aOM_X1_full : aMC aM_X1_full = true := by decide +kernel
set_option maxRecDepth 100000 in
theorem aOK_X1_full : aCoC aM_X1_full = true := by decide +kernel
set_option maxRecDepth 100000 in
theorem aOM_X1_lineUp : aMC aM_X1_lineUp = true := by decide +kernel
set_option maxRecDepth 100000 in
theorem aOK_X1_lineUp_0 : ((aL_X1_lineUp).take 40).all (aQ cX1_lineUp) = true := by decide +kernel
set_option maxRecDepth 100000 in
theorem aOK_X1_lineUp_1 : (((aL_X1_lineUp).drop 40).take 40).all (aQ cX1_lineUp) = true := by decide +kernel
set_option maxRecDepth 100000 in
theorem aOK_X1_lineUp_2 : (((aL_X1_lineUp).drop 40).drop 40).all (aQ cX1_lineUp) = true := by decide +kernel
theorem aOK_X1_lineUp : aCoC aM_X1_lineUp = true := aAll2 40 aOK_X1_lineUp_0 (aAll2 40 aOK_X1_lineUp_1 (aOK_X1_lineUp_2))
set_option maxRecDepth 100000 in
theorem aOM_X1_putInOrder : aMC aM_X1_putInOrder = true := by decide +kernel
set_option maxRecDepth 100000 in
theorem aOK_X1_putInOrder_0 : ((aL_X1_putInOrder).take 40).all (aQ cX1_putInOrder) = true := by decide +kernel
set_option maxRecDepth 100000 in
theorem aOK_X1_putInOrder_1 : ((aL_X1_putInOrder).drop 40).all (aQ cX1_putInOrder) = true := by decide +kernel
theorem aOK_X1_putInOrder : aCoC aM_X1_putInOrder = true := aAll2 40 aOK_X1_putInOrder_0 (aOK_X1_putInOrder_1)
set_option maxRecDepth 100000 in
theorem aOM_X1_placeOf : aMC aM_X1_placeOf = true := by decide +kernel
set_option maxRecDepth 100000 in
theorem aOK_X1_placeOf : aCoC aM_X1_placeOf = true := by decide +kernel
set_option maxRecDepth 100000 in
theorem aOM_X1_spanSets : aMC aM_X1_spanSets = true := by decide +kernel
set_option maxRecDepth 100000 in
theorem aOK_X1_spanSets_0 : ((aL_X1_spanSets).take 40).all (aQ cX1_spanSets) = true := by decide +kernel
set_option maxRecDepth 100000 in
theorem aOK_X1_spanSets_1 : ((aL_X1_spanSets).drop 40).all (aQ cX1_spanSets) = true := by decide +kernel
theorem aOK_X1_spanSets : aCoC aM_X1_spanSets = true := aAll2 40 aOK_X1_spanSets_0 (aOK_X1_spanSets_1)
set_option maxRecDepth 100000 in
theorem aOM_X1_dealNothing : aMC aM_X1_dealNothing = true := by decide +kernel
set_option maxRecDepth 100000 in
theorem aOK_X1_dealNothing : aCoC aM_X1_dealNothing = true := by decide +kernel
set_option maxRecDepth 100000 in
theorem aOM_X1_shareOf : aMC aM_X1_shareOf = true := by decide +kernel
set_option maxRecDepth 100000 in
theorem aOK_X1_shareOf_0 : ((aL_X1_shareOf).take 40).all (aQ cX1_shareOf) = true := by decide +kernel
set_option maxRecDepth 100000 in
theorem aOK_X1_shareOf_1 : ((aL_X1_shareOf).drop 40).all (aQ cX1_shareOf) = true := by decide +kernel
theorem aOK_X1_shareOf : aCoC aM_X1_shareOf = true := aAll2 40 aOK_X1_shareOf_0 (aOK_X1_shareOf_1)
set_option maxRecDepth 100000 in
theorem aOM_X1_dealTo : aMC aM_X1_dealTo = true := by decide +kernel
set_option maxRecDepth 100000 in
theorem aOK_X1_dealTo : aCoC aM_X1_dealTo = true := by decide +kernel
set_option maxRecDepth 100000 in
theorem aOM_X1_dealToAllBut : aMC aM_X1_dealToAllBut = true := by decide +kernel
set_option maxRecDepth 100000 in
theorem aOK_X1_dealToAllBut : aCoC aM_X1_dealToAllBut = true := by decide +kernel
set_option maxRecDepth 100000 in
theorem aOM_X1_dealAll : aMC aM_X1_dealAll = true := by decide +kernel
set_option maxRecDepth 100000 in
theorem aOK_X1_dealAll : aCoC aM_X1_dealAll = true := by decide +kernel
set_option maxRecDepth 100000 in
theorem aOM_X1_valuesOf : aMC aM_X1_valuesOf = true := by decide +kernel
set_option maxRecDepth 100000 in
theorem aOK_X1_valuesOf : aCoC aM_X1_valuesOf = true := by decide +kernel
set_option maxRecDepth 100000 in
theorem aOM_X1_digitsOf : aMC aM_X1_digitsOf = true := by decide +kernel
set_option maxRecDepth 100000 in
theorem aOK_X1_digitsOf : aCoC aM_X1_digitsOf = true := by decide +kernel
set_option maxRecDepth 100000 in
theorem aOM_X1_learnBest : aMC aM_X1_learnBest = true := by decide +kernel
set_option maxRecDepth 100000 in
theorem aOK_X1_learnBest_0 : ((aL_X1_learnBest).take 40).all (aQ cX1_learnBest) = true := by decide +kernel
set_option maxRecDepth 100000 in
theorem aOK_X1_learnBest_1 : ((aL_X1_learnBest).drop 40).all (aQ cX1_learnBest) = true := by decide +kernel
theorem aOK_X1_learnBest : aCoC aM_X1_learnBest = true := aAll2 40 aOK_X1_learnBest_0 (aOK_X1_learnBest_1)
set_option maxRecDepth 100000 in
theorem aOM_X1_valuesLearnt : aMC aM_X1_valuesLearnt = true := by decide +kernel
set_option maxRecDepth 100000 in
theorem aOK_X1_valuesLearnt : aCoC aM_X1_valuesLearnt = true := by decide +kernel
set_option maxRecDepth 100000 in
theorem aOM_X1_mostWithin : aMC aM_X1_mostWithin = true := by decide +kernel
set_option maxRecDepth 100000 in
theorem aOK_X1_mostWithin : aCoC aM_X1_mostWithin = true := by decide +kernel
set_option maxRecDepth 100000 in
theorem aOM_X1_mostAlone : aMC aM_X1_mostAlone = true := by decide +kernel
set_option maxRecDepth 100000 in
theorem aOK_X1_mostAlone : aCoC aM_X1_mostAlone = true := by decide +kernel
set_option maxRecDepth 100000 in
theorem aOM_X1_spiteOn : aMC aM_X1_spiteOn = true := by decide +kernel
set_option maxRecDepth 100000 in
theorem aOK_X1_spiteOn_0 : ((aL_X1_spiteOn).take 40).all (aQ cX1_spiteOn) = true := by decide +kernel
set_option maxRecDepth 100000 in
theorem aOK_X1_spiteOn_1 : ((aL_X1_spiteOn).drop 40).all (aQ cX1_spiteOn) = true := by decide +kernel
theorem aOK_X1_spiteOn : aCoC aM_X1_spiteOn = true := aAll2 40 aOK_X1_spiteOn_0 (aOK_X1_spiteOn_1)
set_option maxRecDepth 100000 in
theorem aOM_X1_valuesBehind : aMC aM_X1_valuesBehind = true := by decide +kernel
set_option maxRecDepth 100000 in
theorem aOK_X1_valuesBehind_0 : ((aL_X1_valuesBehind).take 40).all (aQ cX1_valuesBehind) = true := by decide +kernel
set_option maxRecDepth 100000 in
theorem aOK_X1_valuesBehind_1 : ((aL_X1_valuesBehind).drop 40).all (aQ cX1_valuesBehind) = true := by decide +kernel
theorem aOK_X1_valuesBehind : aCoC aM_X1_valuesBehind = true := aAll2 40 aOK_X1_valuesBehind_0 (aOK_X1_valuesBehind_1)
set_option maxRecDepth 100000 in
theorem aOM_X2_beginBest : aMC aM_X2_beginBest = true := by decide +kernel
set_option maxRecDepth 100000 in
theorem aOK_X2_beginBest_0 : ((aL_X2_beginBest).take 40).all (aQ cX2_beginBest) = true := by decide +kernel
set_option maxRecDepth 100000 in
theorem aOK_X2_beginBest_1 : ((aL_X2_beginBest).drop 40).all (aQ cX2_beginBest) = true := by decide +kernel
theorem aOK_X2_beginBest : aCoC aM_X2_beginBest = true := aAll2 40 aOK_X2_beginBest_0 (aOK_X2_beginBest_1)
set_option maxRecDepth 100000 in
theorem aOM_X2_openRanges : aMC aM_X2_openRanges = true := by decide +kernel
set_option maxRecDepth 100000 in
theorem aOK_X2_openRanges_0 : ((aL_X2_openRanges).take 40).all (aQ cX2_openRanges) = true := by decide +kernel
set_option maxRecDepth 100000 in
theorem aOK_X2_openRanges_1 : (((aL_X2_openRanges).drop 40).take 40).all (aQ cX2_openRanges) = true := by decide +kernel
set_option maxRecDepth 100000 in
theorem aOK_X2_openRanges_2 : (((aL_X2_openRanges).drop 40).drop 40).all (aQ cX2_openRanges) = true := by decide +kernel
theorem aOK_X2_openRanges : aCoC aM_X2_openRanges = true := aAll2 40 aOK_X2_openRanges_0 (aAll2 40 aOK_X2_openRanges_1 (aOK_X2_openRanges_2))
set_option maxRecDepth 100000 in
theorem aOM_X2_cutRange : aMC aM_X2_cutRange = true := by decide +kernel
set_option maxRecDepth 100000 in
theorem aOK_X2_cutRange_0 : ((aL_X2_cutRange).take 40).all (aQ cX2_cutRange) = true := by decide +kernel
set_option maxRecDepth 100000 in
theorem aOK_X2_cutRange_1 : ((aL_X2_cutRange).drop 40).all (aQ cX2_cutRange) = true := by decide +kernel
theorem aOK_X2_cutRange : aCoC aM_X2_cutRange = true := aAll2 40 aOK_X2_cutRange_0 (aOK_X2_cutRange_1)
set_option maxRecDepth 100000 in
theorem aOM_X2_mostBegun : aMC aM_X2_mostBegun = true := by decide +kernel
set_option maxRecDepth 100000 in
theorem aOK_X2_mostBegun_0 : ((aL_X2_mostBegun).take 40).all (aQ cX2_mostBegun) = true := by decide +kernel
set_option maxRecDepth 100000 in
theorem aOK_X2_mostBegun_1 : ((aL_X2_mostBegun).drop 40).all (aQ cX2_mostBegun) = true := by decide +kernel
theorem aOK_X2_mostBegun : aCoC aM_X2_mostBegun = true := aAll2 40 aOK_X2_mostBegun_0 (aOK_X2_mostBegun_1)
set_option maxRecDepth 100000 in
theorem aOM_X2_dealNothing : aMC aM_X2_dealNothing = true := by decide +kernel
set_option maxRecDepth 100000 in
theorem aOK_X2_dealNothing_0 : ((aL_X2_dealNothing).take 40).all (aQ cX2_dealNothing) = true := by decide +kernel
set_option maxRecDepth 100000 in
theorem aOK_X2_dealNothing_1 : (((aL_X2_dealNothing).drop 40).take 40).all (aQ cX2_dealNothing) = true := by decide +kernel
set_option maxRecDepth 100000 in
theorem aOK_X2_dealNothing_2 : (((aL_X2_dealNothing).drop 40).drop 40).all (aQ cX2_dealNothing) = true := by decide +kernel
theorem aOK_X2_dealNothing : aCoC aM_X2_dealNothing = true := aAll2 40 aOK_X2_dealNothing_0 (aAll2 40 aOK_X2_dealNothing_1 (aOK_X2_dealNothing_2))
set_option maxRecDepth 100000 in
theorem aOM_X2_undealt : aMC aM_X2_undealt = true := by decide +kernel
set_option maxRecDepth 100000 in
theorem aOK_X2_undealt_0 : ((aL_X2_undealt).take 40).all (aQ cX2_undealt) = true := by decide +kernel
set_option maxRecDepth 100000 in
theorem aOK_X2_undealt_1 : ((aL_X2_undealt).drop 40).all (aQ cX2_undealt) = true := by decide +kernel
theorem aOK_X2_undealt : aCoC aM_X2_undealt = true := aAll2 40 aOK_X2_undealt_0 (aOK_X2_undealt_1)
set_option maxRecDepth 100000 in
theorem aOM_X2_findDays : aMC aM_X2_findDays = true := by decide +kernel
set_option maxRecDepth 100000 in
theorem aOK_X2_findDays_0 : ((aL_X2_findDays).take 40).all (aQ cX2_findDays) = true := by decide +kernel
set_option maxRecDepth 100000 in
theorem aOK_X2_findDays_1 : ((aL_X2_findDays).drop 40).all (aQ cX2_findDays) = true := by decide +kernel
theorem aOK_X2_findDays : aCoC aM_X2_findDays = true := aAll2 40 aOK_X2_findDays_0 (aOK_X2_findDays_1)
set_option maxRecDepth 100000 in
theorem aOM_X2_findPrices : aMC aM_X2_findPrices = true := by decide +kernel
set_option maxRecDepth 100000 in
theorem aOK_X2_findPrices_0 : ((aL_X2_findPrices).take 40).all (aQ cX2_findPrices) = true := by decide +kernel
set_option maxRecDepth 100000 in
theorem aOK_X2_findPrices_1 : (((aL_X2_findPrices).drop 40).take 40).all (aQ cX2_findPrices) = true := by decide +kernel
set_option maxRecDepth 100000 in
theorem aOK_X2_findPrices_2 : (((aL_X2_findPrices).drop 40).drop 40).all (aQ cX2_findPrices) = true := by decide +kernel
theorem aOK_X2_findPrices : aCoC aM_X2_findPrices = true := aAll2 40 aOK_X2_findPrices_0 (aAll2 40 aOK_X2_findPrices_1 (aOK_X2_findPrices_2))
set_option maxRecDepth 100000 in
theorem aOM_X2_quickestBy : aMC aM_X2_quickestBy = true := by decide +kernel
set_option maxRecDepth 100000 in
theorem aOK_X2_quickestBy_0 : ((aL_X2_quickestBy).take 40).all (aQ cX2_quickestBy) = true := by decide +kernel
set_option maxRecDepth 100000 in
theorem aOK_X2_quickestBy_1 : ((aL_X2_quickestBy).drop 40).all (aQ cX2_quickestBy) = true := by decide +kernel
theorem aOK_X2_quickestBy : aCoC aM_X2_quickestBy = true := aAll2 40 aOK_X2_quickestBy_0 (aOK_X2_quickestBy_1)
set_option maxRecDepth 100000 in
theorem aOM_X2_shareOut : aMC aM_X2_shareOut = true := by decide +kernel
set_option maxRecDepth 100000 in
theorem aOK_X2_shareOut_0 : ((aL_X2_shareOut).take 40).all (aQ cX2_shareOut) = true := by decide +kernel
set_option maxRecDepth 100000 in
theorem aOK_X2_shareOut_1 : ((aL_X2_shareOut).drop 40).all (aQ cX2_shareOut) = true := by decide +kernel
theorem aOK_X2_shareOut : aCoC aM_X2_shareOut = true := aAll2 40 aOK_X2_shareOut_0 (aOK_X2_shareOut_1)
set_option maxRecDepth 100000 in
theorem aOM_X3_add : aMC aM_X3_add = true := by decide +kernel
set_option maxRecDepth 100000 in
theorem aOK_X3_add : aCoC aM_X3_add = true := by decide +kernel
set_option maxRecDepth 100000 in
theorem aOM_X3_doneOf : aMC aM_X3_doneOf = true := by decide +kernel
set_option maxRecDepth 100000 in
theorem aOK_X3_doneOf : aCoC aM_X3_doneOf = true := by decide +kernel
set_option maxRecDepth 100000 in
theorem aOM_X3_isSo : aMC aM_X3_isSo = true := by decide +kernel
set_option maxRecDepth 100000 in
theorem aOK_X3_isSo : aCoC aM_X3_isSo = true := by decide +kernel
set_option maxRecDepth 100000 in
theorem aOM_X4_clear : aMC aM_X4_clear = true := by decide +kernel
set_option maxRecDepth 100000 in
theorem aOK_X4_clear : aCoC aM_X4_clear = true := by decide +kernel
set_option maxRecDepth 100000 in
theorem aOM_X4_addThing : aMC aM_X4_addThing = true := by decide +kernel
set_option maxRecDepth 100000 in
theorem aOK_X4_addThing_0 : ((aL_X4_addThing).take 40).all (aQ cX4_addThing) = true := by decide +kernel
set_option maxRecDepth 100000 in
theorem aOK_X4_addThing_1 : ((aL_X4_addThing).drop 40).all (aQ cX4_addThing) = true := by decide +kernel
theorem aOK_X4_addThing : aCoC aM_X4_addThing = true := aAll2 40 aOK_X4_addThing_0 (aOK_X4_addThing_1)
set_option maxRecDepth 100000 in
theorem aOM_X4_addStep : aMC aM_X4_addStep = true := by decide +kernel
set_option maxRecDepth 100000 in
theorem aOK_X4_addStep : aCoC aM_X4_addStep = true := by decide +kernel
set_option maxRecDepth 100000 in
theorem aOM_X4_settle : aMC aM_X4_settle = true := by decide +kernel
set_option maxRecDepth 100000 in
theorem aOK_X4_settle : aCoC aM_X4_settle = true := by decide +kernel
set_option maxRecDepth 100000 in
theorem aOM_X4_addHeir : aMC aM_X4_addHeir = true := by decide +kernel
set_option maxRecDepth 100000 in
theorem aOK_X4_addHeir : aCoC aM_X4_addHeir = true := by decide +kernel
set_option maxRecDepth 100000 in
theorem aOM_X4_addTool : aMC aM_X4_addTool = true := by decide +kernel
set_option maxRecDepth 100000 in
theorem aOK_X4_addTool : aCoC aM_X4_addTool = true := by decide +kernel
set_option maxRecDepth 100000 in
theorem aOM_X4_isWhole : aMC aM_X4_isWhole = true := by decide +kernel
set_option maxRecDepth 100000 in
theorem aOK_X4_isWhole : aCoC aM_X4_isWhole = true := by decide +kernel
set_option maxRecDepth 100000 in
theorem aOM_X4_isTold : aMC aM_X4_isTold = true := by decide +kernel
set_option maxRecDepth 100000 in
theorem aOK_X4_isTold : aCoC aM_X4_isTold = true := by decide +kernel
set_option maxRecDepth 100000 in
theorem aOM_X4_hasThing : aMC aM_X4_hasThing = true := by decide +kernel
set_option maxRecDepth 100000 in
theorem aOK_X4_hasThing : aCoC aM_X4_hasThing = true := by decide +kernel
set_option maxRecDepth 100000 in
theorem aOM_X4_hasHeir : aMC aM_X4_hasHeir = true := by decide +kernel
set_option maxRecDepth 100000 in
theorem aOK_X4_hasHeir : aCoC aM_X4_hasHeir = true := by decide +kernel
set_option maxRecDepth 100000 in
theorem aOM_X4_hasStep : aMC aM_X4_hasStep = true := by decide +kernel
set_option maxRecDepth 100000 in
theorem aOK_X4_hasStep : aCoC aM_X4_hasStep = true := by decide +kernel
set_option maxRecDepth 100000 in
theorem aOM_X4_hasSet : aMC aM_X4_hasSet = true := by decide +kernel
set_option maxRecDepth 100000 in
theorem aOK_X4_hasSet : aCoC aM_X4_hasSet = true := by decide +kernel
set_option maxRecDepth 100000 in
theorem aOM_X4_isOpen : aMC aM_X4_isOpen = true := by decide +kernel
set_option maxRecDepth 100000 in
theorem aOK_X4_isOpen : aCoC aM_X4_isOpen = true := by decide +kernel
set_option maxRecDepth 100000 in
theorem aOM_X4_skill : aMC aM_X4_skill = true := by decide +kernel
set_option maxRecDepth 100000 in
theorem aOK_X4_skill : aCoC aM_X4_skill = true := by decide +kernel
set_option maxRecDepth 100000 in
theorem aOM_X4_addSkill : aMC aM_X4_addSkill = true := by decide +kernel
set_option maxRecDepth 100000 in
theorem aOK_X4_addSkill : aCoC aM_X4_addSkill = true := by decide +kernel
set_option maxRecDepth 100000 in
theorem aOM_X4_allSkills : aMC aM_X4_allSkills = true := by decide +kernel
set_option maxRecDepth 100000 in
theorem aOK_X4_allSkills : aCoC aM_X4_allSkills = true := by decide +kernel
set_option maxRecDepth 100000 in
theorem aOM_X4_heldBy : aMC aM_X4_heldBy = true := by decide +kernel
set_option maxRecDepth 100000 in
theorem aOK_X4_heldBy : aCoC aM_X4_heldBy = true := by decide +kernel
set_option maxRecDepth 100000 in
theorem aOM_X4_countOf : aMC aM_X4_countOf = true := by decide +kernel
set_option maxRecDepth 100000 in
theorem aOK_X4_countOf : aCoC aM_X4_countOf = true := by decide +kernel
set_option maxRecDepth 100000 in
theorem aOM_X4_finishedValues : aMC aM_X4_finishedValues = true := by decide +kernel
set_option maxRecDepth 100000 in
theorem aOK_X4_finishedValues : aCoC aM_X4_finishedValues = true := by decide +kernel
set_option maxRecDepth 100000 in
theorem aOM_X4_daysFor : aMC aM_X4_daysFor = true := by decide +kernel
set_option maxRecDepth 100000 in
theorem aOK_X4_daysFor : aCoC aM_X4_daysFor = true := by decide +kernel
set_option maxRecDepth 100000 in
theorem aOM_X4_stepDays : aMC aM_X4_stepDays = true := by decide +kernel
set_option maxRecDepth 100000 in
theorem aOK_X4_stepDays : aCoC aM_X4_stepDays = true := by decide +kernel
set_option maxRecDepth 100000 in
theorem aOM_X4_daysFrom : aMC aM_X4_daysFrom = true := by decide +kernel
set_option maxRecDepth 100000 in
theorem aOK_X4_daysFrom_0 : ((aL_X4_daysFrom).take 40).all (aQ cX4_daysFrom) = true := by decide +kernel
set_option maxRecDepth 100000 in
theorem aOK_X4_daysFrom_1 : ((aL_X4_daysFrom).drop 40).all (aQ cX4_daysFrom) = true := by decide +kernel
theorem aOK_X4_daysFrom : aCoC aM_X4_daysFrom = true := aAll2 40 aOK_X4_daysFrom_0 (aOK_X4_daysFrom_1)
set_option maxRecDepth 100000 in
theorem aOM_X4_aloneDays : aMC aM_X4_aloneDays = true := by decide +kernel
set_option maxRecDepth 100000 in
theorem aOK_X4_aloneDays : aCoC aM_X4_aloneDays = true := by decide +kernel
set_option maxRecDepth 100000 in
theorem aOM_X4_isInTime : aMC aM_X4_isInTime = true := by decide +kernel
set_option maxRecDepth 100000 in
theorem aOK_X4_isInTime : aCoC aM_X4_isInTime = true := by decide +kernel
set_option maxRecDepth 100000 in
theorem aOM_X4_daysInTime : aMC aM_X4_daysInTime = true := by decide +kernel
set_option maxRecDepth 100000 in
theorem aOK_X4_daysInTime : aCoC aM_X4_daysInTime = true := by decide +kernel
set_option maxRecDepth 100000 in
theorem aOM_X4_aloneInTime : aMC aM_X4_aloneInTime = true := by decide +kernel
set_option maxRecDepth 100000 in
theorem aOK_X4_aloneInTime : aCoC aM_X4_aloneInTime = true := by decide +kernel
