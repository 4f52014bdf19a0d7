/-! the checks of the program, by the kernel -/
set_option maxRecDepth 100000 in
theorem aOM_X4_bestSkill : aMC aM_X4_bestSkill = true := by decide +kernel
set_option maxRecDepth 100000 in
theorem aOK_X4_bestSkill : aCoC aM_X4_bestSkill = true := by decide +kernel
set_option maxRecDepth 100000 in
theorem aOM_X4_everyone : aMC aM_X4_everyone = true := by decide +kernel
set_option maxRecDepth 100000 in
theorem aOK_X4_everyone : aCoC aM_X4_everyone = true := by decide +kernel
set_option maxRecDepth 100000 in
theorem aOM_X4_firstStuck : aMC aM_X4_firstStuck = true := by decide +kernel
set_option maxRecDepth 100000 in
theorem aOK_X4_firstStuck : aCoC aM_X4_firstStuck = true := by decide +kernel
set_option maxRecDepth 100000 in
theorem aOM_X4_teamDays : aMC aM_X4_teamDays = true := by decide +kernel
set_option maxRecDepth 100000 in
theorem aOK_X4_teamDays_0 : ((aL_X4_teamDays).take 40).all (aQ cX4_teamDays) = true := by decide +kernel
set_option maxRecDepth 100000 in
theorem aOK_X4_teamDays_1 : ((aL_X4_teamDays).drop 40).all (aQ cX4_teamDays) = true := by decide +kernel
theorem aOK_X4_teamDays : aCoC aM_X4_teamDays = true := aAll2 40 aOK_X4_teamDays_0 (aOK_X4_teamDays_1)
set_option maxRecDepth 100000 in
theorem aOM_X4_fewestInTime : aMC aM_X4_fewestInTime = true := by decide +kernel
set_option maxRecDepth 100000 in
theorem aOK_X4_fewestInTime : aCoC aM_X4_fewestInTime = true := by decide +kernel
set_option maxRecDepth 100000 in
theorem aOM_X4_paidByGuilds : aMC aM_X4_paidByGuilds = true := by decide +kernel
set_option maxRecDepth 100000 in
theorem aOK_X4_paidByGuilds : aCoC aM_X4_paidByGuilds = true := by decide +kernel
set_option maxRecDepth 100000 in
theorem aOM_X4_passDay : aMC aM_X4_passDay = true := by decide +kernel
set_option maxRecDepth 100000 in
theorem aOK_X4_passDay_0 : ((aL_X4_passDay).take 40).all (aQ cX4_passDay) = true := by decide +kernel
set_option maxRecDepth 100000 in
theorem aOK_X4_passDay_1 : ((aL_X4_passDay).drop 40).all (aQ cX4_passDay) = true := by decide +kernel
theorem aOK_X4_passDay : aCoC aM_X4_passDay = true := aAll2 40 aOK_X4_passDay_0 (aOK_X4_passDay_1)
set_option maxRecDepth 100000 in
theorem aOM_X4_workOf : aMC aM_X4_workOf = true := by decide +kernel
set_option maxRecDepth 100000 in
theorem aOK_X4_workOf_0 : ((aL_X4_workOf).take 40).all (aQ cX4_workOf) = true := by decide +kernel
set_option maxRecDepth 100000 in
theorem aOK_X4_workOf_1 : ((aL_X4_workOf).drop 40).all (aQ cX4_workOf) = true := by decide +kernel
theorem aOK_X4_workOf : aCoC aM_X4_workOf = true := aAll2 40 aOK_X4_workOf_0 (aOK_X4_workOf_1)
set_option maxRecDepth 100000 in
theorem aOM_X4_workAt : aMC aM_X4_workAt = true := by decide +kernel
set_option maxRecDepth 100000 in
theorem aOK_X4_workAt_0 : ((aL_X4_workAt).take 40).all (aQ cX4_workAt) = true := by decide +kernel
set_option maxRecDepth 100000 in
theorem aOK_X4_workAt_1 : (((aL_X4_workAt).drop 40).take 40).all (aQ cX4_workAt) = true := by decide +kernel
set_option maxRecDepth 100000 in
theorem aOK_X4_workAt_2 : (((aL_X4_workAt).drop 40).drop 40).all (aQ cX4_workAt) = true := by decide +kernel
theorem aOK_X4_workAt : aCoC aM_X4_workAt = true := aAll2 40 aOK_X4_workAt_0 (aAll2 40 aOK_X4_workAt_1 (aOK_X4_workAt_2))
set_option maxRecDepth 100000 in
theorem aOM_X4_closeDay : aMC aM_X4_closeDay = true := by decide +kernel
set_option maxRecDepth 100000 in
theorem aOK_X4_closeDay_0 : ((aL_X4_closeDay).take 40).all (aQ cX4_closeDay) = true := by decide +kernel
set_option maxRecDepth 100000 in
theorem aOK_X4_closeDay_1 : ((aL_X4_closeDay).drop 40).all (aQ cX4_closeDay) = true := by decide +kernel
theorem aOK_X4_closeDay : aCoC aM_X4_closeDay = true := aAll2 40 aOK_X4_closeDay_0 (aOK_X4_closeDay_1)
set_option maxRecDepth 100000 in
theorem aOM_X4_raiseHeirs : aMC aM_X4_raiseHeirs = true := by decide +kernel
set_option maxRecDepth 100000 in
theorem aOK_X4_raiseHeirs_0 : ((aL_X4_raiseHeirs).take 40).all (aQ cX4_raiseHeirs) = true := by decide +kernel
set_option maxRecDepth 100000 in
theorem aOK_X4_raiseHeirs_1 : ((aL_X4_raiseHeirs).drop 40).all (aQ cX4_raiseHeirs) = true := by decide +kernel
theorem aOK_X4_raiseHeirs : aCoC aM_X4_raiseHeirs = true := aAll2 40 aOK_X4_raiseHeirs_0 (aOK_X4_raiseHeirs_1)
set_option maxRecDepth 100000 in
theorem aOM_X5_open : aMC aM_X5_open = true := by decide +kernel
set_option maxRecDepth 100000 in
theorem aOK_X5_open : aCoC aM_X5_open = true := by decide +kernel
set_option maxRecDepth 100000 in
theorem aOM_X5_addThing : aMC aM_X5_addThing = true := by decide +kernel
set_option maxRecDepth 100000 in
theorem aOK_X5_addThing : aCoC aM_X5_addThing = true := by decide +kernel
set_option maxRecDepth 100000 in
theorem aOM_X5_tellOf : aMC aM_X5_tellOf = true := by decide +kernel
set_option maxRecDepth 100000 in
theorem aOK_X5_tellOf : aCoC aM_X5_tellOf = true := by decide +kernel
set_option maxRecDepth 100000 in
theorem aOM_X5_isChoice : aMC aM_X5_isChoice = true := by decide +kernel
set_option maxRecDepth 100000 in
theorem aOK_X5_isChoice : aCoC aM_X5_isChoice = true := by decide +kernel
set_option maxRecDepth 100000 in
theorem aOM_X5_takeRow : aMC aM_X5_takeRow = true := by decide +kernel
set_option maxRecDepth 100000 in
theorem aOK_X5_takeRow_0 : ((aL_X5_takeRow).take 40).all (aQ cX5_takeRow) = true := by decide +kernel
set_option maxRecDepth 100000 in
theorem aOK_X5_takeRow_1 : ((aL_X5_takeRow).drop 40).all (aQ cX5_takeRow) = true := by decide +kernel
theorem aOK_X5_takeRow : aCoC aM_X5_takeRow = true := aAll2 40 aOK_X5_takeRow_0 (aOK_X5_takeRow_1)
set_option maxRecDepth 100000 in
theorem aOM_X5_findLeads : aMC aM_X5_findLeads = true := by decide +kernel
set_option maxRecDepth 100000 in
theorem aOK_X5_findLeads : aCoC aM_X5_findLeads = true := by decide +kernel
set_option maxRecDepth 100000 in
theorem aOM_X5_gainOf : aMC aM_X5_gainOf = true := by decide +kernel
set_option maxRecDepth 100000 in
theorem aOK_X5_gainOf : aCoC aM_X5_gainOf = true := by decide +kernel
set_option maxRecDepth 100000 in
theorem aOM_X5_isContent : aMC aM_X5_isContent = true := by decide +kernel
set_option maxRecDepth 100000 in
theorem aOK_X5_isContent_0 : ((aL_X5_isContent).take 40).all (aQ cX5_isContent) = true := by decide +kernel
set_option maxRecDepth 100000 in
theorem aOK_X5_isContent_1 : ((aL_X5_isContent).drop 40).all (aQ cX5_isContent) = true := by decide +kernel
theorem aOK_X5_isContent : aCoC aM_X5_isContent = true := aAll2 40 aOK_X5_isContent_0 (aOK_X5_isContent_1)
set_option maxRecDepth 100000 in
theorem aOM_X5_areContent : aMC aM_X5_areContent = true := by decide +kernel
set_option maxRecDepth 100000 in
theorem aOK_X5_areContent : aCoC aM_X5_areContent = true := by decide +kernel
set_option maxRecDepth 100000 in
theorem aOM_X5_restingRow : aMC aM_X5_restingRow = true := by decide +kernel
set_option maxRecDepth 100000 in
theorem aOK_X5_restingRow_0 : ((aL_X5_restingRow).take 40).all (aQ cX5_restingRow) = true := by decide +kernel
set_option maxRecDepth 100000 in
theorem aOK_X5_restingRow_1 : ((aL_X5_restingRow).drop 40).all (aQ cX5_restingRow) = true := by decide +kernel
theorem aOK_X5_restingRow : aCoC aM_X5_restingRow = true := aAll2 40 aOK_X5_restingRow_0 (aOK_X5_restingRow_1)
set_option maxRecDepth 100000 in
theorem aOM_X5_pickBy : aMC aM_X5_pickBy = true := by decide +kernel
set_option maxRecDepth 100000 in
theorem aOK_X5_pickBy_0 : ((aL_X5_pickBy).take 40).all (aQ cX5_pickBy) = true := by decide +kernel
set_option maxRecDepth 100000 in
theorem aOK_X5_pickBy_1 : ((aL_X5_pickBy).drop 40).all (aQ cX5_pickBy) = true := by decide +kernel
theorem aOK_X5_pickBy : aCoC aM_X5_pickBy = true := aAll2 40 aOK_X5_pickBy_0 (aOK_X5_pickBy_1)
set_option maxRecDepth 100000 in
theorem aOM_X6_read : aMC aM_X6_read = true := by decide +kernel
set_option maxRecDepth 100000 in
theorem aOK_X6_read : aCoC aM_X6_read = true := by decide +kernel
set_option maxRecDepth 100000 in
theorem aOM_X6_emit : aMC aM_X6_emit = true := by decide +kernel
set_option maxRecDepth 100000 in
theorem aOK_X6_emit : aCoC aM_X6_emit = true := by decide +kernel
set_option maxRecDepth 100000 in
theorem aOM_X6_readClause : aMC aM_X6_readClause = true := by decide +kernel
set_option maxRecDepth 100000 in
theorem aOK_X6_readClause_0 : ((aL_X6_readClause).take 40).all (aQ cX6_readClause) = true := by decide +kernel
set_option maxRecDepth 100000 in
theorem aOK_X6_readClause_1 : (((aL_X6_readClause).drop 40).take 40).all (aQ cX6_readClause) = true := by decide +kernel
set_option maxRecDepth 100000 in
theorem aOK_X6_readClause_2 : (((aL_X6_readClause).drop 40).drop 40).all (aQ cX6_readClause) = true := by decide +kernel
theorem aOK_X6_readClause : aCoC aM_X6_readClause = true := aAll2 40 aOK_X6_readClause_0 (aAll2 40 aOK_X6_readClause_1 (aOK_X6_readClause_2))
set_option maxRecDepth 100000 in
theorem aOM_X6_readCondition : aMC aM_X6_readCondition = true := by decide +kernel
set_option maxRecDepth 100000 in
theorem aOK_X6_readCondition : aCoC aM_X6_readCondition = true := by decide +kernel
set_option maxRecDepth 100000 in
theorem aOM_X6_readTruth : aMC aM_X6_readTruth = true := by decide +kernel
set_option maxRecDepth 100000 in
theorem aOK_X6_readTruth : aCoC aM_X6_readTruth = true := by decide +kernel
set_option maxRecDepth 100000 in
theorem aOM_X6_readUnit : aMC aM_X6_readUnit = true := by decide +kernel
set_option maxRecDepth 100000 in
theorem aOK_X6_readUnit_0 : ((aL_X6_readUnit).take 40).all (aQ cX6_readUnit) = true := by decide +kernel
set_option maxRecDepth 100000 in
theorem aOK_X6_readUnit_1 : ((aL_X6_readUnit).drop 40).all (aQ cX6_readUnit) = true := by decide +kernel
theorem aOK_X6_readUnit : aCoC aM_X6_readUnit = true := aAll2 40 aOK_X6_readUnit_0 (aOK_X6_readUnit_1)
set_option maxRecDepth 100000 in
theorem aOM_X6_readNested : aMC aM_X6_readNested = true := by decide +kernel
set_option maxRecDepth 100000 in
theorem aOK_X6_readNested_0 : ((aL_X6_readNested).take 40).all (aQ cX6_readNested) = true := by decide +kernel
set_option maxRecDepth 100000 in
theorem aOK_X6_readNested_1 : ((aL_X6_readNested).drop 40).all (aQ cX6_readNested) = true := by decide +kernel
theorem aOK_X6_readNested : aCoC aM_X6_readNested = true := aAll2 40 aOK_X6_readNested_0 (aOK_X6_readNested_1)
set_option maxRecDepth 100000 in
theorem aOM_X6_readSum : aMC aM_X6_readSum = true := by decide +kernel
set_option maxRecDepth 100000 in
theorem aOK_X6_readSum_0 : ((aL_X6_readSum).take 40).all (aQ cX6_readSum) = true := by decide +kernel
set_option maxRecDepth 100000 in
theorem aOK_X6_readSum_1 : ((aL_X6_readSum).drop 40).all (aQ cX6_readSum) = true := by decide +kernel
theorem aOK_X6_readSum : aCoC aM_X6_readSum = true := aAll2 40 aOK_X6_readSum_0 (aOK_X6_readSum_1)
set_option maxRecDepth 100000 in
theorem aOM_X6_readTerm : aMC aM_X6_readTerm = true := by decide +kernel
set_option maxRecDepth 100000 in
theorem aOK_X6_readTerm_0 : ((aL_X6_readTerm).take 40).all (aQ cX6_readTerm) = true := by decide +kernel
set_option maxRecDepth 100000 in
theorem aOK_X6_readTerm_1 : ((aL_X6_readTerm).drop 40).all (aQ cX6_readTerm) = true := by decide +kernel
theorem aOK_X6_readTerm : aCoC aM_X6_readTerm = true := aAll2 40 aOK_X6_readTerm_0 (aOK_X6_readTerm_1)
set_option maxRecDepth 100000 in
theorem aOM_X6_readAtom : aMC aM_X6_readAtom = true := by decide +kernel
set_option maxRecDepth 100000 in
theorem aOK_X6_readAtom_0 : ((aL_X6_readAtom).take 40).all (aQ cX6_readAtom) = true := by decide +kernel
set_option maxRecDepth 100000 in
theorem aOK_X6_readAtom_1 : ((aL_X6_readAtom).drop 40).all (aQ cX6_readAtom) = true := by decide +kernel
theorem aOK_X6_readAtom : aCoC aM_X6_readAtom = true := aAll2 40 aOK_X6_readAtom_0 (aOK_X6_readAtom_1)
set_option maxRecDepth 100000 in
theorem aOM_X6_comparison : aMC aM_X6_comparison = true := by decide +kernel
set_option maxRecDepth 100000 in
theorem aOK_X6_comparison : aCoC aM_X6_comparison = true := by decide +kernel
set_option maxRecDepth 100000 in
theorem aOM_X6_letterOf : aMC aM_X6_letterOf = true := by decide +kernel
set_option maxRecDepth 100000 in
theorem aOK_X6_letterOf : aCoC aM_X6_letterOf = true := by decide +kernel
set_option maxRecDepth 100000 in
theorem aOM_X7_has : aMC aM_X7_has = true := by decide +kernel
set_option maxRecDepth 100000 in
theorem aOK_X7_has : aCoC aM_X7_has = true := by decide +kernel
set_option maxRecDepth 100000 in
theorem aOM_X7_add : aMC aM_X7_add = true := by decide +kernel
set_option maxRecDepth 100000 in
theorem aOK_X7_add : aCoC aM_X7_add = true := by decide +kernel
set_option maxRecDepth 100000 in
theorem aOM_X7_tellOfWish : aMC aM_X7_tellOfWish = true := by decide +kernel
set_option maxRecDepth 100000 in
theorem aOK_X7_tellOfWish : aCoC aM_X7_tellOfWish = true := by decide +kernel
set_option maxRecDepth 100000 in
theorem aOM_X7_likes : aMC aM_X7_likes = true := by decide +kernel
set_option maxRecDepth 100000 in
theorem aOK_X7_likes_0 : ((aL_X7_likes).take 40).all (aQ cX7_likes) = true := by decide +kernel
set_option maxRecDepth 100000 in
theorem aOK_X7_likes_1 : ((aL_X7_likes).drop 40).all (aQ cX7_likes) = true := by decide +kernel
theorem aOK_X7_likes : aCoC aM_X7_likes = true := aAll2 40 aOK_X7_likes_0 (aOK_X7_likes_1)
set_option maxRecDepth 100000 in
theorem aOM_X7_signsLiked : aMC aM_X7_signsLiked = true := by decide +kernel
set_option maxRecDepth 100000 in
theorem aOK_X7_signsLiked : aCoC aM_X7_signsLiked = true := by decide +kernel
set_option maxRecDepth 100000 in
theorem aOM_X7_worth : aMC aM_X7_worth = true := by decide +kernel
set_option maxRecDepth 100000 in
theorem aOK_X7_worth_0 : ((aL_X7_worth).take 40).all (aQ cX7_worth) = true := by decide +kernel
set_option maxRecDepth 100000 in
theorem aOK_X7_worth_1 : (((aL_X7_worth).drop 40).take 40).all (aQ cX7_worth) = true := by decide +kernel
set_option maxRecDepth 100000 in
theorem aOK_X7_worth_2 : (((aL_X7_worth).drop 40).drop 40).all (aQ cX7_worth) = true := by decide +kernel
theorem aOK_X7_worth : aCoC aM_X7_worth = true := aAll2 40 aOK_X7_worth_0 (aAll2 40 aOK_X7_worth_1 (aOK_X7_worth_2))
set_option maxRecDepth 100000 in
theorem aOM_X7_joined : aMC aM_X7_joined = true := by decide +kernel
set_option maxRecDepth 100000 in
theorem aOK_X7_joined_0 : ((aL_X7_joined).take 40).all (aQ cX7_joined) = true := by decide +kernel
set_option maxRecDepth 100000 in
theorem aOK_X7_joined_1 : ((aL_X7_joined).drop 40).all (aQ cX7_joined) = true := by decide +kernel
theorem aOK_X7_joined : aCoC aM_X7_joined = true := aAll2 40 aOK_X7_joined_0 (aOK_X7_joined_1)
set_option maxRecDepth 100000 in
theorem aOM_X7_reckoned : aMC aM_X7_reckoned = true := by decide +kernel
set_option maxRecDepth 100000 in
theorem aOK_X7_reckoned_0 : ((aL_X7_reckoned).take 40).all (aQ cX7_reckoned) = true := by decide +kernel
set_option maxRecDepth 100000 in
theorem aOK_X7_reckoned_1 : ((aL_X7_reckoned).drop 40).all (aQ cX7_reckoned) = true := by decide +kernel
theorem aOK_X7_reckoned : aCoC aM_X7_reckoned = true := aAll2 40 aOK_X7_reckoned_0 (aOK_X7_reckoned_1)
set_option maxRecDepth 100000 in
theorem aOM_X7_push : aMC aM_X7_push = true := by decide +kernel
set_option maxRecDepth 100000 in
theorem aOK_X7_push : aCoC aM_X7_push = true := by decide +kernel
set_option maxRecDepth 100000 in
theorem aOM_X7_pop : aMC aM_X7_pop = true := by decide +kernel
set_option maxRecDepth 100000 in
theorem aOK_X7_pop : aCoC aM_X7_pop = true := by decide +kernel
set_option maxRecDepth 100000 in
theorem aOM_X8_forget : aMC aM_X8_forget = true := by decide +kernel
set_option maxRecDepth 100000 in
theorem aOK_X8_forget : aCoC aM_X8_forget = true := by decide +kernel
set_option maxRecDepth 100000 in
theorem aOM_X8_keep : aMC aM_X8_keep = true := by decide +kernel
set_option maxRecDepth 100000 in
theorem aOK_X8_keep : aCoC aM_X8_keep = true := by decide +kernel
set_option maxRecDepth 100000 in
theorem aOM_X8_takeBack : aMC aM_X8_takeBack = true := by decide +kernel
set_option maxRecDepth 100000 in
theorem aOK_X8_takeBack : aCoC aM_X8_takeBack = true := by decide +kernel
set_option maxRecDepth 100000 in
theorem aOM_X8_keepImage : aMC aM_X8_keepImage = true := by decide +kernel
set_option maxRecDepth 100000 in
theorem aOK_X8_keepImage : aCoC aM_X8_keepImage = true := by decide +kernel
set_option maxRecDepth 100000 in
theorem aOM_X8_bringBack : aMC aM_X8_bringBack = true := by decide +kernel
set_option maxRecDepth 100000 in
theorem aOK_X8_bringBack : aCoC aM_X8_bringBack = true := by decide +kernel
set_option maxRecDepth 100000 in
theorem aOM_X9_bytesOf : aMC aM_X9_bytesOf = true := by decide +kernel
set_option maxRecDepth 100000 in
theorem aOK_X9_bytesOf : aCoC aM_X9_bytesOf = true := by decide +kernel
set_option maxRecDepth 100000 in
theorem aOM_X9_add : aMC aM_X9_add = true := by decide +kernel
set_option maxRecDepth 100000 in
theorem aOK_X9_add : aCoC aM_X9_add = true := by decide +kernel
set_option maxRecDepth 100000 in
theorem aOM_X9_rewind : aMC aM_X9_rewind = true := by decide +kernel
set_option maxRecDepth 100000 in
theorem aOK_X9_rewind : aCoC aM_X9_rewind = true := by decide +kernel
set_option maxRecDepth 100000 in
theorem aOM_X9_peek : aMC aM_X9_peek = true := by decide +kernel
set_option maxRecDepth 100000 in
theorem aOK_X9_peek : aCoC aM_X9_peek = true := by decide +kernel
set_option maxRecDepth 100000 in
theorem aOM_X9_skip : aMC aM_X9_skip = true := by decide +kernel
set_option maxRecDepth 100000 in
theorem aOK_X9_skip : aCoC aM_X9_skip = true := by decide +kernel
set_option maxRecDepth 100000 in
theorem aOM_X9_fails : aMC aM_X9_fails = true := by decide +kernel
set_option maxRecDepth 100000 in
theorem aOK_X9_fails : aCoC aM_X9_fails = true := by decide +kernel
set_option maxRecDepth 100000 in
theorem aOM_X9_must : aMC aM_X9_must = true := by decide +kernel
set_option maxRecDepth 100000 in
theorem aOK_X9_must : aCoC aM_X9_must = true := by decide +kernel
set_option maxRecDepth 100000 in
theorem aOM_X9_number : aMC aM_X9_number = true := by decide +kernel
set_option maxRecDepth 100000 in
theorem aOK_X9_number_0 : ((aL_X9_number).take 40).all (aQ cX9_number) = true := by decide +kernel
set_option maxRecDepth 100000 in
theorem aOK_X9_number_1 : ((aL_X9_number).drop 40).all (aQ cX9_number) = true := by decide +kernel
theorem aOK_X9_number : aCoC aM_X9_number = true := aAll2 40 aOK_X9_number_0 (aOK_X9_number_1)
