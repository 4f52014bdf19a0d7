/-! the checks of the program, by the kernel -/
set_option maxRecDepth 100000 in
theorem aOM_X9_isDigit : aMC aM_X9_isDigit = true := by decide +kernel
set_option maxRecDepth 100000 in
theorem aOK_X9_isDigit : aCoC aM_X9_isDigit = true := by decide +kernel
set_option maxRecDepth 100000 in
theorem aOM_X10_read : aMC aM_X10_read = true := by decide +kernel
set_option maxRecDepth 100000 in
theorem aOK_X10_read_0 : ((aL_X10_read).take 40).all (aQ cX10_read) = true := by decide +kernel
set_option maxRecDepth 100000 in
theorem aOK_X10_read_1 : ((aL_X10_read).drop 40).all (aQ cX10_read) = true := by decide +kernel
theorem aOK_X10_read : aCoC aM_X10_read = true := aAll2 40 aOK_X10_read_0 (aOK_X10_read_1)
set_option maxRecDepth 100000 in
theorem aOM_X10_readClause : aMC aM_X10_readClause = true := by decide +kernel
set_option maxRecDepth 100000 in
theorem aOK_X10_readClause : aCoC aM_X10_readClause = true := by decide +kernel
set_option maxRecDepth 100000 in
theorem aOM_X10_readThing : aMC aM_X10_readThing = true := by decide +kernel
set_option maxRecDepth 100000 in
theorem aOK_X10_readThing_0 : ((aL_X10_readThing).take 40).all (aQ cX10_readThing) = true := by decide +kernel
set_option maxRecDepth 100000 in
theorem aOK_X10_readThing_1 : (((aL_X10_readThing).drop 40).take 40).all (aQ cX10_readThing) = true := by decide +kernel
set_option maxRecDepth 100000 in
theorem aOK_X10_readThing_2 : (((aL_X10_readThing).drop 40).drop 40).all (aQ cX10_readThing) = true := by decide +kernel
theorem aOK_X10_readThing : aCoC aM_X10_readThing = true := aAll2 40 aOK_X10_readThing_0 (aAll2 40 aOK_X10_readThing_1 (aOK_X10_readThing_2))
set_option maxRecDepth 100000 in
theorem aOM_X10_thingItem : aMC aM_X10_thingItem = true := by decide +kernel
set_option maxRecDepth 100000 in
theorem aOK_X10_thingItem : aCoC aM_X10_thingItem = true := by decide +kernel
set_option maxRecDepth 100000 in
theorem aOM_X10_putItem : aMC aM_X10_putItem = true := by decide +kernel
set_option maxRecDepth 100000 in
theorem aOK_X10_putItem : aCoC aM_X10_putItem = true := by decide +kernel
set_option maxRecDepth 100000 in
theorem aOM_X10_readSteps : aMC aM_X10_readSteps = true := by decide +kernel
set_option maxRecDepth 100000 in
theorem aOK_X10_readSteps_0 : ((aL_X10_readSteps).take 40).all (aQ cX10_readSteps) = true := by decide +kernel
set_option maxRecDepth 100000 in
theorem aOK_X10_readSteps_1 : ((aL_X10_readSteps).drop 40).all (aQ cX10_readSteps) = true := by decide +kernel
theorem aOK_X10_readSteps : aCoC aM_X10_readSteps = true := aAll2 40 aOK_X10_readSteps_0 (aOK_X10_readSteps_1)
set_option maxRecDepth 100000 in
theorem aOM_X10_readHeir : aMC aM_X10_readHeir = true := by decide +kernel
set_option maxRecDepth 100000 in
theorem aOK_X10_readHeir_0 : ((aL_X10_readHeir).take 40).all (aQ cX10_readHeir) = true := by decide +kernel
set_option maxRecDepth 100000 in
theorem aOK_X10_readHeir_1 : (((aL_X10_readHeir).drop 40).take 40).all (aQ cX10_readHeir) = true := by decide +kernel
set_option maxRecDepth 100000 in
theorem aOK_X10_readHeir_2 : (((aL_X10_readHeir).drop 40).drop 40).all (aQ cX10_readHeir) = true := by decide +kernel
theorem aOK_X10_readHeir : aCoC aM_X10_readHeir = true := aAll2 40 aOK_X10_readHeir_0 (aAll2 40 aOK_X10_readHeir_1 (aOK_X10_readHeir_2))
set_option maxRecDepth 100000 in
theorem aOM_X10_readTool : aMC aM_X10_readTool = true := by decide +kernel
set_option maxRecDepth 100000 in
theorem aOK_X10_readTool : aCoC aM_X10_readTool = true := by decide +kernel
set_option maxRecDepth 100000 in
theorem aOM_X10_tradeOf : aMC aM_X10_tradeOf = true := by decide +kernel
set_option maxRecDepth 100000 in
theorem aOK_X10_tradeOf : aCoC aM_X10_tradeOf = true := by decide +kernel
set_option maxRecDepth 100000 in
theorem aOM_X11_feed : aMC aM_X11_feed = true := by decide +kernel
set_option maxRecDepth 100000 in
theorem aOK_X11_feed_0 : ((aL_X11_feed).take 40).all (aQ cX11_feed) = true := by decide +kernel
set_option maxRecDepth 100000 in
theorem aOK_X11_feed_1 : ((aL_X11_feed).drop 40).all (aQ cX11_feed) = true := by decide +kernel
theorem aOK_X11_feed : aCoC aM_X11_feed = true := aAll2 40 aOK_X11_feed_0 (aOK_X11_feed_1)
set_option maxRecDepth 100000 in
theorem aOM_X11_end : aMC aM_X11_end = true := by decide +kernel
set_option maxRecDepth 100000 in
theorem aOK_X11_end : aCoC aM_X11_end = true := by decide +kernel
set_option maxRecDepth 100000 in
theorem aOM_X11_fault : aMC aM_X11_fault = true := by decide +kernel
set_option maxRecDepth 100000 in
theorem aOK_X11_fault : aCoC aM_X11_fault = true := by decide +kernel
set_option maxRecDepth 100000 in
theorem aOM_X11_text : aMC aM_X11_text = true := by decide +kernel
set_option maxRecDepth 100000 in
theorem aOK_X11_text_0 : ((aL_X11_text).take 40).all (aQ cX11_text) = true := by decide +kernel
set_option maxRecDepth 100000 in
theorem aOK_X11_text_1 : ((aL_X11_text).drop 40).all (aQ cX11_text) = true := by decide +kernel
theorem aOK_X11_text : aCoC aM_X11_text = true := aAll2 40 aOK_X11_text_0 (aOK_X11_text_1)
set_option maxRecDepth 100000 in
theorem aOM_X11_putWill : aMC aM_X11_putWill = true := by decide +kernel
set_option maxRecDepth 100000 in
theorem aOK_X11_putWill : aCoC aM_X11_putWill = true := by decide +kernel
set_option maxRecDepth 100000 in
theorem aOM_X11_step : aMC aM_X11_step = true := by decide +kernel
set_option maxRecDepth 100000 in
theorem aOK_X11_step : aCoC aM_X11_step = true := by decide +kernel
set_option maxRecDepth 100000 in
theorem aOM_X11_heir : aMC aM_X11_heir = true := by decide +kernel
set_option maxRecDepth 100000 in
theorem aOK_X11_heir : aCoC aM_X11_heir = true := by decide +kernel
set_option maxRecDepth 100000 in
theorem aOM_X11_tools : aMC aM_X11_tools = true := by decide +kernel
set_option maxRecDepth 100000 in
theorem aOK_X11_tools : aCoC aM_X11_tools = true := by decide +kernel
set_option maxRecDepth 100000 in
theorem aOM_X11_law : aMC aM_X11_law = true := by decide +kernel
set_option maxRecDepth 100000 in
theorem aOK_X11_law : aCoC aM_X11_law = true := by decide +kernel
set_option maxRecDepth 100000 in
theorem aOM_X11_takes : aMC aM_X11_takes = true := by decide +kernel
set_option maxRecDepth 100000 in
theorem aOK_X11_takes : aCoC aM_X11_takes = true := by decide +kernel
set_option maxRecDepth 100000 in
theorem aOM_X11_alone : aMC aM_X11_alone = true := by decide +kernel
set_option maxRecDepth 100000 in
theorem aOK_X11_alone : aCoC aM_X11_alone = true := by decide +kernel
set_option maxRecDepth 100000 in
theorem aOM_X11_who : aMC aM_X11_who = true := by decide +kernel
set_option maxRecDepth 100000 in
theorem aOK_X11_who : aCoC aM_X11_who = true := by decide +kernel
set_option maxRecDepth 100000 in
theorem aOM_X11_stuck : aMC aM_X11_stuck = true := by decide +kernel
set_option maxRecDepth 100000 in
theorem aOK_X11_stuck : aCoC aM_X11_stuck = true := by decide +kernel
set_option maxRecDepth 100000 in
theorem aOM_X11_team : aMC aM_X11_team = true := by decide +kernel
set_option maxRecDepth 100000 in
theorem aOK_X11_team : aCoC aM_X11_team = true := by decide +kernel
set_option maxRecDepth 100000 in
theorem aOM_X11_helpers : aMC aM_X11_helpers = true := by decide +kernel
set_option maxRecDepth 100000 in
theorem aOK_X11_helpers : aCoC aM_X11_helpers = true := by decide +kernel
set_option maxRecDepth 100000 in
theorem aOM_X11_sold : aMC aM_X11_sold = true := by decide +kernel
set_option maxRecDepth 100000 in
theorem aOK_X11_sold : aCoC aM_X11_sold = true := by decide +kernel
set_option maxRecDepth 100000 in
theorem aOM_X11_give : aMC aM_X11_give = true := by decide +kernel
set_option maxRecDepth 100000 in
theorem aOK_X11_give_0 : ((aL_X11_give).take 40).all (aQ cX11_give) = true := by decide +kernel
set_option maxRecDepth 100000 in
theorem aOK_X11_give_1 : ((aL_X11_give).drop 40).all (aQ cX11_give) = true := by decide +kernel
theorem aOK_X11_give : aCoC aM_X11_give = true := aAll2 40 aOK_X11_give_0 (aOK_X11_give_1)
set_option maxRecDepth 100000 in
theorem aOM_X11_teach : aMC aM_X11_teach = true := by decide +kernel
set_option maxRecDepth 100000 in
theorem aOK_X11_teach : aCoC aM_X11_teach = true := by decide +kernel
set_option maxRecDepth 100000 in
theorem aOM_X11_days : aMC aM_X11_days = true := by decide +kernel
set_option maxRecDepth 100000 in
theorem aOK_X11_days_0 : ((aL_X11_days).take 40).all (aQ cX11_days) = true := by decide +kernel
set_option maxRecDepth 100000 in
theorem aOK_X11_days_1 : ((aL_X11_days).drop 40).all (aQ cX11_days) = true := by decide +kernel
theorem aOK_X11_days : aCoC aM_X11_days = true := aAll2 40 aOK_X11_days_0 (aOK_X11_days_1)
set_option maxRecDepth 100000 in
theorem aOM_X11_generation : aMC aM_X11_generation = true := by decide +kernel
set_option maxRecDepth 100000 in
theorem aOK_X11_generation : aCoC aM_X11_generation = true := by decide +kernel
set_option maxRecDepth 100000 in
theorem aOM_X11_undo : aMC aM_X11_undo = true := by decide +kernel
set_option maxRecDepth 100000 in
theorem aOK_X11_undo : aCoC aM_X11_undo = true := by decide +kernel
set_option maxRecDepth 100000 in
theorem aOM_X11_image : aMC aM_X11_image = true := by decide +kernel
set_option maxRecDepth 100000 in
theorem aOK_X11_image : aCoC aM_X11_image = true := by decide +kernel
set_option maxRecDepth 100000 in
theorem aOM_X11_back : aMC aM_X11_back = true := by decide +kernel
set_option maxRecDepth 100000 in
theorem aOK_X11_back : aCoC aM_X11_back = true := by decide +kernel
set_option maxRecDepth 100000 in
theorem aOM_X11_deal : aMC aM_X11_deal = true := by decide +kernel
set_option maxRecDepth 100000 in
theorem aOK_X11_deal : aCoC aM_X11_deal = true := by decide +kernel
set_option maxRecDepth 100000 in
theorem aOM_X11_best : aMC aM_X11_best = true := by decide +kernel
set_option maxRecDepth 100000 in
theorem aOK_X11_best : aCoC aM_X11_best = true := by decide +kernel
set_option maxRecDepth 100000 in
theorem aOM_X11_learn : aMC aM_X11_learn = true := by decide +kernel
set_option maxRecDepth 100000 in
theorem aOK_X11_learn : aCoC aM_X11_learn = true := by decide +kernel
set_option maxRecDepth 100000 in
theorem aOM_X11_begin : aMC aM_X11_begin = true := by decide +kernel
set_option maxRecDepth 100000 in
theorem aOK_X11_begin : aCoC aM_X11_begin = true := by decide +kernel
set_option maxRecDepth 100000 in
theorem aOM_X11_spite : aMC aM_X11_spite = true := by decide +kernel
set_option maxRecDepth 100000 in
theorem aOK_X11_spite : aCoC aM_X11_spite = true := by decide +kernel
set_option maxRecDepth 100000 in
theorem aOM_X11_wish : aMC aM_X11_wish = true := by decide +kernel
set_option maxRecDepth 100000 in
theorem aOK_X11_wish : aCoC aM_X11_wish = true := by decide +kernel
set_option maxRecDepth 100000 in
theorem aOM_X11_wishOf : aMC aM_X11_wishOf = true := by decide +kernel
set_option maxRecDepth 100000 in
theorem aOK_X11_wishOf_0 : ((aL_X11_wishOf).take 40).all (aQ cX11_wishOf) = true := by decide +kernel
set_option maxRecDepth 100000 in
theorem aOK_X11_wishOf_1 : ((aL_X11_wishOf).drop 40).all (aQ cX11_wishOf) = true := by decide +kernel
theorem aOK_X11_wishOf : aCoC aM_X11_wishOf = true := aAll2 40 aOK_X11_wishOf_0 (aOK_X11_wishOf_1)
set_option maxRecDepth 100000 in
theorem aOM_X11_rests : aMC aM_X11_rests = true := by decide +kernel
set_option maxRecDepth 100000 in
theorem aOK_X11_rests : aCoC aM_X11_rests = true := by decide +kernel
set_option maxRecDepth 100000 in
theorem aOM_X11_gains : aMC aM_X11_gains = true := by decide +kernel
set_option maxRecDepth 100000 in
theorem aOK_X11_gains : aCoC aM_X11_gains = true := by decide +kernel
set_option maxRecDepth 100000 in
theorem aOM_X11_layOutGame : aMC aM_X11_layOutGame = true := by decide +kernel
set_option maxRecDepth 100000 in
theorem aOK_X11_layOutGame_0 : ((aL_X11_layOutGame).take 40).all (aQ cX11_layOutGame) = true := by decide +kernel
set_option maxRecDepth 100000 in
theorem aOK_X11_layOutGame_1 : ((aL_X11_layOutGame).drop 40).all (aQ cX11_layOutGame) = true := by decide +kernel
theorem aOK_X11_layOutGame : aCoC aM_X11_layOutGame = true := aAll2 40 aOK_X11_layOutGame_0 (aOK_X11_layOutGame_1)
set_option maxRecDepth 100000 in
theorem aOM_X11_ends : aMC aM_X11_ends = true := by decide +kernel
set_option maxRecDepth 100000 in
theorem aOK_X11_ends_0 : ((aL_X11_ends).take 40).all (aQ cX11_ends) = true := by decide +kernel
set_option maxRecDepth 100000 in
theorem aOK_X11_ends_1 : ((aL_X11_ends).drop 40).all (aQ cX11_ends) = true := by decide +kernel
theorem aOK_X11_ends : aCoC aM_X11_ends = true := aAll2 40 aOK_X11_ends_0 (aOK_X11_ends_1)
set_option maxRecDepth 100000 in
theorem aOM_X11_shortest : aMC aM_X11_shortest = true := by decide +kernel
set_option maxRecDepth 100000 in
theorem aOK_X11_shortest : aCoC aM_X11_shortest = true := by decide +kernel
set_option maxRecDepth 100000 in
theorem aOM_X11_judged : aMC aM_X11_judged = true := by decide +kernel
set_option maxRecDepth 100000 in
theorem aOK_X11_judged : aCoC aM_X11_judged = true := by decide +kernel
set_option maxRecDepth 100000 in
theorem aOM_X11_dearest : aMC aM_X11_dearest = true := by decide +kernel
set_option maxRecDepth 100000 in
theorem aOK_X11_dearest_0 : ((aL_X11_dearest).take 40).all (aQ cX11_dearest) = true := by decide +kernel
set_option maxRecDepth 100000 in
theorem aOK_X11_dearest_1 : ((aL_X11_dearest).drop 40).all (aQ cX11_dearest) = true := by decide +kernel
theorem aOK_X11_dearest : aCoC aM_X11_dearest = true := aAll2 40 aOK_X11_dearest_0 (aOK_X11_dearest_1)
set_option maxRecDepth 100000 in
theorem aOM_X11_fitting : aMC aM_X11_fitting = true := by decide +kernel
set_option maxRecDepth 100000 in
theorem aOK_X11_fitting : aCoC aM_X11_fitting = true := by decide +kernel
set_option maxRecDepth 100000 in
theorem aOM_X11_fits : aMC aM_X11_fits = true := by decide +kernel
set_option maxRecDepth 100000 in
theorem aOK_X11_fits_0 : ((aL_X11_fits).take 40).all (aQ cX11_fits) = true := by decide +kernel
set_option maxRecDepth 100000 in
theorem aOK_X11_fits_1 : ((aL_X11_fits).drop 40).all (aQ cX11_fits) = true := by decide +kernel
theorem aOK_X11_fits : aCoC aM_X11_fits = true := aAll2 40 aOK_X11_fits_0 (aOK_X11_fits_1)
set_option maxRecDepth 100000 in
theorem aOM_X11_isBehind : aMC aM_X11_isBehind = true := by decide +kernel
set_option maxRecDepth 100000 in
theorem aOK_X11_isBehind : aCoC aM_X11_isBehind = true := by decide +kernel
set_option maxRecDepth 100000 in
theorem aOM_X11_sign : aMC aM_X11_sign = true := by decide +kernel
set_option maxRecDepth 100000 in
theorem aOK_X11_sign : aCoC aM_X11_sign = true := by decide +kernel
set_option maxRecDepth 100000 in
theorem aOM_X11_ended : aMC aM_X11_ended = true := by decide +kernel
set_option maxRecDepth 100000 in
theorem aOK_X11_ended : aCoC aM_X11_ended = true := by decide +kernel
set_option maxRecDepth 100000 in
theorem aOM_X11_stood : aMC aM_X11_stood = true := by decide +kernel
set_option maxRecDepth 100000 in
theorem aOK_X11_stood : aCoC aM_X11_stood = true := by decide +kernel
set_option maxRecDepth 100000 in
theorem aOM_X11_count : aMC aM_X11_count = true := by decide +kernel
set_option maxRecDepth 100000 in
theorem aOK_X11_count_0 : ((aL_X11_count).take 40).all (aQ cX11_count) = true := by decide +kernel
set_option maxRecDepth 100000 in
theorem aOK_X11_count_1 : ((aL_X11_count).drop 40).all (aQ cX11_count) = true := by decide +kernel
theorem aOK_X11_count : aCoC aM_X11_count = true := aAll2 40 aOK_X11_count_0 (aOK_X11_count_1)
set_option maxRecDepth 100000 in
theorem aOM_X11_isTrade : aMC aM_X11_isTrade = true := by decide +kernel
set_option maxRecDepth 100000 in
theorem aOK_X11_isTrade : aCoC aM_X11_isTrade = true := by decide +kernel
set_option maxRecDepth 100000 in
theorem aOM_X12_thrown : aMC aM_X12_thrown = true := by decide +kernel
set_option maxRecDepth 100000 in
theorem aOK_X12_thrown : aCoC aM_X12_thrown = true := by decide +kernel
set_option maxRecDepth 100000 in
theorem aOM_X12_isIn : aMC aM_X12_isIn = true := by decide +kernel
set_option maxRecDepth 100000 in
theorem aOK_X12_isIn : aCoC aM_X12_isIn = true := by decide +kernel
set_option maxRecDepth 100000 in
theorem aOM_X12_has : aMC aM_X12_has = true := by decide +kernel
set_option maxRecDepth 100000 in
theorem aOK_X12_has : aCoC aM_X12_has = true := by decide +kernel
set_option maxRecDepth 100000 in
theorem aOM_X12_isAmong : aMC aM_X12_isAmong = true := by decide +kernel
set_option maxRecDepth 100000 in
theorem aOK_X12_isAmong : aCoC aM_X12_isAmong = true := by decide +kernel
set_option maxRecDepth 100000 in
theorem aOM_X12_bytesIn : aMC aM_X12_bytesIn = true := by decide +kernel
set_option maxRecDepth 100000 in
theorem aOK_X12_bytesIn : aCoC aM_X12_bytesIn = true := by decide +kernel
set_option maxRecDepth 100000 in
theorem aOM_X12_put : aMC aM_X12_put = true := by decide +kernel
set_option maxRecDepth 100000 in
theorem aOK_X12_put : aCoC aM_X12_put = true := by decide +kernel
set_option maxRecDepth 100000 in
theorem aOM_X12_feed : aMC aM_X12_feed = true := by decide +kernel
set_option maxRecDepth 100000 in
theorem aOK_X12_feed_0 : ((aL_X12_feed).take 40).all (aQ cX12_feed) = true := by decide +kernel
set_option maxRecDepth 100000 in
theorem aOK_X12_feed_1 : ((aL_X12_feed).drop 40).all (aQ cX12_feed) = true := by decide +kernel
theorem aOK_X12_feed : aCoC aM_X12_feed = true := aAll2 40 aOK_X12_feed_0 (aOK_X12_feed_1)
set_option maxRecDepth 100000 in
theorem aOM_X12_end : aMC aM_X12_end = true := by decide +kernel
set_option maxRecDepth 100000 in
theorem aOK_X12_end : aCoC aM_X12_end = true := by decide +kernel
set_option maxRecDepth 100000 in
theorem aOM_X12_look : aMC aM_X12_look = true := by decide +kernel
set_option maxRecDepth 100000 in
theorem aOK_X12_look : aCoC aM_X12_look = true := by decide +kernel
set_option maxRecDepth 100000 in
theorem aOM_X12_fails : aMC aM_X12_fails = true := by decide +kernel
set_option maxRecDepth 100000 in
theorem aOK_X12_fails : aCoC aM_X12_fails = true := by decide +kernel
set_option maxRecDepth 100000 in
theorem aOM_X12_goesIn : aMC aM_X12_goesIn = true := by decide +kernel
set_option maxRecDepth 100000 in
theorem aOK_X12_goesIn : aCoC aM_X12_goesIn = true := by decide +kernel
set_option maxRecDepth 100000 in
theorem aOM_X12_takes : aMC aM_X12_takes = true := by decide +kernel
set_option maxRecDepth 100000 in
theorem aOK_X12_takes : aCoC aM_X12_takes = true := by decide +kernel
set_option maxRecDepth 100000 in
theorem aOM_X12_isDigit : aMC aM_X12_isDigit = true := by decide +kernel
set_option maxRecDepth 100000 in
theorem aOK_X12_isDigit : aCoC aM_X12_isDigit = true := by decide +kernel
set_option maxRecDepth 100000 in
theorem aOM_X12_within : aMC aM_X12_within = true := by decide +kernel
set_option maxRecDepth 100000 in
theorem aOK_X12_within : aCoC aM_X12_within = true := by decide +kernel
set_option maxRecDepth 100000 in
theorem aOM_X12_atom : aMC aM_X12_atom = true := by decide +kernel
set_option maxRecDepth 100000 in
theorem aOK_X12_atom_0 : ((aL_X12_atom).take 40).all (aQ cX12_atom) = true := by decide +kernel
set_option maxRecDepth 100000 in
theorem aOK_X12_atom_1 : (((aL_X12_atom).drop 40).take 40).all (aQ cX12_atom) = true := by decide +kernel
set_option maxRecDepth 100000 in
theorem aOK_X12_atom_2 : (((aL_X12_atom).drop 40).drop 40).all (aQ cX12_atom) = true := by decide +kernel
theorem aOK_X12_atom : aCoC aM_X12_atom = true := aAll2 40 aOK_X12_atom_0 (aAll2 40 aOK_X12_atom_1 (aOK_X12_atom_2))
