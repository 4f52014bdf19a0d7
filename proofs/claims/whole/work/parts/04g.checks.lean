/-! the checks of the program, by the kernel -/
set_option maxRecDepth 100000 in
theorem aOM_X12_ends : aMC aM_X12_ends = true := by decide +kernel
set_option maxRecDepth 100000 in
theorem aOK_X12_ends_0 : ((aL_X12_ends).take 40).all (aQ cX12_ends) = true := by decide +kernel
set_option maxRecDepth 100000 in
theorem aOK_X12_ends_1 : ((aL_X12_ends).drop 40).all (aQ cX12_ends) = true := by decide +kernel
theorem aOK_X12_ends : aCoC aM_X12_ends = true := aAll2 40 aOK_X12_ends_0 (aOK_X12_ends_1)
set_option maxRecDepth 100000 in
theorem aOM_X12_shortest : aMC aM_X12_shortest = true := by decide +kernel
set_option maxRecDepth 100000 in
theorem aOK_X12_shortest_0 : ((aL_X12_shortest).take 40).all (aQ cX12_shortest) = true := by decide +kernel
set_option maxRecDepth 100000 in
theorem aOK_X12_shortest_1 : ((aL_X12_shortest).drop 40).all (aQ cX12_shortest) = true := by decide +kernel
theorem aOK_X12_shortest : aCoC aM_X12_shortest = true := aAll2 40 aOK_X12_shortest_0 (aOK_X12_shortest_1)
set_option maxRecDepth 100000 in
theorem aOM_X12_judgedOf : aMC aM_X12_judgedOf = true := by decide +kernel
set_option maxRecDepth 100000 in
theorem aOK_X12_judgedOf : aCoC aM_X12_judgedOf = true := by decide +kernel
set_option maxRecDepth 100000 in
theorem aOM_X12_judged : aMC aM_X12_judged = true := by decide +kernel
set_option maxRecDepth 100000 in
theorem aOK_X12_judged : aCoC aM_X12_judged = true := by decide +kernel
set_option maxRecDepth 100000 in
theorem aOM_X12_dearest : aMC aM_X12_dearest = true := by decide +kernel
set_option maxRecDepth 100000 in
theorem aOK_X12_dearest_0 : ((aL_X12_dearest).take 40).all (aQ cX12_dearest) = true := by decide +kernel
set_option maxRecDepth 100000 in
theorem aOK_X12_dearest_1 : ((aL_X12_dearest).drop 40).all (aQ cX12_dearest) = true := by decide +kernel
theorem aOK_X12_dearest : aCoC aM_X12_dearest = true := aAll2 40 aOK_X12_dearest_0 (aOK_X12_dearest_1)
set_option maxRecDepth 100000 in
theorem aOM_X12_sign : aMC aM_X12_sign = true := by decide +kernel
set_option maxRecDepth 100000 in
theorem aOK_X12_sign : aCoC aM_X12_sign = true := by decide +kernel
set_option maxRecDepth 100000 in
theorem aOM_X12_ended : aMC aM_X12_ended = true := by decide +kernel
set_option maxRecDepth 100000 in
theorem aOK_X12_ended_0 : ((aL_X12_ended).take 40).all (aQ cX12_ended) = true := by decide +kernel
set_option maxRecDepth 100000 in
theorem aOK_X12_ended_1 : ((aL_X12_ended).drop 40).all (aQ cX12_ended) = true := by decide +kernel
theorem aOK_X12_ended : aCoC aM_X12_ended = true := aAll2 40 aOK_X12_ended_0 (aOK_X12_ended_1)
set_option maxRecDepth 100000 in
theorem aOM_X12_stood : aMC aM_X12_stood = true := by decide +kernel
set_option maxRecDepth 100000 in
theorem aOK_X12_stood_0 : ((aL_X12_stood).take 40).all (aQ cX12_stood) = true := by decide +kernel
set_option maxRecDepth 100000 in
theorem aOK_X12_stood_1 : ((aL_X12_stood).drop 40).all (aQ cX12_stood) = true := by decide +kernel
theorem aOK_X12_stood : aCoC aM_X12_stood = true := aAll2 40 aOK_X12_stood_0 (aOK_X12_stood_1)
set_option maxRecDepth 100000 in
theorem aOM_X12_sold : aMC aM_X12_sold = true := by decide +kernel
set_option maxRecDepth 100000 in
theorem aOK_X12_sold_0 : ((aL_X12_sold).take 40).all (aQ cX12_sold) = true := by decide +kernel
set_option maxRecDepth 100000 in
theorem aOK_X12_sold_1 : ((aL_X12_sold).drop 40).all (aQ cX12_sold) = true := by decide +kernel
theorem aOK_X12_sold : aCoC aM_X12_sold = true := aAll2 40 aOK_X12_sold_0 (aOK_X12_sold_1)
set_option maxRecDepth 100000 in
theorem aOM_X12_image : aMC aM_X12_image = true := by decide +kernel
set_option maxRecDepth 100000 in
theorem aOK_X12_image : aCoC aM_X12_image = true := by decide +kernel
set_option maxRecDepth 100000 in
theorem aOM_X12_back : aMC aM_X12_back = true := by decide +kernel
set_option maxRecDepth 100000 in
theorem aOK_X12_back : aCoC aM_X12_back = true := by decide +kernel
set_option maxRecDepth 100000 in
theorem aOM_X12_thatAre : aMC aM_X12_thatAre = true := by decide +kernel
set_option maxRecDepth 100000 in
theorem aOK_X12_thatAre : aCoC aM_X12_thatAre = true := by decide +kernel
set_option maxRecDepth 100000 in
theorem aOM_X12_count : aMC aM_X12_count = true := by decide +kernel
set_option maxRecDepth 100000 in
theorem aOK_X12_count_0 : ((aL_X12_count).take 40).all (aQ cX12_count) = true := by decide +kernel
set_option maxRecDepth 100000 in
theorem aOK_X12_count_1 : ((aL_X12_count).drop 40).all (aQ cX12_count) = true := by decide +kernel
theorem aOK_X12_count : aCoC aM_X12_count = true := aAll2 40 aOK_X12_count_0 (aOK_X12_count_1)
set_option maxRecDepth 100000 in
theorem aOM_J6_bitCount_0f7a4 : aMC aM_J6_bitCount_0f7a4 = true := by decide +kernel
set_option maxRecDepth 100000 in
theorem aOK_J6_bitCount_0f7a4_0 : ((aL_J6_bitCount_0f7a4).take 40).all (aQ cJ6_bitCount_0f7a4) = true := by decide +kernel
set_option maxRecDepth 100000 in
theorem aOK_J6_bitCount_0f7a4_1 : ((aL_J6_bitCount_0f7a4).drop 40).all (aQ cJ6_bitCount_0f7a4) = true := by decide +kernel
theorem aOK_J6_bitCount_0f7a4 : aCoC aM_J6_bitCount_0f7a4 = true := aAll2 40 aOK_J6_bitCount_0f7a4_0 (aOK_J6_bitCount_0f7a4_1)
set_option maxRecDepth 100000 in
theorem aOM_J7_fill_53178 : aMC aM_J7_fill_53178 = true := by decide +kernel
set_option maxRecDepth 100000 in
theorem aOK_J7_fill_53178 : aCoC aM_J7_fill_53178 = true := by decide +kernel
set_option maxRecDepth 100000 in
theorem aOK_law_0 : ((aL_law).take 40).all (aQ code) = true := by decide +kernel
set_option maxRecDepth 100000 in
theorem aOK_law_1 : (((aL_law).drop 40).take 40).all (aQ code) = true := by decide +kernel
set_option maxRecDepth 100000 in
theorem aOK_law_2 : ((((aL_law).drop 40).drop 40).take 40).all (aQ code) = true := by decide +kernel
set_option maxRecDepth 100000 in
theorem aOK_law_3 : (((((aL_law).drop 40).drop 40).drop 40).take 40).all (aQ code) = true := by decide +kernel
set_option maxRecDepth 100000 in
theorem aOK_law_4 : ((((((aL_law).drop 40).drop 40).drop 40).drop 40).take 40).all (aQ code) = true := by decide +kernel
set_option maxRecDepth 100000 in
theorem aOK_law_5 : (((((((aL_law).drop 40).drop 40).drop 40).drop 40).drop 40).take 40).all (aQ code) = true := by decide +kernel
set_option maxRecDepth 100000 in
theorem aOK_law_6 : ((((((((aL_law).drop 40).drop 40).drop 40).drop 40).drop 40).drop 40).take 40).all (aQ code) = true := by decide +kernel
set_option maxRecDepth 100000 in
theorem aOK_law_7 : (((((((((aL_law).drop 40).drop 40).drop 40).drop 40).drop 40).drop 40).drop 40).take 40).all (aQ code) = true := by decide +kernel
set_option maxRecDepth 100000 in
theorem aOK_law_8 : ((((((((((aL_law).drop 40).drop 40).drop 40).drop 40).drop 40).drop 40).drop 40).drop 40).take 40).all (aQ code) = true := by decide +kernel
set_option maxRecDepth 100000 in
theorem aOK_law_9 : (((((((((((aL_law).drop 40).drop 40).drop 40).drop 40).drop 40).drop 40).drop 40).drop 40).drop 40).take 40).all (aQ code) = true := by decide +kernel
set_option maxRecDepth 100000 in
theorem aOK_law_10 : ((((((((((((aL_law).drop 40).drop 40).drop 40).drop 40).drop 40).drop 40).drop 40).drop 40).drop 40).drop 40).take 40).all (aQ code) = true := by decide +kernel
set_option maxRecDepth 100000 in
theorem aOK_law_11 : (((((((((((((aL_law).drop 40).drop 40).drop 40).drop 40).drop 40).drop 40).drop 40).drop 40).drop 40).drop 40).drop 40).take 40).all (aQ code) = true := by decide +kernel
set_option maxRecDepth 100000 in
theorem aOK_law_12 : ((((((((((((((aL_law).drop 40).drop 40).drop 40).drop 40).drop 40).drop 40).drop 40).drop 40).drop 40).drop 40).drop 40).drop 40).take 40).all (aQ code) = true := by decide +kernel
set_option maxRecDepth 100000 in
theorem aOK_law_13 : (((((((((((((((aL_law).drop 40).drop 40).drop 40).drop 40).drop 40).drop 40).drop 40).drop 40).drop 40).drop 40).drop 40).drop 40).drop 40).take 40).all (aQ code) = true := by decide +kernel
set_option maxRecDepth 100000 in
theorem aOK_law_14 : ((((((((((((((((aL_law).drop 40).drop 40).drop 40).drop 40).drop 40).drop 40).drop 40).drop 40).drop 40).drop 40).drop 40).drop 40).drop 40).drop 40).take 40).all (aQ code) = true := by decide +kernel
set_option maxRecDepth 100000 in
theorem aOK_law_15 : (((((((((((((((((aL_law).drop 40).drop 40).drop 40).drop 40).drop 40).drop 40).drop 40).drop 40).drop 40).drop 40).drop 40).drop 40).drop 40).drop 40).drop 40).take 40).all (aQ code) = true := by decide +kernel
set_option maxRecDepth 100000 in
theorem aOK_law_16 : ((((((((((((((((((aL_law).drop 40).drop 40).drop 40).drop 40).drop 40).drop 40).drop 40).drop 40).drop 40).drop 40).drop 40).drop 40).drop 40).drop 40).drop 40).drop 40).take 40).all (aQ code) = true := by decide +kernel
set_option maxRecDepth 100000 in
theorem aOK_law_17 : (((((((((((((((((((aL_law).drop 40).drop 40).drop 40).drop 40).drop 40).drop 40).drop 40).drop 40).drop 40).drop 40).drop 40).drop 40).drop 40).drop 40).drop 40).drop 40).drop 40).take 40).all (aQ code) = true := by decide +kernel
set_option maxRecDepth 100000 in
theorem aOK_law_18 : ((((((((((((((((((((aL_law).drop 40).drop 40).drop 40).drop 40).drop 40).drop 40).drop 40).drop 40).drop 40).drop 40).drop 40).drop 40).drop 40).drop 40).drop 40).drop 40).drop 40).drop 40).take 40).all (aQ code) = true := by decide +kernel
set_option maxRecDepth 100000 in
theorem aOK_law_19 : (((((((((((((((((((((aL_law).drop 40).drop 40).drop 40).drop 40).drop 40).drop 40).drop 40).drop 40).drop 40).drop 40).drop 40).drop 40).drop 40).drop 40).drop 40).drop 40).drop 40).drop 40).drop 40).take 40).all (aQ code) = true := by decide +kernel
set_option maxRecDepth 100000 in
theorem aOK_law_20 : ((((((((((((((((((((((aL_law).drop 40).drop 40).drop 40).drop 40).drop 40).drop 40).drop 40).drop 40).drop 40).drop 40).drop 40).drop 40).drop 40).drop 40).drop 40).drop 40).drop 40).drop 40).drop 40).drop 40).take 40).all (aQ code) = true := by decide +kernel
set_option maxRecDepth 100000 in
theorem aOK_law_21 : (((((((((((((((((((((((aL_law).drop 40).drop 40).drop 40).drop 40).drop 40).drop 40).drop 40).drop 40).drop 40).drop 40).drop 40).drop 40).drop 40).drop 40).drop 40).drop 40).drop 40).drop 40).drop 40).drop 40).drop 40).take 40).all (aQ code) = true := by decide +kernel
set_option maxRecDepth 100000 in
theorem aOK_law_22 : ((((((((((((((((((((((((aL_law).drop 40).drop 40).drop 40).drop 40).drop 40).drop 40).drop 40).drop 40).drop 40).drop 40).drop 40).drop 40).drop 40).drop 40).drop 40).drop 40).drop 40).drop 40).drop 40).drop 40).drop 40).drop 40).take 40).all (aQ code) = true := by decide +kernel
set_option maxRecDepth 100000 in
theorem aOK_law_23 : (((((((((((((((((((((((((aL_law).drop 40).drop 40).drop 40).drop 40).drop 40).drop 40).drop 40).drop 40).drop 40).drop 40).drop 40).drop 40).drop 40).drop 40).drop 40).drop 40).drop 40).drop 40).drop 40).drop 40).drop 40).drop 40).drop 40).take 40).all (aQ code) = true := by decide +kernel
set_option maxRecDepth 100000 in
theorem aOK_law_24 : ((((((((((((((((((((((((((aL_law).drop 40).drop 40).drop 40).drop 40).drop 40).drop 40).drop 40).drop 40).drop 40).drop 40).drop 40).drop 40).drop 40).drop 40).drop 40).drop 40).drop 40).drop 40).drop 40).drop 40).drop 40).drop 40).drop 40).drop 40).take 40).all (aQ code) = true := by decide +kernel
set_option maxRecDepth 100000 in
theorem aOK_law_25 : ((((((((((((((((((((((((((aL_law).drop 40).drop 40).drop 40).drop 40).drop 40).drop 40).drop 40).drop 40).drop 40).drop 40).drop 40).drop 40).drop 40).drop 40).drop 40).drop 40).drop 40).drop 40).drop 40).drop 40).drop 40).drop 40).drop 40).drop 40).drop 40).all (aQ code) = true := by decide +kernel
theorem aOK_law : aCoC aM_law = true := aAll2 40 aOK_law_0 (aAll2 40 aOK_law_1 (aAll2 40 aOK_law_2 (aAll2 40 aOK_law_3 (aAll2 40 aOK_law_4 (aAll2 40 aOK_law_5 (aAll2 40 aOK_law_6 (aAll2 40 aOK_law_7 (aAll2 40 aOK_law_8 (aAll2 40 aOK_law_9 (aAll2 40 aOK_law_10 (aAll2 40 aOK_law_11 (aAll2 40 aOK_law_12 (aAll2 40 aOK_law_13 (aAll2 40 aOK_law_14 (aAll2 40 aOK_law_15 (aAll2 40 aOK_law_16 (aAll2 40 aOK_law_17 (aAll2 40 aOK_law_18 (aAll2 40 aOK_law_19 (aAll2 40 aOK_law_20 (aAll2 40 aOK_law_21 (aAll2 40 aOK_law_22 (aAll2 40 aOK_law_23 (aAll2 40 aOK_law_24 (aOK_law_25)))))))))))))))))))))))))
