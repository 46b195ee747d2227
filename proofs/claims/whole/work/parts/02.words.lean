def lw_g : List Cond := lw_tbl.filter goodWord
theorem ing_0 {i : Nat} {w : Cond} (h : (k2_sels lw_privs)[i]? = some w) (g : goodWord w = true) : w ∈ lw_g := List.mem_filter.mpr ⟨List.mem_append_left _ (List.mem_of_getElem? h), g⟩
theorem int_1 {i : Nat} {w : Cond} (h : tables_1_1[i]? = some w) : w ∈ lw_tbl := List.mem_append_right _ (List.mem_append_left _ (List.mem_of_getElem? h))
theorem ing_1 {i : Nat} {w : Cond} (h : tables_1_1[i]? = some w) (g : goodWord w = true) : w ∈ lw_g := List.mem_filter.mpr ⟨int_1 h, g⟩
theorem int_2 {i : Nat} {w : Cond} (h : tables_1_2[i]? = some w) : w ∈ lw_tbl := List.mem_append_right _ (List.mem_append_right _ (List.mem_append_left _ (List.mem_of_getElem? h)))
theorem ing_2 {i : Nat} {w : Cond} (h : tables_1_2[i]? = some w) (g : goodWord w = true) : w ∈ lw_g := List.mem_filter.mpr ⟨int_2 h, g⟩
theorem int_3 {i : Nat} {w : Cond} (h : tables_1_3[i]? = some w) : w ∈ lw_tbl := List.mem_append_right _ (List.mem_append_right _ (List.mem_append_right _ (List.mem_append_left _ (List.mem_of_getElem? h))))
theorem ing_3 {i : Nat} {w : Cond} (h : tables_1_3[i]? = some w) (g : goodWord w = true) : w ∈ lw_g := List.mem_filter.mpr ⟨int_3 h, g⟩
theorem int_4 {i : Nat} {w : Cond} (h : tables_1_4[i]? = some w) : w ∈ lw_tbl := List.mem_append_right _ (List.mem_append_right _ (List.mem_append_right _ (List.mem_append_right _ (List.mem_append_left _ (List.mem_of_getElem? h)))))
theorem ing_4 {i : Nat} {w : Cond} (h : tables_1_4[i]? = some w) (g : goodWord w = true) : w ∈ lw_g := List.mem_filter.mpr ⟨int_4 h, g⟩
theorem int_5 {i : Nat} {w : Cond} (h : tables_1_5[i]? = some w) : w ∈ lw_tbl := List.mem_append_right _ (List.mem_append_right _ (List.mem_append_right _ (List.mem_append_right _ (List.mem_append_right _ (List.mem_append_left _ (List.mem_of_getElem? h))))))
theorem ing_5 {i : Nat} {w : Cond} (h : tables_1_5[i]? = some w) (g : goodWord w = true) : w ∈ lw_g := List.mem_filter.mpr ⟨int_5 h, g⟩
theorem int_6 {i : Nat} {w : Cond} (h : tables_1_6[i]? = some w) : w ∈ lw_tbl := List.mem_append_right _ (List.mem_append_right _ (List.mem_append_right _ (List.mem_append_right _ (List.mem_append_right _ (List.mem_append_right _ (List.mem_append_left _ (List.mem_of_getElem? h)))))))
theorem ing_6 {i : Nat} {w : Cond} (h : tables_1_6[i]? = some w) (g : goodWord w = true) : w ∈ lw_g := List.mem_filter.mpr ⟨int_6 h, g⟩
theorem int_7 {i : Nat} {w : Cond} (h : tables_1_7[i]? = some w) : w ∈ lw_tbl := List.mem_append_right _ (List.mem_append_right _ (List.mem_append_right _ (List.mem_append_right _ (List.mem_append_right _ (List.mem_append_right _ (List.mem_append_right _ (List.mem_append_left _ (List.mem_of_getElem? h))))))))
theorem ing_7 {i : Nat} {w : Cond} (h : tables_1_7[i]? = some w) (g : goodWord w = true) : w ∈ lw_g := List.mem_filter.mpr ⟨int_7 h, g⟩
theorem int_8 {i : Nat} {w : Cond} (h : tables_1_8[i]? = some w) : w ∈ lw_tbl := List.mem_append_right _ (List.mem_append_right _ (List.mem_append_right _ (List.mem_append_right _ (List.mem_append_right _ (List.mem_append_right _ (List.mem_append_right _ (List.mem_append_right _ (List.mem_of_getElem? h))))))))
theorem ing_8 {i : Nat} {w : Cond} (h : tables_1_8[i]? = some w) (g : goodWord w = true) : w ∈ lw_g := List.mem_filter.mpr ⟨int_8 h, g⟩
def wU (y : MethodName) (b : ByteArray) (n : Nat) (r : Option FieldType) : List Cond := .code y b n r :: lw_g
theorem gU {y y' : MethodName} {b b' : ByteArray} {n n' : Nat} {r r' : Option FieldType} (h : Cond.code y' b' n' r' ∈ lw_g) : GoodIn (wU y b n r) (wU y' b' n' r') := by
  intro w hw
  have hg : w ∈ lw_g := by
    rcases List.mem_cons.mp hw with rfl | hw
    · exact h
    · exact hw
  exact ⟨List.mem_cons_of_mem _ hg, good_of_word (List.mem_filter.mp hg).2⟩
theorem mS_X9_putOnTape : Cond.selects RX9 yX9_putOnTape yX9_putOnTape ∈ lw_g := ing_0 (i := 0) rfl rfl
theorem mS_X5_takeToken : Cond.selects RX5 yX5_takeToken yX5_takeToken ∈ lw_g := ing_0 (i := 1) rfl rfl
theorem mS_X5_byteAt : Cond.selects RX5 yX5_byteAt yX5_byteAt ∈ lw_g := ing_0 (i := 2) rfl rfl
theorem mS_X5_readLine : Cond.selects RX5 yX5_readLine yX5_readLine ∈ lw_g := ing_0 (i := 3) rfl rfl
theorem mS_X5_spells : Cond.selects RX5 yX5_spells yX5_spells ∈ lw_g := ing_0 (i := 4) rfl rfl
theorem mS_X5_readChimney : Cond.selects RX5 yX5_readChimney yX5_readChimney ∈ lw_g := ing_0 (i := 5) rfl rfl
theorem mS_X5_blame : Cond.selects RX5 yX5_blame yX5_blame ∈ lw_g := ing_0 (i := 6) rfl rfl
theorem mS_X5_number : Cond.selects RX5 yX5_number yX5_number ∈ lw_g := ing_0 (i := 7) rfl rfl
theorem mS_X5_readFurtherSmoke : Cond.selects RX5 yX5_readFurtherSmoke yX5_readFurtherSmoke ∈ lw_g := ing_0 (i := 8) rfl rfl
theorem mS_X5_onlyNumber : Cond.selects RX5 yX5_onlyNumber yX5_onlyNumber ∈ lw_g := ing_0 (i := 9) rfl rfl
theorem mS_X5_readWind : Cond.selects RX5 yX5_readWind yX5_readWind ∈ lw_g := ing_0 (i := 10) rfl rfl
theorem mS_X9_settle : Cond.selects RX9 yX9_settle yX9_settle ∈ lw_g := ing_0 (i := 11) rfl rfl
theorem mS_X4_layWays : Cond.selects RX4 yX4_layWays yX4_layWays ∈ lw_g := ing_0 (i := 12) rfl rfl
theorem mS_X4_layWay : Cond.selects RX4 yX4_layWay yX4_layWay ∈ lw_g := ing_0 (i := 13) rfl rfl
theorem mS_X9_rowAt : Cond.selects RX9 yX9_rowAt yX9_rowAt ∈ lw_g := ing_0 (i := 14) rfl rfl
theorem mS_X2_obstacle : Cond.selects RX2 yX2_obstacle yX2_obstacle ∈ lw_g := ing_0 (i := 15) rfl rfl
theorem mS_X4_clashesWithLit : Cond.selects RX4 yX4_clashesWithLit yX4_clashesWithLit ∈ lw_g := ing_0 (i := 16) rfl rfl
theorem mS_X4_xOnWay : Cond.selects RX4 yX4_xOnWay yX4_xOnWay ∈ lw_g := ing_0 (i := 17) rfl rfl
theorem mS_X9_areTwo : Cond.selects RX9 yX9_areTwo yX9_areTwo ∈ lw_g := ing_0 (i := 18) rfl rfl
theorem mS_X4_meetingOfPuff : Cond.selects RX4 yX4_meetingOfPuff yX4_meetingOfPuff ∈ lw_g := ing_0 (i := 19) rfl rfl
theorem mS_X4_partingOfPuff : Cond.selects RX4 yX4_partingOfPuff yX4_partingOfPuff ∈ lw_g := ing_0 (i := 20) rfl rfl
theorem mS_X4_quartersTogether : Cond.selects RX4 yX4_quartersTogether yX4_quartersTogether ∈ lw_g := ing_0 (i := 21) rfl rfl
theorem mS_X9_gatherPairs : Cond.selects RX9 yX9_gatherPairs yX9_gatherPairs ∈ lw_g := ing_0 (i := 22) rfl rfl
theorem mS_X9_insertPair : Cond.selects RX9 yX9_insertPair yX9_insertPair ∈ lw_g := ing_0 (i := 23) rfl rfl
theorem mS_X9_dueFrom : Cond.selects RX9 yX9_dueFrom yX9_dueFrom ∈ lw_g := ing_0 (i := 24) rfl rfl
theorem mS_X9_gatherSoot : Cond.selects RX9 yX9_gatherSoot yX9_gatherSoot ∈ lw_g := ing_0 (i := 25) rfl rfl
theorem mS_X6_layClashes : Cond.selects RX6 yX6_layClashes yX6_layClashes ∈ lw_g := ing_0 (i := 26) rfl rfl
theorem mS_X6_layClashesOf : Cond.selects RX6 yX6_layClashesOf yX6_layClashesOf ∈ lw_g := ing_0 (i := 27) rfl rfl
theorem mS_X6_canLight : Cond.selects RX6 yX6_canLight yX6_canLight ∈ lw_g := ing_0 (i := 28) rfl rfl
theorem mS_X6_isOpen : Cond.selects RX6 yX6_isOpen yX6_isOpen ∈ lw_g := ing_0 (i := 29) rfl rfl
theorem mS_X6_narrow : Cond.selects RX6 yX6_narrow yX6_narrow ∈ lw_g := ing_0 (i := 30) rfl rfl
theorem mS_X6_seekSoonest : Cond.selects RX6 yX6_seekSoonest yX6_seekSoonest ∈ lw_g := ing_0 (i := 31) rfl rfl
theorem mS_X6_keepIfSooner : Cond.selects RX6 yX6_keepIfSooner yX6_keepIfSooner ∈ lw_g := ing_0 (i := 32) rfl rfl
theorem mS_X6_isSooner : Cond.selects RX6 yX6_isSooner yX6_isSooner ∈ lw_g := ing_0 (i := 33) rfl rfl
theorem mS_X6_maySooner : Cond.selects RX6 yX6_maySooner yX6_maySooner ∈ lw_g := ing_0 (i := 34) rfl rfl
theorem mS_X6_addPlans : Cond.selects RX6 yX6_addPlans yX6_addPlans ∈ lw_g := ing_0 (i := 35) rfl rfl
theorem mS_X9_priceIn : Cond.selects RX9 yX9_priceIn yX9_priceIn ∈ lw_g := ing_0 (i := 36) rfl rfl
theorem mS_X9_refusalOfSheets : Cond.selects RX9 yX9_refusalOfSheets yX9_refusalOfSheets ∈ lw_g := ing_0 (i := 37) rfl rfl
theorem mS_X0_layShares : Cond.selects RX0 yX0_layShares yX0_layShares ∈ lw_g := ing_0 (i := 38) rfl rfl
theorem mS_X0_layAmounts : Cond.selects RX0 yX0_layAmounts yX0_layAmounts ∈ lw_g := ing_0 (i := 39) rfl rfl
theorem mS_X0_addAmount : Cond.selects RX0 yX0_addAmount yX0_addAmount ∈ lw_g := ing_0 (i := 40) rfl rfl
theorem mS_X0_fittingOptions : Cond.selects RX0 yX0_fittingOptions yX0_fittingOptions ∈ lw_g := ing_0 (i := 41) rfl rfl
theorem mS_X0_optionsThatGive : Cond.selects RX0 yX0_optionsThatGive yX0_optionsThatGive ∈ lw_g := ing_0 (i := 42) rfl rfl
theorem mS_X0_addDays : Cond.selects RX0 yX0_addDays yX0_addDays ∈ lw_g := ing_0 (i := 43) rfl rfl
theorem mS_X1_isCalm : Cond.selects RX1 yX1_isCalm yX1_isCalm ∈ lw_g := ing_0 (i := 44) rfl rfl
theorem mS_X1_isSteadyCalm : Cond.selects RX1 yX1_isSteadyCalm yX1_isSteadyCalm ∈ lw_g := ing_0 (i := 45) rfl rfl
theorem mS_X9_refusalOfForecast : Cond.selects RX9 yX9_refusalOfForecast yX9_refusalOfForecast ∈ lw_g := ing_0 (i := 46) rfl rfl
theorem mS_X1_addGoodDay : Cond.selects RX1 yX1_addGoodDay yX1_addGoodDay ∈ lw_g := ing_0 (i := 47) rfl rfl
theorem mS_X9_markSmoky : Cond.selects RX9 yX9_markSmoky yX9_markSmoky ∈ lw_g := ing_0 (i := 48) rfl rfl
theorem mS_X3_cut : Cond.selects RX3 yX3_cut yX3_cut ∈ lw_g := ing_0 (i := 49) rfl rfl
theorem mS_X9_dueFromAll : Cond.selects RX9 yX9_dueFromAll yX9_dueFromAll ∈ lw_g := ing_0 (i := 50) rfl rfl
theorem mS_X10_next : Cond.selects RX10 yX10_next yX10_next ∈ lw_g := ing_0 (i := 51) rfl rfl
theorem mS_X10_see : Cond.selects RX10 yX10_see yX10_see ∈ lw_g := ing_0 (i := 52) rfl rfl
theorem mS_X10_keyAt : Cond.selects RX10 yX10_keyAt yX10_keyAt ∈ lw_g := ing_0 (i := 53) rfl rfl
theorem mS_X10_is : Cond.selects RX10 yX10_is yX10_is ∈ lw_g := ing_0 (i := 54) rfl rfl
theorem mS_X10_readChimney : Cond.selects RX10 yX10_readChimney yX10_readChimney ∈ lw_g := ing_0 (i := 55) rfl rfl
theorem mS_X10_fails : Cond.selects RX10 yX10_fails yX10_fails ∈ lw_g := ing_0 (i := 56) rfl rfl
theorem mS_X10_takes : Cond.selects RX10 yX10_takes yX10_takes ∈ lw_g := ing_0 (i := 57) rfl rfl
theorem mS_X10_eats : Cond.selects RX10 yX10_eats yX10_eats ∈ lw_g := ing_0 (i := 58) rfl rfl
theorem mS_X10_readWind : Cond.selects RX10 yX10_readWind yX10_readWind ∈ lw_g := ing_0 (i := 59) rfl rfl
theorem mS_X10_isChimney : Cond.selects RX10 yX10_isChimney yX10_isChimney ∈ lw_g := ing_0 (i := 60) rfl rfl
theorem mS_X10_litAt : Cond.selects RX10 yX10_litAt yX10_litAt ∈ lw_g := ing_0 (i := 61) rfl rfl
theorem mS_X10_isHour : Cond.selects RX10 yX10_isHour yX10_isHour ∈ lw_g := ing_0 (i := 62) rfl rfl
theorem mS_X10_windOf : Cond.selects RX10 yX10_windOf yX10_windOf ∈ lw_g := ing_0 (i := 63) rfl rfl
theorem mS_X10_isLit : Cond.selects RX10 yX10_isLit yX10_isLit ∈ lw_g := ing_0 (i := 64) rfl rfl
theorem mS_X10_isTime : Cond.selects RX10 yX10_isTime yX10_isTime ∈ lw_g := ing_0 (i := 65) rfl rfl
theorem mS_X10_lightsAll : Cond.selects RX10 yX10_lightsAll yX10_lightsAll ∈ lw_g := ing_0 (i := 66) rfl rfl
theorem mS_X10_refuses : Cond.selects RX10 yX10_refuses yX10_refuses ∈ lw_g := ing_0 (i := 67) rfl rfl
theorem mS_X10_laysNow : Cond.selects RX10 yX10_laysNow yX10_laysNow ∈ lw_g := ing_0 (i := 68) rfl rfl
theorem mS_X10_laysWinds : Cond.selects RX10 yX10_laysWinds yX10_laysWinds ∈ lw_g := ing_0 (i := 69) rfl rfl
theorem mS_X10_laysLit : Cond.selects RX10 yX10_laysLit yX10_laysLit ∈ lw_g := ing_0 (i := 70) rfl rfl
theorem mS_X10_laysFire : Cond.selects RX10 yX10_laysFire yX10_laysFire ∈ lw_g := ing_0 (i := 71) rfl rfl
theorem mS_X10_laysPuffs : Cond.selects RX10 yX10_laysPuffs yX10_laysPuffs ∈ lw_g := ing_0 (i := 72) rfl rfl
theorem mS_X10_touchesLit : Cond.selects RX10 yX10_touchesLit yX10_touchesLit ∈ lw_g := ing_0 (i := 73) rfl rfl
theorem mS_X10_areTouching : Cond.selects RX10 yX10_areTouching yX10_areTouching ∈ lw_g := ing_0 (i := 74) rfl rfl
theorem mS_X10_puffIn : Cond.selects RX10 yX10_puffIn yX10_puffIn ∈ lw_g := ing_0 (i := 75) rfl rfl
theorem mS_X10_litMany : Cond.selects RX10 yX10_litMany yX10_litMany ∈ lw_g := ing_0 (i := 76) rfl rfl
theorem mS_X10_areTwo : Cond.selects RX10 yX10_areTwo yX10_areTwo ∈ lw_g := ing_0 (i := 77) rfl rfl
theorem mS_X10_quarters : Cond.selects RX10 yX10_quarters yX10_quarters ∈ lw_g := ing_0 (i := 78) rfl rfl
theorem mS_X10_firstTouch : Cond.selects RX10 yX10_firstTouch yX10_firstTouch ∈ lw_g := ing_0 (i := 79) rfl rfl
theorem mS_X10_laysPairs : Cond.selects RX10 yX10_laysPairs yX10_laysPairs ∈ lw_g := ing_0 (i := 80) rfl rfl
theorem mS_X10_paysOf : Cond.selects RX10 yX10_paysOf yX10_paysOf ∈ lw_g := ing_0 (i := 81) rfl rfl
theorem mS_X10_faulty : Cond.selects RX10 yX10_faulty yX10_faulty ∈ lw_g := ing_0 (i := 82) rfl rfl
theorem mS_X10_sootAll : Cond.selects RX10 yX10_sootAll yX10_sootAll ∈ lw_g := ing_0 (i := 83) rfl rfl
theorem mS_X10_sootOf : Cond.selects RX10 yX10_sootOf yX10_sootOf ∈ lw_g := ing_0 (i := 84) rfl rfl
theorem mS_X10_freeFor : Cond.selects RX10 yX10_freeFor yX10_freeFor ∈ lw_g := ing_0 (i := 85) rfl rfl
theorem mS_X10_laysFew : Cond.selects RX10 yX10_laysFew yX10_laysFew ∈ lw_g := ing_0 (i := 86) rfl rfl
theorem mS_X10_plansFrom : Cond.selects RX10 yX10_plansFrom yX10_plansFrom ∈ lw_g := ing_0 (i := 87) rfl rfl
theorem mS_X10_goesWith : Cond.selects RX10 yX10_goesWith yX10_goesWith ∈ lw_g := ing_0 (i := 88) rfl rfl
theorem mS_X10_waysFrom : Cond.selects RX10 yX10_waysFrom yX10_waysFrom ∈ lw_g := ing_0 (i := 89) rfl rfl
theorem mS_X10_asChimneys : Cond.selects RX10 yX10_asChimneys yX10_asChimneys ∈ lw_g := ing_0 (i := 90) rfl rfl
theorem mS_X10_priceOf : Cond.selects RX10 yX10_priceOf yX10_priceOf ∈ lw_g := ing_0 (i := 91) rfl rfl
theorem mS_X10_paysAll : Cond.selects RX10 yX10_paysAll yX10_paysAll ∈ lw_g := ing_0 (i := 92) rfl rfl
theorem mS_X10_anyTouch : Cond.selects RX10 yX10_anyTouch yX10_anyTouch ∈ lw_g := ing_0 (i := 93) rfl rfl
theorem mS_X10_refusesSheets : Cond.selects RX10 yX10_refusesSheets yX10_refusesSheets ∈ lw_g := ing_0 (i := 94) rfl rfl
theorem mS_X10_daysOf : Cond.selects RX10 yX10_daysOf yX10_daysOf ∈ lw_g := ing_0 (i := 95) rfl rfl
theorem mS_X10_laysSheets : Cond.selects RX10 yX10_laysSheets yX10_laysSheets ∈ lw_g := ing_0 (i := 96) rfl rfl
theorem mS_X10_isDay : Cond.selects RX10 yX10_isDay yX10_isDay ∈ lw_g := ing_0 (i := 97) rfl rfl
theorem mS_X10_quarterIn : Cond.selects RX10 yX10_quarterIn yX10_quarterIn ∈ lw_g := ing_0 (i := 98) rfl rfl
theorem mS_X10_fits : Cond.selects RX10 yX10_fits yX10_fits ∈ lw_g := ing_0 (i := 99) rfl rfl
theorem mS_X10_laysOther : Cond.selects RX10 yX10_laysOther yX10_laysOther ∈ lw_g := ing_0 (i := 100) rfl rfl
theorem mS_X10_isCalm : Cond.selects RX10 yX10_isCalm yX10_isCalm ∈ lw_g := ing_0 (i := 101) rfl rfl
theorem mS_X10_refusesBest : Cond.selects RX10 yX10_refusesBest yX10_refusesBest ∈ lw_g := ing_0 (i := 102) rfl rfl
theorem mS_X10_bestBy : Cond.selects RX10 yX10_bestBy yX10_bestBy ∈ lw_g := ing_0 (i := 103) rfl rfl
theorem mN_L : Cond.initialized RL ∈ lw_g := ing_1 (i := 0) rfl rfl
theorem mN_X9 : Cond.initialized RX9 ∈ lw_g := ing_1 (i := 1) rfl rfl
theorem mN_X7 : Cond.initialized RX7 ∈ lw_g := ing_1 (i := 2) rfl rfl
theorem mN_X5 : Cond.initialized RX5 ∈ lw_g := ing_1 (i := 3) rfl rfl
theorem mN_X8 : Cond.initialized RX8 ∈ lw_g := ing_1 (i := 4) rfl rfl
theorem mN_X4 : Cond.initialized RX4 ∈ lw_g := ing_1 (i := 5) rfl rfl
theorem mN_X2 : Cond.initialized RX2 ∈ lw_g := ing_1 (i := 6) rfl rfl
theorem mN_X6 : Cond.initialized RX6 ∈ lw_g := ing_1 (i := 7) rfl rfl
theorem mN_X0 : Cond.initialized RX0 ∈ lw_g := ing_1 (i := 8) rfl rfl
theorem mN_X1 : Cond.initialized RX1 ∈ lw_g := ing_1 (i := 9) rfl rfl
theorem mN_X3 : Cond.initialized RX3 ∈ lw_g := ing_1 (i := 10) rfl rfl
theorem mN_X10 : Cond.initialized RX10 ∈ lw_g := ing_1 (i := 11) rfl rfl
theorem mN_J9 : Cond.initialized RJ9 ∈ lw_g := ing_1 (i := 12) rfl rfl
theorem mN_J0 : Cond.initialized RJ0 ∈ lw_g := ing_1 (i := 13) rfl rfl
theorem mN_J1 : Cond.initialized RJ1 ∈ lw_g := ing_1 (i := 14) rfl rfl
theorem mN_J3 : Cond.initialized RJ3 ∈ lw_g := ing_1 (i := 15) rfl rfl
theorem mN_J2 : Cond.initialized RJ2 ∈ lw_g := ing_1 (i := 16) rfl rfl
theorem mN_J10 : Cond.initialized RJ10 ∈ lw_g := ing_1 (i := 17) rfl rfl
theorem mN_Jxd2413 : Cond.initialized RJxd2413 ∈ lw_g := ing_1 (i := 18) rfl rfl
theorem mN_J13 : Cond.initialized RJ13 ∈ lw_g := ing_1 (i := 19) rfl rfl
theorem mN_J6 : Cond.initialized RJ6 ∈ lw_g := ing_1 (i := 20) rfl rfl
theorem mN_J7 : Cond.initialized RJ7 ∈ lw_g := ing_1 (i := 21) rfl rfl
theorem mL_L_7 : Cond.classLink RL 7 RX9 ∈ lw_g := ing_1 (i := 22) rfl rfl
theorem mX_X9 : Cond.instantiable RX9 17 ∈ lw_g := ing_1 (i := 23) rfl rfl
theorem mM_L_9 : Cond.methodLink RL 9 yX9_init ∈ lw_g := ing_1 (i := 24) rfl rfl
theorem mI_X9_init : Cond.instanceMethod yX9_init ∈ lw_g := ing_1 (i := 25) rfl rfl
theorem mC_X9_init : Cond.code yX9_init cX9_init 2 none ∈ lw_g := ing_1 (i := 26) rfl rfl
theorem mL_X9_13 : Cond.classLink RX9 13 RX7 ∈ lw_g := ing_1 (i := 30) rfl rfl
theorem mX_X7 : Cond.instantiable RX7 16 ∈ lw_g := ing_1 (i := 31) rfl rfl
theorem mM_X9_15 : Cond.methodLink RX9 15 yX7_init ∈ lw_g := ing_1 (i := 32) rfl rfl
theorem mI_X7_init : Cond.instanceMethod yX7_init ∈ lw_g := ing_1 (i := 33) rfl rfl
theorem mC_X7_init : Cond.code yX7_init cX7_init 1 none ∈ lw_g := ing_1 (i := 34) rfl rfl
theorem mM_X7_42 : Cond.methodLink RX7 42 yX7_begin ∈ lw_g := ing_1 (i := 36) rfl rfl
theorem mI_X7_begin : Cond.instanceMethod yX7_begin ∈ lw_g := ing_1 (i := 37) rfl rfl
theorem mS_X7_begin : Cond.selects RX7 yX7_begin yX7_begin ∈ lw_g := ing_1 (i := 38) rfl rfl
theorem mC_X7_begin : Cond.code yX7_begin cX7_begin 1 none ∈ lw_g := ing_1 (i := 39) rfl rfl
theorem mF_X7_9 : Cond.fieldLink RX7 9 "SmokesApart$Town" "xs" "[I" ∈ lw_g := ing_1 (i := 40) rfl rfl
theorem mF_X9_138 : Cond.fieldLink RX9 138 "SmokesApart$Town" "xs" "[I" ∈ lw_g := ing_1 (i := 41) rfl rfl
theorem mF_X4_76 : Cond.fieldLink RX4 76 "SmokesApart$Town" "xs" "[I" ∈ lw_g := ing_1 (i := 42) rfl rfl
theorem mF_X7_15 : Cond.fieldLink RX7 15 "SmokesApart$Town" "heights" "[I" ∈ lw_g := ing_1 (i := 43) rfl rfl
theorem mF_X4_40 : Cond.fieldLink RX4 40 "SmokesApart$Town" "heights" "[I" ∈ lw_g := ing_1 (i := 44) rfl rfl
theorem mF_X9_141 : Cond.fieldLink RX9 141 "SmokesApart$Town" "heights" "[I" ∈ lw_g := ing_1 (i := 45) rfl rfl
theorem mF_X7_18 : Cond.fieldLink RX7 18 "SmokesApart$Town" "froms" "[I" ∈ lw_g := ing_1 (i := 46) rfl rfl
theorem mF_X4_41 : Cond.fieldLink RX4 41 "SmokesApart$Town" "froms" "[I" ∈ lw_g := ing_1 (i := 47) rfl rfl
theorem mF_X6_73 : Cond.fieldLink RX6 73 "SmokesApart$Town" "froms" "[I" ∈ lw_g := ing_1 (i := 48) rfl rfl
theorem mF_X9_144 : Cond.fieldLink RX9 144 "SmokesApart$Town" "froms" "[I" ∈ lw_g := ing_1 (i := 49) rfl rfl
theorem mF_X1_78 : Cond.fieldLink RX1 78 "SmokesApart$Town" "froms" "[I" ∈ lw_g := ing_1 (i := 50) rfl rfl
theorem mF_X7_21 : Cond.fieldLink RX7 21 "SmokesApart$Town" "tos" "[I" ∈ lw_g := ing_1 (i := 51) rfl rfl
theorem mF_X4_44 : Cond.fieldLink RX4 44 "SmokesApart$Town" "tos" "[I" ∈ lw_g := ing_1 (i := 52) rfl rfl
theorem mF_X6_67 : Cond.fieldLink RX6 67 "SmokesApart$Town" "tos" "[I" ∈ lw_g := ing_1 (i := 53) rfl rfl
theorem mF_X9_147 : Cond.fieldLink RX9 147 "SmokesApart$Town" "tos" "[I" ∈ lw_g := ing_1 (i := 54) rfl rfl
theorem mF_X7_24 : Cond.fieldLink RX7 24 "SmokesApart$Town" "smokeCounts" "[I" ∈ lw_g := ing_1 (i := 55) rfl rfl
theorem mF_X4_47 : Cond.fieldLink RX4 47 "SmokesApart$Town" "smokeCounts" "[I" ∈ lw_g := ing_1 (i := 56) rfl rfl
theorem mF_X6_70 : Cond.fieldLink RX6 70 "SmokesApart$Town" "smokeCounts" "[I" ∈ lw_g := ing_1 (i := 57) rfl rfl
theorem mF_X9_150 : Cond.fieldLink RX9 150 "SmokesApart$Town" "smokeCounts" "[I" ∈ lw_g := ing_1 (i := 58) rfl rfl
theorem mF_X7_27 : Cond.fieldLink RX7 27 "SmokesApart$Town" "smokes" "[I" ∈ lw_g := ing_1 (i := 59) rfl rfl
theorem mF_X7_30 : Cond.fieldLink RX7 30 "SmokesApart$Town" "litIn" "[I" ∈ lw_g := ing_1 (i := 60) rfl rfl
theorem mF_X2_27 : Cond.fieldLink RX2 27 "SmokesApart$Town" "litIn" "[I" ∈ lw_g := ing_1 (i := 61) rfl rfl
theorem mF_X4_61 : Cond.fieldLink RX4 61 "SmokesApart$Town" "litIn" "[I" ∈ lw_g := ing_1 (i := 62) rfl rfl
theorem mF_X9_153 : Cond.fieldLink RX9 153 "SmokesApart$Town" "litIn" "[I" ∈ lw_g := ing_1 (i := 63) rfl rfl
theorem mF_X6_167 : Cond.fieldLink RX6 167 "SmokesApart$Town" "litIn" "[I" ∈ lw_g := ing_1 (i := 64) rfl rfl
theorem mF_X7_33 : Cond.fieldLink RX7 33 "SmokesApart$Town" "windQuarters" "[I" ∈ lw_g := ing_1 (i := 65) rfl rfl
theorem mF_X8_34 : Cond.fieldLink RX8 34 "SmokesApart$Town" "windQuarters" "[I" ∈ lw_g := ing_1 (i := 66) rfl rfl
theorem mF_X7_36 : Cond.fieldLink RX7 36 "SmokesApart$Town" "windLows" "[I" ∈ lw_g := ing_1 (i := 67) rfl rfl
theorem mF_X8_22 : Cond.fieldLink RX8 22 "SmokesApart$Town" "windLows" "[I" ∈ lw_g := ing_1 (i := 68) rfl rfl
theorem mF_X7_39 : Cond.fieldLink RX7 39 "SmokesApart$Town" "windHighs" "[I" ∈ lw_g := ing_1 (i := 69) rfl rfl
theorem mF_X8_27 : Cond.fieldLink RX8 27 "SmokesApart$Town" "windHighs" "[I" ∈ lw_g := ing_1 (i := 70) rfl rfl
theorem mF_X7_45 : Cond.fieldLink RX7 45 "SmokesApart$Town" "chimneys" "I" ∈ lw_g := ing_1 (i := 71) rfl rfl
theorem mF_X4_26 : Cond.fieldLink RX4 26 "SmokesApart$Town" "chimneys" "I" ∈ lw_g := ing_1 (i := 72) rfl rfl
theorem mF_X6_39 : Cond.fieldLink RX6 39 "SmokesApart$Town" "chimneys" "I" ∈ lw_g := ing_1 (i := 73) rfl rfl
theorem mF_X2_63 : Cond.fieldLink RX2 63 "SmokesApart$Town" "chimneys" "I" ∈ lw_g := ing_1 (i := 74) rfl rfl
theorem mF_X5_89 : Cond.fieldLink RX5 89 "SmokesApart$Town" "chimneys" "I" ∈ lw_g := ing_1 (i := 75) rfl rfl
theorem mF_X9_198 : Cond.fieldLink RX9 198 "SmokesApart$Town" "chimneys" "I" ∈ lw_g := ing_1 (i := 76) rfl rfl
theorem mF_X7_49 : Cond.fieldLink RX7 49 "SmokesApart$Town" "windCount" "I" ∈ lw_g := ing_1 (i := 77) rfl rfl
theorem mF_X8_30 : Cond.fieldLink RX8 30 "SmokesApart$Town" "windCount" "I" ∈ lw_g := ing_1 (i := 78) rfl rfl
theorem mF_X5_115 : Cond.fieldLink RX5 115 "SmokesApart$Town" "windCount" "I" ∈ lw_g := ing_1 (i := 79) rfl rfl
theorem mF_X9_378 : Cond.fieldLink RX9 378 "SmokesApart$Town" "windCount" "I" ∈ lw_g := ing_1 (i := 80) rfl rfl
theorem mF_X7_52 : Cond.fieldLink RX7 52 "SmokesApart$Town" "layer" "I" ∈ lw_g := ing_1 (i := 81) rfl rfl
theorem mF_X5_72 : Cond.fieldLink RX5 72 "SmokesApart$Town" "layer" "I" ∈ lw_g := ing_1 (i := 82) rfl rfl
theorem mF_X4_79 : Cond.fieldLink RX4 79 "SmokesApart$Town" "layer" "I" ∈ lw_g := ing_1 (i := 83) rfl rfl
theorem mF_X9_381 : Cond.fieldLink RX9 381 "SmokesApart$Town" "layer" "I" ∈ lw_g := ing_1 (i := 84) rfl rfl
theorem mF_X7_55 : Cond.fieldLink RX7 55 "SmokesApart$Town" "thick" "I" ∈ lw_g := ing_1 (i := 85) rfl rfl
theorem mF_X5_76 : Cond.fieldLink RX5 76 "SmokesApart$Town" "thick" "I" ∈ lw_g := ing_1 (i := 86) rfl rfl
theorem mF_X4_116 : Cond.fieldLink RX4 116 "SmokesApart$Town" "thick" "I" ∈ lw_g := ing_1 (i := 87) rfl rfl
theorem mF_X9_384 : Cond.fieldLink RX9 384 "SmokesApart$Town" "thick" "I" ∈ lw_g := ing_1 (i := 88) rfl rfl
theorem mF_X7_58 : Cond.fieldLink RX7 58 "SmokesApart$Town" "fine" "I" ∈ lw_g := ing_1 (i := 89) rfl rfl
theorem mF_X5_80 : Cond.fieldLink RX5 80 "SmokesApart$Town" "fine" "I" ∈ lw_g := ing_1 (i := 90) rfl rfl
theorem mF_X9_387 : Cond.fieldLink RX9 387 "SmokesApart$Town" "fine" "I" ∈ lw_g := ing_1 (i := 91) rfl rfl
theorem mF_X7_61 : Cond.fieldLink RX7 61 "SmokesApart$Town" "lines" "I" ∈ lw_g := ing_1 (i := 92) rfl rfl
theorem mF_X9_128 : Cond.fieldLink RX9 128 "SmokesApart$Town" "lines" "I" ∈ lw_g := ing_1 (i := 93) rfl rfl
theorem mF_X5_86 : Cond.fieldLink RX5 86 "SmokesApart$Town" "lines" "I" ∈ lw_g := ing_1 (i := 94) rfl rfl
theorem mZ_superclass_0 : Cond.superclass "SmokesApart$Town" "java/lang/Object" ∈ lw_g := ing_1 (i := 127) rfl rfl
theorem mZ_arrayClass_0 : Cond.arrayClass FieldType.byte ∈ lw_g := ing_1 (i := 128) rfl rfl
theorem mZ_arrayClass_1 : Cond.arrayClass FieldType.int ∈ lw_g := ing_1 (i := 129) rfl rfl
theorem mL_X9_20 : Cond.classLink RX9 20 RX5 ∈ lw_g := ing_1 (i := 130) rfl rfl
theorem mX_X5 : Cond.instantiable RX5 9 ∈ lw_g := ing_1 (i := 131) rfl rfl
theorem mH_X9_22 : Cond.methodLinkNest RX9 22 yX5_init "SmokesApart" ∈ lw_tbl := int_1 (i := 132) rfl
theorem mI_X5_init : Cond.instanceMethod yX5_init ∈ lw_g := ing_1 (i := 133) rfl rfl
theorem mC_X5_init : Cond.code yX5_init cX5_init 1 none ∈ lw_g := ing_1 (i := 134) rfl rfl
theorem mL_X5_9 : Cond.classLink RX5 9 RX7 ∈ lw_g := ing_1 (i := 136) rfl rfl
theorem mM_X5_11 : Cond.methodLink RX5 11 yX7_init ∈ lw_g := ing_1 (i := 137) rfl rfl
theorem mF_X5_12 : Cond.fieldLink RX5 12 "SmokesApart$Reader" "draft" "LSmokesApart$Town;" ∈ lw_g := ing_1 (i := 138) rfl rfl
theorem mF_X9_122 : Cond.fieldLink RX9 122 "SmokesApart$Reader" "draft" "LSmokesApart$Town;" ∈ lw_g := ing_1 (i := 139) rfl rfl
theorem mF_X5_18 : Cond.fieldLink RX5 18 "SmokesApart$Reader" "fault" "I" ∈ lw_g := ing_1 (i := 140) rfl rfl
theorem mF_X9_119 : Cond.fieldLink RX9 119 "SmokesApart$Reader" "fault" "I" ∈ lw_g := ing_1 (i := 141) rfl rfl
theorem mF_X5_22 : Cond.fieldLink RX5 22 "SmokesApart$Reader" "place" "I" ∈ lw_g := ing_1 (i := 142) rfl rfl
theorem mF_X9_131 : Cond.fieldLink RX9 131 "SmokesApart$Reader" "place" "I" ∈ lw_g := ing_1 (i := 143) rfl rfl
theorem mF_X5_25 : Cond.fieldLink RX5 25 "SmokesApart$Reader" "text" "[B" ∈ lw_g := ing_1 (i := 144) rfl rfl
theorem mF_X5_35 : Cond.fieldLink RX5 35 "SmokesApart$Reader" "length" "I" ∈ lw_g := ing_1 (i := 145) rfl rfl
theorem mF_X5_38 : Cond.fieldLink RX5 38 "SmokesApart$Reader" "next" "I" ∈ lw_g := ing_1 (i := 146) rfl rfl
theorem mF_X5_122 : Cond.fieldLink RX5 122 "SmokesApart$Reader" "start" "I" ∈ lw_g := ing_1 (i := 147) rfl rfl
theorem mF_X5_47 : Cond.fieldLink RX5 47 "SmokesApart$Reader" "sort" "I" ∈ lw_g := ing_1 (i := 148) rfl rfl
theorem mF_X5_112 : Cond.fieldLink RX5 112 "SmokesApart$Reader" "value" "I" ∈ lw_g := ing_1 (i := 149) rfl rfl
theorem mZ_superclass_1 : Cond.superclass "SmokesApart$Reader" "java/lang/Object" ∈ lw_g := ing_1 (i := 168) rfl rfl
theorem mL_X9_27 : Cond.classLink RX9 27 RX8 ∈ lw_g := ing_1 (i := 169) rfl rfl
theorem mX_X8 : Cond.instantiable RX8 2 ∈ lw_g := ing_1 (i := 170) rfl rfl
theorem mH_X9_29 : Cond.methodLinkNest RX9 29 yX8_init "SmokesApart" ∈ lw_tbl := int_1 (i := 171) rfl
theorem mI_X8_init : Cond.instanceMethod yX8_init ∈ lw_g := ing_1 (i := 172) rfl rfl
theorem mC_X8_init : Cond.code yX8_init cX8_init 1 none ∈ lw_g := ing_1 (i := 173) rfl rfl
theorem mF_X8_9 : Cond.fieldLink RX8 9 "SmokesApart$Winds" "lows" "[I" ∈ lw_g := ing_1 (i := 175) rfl rfl
theorem mF_X9_166 : Cond.fieldLink RX9 166 "SmokesApart$Winds" "lows" "[I" ∈ lw_g := ing_1 (i := 176) rfl rfl
theorem mF_X4_82 : Cond.fieldLink RX4 82 "SmokesApart$Winds" "lows" "[I" ∈ lw_g := ing_1 (i := 177) rfl rfl
theorem mF_X8_15 : Cond.fieldLink RX8 15 "SmokesApart$Winds" "highs" "[I" ∈ lw_g := ing_1 (i := 178) rfl rfl
theorem mF_X9_163 : Cond.fieldLink RX9 163 "SmokesApart$Winds" "highs" "[I" ∈ lw_g := ing_1 (i := 179) rfl rfl
theorem mF_X4_87 : Cond.fieldLink RX4 87 "SmokesApart$Winds" "highs" "[I" ∈ lw_g := ing_1 (i := 180) rfl rfl
theorem mZ_superclass_2 : Cond.superclass "SmokesApart$Winds" "java/lang/Object" ∈ lw_g := ing_1 (i := 185) rfl rfl
theorem mL_X9_34 : Cond.classLink RX9 34 RX4 ∈ lw_g := ing_1 (i := 186) rfl rfl
theorem mX_X4 : Cond.instantiable RX4 4 ∈ lw_g := ing_1 (i := 187) rfl rfl
theorem mM_X9_36 : Cond.methodLink RX9 36 yX4_init ∈ lw_g := ing_1 (i := 188) rfl rfl
theorem mI_X4_init : Cond.instanceMethod yX4_init ∈ lw_g := ing_1 (i := 189) rfl rfl
theorem mC_X4_init : Cond.code yX4_init cX4_init 3 none ∈ lw_g := ing_1 (i := 190) rfl rfl
theorem mF_X4_18 : Cond.fieldLink RX4 18 "SmokesApart$Plumes" "town" "LSmokesApart$Town;" ∈ lw_g := ing_1 (i := 192) rfl rfl
theorem mF_X4_22 : Cond.fieldLink RX4 22 "SmokesApart$Plumes" "winds" "LSmokesApart$Winds;" ∈ lw_g := ing_1 (i := 193) rfl rfl
theorem mF_X4_9 : Cond.fieldLink RX4 9 "SmokesApart$Plumes" "heights" "[I" ∈ lw_g := ing_1 (i := 194) rfl rfl
theorem mF_X4_15 : Cond.fieldLink RX4 15 "SmokesApart$Plumes" "ways" "[I" ∈ lw_g := ing_1 (i := 195) rfl rfl
theorem mZ_superclass_3 : Cond.superclass "SmokesApart$Plumes" "java/lang/Object" ∈ lw_g := ing_1 (i := 204) rfl rfl
theorem mL_X9_49 : Cond.classLink RX9 49 RX2 ∈ lw_g := ing_1 (i := 205) rfl rfl
theorem mX_X2 : Cond.instantiable RX2 6 ∈ lw_g := ing_1 (i := 206) rfl rfl
theorem mM_X9_51 : Cond.methodLink RX9 51 yX2_init ∈ lw_g := ing_1 (i := 207) rfl rfl
theorem mI_X2_init : Cond.instanceMethod yX2_init ∈ lw_g := ing_1 (i := 208) rfl rfl
theorem mC_X2_init : Cond.code yX2_init cX2_init 3 none ∈ lw_g := ing_1 (i := 209) rfl rfl
theorem mF_X2_19 : Cond.fieldLink RX2 19 "SmokesApart$Judge" "town" "LSmokesApart$Town;" ∈ lw_g := ing_1 (i := 211) rfl rfl
theorem mF_X2_23 : Cond.fieldLink RX2 23 "SmokesApart$Judge" "plumes" "LSmokesApart$Plumes;" ∈ lw_g := ing_1 (i := 212) rfl rfl
theorem mF_X2_9 : Cond.fieldLink RX2 9 "SmokesApart$Judge" "litBefore" "[I" ∈ lw_g := ing_1 (i := 213) rfl rfl
theorem mF_X2_15 : Cond.fieldLink RX2 15 "SmokesApart$Judge" "place" "I" ∈ lw_g := ing_1 (i := 214) rfl rfl
theorem mF_X9_188 : Cond.fieldLink RX9 188 "SmokesApart$Judge" "place" "I" ∈ lw_g := ing_1 (i := 215) rfl rfl
theorem mF_X2_38 : Cond.fieldLink RX2 38 "SmokesApart$Judge" "why" "I" ∈ lw_g := ing_1 (i := 216) rfl rfl
theorem mF_X9_189 : Cond.fieldLink RX9 189 "SmokesApart$Judge" "why" "I" ∈ lw_g := ing_1 (i := 217) rfl rfl
theorem mF_X2_60 : Cond.fieldLink RX2 60 "SmokesApart$Judge" "litThen" "I" ∈ lw_g := ing_1 (i := 218) rfl rfl
theorem mF_X9_192 : Cond.fieldLink RX9 192 "SmokesApart$Judge" "litThen" "I" ∈ lw_g := ing_1 (i := 219) rfl rfl
theorem mZ_superclass_4 : Cond.superclass "SmokesApart$Judge" "java/lang/Object" ∈ lw_g := ing_1 (i := 232) rfl rfl
theorem mL_X9_58 : Cond.classLink RX9 58 RX6 ∈ lw_g := ing_1 (i := 233) rfl rfl
theorem mX_X6 : Cond.instantiable RX6 11 ∈ lw_g := ing_1 (i := 234) rfl rfl
theorem mM_X9_60 : Cond.methodLink RX9 60 yX6_init ∈ lw_g := ing_1 (i := 235) rfl rfl
theorem mI_X6_init : Cond.instanceMethod yX6_init ∈ lw_g := ing_1 (i := 236) rfl rfl
theorem mC_X6_init : Cond.code yX6_init cX6_init 3 none ∈ lw_g := ing_1 (i := 237) rfl rfl
theorem mF_X6_27 : Cond.fieldLink RX6 27 "SmokesApart$Seeker" "town" "LSmokesApart$Town;" ∈ lw_g := ing_1 (i := 239) rfl rfl
theorem mF_X6_31 : Cond.fieldLink RX6 31 "SmokesApart$Seeker" "plumes" "LSmokesApart$Plumes;" ∈ lw_g := ing_2 (i := 0) rfl rfl
theorem mF_X6_9 : Cond.fieldLink RX6 9 "SmokesApart$Seeker" "who" "[I" ∈ lw_g := ing_2 (i := 1) rfl rfl
theorem mF_X6_35 : Cond.fieldLink RX6 35 "SmokesApart$Seeker" "members" "I" ∈ lw_g := ing_2 (i := 2) rfl rfl
theorem mF_X6_15 : Cond.fieldLink RX6 15 "SmokesApart$Seeker" "clashes" "[I" ∈ lw_g := ing_2 (i := 3) rfl rfl
theorem mF_X6_18 : Cond.fieldLink RX6 18 "SmokesApart$Seeker" "open" "[I" ∈ lw_g := ing_2 (i := 4) rfl rfl
theorem mF_X6_21 : Cond.fieldLink RX6 21 "SmokesApart$Seeker" "chosen" "[I" ∈ lw_g := ing_2 (i := 5) rfl rfl
theorem mF_X6_24 : Cond.fieldLink RX6 24 "SmokesApart$Seeker" "soonest" "[I" ∈ lw_g := ing_2 (i := 6) rfl rfl
theorem mF_X6_136 : Cond.fieldLink RX6 136 "SmokesApart$Seeker" "soonestLatest" "I" ∈ lw_g := ing_2 (i := 7) rfl rfl
theorem mF_X9_247 : Cond.fieldLink RX9 247 "SmokesApart$Seeker" "soonestLatest" "I" ∈ lw_g := ing_2 (i := 8) rfl rfl
theorem mF_X6_139 : Cond.fieldLink RX6 139 "SmokesApart$Seeker" "soonestSum" "I" ∈ lw_g := ing_2 (i := 9) rfl rfl
theorem mF_X9_250 : Cond.fieldLink RX9 250 "SmokesApart$Seeker" "soonestSum" "I" ∈ lw_g := ing_2 (i := 10) rfl rfl
theorem mF_X6_125 : Cond.fieldLink RX6 125 "SmokesApart$Seeker" "tally" "I" ∈ lw_g := ing_2 (i := 11) rfl rfl
theorem mZ_superclass_5 : Cond.superclass "SmokesApart$Seeker" "java/lang/Object" ∈ lw_g := ing_2 (i := 34) rfl rfl
theorem mL_X9_65 : Cond.classLink RX9 65 RX0 ∈ lw_g := ing_2 (i := 35) rfl rfl
theorem mX_X0 : Cond.instantiable RX0 14 ∈ lw_g := ing_2 (i := 36) rfl rfl
theorem mM_X9_67 : Cond.methodLink RX9 67 yX0_init ∈ lw_g := ing_2 (i := 37) rfl rfl
theorem mI_X0_init : Cond.instanceMethod yX0_init ∈ lw_g := ing_2 (i := 38) rfl rfl
theorem mC_X0_init : Cond.code yX0_init cX0_init 3 none ∈ lw_g := ing_2 (i := 39) rfl rfl
theorem mF_X0_40 : Cond.fieldLink RX0 40 "SmokesApart$Days" "town" "LSmokesApart$Town;" ∈ lw_g := ing_2 (i := 41) rfl rfl
theorem mF_X0_44 : Cond.fieldLink RX0 44 "SmokesApart$Days" "plumes" "LSmokesApart$Plumes;" ∈ lw_g := ing_2 (i := 42) rfl rfl
theorem mF_X0_54 : Cond.fieldLink RX0 54 "SmokesApart$Days" "told" "I" ∈ lw_g := ing_2 (i := 43) rfl rfl
theorem mF_X0_9 : Cond.fieldLink RX0 9 "SmokesApart$Days" "toldX" "[I" ∈ lw_g := ing_2 (i := 44) rfl rfl
theorem mF_X0_15 : Cond.fieldLink RX0 15 "SmokesApart$Days" "toldSoot" "[J" ∈ lw_g := ing_2 (i := 45) rfl rfl
theorem mF_X0_19 : Cond.fieldLink RX0 19 "SmokesApart$Days" "row" "[I" ∈ lw_g := ing_2 (i := 46) rfl rfl
theorem mF_X0_22 : Cond.fieldLink RX0 22 "SmokesApart$Days" "shares" "[I" ∈ lw_g := ing_2 (i := 47) rfl rfl
theorem mF_X0_25 : Cond.fieldLink RX0 25 "SmokesApart$Days" "options" "[I" ∈ lw_g := ing_2 (i := 48) rfl rfl
theorem mF_X0_28 : Cond.fieldLink RX0 28 "SmokesApart$Days" "amounts" "[I" ∈ lw_g := ing_2 (i := 49) rfl rfl
theorem mF_X0_31 : Cond.fieldLink RX0 31 "SmokesApart$Days" "optionsByAmount" "[I" ∈ lw_g := ing_2 (i := 50) rfl rfl
theorem mF_X0_34 : Cond.fieldLink RX0 34 "SmokesApart$Days" "amountCounts" "[I" ∈ lw_g := ing_2 (i := 51) rfl rfl
theorem mF_X0_37 : Cond.fieldLink RX0 37 "SmokesApart$Days" "day" "[I" ∈ lw_g := ing_2 (i := 52) rfl rfl
theorem mF_X0_100 : Cond.fieldLink RX0 100 "SmokesApart$Days" "fitting" "I" ∈ lw_g := ing_2 (i := 53) rfl rfl
theorem mF_X9_302 : Cond.fieldLink RX9 302 "SmokesApart$Days" "fitting" "I" ∈ lw_g := ing_2 (i := 54) rfl rfl
theorem mF_X0_103 : Cond.fieldLink RX0 103 "SmokesApart$Days" "alwaysLit" "I" ∈ lw_g := ing_2 (i := 55) rfl rfl
theorem mF_X9_308 : Cond.fieldLink RX9 308 "SmokesApart$Days" "alwaysLit" "I" ∈ lw_g := ing_2 (i := 56) rfl rfl
theorem mZ_superclass_6 : Cond.superclass "SmokesApart$Days" "java/lang/Object" ∈ lw_g := ing_2 (i := 85) rfl rfl
theorem mZ_arrayClass_2 : Cond.arrayClass FieldType.long ∈ lw_g := ing_2 (i := 86) rfl rfl
theorem mL_X9_72 : Cond.classLink RX9 72 RX1 ∈ lw_g := ing_2 (i := 87) rfl rfl
theorem mX_X1 : Cond.instantiable RX1 7 ∈ lw_g := ing_2 (i := 88) rfl rfl
theorem mM_X9_74 : Cond.methodLink RX9 74 yX1_init ∈ lw_g := ing_2 (i := 89) rfl rfl
theorem mI_X1_init : Cond.instanceMethod yX1_init ∈ lw_g := ing_2 (i := 90) rfl rfl
theorem mC_X1_init : Cond.code yX1_init cX1_init 4 none ∈ lw_g := ing_2 (i := 91) rfl rfl
theorem mF_X1_15 : Cond.fieldLink RX1 15 "SmokesApart$Forecast" "town" "LSmokesApart$Town;" ∈ lw_g := ing_2 (i := 93) rfl rfl
theorem mF_X1_19 : Cond.fieldLink RX1 19 "SmokesApart$Forecast" "winds" "LSmokesApart$Winds;" ∈ lw_g := ing_2 (i := 94) rfl rfl
theorem mF_X1_23 : Cond.fieldLink RX1 23 "SmokesApart$Forecast" "plumes" "LSmokesApart$Plumes;" ∈ lw_g := ing_2 (i := 95) rfl rfl
theorem mF_X1_9 : Cond.fieldLink RX1 9 "SmokesApart$Forecast" "goodDays" "[I" ∈ lw_g := ing_2 (i := 96) rfl rfl
theorem mF_X1_81 : Cond.fieldLink RX1 81 "SmokesApart$Forecast" "bestQuarter" "I" ∈ lw_g := ing_2 (i := 97) rfl rfl
theorem mF_X9_332 : Cond.fieldLink RX9 332 "SmokesApart$Forecast" "bestQuarter" "I" ∈ lw_g := ing_2 (i := 98) rfl rfl
theorem mF_X1_84 : Cond.fieldLink RX1 84 "SmokesApart$Forecast" "bestDays" "I" ∈ lw_g := ing_2 (i := 99) rfl rfl
theorem mF_X9_341 : Cond.fieldLink RX9 341 "SmokesApart$Forecast" "bestDays" "I" ∈ lw_g := ing_2 (i := 100) rfl rfl
theorem mF_X1_59 : Cond.fieldLink RX1 59 "SmokesApart$Forecast" "openDays" "I" ∈ lw_g := ing_2 (i := 101) rfl rfl
theorem mF_X9_338 : Cond.fieldLink RX9 338 "SmokesApart$Forecast" "openDays" "I" ∈ lw_g := ing_2 (i := 102) rfl rfl
theorem mZ_superclass_7 : Cond.superclass "SmokesApart$Forecast" "java/lang/Object" ∈ lw_g := ing_2 (i := 117) rfl rfl
theorem mL_X9_81 : Cond.classLink RX9 81 RX3 ∈ lw_g := ing_2 (i := 118) rfl rfl
theorem mZ_arrayOver_0 : Cond.arrayOver (FieldType.object "SmokesApart$NumberRow") ∈ lw_tbl := int_2 (i := 119) rfl
theorem mZ_arrayOver_1 : Cond.arrayOver (FieldType.object "SmokesApart$Town") ∈ lw_tbl := int_2 (i := 120) rfl
theorem mX_X3 : Cond.instantiable RX3 3 ∈ lw_g := ing_2 (i := 121) rfl rfl
theorem mH_X9_102 : Cond.methodLinkNest RX9 102 yX3_init "SmokesApart" ∈ lw_tbl := int_2 (i := 122) rfl
theorem mI_X3_init : Cond.instanceMethod yX3_init ∈ lw_g := ing_2 (i := 123) rfl rfl
theorem mC_X3_init : Cond.code yX3_init cX3_init 1 none ∈ lw_g := ing_2 (i := 124) rfl rfl
theorem mF_X3_9 : Cond.fieldLink RX3 9 "SmokesApart$NumberRow" "values" "[J" ∈ lw_g := ing_2 (i := 126) rfl rfl
theorem mF_X3_19 : Cond.fieldLink RX3 19 "SmokesApart$NumberRow" "sort" "I" ∈ lw_g := ing_2 (i := 127) rfl rfl
theorem mF_X3_15 : Cond.fieldLink RX3 15 "SmokesApart$NumberRow" "size" "I" ∈ lw_g := ing_2 (i := 128) rfl rfl
theorem mF_X0_48 : Cond.fieldLink RX0 48 "SmokesApart$NumberRow" "size" "I" ∈ lw_g := ing_2 (i := 129) rfl rfl
theorem mF_X2_41 : Cond.fieldLink RX2 41 "SmokesApart$NumberRow" "size" "I" ∈ lw_g := ing_2 (i := 130) rfl rfl
theorem mF_X9_369 : Cond.fieldLink RX9 369 "SmokesApart$NumberRow" "size" "I" ∈ lw_g := ing_2 (i := 131) rfl rfl
theorem mZ_superclass_8 : Cond.superclass "SmokesApart$NumberRow" "java/lang/Object" ∈ lw_g := ing_2 (i := 138) rfl rfl
theorem mM_X9_103 : Cond.methodLink RX9 103 yX8_followTold ∈ lw_g := ing_2 (i := 139) rfl rfl
theorem mI_X8_followTold : Cond.instanceMethod yX8_followTold ∈ lw_g := ing_2 (i := 140) rfl rfl
theorem mS_X8_followTold : Cond.selects RX8 yX8_followTold yX8_followTold ∈ lw_g := ing_2 (i := 141) rfl rfl
theorem mC_X8_followTold : Cond.code yX8_followTold cX8_followTold 4 none ∈ lw_g := ing_2 (i := 142) rfl rfl
theorem mM_X8_18 : Cond.methodLink RX8 18 yX8_latestTold ∈ lw_g := ing_2 (i := 143) rfl rfl
theorem mT_X8_latestTold : Cond.static yX8_latestTold ∈ lw_g := ing_2 (i := 144) rfl rfl
theorem mC_X8_latestTold : Cond.code yX8_latestTold cX8_latestTold 6 (some .int) ∈ lw_g := ing_2 (i := 145) rfl rfl
theorem mF_X9_9 : Cond.fieldLink RX9 9 "SmokesApart" "tape" "[B" ∈ lw_g := ing_2 (i := 146) rfl rfl
theorem mF_X9_107 : Cond.fieldLink RX9 107 "SmokesApart" "taped" "I" ∈ lw_g := ing_2 (i := 147) rfl rfl
theorem mF_X9_16 : Cond.fieldLink RX9 16 "SmokesApart" "here" "LSmokesApart$Town;" ∈ lw_g := ing_2 (i := 148) rfl rfl
theorem mF_X9_23 : Cond.fieldLink RX9 23 "SmokesApart" "reader" "LSmokesApart$Reader;" ∈ lw_g := ing_2 (i := 149) rfl rfl
theorem mF_X9_30 : Cond.fieldLink RX9 30 "SmokesApart" "toldWinds" "LSmokesApart$Winds;" ∈ lw_g := ing_2 (i := 150) rfl rfl
theorem mF_X9_39 : Cond.fieldLink RX9 39 "SmokesApart" "plumes" "LSmokesApart$Plumes;" ∈ lw_g := ing_2 (i := 151) rfl rfl
theorem mF_X9_43 : Cond.fieldLink RX9 43 "SmokesApart" "otherWinds" "LSmokesApart$Winds;" ∈ lw_g := ing_2 (i := 152) rfl rfl
theorem mF_X9_46 : Cond.fieldLink RX9 46 "SmokesApart" "otherPlumes" "LSmokesApart$Plumes;" ∈ lw_g := ing_2 (i := 153) rfl rfl
theorem mF_X9_54 : Cond.fieldLink RX9 54 "SmokesApart" "court" "LSmokesApart$Judge;" ∈ lw_g := ing_2 (i := 154) rfl rfl
theorem mF_X9_61 : Cond.fieldLink RX9 61 "SmokesApart" "seeker" "LSmokesApart$Seeker;" ∈ lw_g := ing_2 (i := 155) rfl rfl
theorem mF_X9_68 : Cond.fieldLink RX9 68 "SmokesApart" "days" "LSmokesApart$Days;" ∈ lw_g := ing_2 (i := 156) rfl rfl
theorem mF_X9_77 : Cond.fieldLink RX9 77 "SmokesApart" "forecast" "LSmokesApart$Forecast;" ∈ lw_g := ing_2 (i := 157) rfl rfl
theorem mF_X9_83 : Cond.fieldLink RX9 83 "SmokesApart" "rows" "[LSmokesApart$NumberRow;" ∈ lw_g := ing_2 (i := 158) rfl rfl
theorem mF_X9_87 : Cond.fieldLink RX9 87 "SmokesApart" "images" "[LSmokesApart$Town;" ∈ lw_g := ing_2 (i := 159) rfl rfl
theorem mF_X9_91 : Cond.fieldLink RX9 91 "SmokesApart" "pairCodes" "[I" ∈ lw_g := ing_2 (i := 160) rfl rfl
theorem mF_X9_95 : Cond.fieldLink RX9 95 "SmokesApart" "sootRow" "[I" ∈ lw_g := ing_2 (i := 161) rfl rfl
theorem mF_X9_98 : Cond.fieldLink RX9 98 "SmokesApart" "smokyCells" "[J" ∈ lw_g := ing_2 (i := 162) rfl rfl
theorem mZ_superclass_9 : Cond.superclass "SmokesApart" "java/lang/Object" ∈ lw_g := ing_2 (i := 197) rfl rfl
theorem mM_L_13 : Cond.methodLink RL 13 yX9_feed ∈ lw_g := ing_2 (i := 198) rfl rfl
theorem mI_X9_feed : Cond.instanceMethod yX9_feed ∈ lw_g := ing_2 (i := 199) rfl rfl
theorem mS_X9_feed : Cond.selects RX9 yX9_feed yX9_feed ∈ lw_g := ing_2 (i := 200) rfl rfl
theorem mC_X9_feed : Cond.code yX9_feed cX9_feed 6 (some .int) ∈ lw_g := ing_2 (i := 201) rfl rfl
theorem mM_X9_111 : Cond.methodLink RX9 111 yX9_putOnTape ∈ lw_g := ing_2 (i := 202) rfl rfl
theorem mI_X9_putOnTape : Cond.instanceMethod yX9_putOnTape ∈ lw_g := ing_2 (i := 204) rfl rfl
theorem mC_X9_putOnTape : Cond.code yX9_putOnTape cX9_putOnTape 3 none ∈ lw_g := ing_2 (i := 205) rfl rfl
theorem mM_L_18 : Cond.methodLink RL 18 yX9_town ∈ lw_g := ing_2 (i := 206) rfl rfl
theorem mI_X9_town : Cond.instanceMethod yX9_town ∈ lw_g := ing_2 (i := 207) rfl rfl
theorem mS_X9_town : Cond.selects RX9 yX9_town yX9_town ∈ lw_g := ing_2 (i := 208) rfl rfl
theorem mC_X9_town : Cond.code yX9_town cX9_town 2 (some .int) ∈ lw_g := ing_2 (i := 209) rfl rfl
theorem mM_X9_115 : Cond.methodLink RX9 115 yX5_readText ∈ lw_g := ing_2 (i := 210) rfl rfl
theorem mI_X5_readText : Cond.instanceMethod yX5_readText ∈ lw_g := ing_2 (i := 211) rfl rfl
theorem mS_X5_readText : Cond.selects RX5 yX5_readText yX5_readText ∈ lw_g := ing_2 (i := 212) rfl rfl
theorem mC_X5_readText : Cond.code yX5_readText cX5_readText 4 none ∈ lw_g := ing_2 (i := 213) rfl rfl
theorem mM_X5_29 : Cond.methodLink RX5 29 yJ9_min_7cf53 ∈ lw_g := ing_2 (i := 214) rfl rfl
theorem mT_J9_min_7cf53 : Cond.static yJ9_min_7cf53 ∈ lw_g := ing_2 (i := 215) rfl rfl
theorem mC_J9_min_7cf53 : Cond.code yJ9_min_7cf53 cJ9_min_7cf53 2 (some .int) ∈ lw_g := ing_2 (i := 216) rfl rfl
theorem mM_X5_41 : Cond.methodLink RX5 41 yX7_begin ∈ lw_g := ing_2 (i := 217) rfl rfl
theorem mM_X5_44 : Cond.methodLink RX5 44 yX5_takeToken ∈ lw_g := ing_2 (i := 218) rfl rfl
theorem mI_X5_takeToken : Cond.instanceMethod yX5_takeToken ∈ lw_g := ing_2 (i := 220) rfl rfl
theorem mC_X5_takeToken : Cond.code yX5_takeToken cX5_takeToken 1 none ∈ lw_g := ing_2 (i := 221) rfl rfl
theorem mM_X5_130 : Cond.methodLink RX5 130 yX5_byteAt ∈ lw_g := ing_2 (i := 222) rfl rfl
theorem mI_X5_byteAt : Cond.instanceMethod yX5_byteAt ∈ lw_g := ing_2 (i := 224) rfl rfl
theorem mC_X5_byteAt : Cond.code yX5_byteAt cX5_byteAt 2 (some .int) ∈ lw_g := ing_2 (i := 225) rfl rfl
theorem mM_X5_138 : Cond.methodLink RX5 138 yX5_sortOf ∈ lw_g := ing_2 (i := 226) rfl rfl
theorem mT_X5_sortOf : Cond.static yX5_sortOf ∈ lw_g := ing_2 (i := 227) rfl rfl
theorem mC_X5_sortOf : Cond.code yX5_sortOf cX5_sortOf 1 (some .int) ∈ lw_g := ing_2 (i := 228) rfl rfl
theorem mM_X5_50 : Cond.methodLink RX5 50 yX5_readLine ∈ lw_g := ing_2 (i := 229) rfl rfl
theorem mI_X5_readLine : Cond.instanceMethod yX5_readLine ∈ lw_g := ing_2 (i := 231) rfl rfl
theorem mC_X5_readLine : Cond.code yX5_readLine cX5_readLine 1 none ∈ lw_g := ing_2 (i := 232) rfl rfl
theorem mZ_stringRef_0 : Cond.stringRef "SmokesApart$Reader" (53 : Nat) "chimney" ∈ lw_tbl := int_2 (i := 233) rfl
theorem mM_X5_55 : Cond.methodLink RX5 55 yX5_spells ∈ lw_g := ing_2 (i := 234) rfl rfl
theorem mI_X5_spells : Cond.instanceMethod yX5_spells ∈ lw_g := ing_2 (i := 236) rfl rfl
theorem mC_X5_spells : Cond.code yX5_spells cX5_spells 3 (some .boolean) ∈ lw_g := ing_2 (i := 237) rfl rfl
theorem mM_X5_125 : Cond.methodLink RX5 125 yJ0_length_8abf5 ∈ lw_g := ing_2 (i := 238) rfl rfl
theorem mI_J0_length_8abf5 : Cond.instanceMethod yJ0_length_8abf5 ∈ lw_g := ing_2 (i := 239) rfl rfl
theorem mS_J0_length_8abf5 : Cond.selects RJ0 yJ0_length_8abf5 yJ0_length_8abf5 ∈ lw_g := ing_3 (i := 0) rfl rfl
theorem mC_J0_length_8abf5 : Cond.code yJ0_length_8abf5 cJ0_length_8abf5 1 (some .int) ∈ lw_g := ing_3 (i := 1) rfl rfl
theorem mM_J0_335 : Cond.methodLink RJ0 335 yJ0_coder_7d493 ∈ lw_g := ing_3 (i := 2) rfl rfl
theorem mI_J0_coder_7d493 : Cond.instanceMethod yJ0_coder_7d493 ∈ lw_g := ing_3 (i := 3) rfl rfl
theorem mS_J0_coder_7d493 : Cond.selects RJ0 yJ0_coder_7d493 yJ0_coder_7d493 ∈ lw_g := ing_3 (i := 4) rfl rfl
theorem mC_J0_coder_7d493 : Cond.code yJ0_coder_7d493 cJ0_coder_7d493 1 (some .byte) ∈ lw_g := ing_3 (i := 5) rfl rfl
theorem mF_J0_38 : Cond.fieldLink RJ0 38 "java/lang/String" "COMPACT_STRINGS" "Z" ∈ lw_g := ing_3 (i := 6) rfl rfl
theorem mZ_laysStatic_0 : Cond.laysStatic "java/lang/String" "COMPACT_STRINGS" "Z" ∈ lw_tbl := int_3 (i := 7) rfl
theorem mM_X5_134 : Cond.methodLink RX5 134 yJ0_charAt_5068e ∈ lw_g := ing_3 (i := 8) rfl rfl
theorem mI_J0_charAt_5068e : Cond.instanceMethod yJ0_charAt_5068e ∈ lw_g := ing_3 (i := 9) rfl rfl
theorem mS_J0_charAt_5068e : Cond.selects RJ0 yJ0_charAt_5068e yJ0_charAt_5068e ∈ lw_g := ing_3 (i := 10) rfl rfl
theorem mC_J0_charAt_5068e : Cond.code yJ0_charAt_5068e cJ0_charAt_5068e 2 (some .char) ∈ lw_g := ing_3 (i := 11) rfl rfl
theorem mM_J0_492 : Cond.methodLink RJ0 492 yJ0_isLatin1_aae02 ∈ lw_g := ing_3 (i := 12) rfl rfl
theorem mI_J0_isLatin1_aae02 : Cond.instanceMethod yJ0_isLatin1_aae02 ∈ lw_g := ing_3 (i := 13) rfl rfl
theorem mS_J0_isLatin1_aae02 : Cond.selects RJ0 yJ0_isLatin1_aae02 yJ0_isLatin1_aae02 ∈ lw_g := ing_3 (i := 14) rfl rfl
theorem mC_J0_isLatin1_aae02 : Cond.code yJ0_isLatin1_aae02 cJ0_isLatin1_aae02 1 (some .boolean) ∈ lw_g := ing_3 (i := 15) rfl rfl
theorem mM_J0_495 : Cond.methodLink RJ0 495 yJ1_charAt_3b067 ∈ lw_g := ing_3 (i := 16) rfl rfl
theorem mT_J1_charAt_3b067 : Cond.static yJ1_charAt_3b067 ∈ lw_g := ing_3 (i := 17) rfl rfl
theorem mC_J1_charAt_3b067 : Cond.code yJ1_charAt_3b067 cJ1_charAt_3b067 2 (some .char) ∈ lw_g := ing_3 (i := 18) rfl rfl
theorem mM_J1_9 : Cond.methodLink RJ1 9 yJ0_checkIndex_df160 ∈ lw_g := ing_3 (i := 19) rfl rfl
theorem mT_J0_checkIndex_df160 : Cond.static yJ0_checkIndex_df160 ∈ lw_g := ing_3 (i := 20) rfl rfl
theorem mC_J0_checkIndex_df160 : Cond.code yJ0_checkIndex_df160 cJ0_checkIndex_df160 2 none ∈ lw_g := ing_3 (i := 21) rfl rfl
theorem mF_J0_1053 : Cond.fieldLink RJ0 1053 "jdk/internal/util/Preconditions" "SIOOBE_FORMATTER" "Ljava/util/function/BiFunction;" ∈ lw_g := ing_3 (i := 22) rfl rfl
theorem mZ_laysStatic_1 : Cond.laysStatic "jdk/internal/util/Preconditions" "SIOOBE_FORMATTER" "Ljava/util/function/BiFunction;" ∈ lw_tbl := int_3 (i := 23) rfl
theorem mM_J0_1059 : Cond.methodLink RJ0 1059 yJ3_checkIndex_8e157 ∈ lw_g := ing_3 (i := 24) rfl rfl
theorem mT_J3_checkIndex_8e157 : Cond.static yJ3_checkIndex_8e157 ∈ lw_g := ing_3 (i := 25) rfl rfl
theorem mC_J3_checkIndex_8e157 : Cond.code yJ3_checkIndex_8e157 cJ3_checkIndex_8e157 3 (some .int) ∈ lw_g := ing_3 (i := 26) rfl rfl
theorem mM_J0_498 : Cond.methodLink RJ0 498 yJ2_charAt_3b067 ∈ lw_g := ing_3 (i := 27) rfl rfl
theorem mT_J2_charAt_3b067 : Cond.static yJ2_charAt_3b067 ∈ lw_g := ing_3 (i := 28) rfl rfl
theorem mC_J2_charAt_3b067 : Cond.code yJ2_charAt_3b067 cJ2_charAt_3b067 2 (some .char) ∈ lw_g := ing_3 (i := 29) rfl rfl
theorem mM_J2_67 : Cond.methodLink RJ2 67 yJ2_checkIndex_2214a ∈ lw_g := ing_3 (i := 30) rfl rfl
theorem mT_J2_checkIndex_2214a : Cond.static yJ2_checkIndex_2214a ∈ lw_g := ing_3 (i := 31) rfl rfl
theorem mC_J2_checkIndex_2214a : Cond.code yJ2_checkIndex_2214a cJ2_checkIndex_2214a 2 none ∈ lw_g := ing_3 (i := 32) rfl rfl
theorem mM_J2_48 : Cond.methodLink RJ2 48 yJ2_length_9d52b ∈ lw_g := ing_3 (i := 33) rfl rfl
theorem mT_J2_length_9d52b : Cond.static yJ2_length_9d52b ∈ lw_g := ing_3 (i := 34) rfl rfl
theorem mC_J2_length_9d52b : Cond.code yJ2_length_9d52b cJ2_length_9d52b 1 (some .int) ∈ lw_g := ing_3 (i := 35) rfl rfl
theorem mM_J2_414 : Cond.methodLink RJ2 414 yJ0_checkIndex_df160 ∈ lw_g := ing_3 (i := 36) rfl rfl
theorem mM_J2_71 : Cond.methodLink RJ2 71 yJ2_getChar_3b067 ∈ lw_g := ing_3 (i := 37) rfl rfl
theorem mT_J2_getChar_3b067 : Cond.static yJ2_getChar_3b067 ∈ lw_g := ing_3 (i := 38) rfl rfl
theorem mC_J2_getChar_3b067 : Cond.code yJ2_getChar_3b067 cJ2_getChar_3b067 2 (some .char) ∈ lw_g := ing_3 (i := 39) rfl rfl
theorem mF_J2_44 : Cond.fieldLink RJ2 44 "java/lang/StringUTF16" "$assertionsDisabled" "Z" ∈ lw_g := ing_3 (i := 40) rfl rfl
theorem mZ_laysStatic_2 : Cond.laysStatic "java/lang/StringUTF16" "$assertionsDisabled" "Z" ∈ lw_tbl := int_3 (i := 41) rfl
theorem mF_J2_59 : Cond.fieldLink RJ2 59 "java/lang/StringUTF16" "HI_BYTE_SHIFT" "I" ∈ lw_g := ing_3 (i := 42) rfl rfl
theorem mZ_laysStatic_3 : Cond.laysStatic "java/lang/StringUTF16" "HI_BYTE_SHIFT" "I" ∈ lw_tbl := int_3 (i := 43) rfl
theorem mF_J2_63 : Cond.fieldLink RJ2 63 "java/lang/StringUTF16" "LO_BYTE_SHIFT" "I" ∈ lw_g := ing_3 (i := 44) rfl rfl
theorem mZ_laysStatic_4 : Cond.laysStatic "java/lang/StringUTF16" "LO_BYTE_SHIFT" "I" ∈ lw_tbl := int_3 (i := 45) rfl
theorem mM_X5_59 : Cond.methodLink RX5 59 yX5_readChimney ∈ lw_g := ing_3 (i := 46) rfl rfl
theorem mI_X5_readChimney : Cond.instanceMethod yX5_readChimney ∈ lw_g := ing_3 (i := 48) rfl rfl
theorem mC_X5_readChimney : Cond.code yX5_readChimney cX5_readChimney 5 none ∈ lw_g := ing_3 (i := 49) rfl rfl
theorem mM_X5_82 : Cond.methodLink RX5 82 yX5_blame ∈ lw_g := ing_3 (i := 50) rfl rfl
theorem mI_X5_blame : Cond.instanceMethod yX5_blame ∈ lw_g := ing_3 (i := 52) rfl rfl
theorem mC_X5_blame : Cond.code yX5_blame cX5_blame 2 none ∈ lw_g := ing_3 (i := 53) rfl rfl
theorem mM_X5_92 : Cond.methodLink RX5 92 yX5_number ∈ lw_g := ing_3 (i := 54) rfl rfl
theorem mI_X5_number : Cond.instanceMethod yX5_number ∈ lw_g := ing_3 (i := 56) rfl rfl
theorem mC_X5_number : Cond.code yX5_number cX5_number 3 (some .int) ∈ lw_g := ing_3 (i := 57) rfl rfl
theorem mM_X5_95 : Cond.methodLink RX5 95 yX7_addChimney ∈ lw_g := ing_3 (i := 58) rfl rfl
theorem mI_X7_addChimney : Cond.instanceMethod yX7_addChimney ∈ lw_g := ing_3 (i := 59) rfl rfl
theorem mS_X7_addChimney : Cond.selects RX7 yX7_addChimney yX7_addChimney ∈ lw_g := ing_3 (i := 60) rfl rfl
theorem mC_X7_addChimney : Cond.code yX7_addChimney cX7_addChimney 3 none ∈ lw_g := ing_3 (i := 61) rfl rfl
theorem mM_X5_99 : Cond.methodLink RX5 99 yX7_addSmoke ∈ lw_g := ing_3 (i := 62) rfl rfl
theorem mI_X7_addSmoke : Cond.instanceMethod yX7_addSmoke ∈ lw_g := ing_3 (i := 63) rfl rfl
theorem mS_X7_addSmoke : Cond.selects RX7 yX7_addSmoke yX7_addSmoke ∈ lw_g := ing_3 (i := 64) rfl rfl
theorem mC_X7_addSmoke : Cond.code yX7_addSmoke cX7_addSmoke 3 none ∈ lw_g := ing_3 (i := 65) rfl rfl
theorem mM_X5_102 : Cond.methodLink RX5 102 yX5_readFurtherSmoke ∈ lw_g := ing_3 (i := 66) rfl rfl
theorem mI_X5_readFurtherSmoke : Cond.instanceMethod yX5_readFurtherSmoke ∈ lw_g := ing_3 (i := 68) rfl rfl
theorem mC_X5_readFurtherSmoke : Cond.code yX5_readFurtherSmoke cX5_readFurtherSmoke 2 none ∈ lw_g := ing_3 (i := 69) rfl rfl
theorem mZ_stringRef_1 : Cond.stringRef "SmokesApart$Reader" (105 : Nat) "from" ∈ lw_tbl := int_3 (i := 70) rfl
theorem mM_X5_69 : Cond.methodLink RX5 69 yX5_onlyNumber ∈ lw_g := ing_3 (i := 71) rfl rfl
theorem mI_X5_onlyNumber : Cond.instanceMethod yX5_onlyNumber ∈ lw_g := ing_3 (i := 73) rfl rfl
theorem mC_X5_onlyNumber : Cond.code yX5_onlyNumber cX5_onlyNumber 4 (some .int) ∈ lw_g := ing_3 (i := 74) rfl rfl
theorem mZ_stringRef_2 : Cond.stringRef "SmokesApart$Reader" (107 : Nat) "to" ∈ lw_tbl := int_3 (i := 75) rfl
theorem mM_X5_109 : Cond.methodLink RX5 109 yX7_bound ∈ lw_g := ing_3 (i := 76) rfl rfl
theorem mI_X7_bound : Cond.instanceMethod yX7_bound ∈ lw_g := ing_3 (i := 77) rfl rfl
theorem mS_X7_bound : Cond.selects RX7 yX7_bound yX7_bound ∈ lw_g := ing_3 (i := 78) rfl rfl
theorem mC_X7_bound : Cond.code yX7_bound cX7_bound 3 none ∈ lw_g := ing_3 (i := 79) rfl rfl
theorem mZ_stringRef_3 : Cond.stringRef "SmokesApart$Reader" (62 : Nat) "wind" ∈ lw_tbl := int_3 (i := 80) rfl
theorem mM_X5_64 : Cond.methodLink RX5 64 yX5_readWind ∈ lw_g := ing_3 (i := 81) rfl rfl
theorem mI_X5_readWind : Cond.instanceMethod yX5_readWind ∈ lw_g := ing_3 (i := 83) rfl rfl
theorem mC_X5_readWind : Cond.code yX5_readWind cX5_readWind 4 none ∈ lw_g := ing_3 (i := 84) rfl rfl
theorem mM_X5_118 : Cond.methodLink RX5 118 yX7_addWind ∈ lw_g := ing_3 (i := 85) rfl rfl
theorem mI_X7_addWind : Cond.instanceMethod yX7_addWind ∈ lw_g := ing_3 (i := 86) rfl rfl
theorem mS_X7_addWind : Cond.selects RX7 yX7_addWind yX7_addWind ∈ lw_g := ing_3 (i := 87) rfl rfl
theorem mC_X7_addWind : Cond.code yX7_addWind cX7_addWind 4 none ∈ lw_g := ing_3 (i := 88) rfl rfl
theorem mZ_stringRef_4 : Cond.stringRef "SmokesApart$Reader" (67 : Nat) "layer" ∈ lw_tbl := int_3 (i := 89) rfl
theorem mZ_stringRef_5 : Cond.stringRef "SmokesApart$Reader" (74 : Nat) "thick" ∈ lw_tbl := int_3 (i := 90) rfl
theorem mZ_stringRef_6 : Cond.stringRef "SmokesApart$Reader" (78 : Nat) "fine" ∈ lw_tbl := int_3 (i := 91) rfl
theorem mM_X9_125 : Cond.methodLink RX9 125 yX9_settle ∈ lw_g := ing_3 (i := 92) rfl rfl
theorem mI_X9_settle : Cond.instanceMethod yX9_settle ∈ lw_g := ing_3 (i := 94) rfl rfl
theorem mC_X9_settle : Cond.code yX9_settle cX9_settle 2 none ∈ lw_g := ing_3 (i := 95) rfl rfl
theorem mM_X9_372 : Cond.methodLink RX9 372 yX7_takeFrom ∈ lw_g := ing_3 (i := 96) rfl rfl
theorem mI_X7_takeFrom : Cond.instanceMethod yX7_takeFrom ∈ lw_g := ing_3 (i := 97) rfl rfl
theorem mS_X7_takeFrom : Cond.selects RX7 yX7_takeFrom yX7_takeFrom ∈ lw_g := ing_3 (i := 98) rfl rfl
theorem mC_X7_takeFrom : Cond.code yX7_takeFrom cX7_takeFrom 2 none ∈ lw_g := ing_3 (i := 99) rfl rfl
theorem mM_X7_64 : Cond.methodLink RX7 64 arraycopyName ∈ lw_g := ing_3 (i := 100) rfl rfl
theorem mT_arraycopy : Cond.static arraycopyName ∈ lw_g := ing_3 (i := 101) rfl rfl
theorem mZ_native_0 : Cond.native ({ cls := "java/lang/System", name := "arraycopy", desc := "(Ljava/lang/Object;ILjava/lang/Object;II)V" } : MethodName) ∈ lw_g := ing_3 (i := 102) rfl rfl
theorem mM_X9_393 : Cond.methodLink RX9 393 yX4_layAll ∈ lw_g := ing_3 (i := 103) rfl rfl
theorem mI_X4_layAll : Cond.instanceMethod yX4_layAll ∈ lw_g := ing_3 (i := 104) rfl rfl
theorem mS_X4_layAll : Cond.selects RX4 yX4_layAll yX4_layAll ∈ lw_g := ing_3 (i := 105) rfl rfl
theorem mC_X4_layAll : Cond.code yX4_layAll cX4_layAll 2 none ∈ lw_g := ing_3 (i := 106) rfl rfl
theorem mM_X4_32 : Cond.methodLink RX4 32 yX4_layWhole ∈ lw_g := ing_3 (i := 107) rfl rfl
theorem mI_X4_layWhole : Cond.instanceMethod yX4_layWhole ∈ lw_g := ing_3 (i := 108) rfl rfl
theorem mS_X4_layWhole : Cond.selects RX4 yX4_layWhole yX4_layWhole ∈ lw_g := ing_3 (i := 109) rfl rfl
theorem mC_X4_layWhole : Cond.code yX4_layWhole cX4_layWhole 2 none ∈ lw_g := ing_3 (i := 110) rfl rfl
theorem mM_X4_36 : Cond.methodLink RX4 36 yX7_has ∈ lw_g := ing_3 (i := 111) rfl rfl
theorem mI_X7_has : Cond.instanceMethod yX7_has ∈ lw_g := ing_3 (i := 112) rfl rfl
theorem mS_X7_has : Cond.selects RX7 yX7_has yX7_has ∈ lw_g := ing_3 (i := 113) rfl rfl
theorem mC_X7_has : Cond.code yX7_has cX7_has 2 (some .boolean) ∈ lw_g := ing_3 (i := 114) rfl rfl
theorem mM_X4_50 : Cond.methodLink RX4 50 yX4_layWays ∈ lw_g := ing_3 (i := 115) rfl rfl
theorem mI_X4_layWays : Cond.instanceMethod yX4_layWays ∈ lw_g := ing_3 (i := 117) rfl rfl
theorem mC_X4_layWays : Cond.code yX4_layWays cX4_layWays 6 none ∈ lw_g := ing_3 (i := 118) rfl rfl
theorem mM_X4_64 : Cond.methodLink RX4 64 yJ9_max_7cf53 ∈ lw_g := ing_3 (i := 119) rfl rfl
theorem mT_J9_max_7cf53 : Cond.static yJ9_max_7cf53 ∈ lw_g := ing_3 (i := 120) rfl rfl
theorem mC_J9_max_7cf53 : Cond.code yJ9_max_7cf53 cJ9_max_7cf53 2 (some .int) ∈ lw_g := ing_3 (i := 121) rfl rfl
theorem mM_X4_70 : Cond.methodLink RX4 70 yJ9_min_7cf53 ∈ lw_g := ing_3 (i := 122) rfl rfl
theorem mM_X4_73 : Cond.methodLink RX4 73 yX4_layWay ∈ lw_g := ing_3 (i := 123) rfl rfl
theorem mI_X4_layWay : Cond.instanceMethod yX4_layWay ∈ lw_g := ing_3 (i := 125) rfl rfl
theorem mC_X4_layWay : Cond.code yX4_layWay cX4_layWay 8 none ∈ lw_g := ing_3 (i := 126) rfl rfl
theorem mH_X4_90 : Cond.methodLinkNest RX4 90 yX9_isX "SmokesApart" ∈ lw_tbl := int_3 (i := 127) rfl
theorem mT_X9_isX : Cond.static yX9_isX ∈ lw_g := ing_3 (i := 128) rfl rfl
theorem mC_X9_isX : Cond.code yX9_isX cX9_isX 1 (some .boolean) ∈ lw_g := ing_3 (i := 129) rfl rfl
theorem mM_L_23 : Cond.methodLink RL 23 yX9_fault ∈ lw_g := ing_3 (i := 130) rfl rfl
theorem mI_X9_fault : Cond.instanceMethod yX9_fault ∈ lw_g := ing_3 (i := 131) rfl rfl
theorem mS_X9_fault : Cond.selects RX9 yX9_fault yX9_fault ∈ lw_g := ing_3 (i := 132) rfl rfl
theorem mC_X9_fault : Cond.code yX9_fault cX9_fault 2 (some .int) ∈ lw_g := ing_3 (i := 133) rfl rfl
theorem mM_L_27 : Cond.methodLink RL 27 yX9_chimney ∈ lw_g := ing_3 (i := 134) rfl rfl
theorem mI_X9_chimney : Cond.instanceMethod yX9_chimney ∈ lw_g := ing_3 (i := 135) rfl rfl
theorem mS_X9_chimney : Cond.selects RX9 yX9_chimney yX9_chimney ∈ lw_g := ing_3 (i := 136) rfl rfl
theorem mC_X9_chimney : Cond.code yX9_chimney cX9_chimney 4 (some .int) ∈ lw_g := ing_3 (i := 137) rfl rfl
theorem mM_X9_134 : Cond.methodLink RX9 134 yX7_has ∈ lw_g := ing_3 (i := 138) rfl rfl
theorem mM_X9_156 : Cond.methodLink RX9 156 yX7_smokeOf ∈ lw_g := ing_3 (i := 139) rfl rfl
theorem mI_X7_smokeOf : Cond.instanceMethod yX7_smokeOf ∈ lw_g := ing_3 (i := 140) rfl rfl
theorem mS_X7_smokeOf : Cond.selects RX7 yX7_smokeOf yX7_smokeOf ∈ lw_g := ing_3 (i := 141) rfl rfl
theorem mC_X7_smokeOf : Cond.code yX7_smokeOf cX7_smokeOf 3 (some .int) ∈ lw_g := ing_3 (i := 142) rfl rfl
theorem mM_X7_70 : Cond.methodLink RX7 70 yX7_has ∈ lw_g := ing_3 (i := 143) rfl rfl
theorem mM_L_32 : Cond.methodLink RL 32 yX9_wind ∈ lw_g := ing_3 (i := 144) rfl rfl
theorem mI_X9_wind : Cond.instanceMethod yX9_wind ∈ lw_g := ing_3 (i := 145) rfl rfl
theorem mS_X9_wind : Cond.selects RX9 yX9_wind yX9_wind ∈ lw_g := ing_3 (i := 146) rfl rfl
theorem mC_X9_wind : Cond.code yX9_wind cX9_wind 3 (some .int) ∈ lw_g := ing_3 (i := 147) rfl rfl
theorem mM_X9_160 : Cond.methodLink RX9 160 yX9_isQuarter ∈ lw_g := ing_3 (i := 148) rfl rfl
theorem mT_X9_isQuarter : Cond.static yX9_isQuarter ∈ lw_g := ing_3 (i := 149) rfl rfl
theorem mC_X9_isQuarter : Cond.code yX9_isQuarter cX9_isQuarter 1 (some .boolean) ∈ lw_g := ing_3 (i := 150) rfl rfl
theorem mM_L_37 : Cond.methodLink RL 37 yX9_light ∈ lw_g := ing_3 (i := 151) rfl rfl
theorem mI_X9_light : Cond.instanceMethod yX9_light ∈ lw_g := ing_3 (i := 152) rfl rfl
theorem mS_X9_light : Cond.selects RX9 yX9_light yX9_light ∈ lw_g := ing_3 (i := 153) rfl rfl
theorem mC_X9_light : Cond.code yX9_light cX9_light 3 (some .int) ∈ lw_g := ing_3 (i := 154) rfl rfl
theorem mM_X9_169 : Cond.methodLink RX9 169 yX7_isLit ∈ lw_g := ing_3 (i := 155) rfl rfl
theorem mI_X7_isLit : Cond.instanceMethod yX7_isLit ∈ lw_g := ing_3 (i := 156) rfl rfl
theorem mS_X7_isLit : Cond.selects RX7 yX7_isLit yX7_isLit ∈ lw_g := ing_3 (i := 157) rfl rfl
theorem mC_X7_isLit : Cond.code yX7_isLit cX7_isLit 2 (some .boolean) ∈ lw_g := ing_3 (i := 158) rfl rfl
theorem mM_X9_172 : Cond.methodLink RX9 172 yX7_mayBeLit ∈ lw_g := ing_3 (i := 159) rfl rfl
theorem mI_X7_mayBeLit : Cond.instanceMethod yX7_mayBeLit ∈ lw_g := ing_3 (i := 160) rfl rfl
theorem mS_X7_mayBeLit : Cond.selects RX7 yX7_mayBeLit yX7_mayBeLit ∈ lw_g := ing_3 (i := 161) rfl rfl
theorem mC_X7_mayBeLit : Cond.code yX7_mayBeLit cX7_mayBeLit 3 (some .boolean) ∈ lw_g := ing_3 (i := 162) rfl rfl
theorem mM_L_41 : Cond.methodLink RL 41 yX9_out ∈ lw_g := ing_3 (i := 163) rfl rfl
theorem mI_X9_out : Cond.instanceMethod yX9_out ∈ lw_g := ing_3 (i := 164) rfl rfl
theorem mS_X9_out : Cond.selects RX9 yX9_out yX9_out ∈ lw_g := ing_3 (i := 165) rfl rfl
theorem mC_X9_out : Cond.code yX9_out cX9_out 3 (some .int) ∈ lw_g := ing_3 (i := 166) rfl rfl
theorem mM_L_45 : Cond.methodLink RL 45 yX9_judge ∈ lw_g := ing_3 (i := 167) rfl rfl
theorem mI_X9_judge : Cond.instanceMethod yX9_judge ∈ lw_g := ing_3 (i := 168) rfl rfl
theorem mS_X9_judge : Cond.selects RX9 yX9_judge yX9_judge ∈ lw_g := ing_3 (i := 169) rfl rfl
theorem mC_X9_judge : Cond.code yX9_judge cX9_judge 4 (some .int) ∈ lw_g := ing_3 (i := 170) rfl rfl
theorem mM_X9_176 : Cond.methodLink RX9 176 yX9_rowAt ∈ lw_g := ing_3 (i := 171) rfl rfl
theorem mI_X9_rowAt : Cond.instanceMethod yX9_rowAt ∈ lw_g := ing_3 (i := 173) rfl rfl
theorem mC_X9_rowAt : Cond.code yX9_rowAt cX9_rowAt 2 (some (.object "SmokesApart$NumberRow")) ∈ lw_g := ing_3 (i := 174) rfl rfl
theorem mM_X9_180 : Cond.methodLink RX9 180 yX3_isMissing ∈ lw_g := ing_3 (i := 175) rfl rfl
theorem mI_X3_isMissing : Cond.instanceMethod yX3_isMissing ∈ lw_g := ing_3 (i := 176) rfl rfl
theorem mS_X3_isMissing : Cond.selects RX3 yX3_isMissing yX3_isMissing ∈ lw_g := ing_3 (i := 177) rfl rfl
theorem mC_X3_isMissing : Cond.code yX3_isMissing cX3_isMissing 1 (some .boolean) ∈ lw_g := ing_3 (i := 178) rfl rfl
theorem mM_X9_184 : Cond.methodLink RX9 184 yX2_lightRow ∈ lw_g := ing_3 (i := 179) rfl rfl
theorem mI_X2_lightRow : Cond.instanceMethod yX2_lightRow ∈ lw_g := ing_3 (i := 180) rfl rfl
theorem mS_X2_lightRow : Cond.selects RX2 yX2_lightRow yX2_lightRow ∈ lw_g := ing_3 (i := 181) rfl rfl
theorem mC_X2_lightRow : Cond.code yX2_lightRow cX2_lightRow 6 (some .int) ∈ lw_g := ing_3 (i := 182) rfl rfl
theorem mM_X2_32 : Cond.methodLink RX2 32 arraycopyName ∈ lw_g := ing_3 (i := 183) rfl rfl
theorem mM_X2_46 : Cond.methodLink RX2 46 yX3_at ∈ lw_g := ing_3 (i := 184) rfl rfl
theorem mI_X3_at : Cond.instanceMethod yX3_at ∈ lw_g := ing_3 (i := 185) rfl rfl
theorem mS_X3_at : Cond.selects RX3 yX3_at yX3_at ∈ lw_g := ing_3 (i := 186) rfl rfl
theorem mC_X3_at : Cond.code yX3_at cX3_at 2 (some .long) ∈ lw_g := ing_3 (i := 187) rfl rfl
theorem mM_X3_28 : Cond.methodLink RX3 28 yX3_hasPlace ∈ lw_g := ing_3 (i := 188) rfl rfl
theorem mI_X3_hasPlace : Cond.instanceMethod yX3_hasPlace ∈ lw_g := ing_3 (i := 189) rfl rfl
theorem mS_X3_hasPlace : Cond.selects RX3 yX3_hasPlace yX3_hasPlace ∈ lw_g := ing_3 (i := 190) rfl rfl
theorem mC_X3_hasPlace : Cond.code yX3_hasPlace cX3_hasPlace 2 (some .boolean) ∈ lw_g := ing_3 (i := 191) rfl rfl
theorem mM_X2_50 : Cond.methodLink RX2 50 yX2_obstacle ∈ lw_g := ing_3 (i := 192) rfl rfl
theorem mI_X2_obstacle : Cond.instanceMethod yX2_obstacle ∈ lw_g := ing_3 (i := 194) rfl rfl
theorem mC_X2_obstacle : Cond.code yX2_obstacle cX2_obstacle 7 (some .int) ∈ lw_g := ing_3 (i := 195) rfl rfl
theorem mK_X2_54 : Cond.constantLong RX2 54 (31 : Int64) ∈ lw_g := ing_3 (i := 196) rfl rfl
theorem mH_X2_66 : Cond.methodLinkNest RX2 66 yX9_isLightingQuarter "SmokesApart" ∈ lw_tbl := int_3 (i := 197) rfl
theorem mT_X9_isLightingQuarter : Cond.static yX9_isLightingQuarter ∈ lw_g := ing_3 (i := 198) rfl rfl
theorem mC_X9_isLightingQuarter : Cond.code yX9_isLightingQuarter cX9_isLightingQuarter 1 (some .boolean) ∈ lw_g := ing_3 (i := 199) rfl rfl
theorem mM_X2_70 : Cond.methodLink RX2 70 yX7_isLit ∈ lw_g := ing_3 (i := 200) rfl rfl
theorem mM_X2_73 : Cond.methodLink RX2 73 yX7_mayBeLit ∈ lw_g := ing_3 (i := 201) rfl rfl
theorem mM_X2_77 : Cond.methodLink RX2 77 yX4_freeQuarters ∈ lw_g := ing_3 (i := 202) rfl rfl
theorem mI_X4_freeQuarters : Cond.instanceMethod yX4_freeQuarters ∈ lw_g := ing_3 (i := 203) rfl rfl
theorem mS_X4_freeQuarters : Cond.selects RX4 yX4_freeQuarters yX4_freeQuarters ∈ lw_g := ing_3 (i := 204) rfl rfl
theorem mC_X4_freeQuarters : Cond.code yX4_freeQuarters cX4_freeQuarters 4 (some .int) ∈ lw_g := ing_3 (i := 205) rfl rfl
theorem mM_X4_54 : Cond.methodLink RX4 54 yX7_isLit ∈ lw_g := ing_3 (i := 206) rfl rfl
theorem mM_X4_133 : Cond.methodLink RX4 133 yX4_clashesWithLit ∈ lw_g := ing_3 (i := 207) rfl rfl
theorem mI_X4_clashesWithLit : Cond.instanceMethod yX4_clashesWithLit ∈ lw_g := ing_3 (i := 209) rfl rfl
theorem mC_X4_clashesWithLit : Cond.code yX4_clashesWithLit cX4_clashesWithLit 8 (some .int) ∈ lw_g := ing_3 (i := 210) rfl rfl
theorem mM_X4_103 : Cond.methodLink RX4 103 yX4_levelBeginning ∈ lw_g := ing_3 (i := 211) rfl rfl
theorem mI_X4_levelBeginning : Cond.instanceMethod yX4_levelBeginning ∈ lw_g := ing_3 (i := 212) rfl rfl
theorem mS_X4_levelBeginning : Cond.selects RX4 yX4_levelBeginning yX4_levelBeginning ∈ lw_g := ing_3 (i := 213) rfl rfl
theorem mC_X4_levelBeginning : Cond.code yX4_levelBeginning cX4_levelBeginning 4 (some .int) ∈ lw_g := ing_3 (i := 214) rfl rfl
theorem mM_X4_106 : Cond.methodLink RX4 106 yX4_meeting ∈ lw_g := ing_3 (i := 215) rfl rfl
theorem mI_X4_meeting : Cond.instanceMethod yX4_meeting ∈ lw_g := ing_3 (i := 216) rfl rfl
theorem mS_X4_meeting : Cond.selects RX4 yX4_meeting yX4_meeting ∈ lw_g := ing_3 (i := 217) rfl rfl
theorem mC_X4_meeting : Cond.code yX4_meeting cX4_meeting 8 (some .int) ∈ lw_g := ing_3 (i := 218) rfl rfl
theorem mM_X4_100 : Cond.methodLink RX4 100 yX4_xOnWay ∈ lw_g := ing_3 (i := 219) rfl rfl
theorem mI_X4_xOnWay : Cond.instanceMethod yX4_xOnWay ∈ lw_g := ing_3 (i := 221) rfl rfl
theorem mC_X4_xOnWay : Cond.code yX4_xOnWay cX4_xOnWay 5 (some .int) ∈ lw_g := ing_3 (i := 222) rfl rfl
theorem mM_X4_93 : Cond.methodLink RX4 93 yX7_smokeOf ∈ lw_g := ing_3 (i := 223) rfl rfl
theorem mM_X4_130 : Cond.methodLink RX4 130 yX4_lightingsThatTouch ∈ lw_g := ing_3 (i := 224) rfl rfl
theorem mI_X4_lightingsThatTouch : Cond.instanceMethod yX4_lightingsThatTouch ∈ lw_g := ing_3 (i := 225) rfl rfl
theorem mS_X4_lightingsThatTouch : Cond.selects RX4 yX4_lightingsThatTouch yX4_lightingsThatTouch ∈ lw_g := ing_3 (i := 226) rfl rfl
theorem mC_X4_lightingsThatTouch : Cond.code yX4_lightingsThatTouch cX4_lightingsThatTouch 8 (some .int) ∈ lw_g := ing_3 (i := 227) rfl rfl
theorem mM_X4_126 : Cond.methodLink RX4 126 yX7_mayBeLit ∈ lw_g := ing_3 (i := 228) rfl rfl
theorem mM_X2_56 : Cond.methodLink RX2 56 yX7_litCount ∈ lw_g := ing_3 (i := 229) rfl rfl
theorem mI_X7_litCount : Cond.instanceMethod yX7_litCount ∈ lw_g := ing_3 (i := 230) rfl rfl
theorem mS_X7_litCount : Cond.selects RX7 yX7_litCount yX7_litCount ∈ lw_g := ing_3 (i := 231) rfl rfl
theorem mC_X7_litCount : Cond.code yX7_litCount cX7_litCount 3 (some .int) ∈ lw_g := ing_3 (i := 232) rfl rfl
theorem mM_X7_74 : Cond.methodLink RX7 74 yX7_isLit ∈ lw_g := ing_3 (i := 233) rfl rfl
theorem mM_L_49 : Cond.methodLink RL 49 yX9_perform ∈ lw_g := ing_3 (i := 234) rfl rfl
theorem mI_X9_perform : Cond.instanceMethod yX9_perform ∈ lw_g := ing_3 (i := 235) rfl rfl
theorem mS_X9_perform : Cond.selects RX9 yX9_perform yX9_perform ∈ lw_g := ing_3 (i := 236) rfl rfl
theorem mC_X9_perform : Cond.code yX9_perform cX9_perform 3 (some .int) ∈ lw_g := ing_3 (i := 237) rfl rfl
theorem mM_L_53 : Cond.methodLink RL 53 yX9_smoke ∈ lw_g := ing_3 (i := 238) rfl rfl
theorem mI_X9_smoke : Cond.instanceMethod yX9_smoke ∈ lw_g := ing_3 (i := 239) rfl rfl
theorem mS_X9_smoke : Cond.selects RX9 yX9_smoke yX9_smoke ∈ lw_g := ing_4 (i := 0) rfl rfl
theorem mC_X9_smoke : Cond.code yX9_smoke cX9_smoke 7 (some .int) ∈ lw_g := ing_4 (i := 1) rfl rfl
theorem mM_X9_195 : Cond.methodLink RX9 195 yX9_isX ∈ lw_g := ing_4 (i := 2) rfl rfl
theorem mM_X9_201 : Cond.methodLink RX9 201 yX4_xOfPuff ∈ lw_g := ing_4 (i := 3) rfl rfl
theorem mI_X4_xOfPuff : Cond.instanceMethod yX4_xOfPuff ∈ lw_g := ing_4 (i := 4) rfl rfl
theorem mS_X4_xOfPuff : Cond.selects RX4 yX4_xOfPuff yX4_xOfPuff ∈ lw_g := ing_4 (i := 5) rfl rfl
theorem mC_X4_xOfPuff : Cond.code yX4_xOfPuff cX4_xOfPuff 4 (some .int) ∈ lw_g := ing_4 (i := 6) rfl rfl
theorem mM_X4_96 : Cond.methodLink RX4 96 yX4_thicknessOfPuff ∈ lw_g := ing_4 (i := 7) rfl rfl
theorem mI_X4_thicknessOfPuff : Cond.instanceMethod yX4_thicknessOfPuff ∈ lw_g := ing_4 (i := 8) rfl rfl
theorem mS_X4_thicknessOfPuff : Cond.selects RX4 yX4_thicknessOfPuff yX4_thicknessOfPuff ∈ lw_g := ing_4 (i := 9) rfl rfl
theorem mC_X4_thicknessOfPuff : Cond.code yX4_thicknessOfPuff cX4_thicknessOfPuff 5 (some .int) ∈ lw_g := ing_4 (i := 10) rfl rfl
theorem mM_X9_205 : Cond.methodLink RX9 205 yX4_heightOfPuff ∈ lw_g := ing_4 (i := 11) rfl rfl
theorem mI_X4_heightOfPuff : Cond.instanceMethod yX4_heightOfPuff ∈ lw_g := ing_4 (i := 12) rfl rfl
theorem mS_X4_heightOfPuff : Cond.selects RX4 yX4_heightOfPuff yX4_heightOfPuff ∈ lw_g := ing_4 (i := 13) rfl rfl
theorem mC_X4_heightOfPuff : Cond.code yX4_heightOfPuff cX4_heightOfPuff 4 (some .int) ∈ lw_g := ing_4 (i := 14) rfl rfl
theorem mM_X9_208 : Cond.methodLink RX9 208 yX4_thicknessOfPuff ∈ lw_g := ing_4 (i := 15) rfl rfl
theorem mM_L_58 : Cond.methodLink RL 58 yX9_puffs ∈ lw_g := ing_4 (i := 16) rfl rfl
theorem mI_X9_puffs : Cond.instanceMethod yX9_puffs ∈ lw_g := ing_4 (i := 17) rfl rfl
theorem mS_X9_puffs : Cond.selects RX9 yX9_puffs yX9_puffs ∈ lw_g := ing_4 (i := 18) rfl rfl
theorem mC_X9_puffs : Cond.code yX9_puffs cX9_puffs 5 (some .int) ∈ lw_g := ing_4 (i := 19) rfl rfl
theorem mM_L_62 : Cond.methodLink RL 62 yX9_puff ∈ lw_g := ing_4 (i := 20) rfl rfl
theorem mI_X9_puff : Cond.instanceMethod yX9_puff ∈ lw_g := ing_4 (i := 21) rfl rfl
theorem mS_X9_puff : Cond.selects RX9 yX9_puff yX9_puff ∈ lw_g := ing_4 (i := 22) rfl rfl
theorem mC_X9_puff : Cond.code yX9_puff cX9_puff 6 (some .int) ∈ lw_g := ing_4 (i := 23) rfl rfl
theorem mM_L_67 : Cond.methodLink RL 67 yX9_touch ∈ lw_g := ing_4 (i := 24) rfl rfl
theorem mI_X9_touch : Cond.instanceMethod yX9_touch ∈ lw_g := ing_4 (i := 25) rfl rfl
theorem mS_X9_touch : Cond.selects RX9 yX9_touch yX9_touch ∈ lw_g := ing_4 (i := 26) rfl rfl
theorem mC_X9_touch : Cond.code yX9_touch cX9_touch 5 (some .int) ∈ lw_g := ing_4 (i := 27) rfl rfl
theorem mM_X9_211 : Cond.methodLink RX9 211 yX9_areTwo ∈ lw_g := ing_4 (i := 28) rfl rfl
theorem mI_X9_areTwo : Cond.instanceMethod yX9_areTwo ∈ lw_g := ing_4 (i := 30) rfl rfl
theorem mC_X9_areTwo : Cond.code yX9_areTwo cX9_areTwo 3 (some .boolean) ∈ lw_g := ing_4 (i := 31) rfl rfl
theorem mM_X9_214 : Cond.methodLink RX9 214 yX4_touchQuarters ∈ lw_g := ing_4 (i := 32) rfl rfl
theorem mI_X4_touchQuarters : Cond.instanceMethod yX4_touchQuarters ∈ lw_g := ing_4 (i := 33) rfl rfl
theorem mS_X4_touchQuarters : Cond.selects RX4 yX4_touchQuarters yX4_touchQuarters ∈ lw_g := ing_4 (i := 34) rfl rfl
theorem mC_X4_touchQuarters : Cond.code yX4_touchQuarters cX4_touchQuarters 8 (some .long) ∈ lw_g := ing_4 (i := 35) rfl rfl
theorem mM_X4_110 : Cond.methodLink RX4 110 yX4_meetingOfPuff ∈ lw_g := ing_4 (i := 36) rfl rfl
theorem mI_X4_meetingOfPuff : Cond.instanceMethod yX4_meetingOfPuff ∈ lw_g := ing_4 (i := 38) rfl rfl
theorem mC_X4_meetingOfPuff : Cond.code yX4_meetingOfPuff cX4_meetingOfPuff 6 (some .int) ∈ lw_g := ing_4 (i := 39) rfl rfl
theorem mM_X4_113 : Cond.methodLink RX4 113 yX4_partingOfPuff ∈ lw_g := ing_4 (i := 40) rfl rfl
theorem mI_X4_partingOfPuff : Cond.instanceMethod yX4_partingOfPuff ∈ lw_g := ing_4 (i := 42) rfl rfl
theorem mC_X4_partingOfPuff : Cond.code yX4_partingOfPuff cX4_partingOfPuff 6 (some .int) ∈ lw_g := ing_4 (i := 43) rfl rfl
theorem mM_X4_119 : Cond.methodLink RX4 119 yX4_quartersTogether ∈ lw_g := ing_4 (i := 44) rfl rfl
theorem mI_X4_quartersTogether : Cond.instanceMethod yX4_quartersTogether ∈ lw_g := ing_4 (i := 46) rfl rfl
theorem mC_X4_quartersTogether : Cond.code yX4_quartersTogether cX4_quartersTogether 8 (some .long) ∈ lw_g := ing_4 (i := 47) rfl rfl
theorem mM_X9_218 : Cond.methodLink RX9 218 yJ13_numberOfTrailingZeros_95d88 ∈ lw_g := ing_4 (i := 48) rfl rfl
theorem mT_J13_numberOfTrailingZeros_95d88 : Cond.static yJ13_numberOfTrailingZeros_95d88 ∈ lw_g := ing_4 (i := 49) rfl rfl
theorem mC_J13_numberOfTrailingZeros_95d88 : Cond.code yJ13_numberOfTrailingZeros_95d88 cJ13_numberOfTrailingZeros_95d88 3 (some .int) ∈ lw_g := ing_4 (i := 50) rfl rfl
theorem mM_J13_311 : Cond.methodLink RJ13 311 yJ6_numberOfTrailingZeros_0f7a4 ∈ lw_g := ing_4 (i := 51) rfl rfl
theorem mT_J6_numberOfTrailingZeros_0f7a4 : Cond.static yJ6_numberOfTrailingZeros_0f7a4 ∈ lw_g := ing_4 (i := 52) rfl rfl
theorem mC_J6_numberOfTrailingZeros_0f7a4 : Cond.code yJ6_numberOfTrailingZeros_0f7a4 cJ6_numberOfTrailingZeros_0f7a4 2 (some .int) ∈ lw_g := ing_4 (i := 53) rfl rfl
theorem mK_J6_264 : Cond.constant RJ6 264 (65536 : Int32) ∈ lw_g := ing_4 (i := 54) rfl rfl
theorem mM_L_71 : Cond.methodLink RL 71 yX9_touching ∈ lw_g := ing_4 (i := 55) rfl rfl
theorem mI_X9_touching : Cond.instanceMethod yX9_touching ∈ lw_g := ing_4 (i := 56) rfl rfl
theorem mS_X9_touching : Cond.selects RX9 yX9_touching yX9_touching ∈ lw_g := ing_4 (i := 57) rfl rfl
theorem mC_X9_touching : Cond.code yX9_touching cX9_touching 3 (some .int) ∈ lw_g := ing_4 (i := 58) rfl rfl
theorem mM_X9_224 : Cond.methodLink RX9 224 yJ13_bitCount_95d88 ∈ lw_g := ing_4 (i := 59) rfl rfl
theorem mT_J13_bitCount_95d88 : Cond.static yJ13_bitCount_95d88 ∈ lw_g := ing_4 (i := 60) rfl rfl
theorem mC_J13_bitCount_95d88 : Cond.code yJ13_bitCount_95d88 cJ13_bitCount_95d88 2 (some .int) ∈ lw_g := ing_4 (i := 61) rfl rfl
theorem mK_J13_314 : Cond.constantLong RJ13 314 (6148914691236517205 : Int64) ∈ lw_g := ing_4 (i := 62) rfl rfl
theorem mK_J13_316 : Cond.constantLong RJ13 316 (3689348814741910323 : Int64) ∈ lw_g := ing_4 (i := 63) rfl rfl
theorem mK_J13_318 : Cond.constantLong RJ13 318 (1085102592571150095 : Int64) ∈ lw_g := ing_4 (i := 64) rfl rfl
theorem mM_L_75 : Cond.methodLink RL 75 yX9_pair ∈ lw_g := ing_4 (i := 65) rfl rfl
theorem mI_X9_pair : Cond.instanceMethod yX9_pair ∈ lw_g := ing_4 (i := 66) rfl rfl
theorem mS_X9_pair : Cond.selects RX9 yX9_pair yX9_pair ∈ lw_g := ing_4 (i := 67) rfl rfl
theorem mC_X9_pair : Cond.code yX9_pair cX9_pair 3 (some .int) ∈ lw_g := ing_4 (i := 68) rfl rfl
theorem mM_X9_227 : Cond.methodLink RX9 227 yX9_gatherPairs ∈ lw_g := ing_4 (i := 69) rfl rfl
theorem mI_X9_gatherPairs : Cond.instanceMethod yX9_gatherPairs ∈ lw_g := ing_4 (i := 71) rfl rfl
theorem mC_X9_gatherPairs : Cond.code yX9_gatherPairs cX9_gatherPairs 6 (some .int) ∈ lw_g := ing_4 (i := 72) rfl rfl
theorem mM_X9_396 : Cond.methodLink RX9 396 yX9_insertPair ∈ lw_g := ing_4 (i := 73) rfl rfl
theorem mI_X9_insertPair : Cond.instanceMethod yX9_insertPair ∈ lw_g := ing_4 (i := 75) rfl rfl
theorem mC_X9_insertPair : Cond.code yX9_insertPair cX9_insertPair 4 none ∈ lw_g := ing_4 (i := 76) rfl rfl
theorem mM_L_79 : Cond.methodLink RL 79 yX9_pays ∈ lw_g := ing_4 (i := 77) rfl rfl
theorem mI_X9_pays : Cond.instanceMethod yX9_pays ∈ lw_g := ing_4 (i := 78) rfl rfl
theorem mS_X9_pays : Cond.selects RX9 yX9_pays yX9_pays ∈ lw_g := ing_4 (i := 79) rfl rfl
theorem mC_X9_pays : Cond.code yX9_pays cX9_pays 2 (some .int) ∈ lw_g := ing_4 (i := 80) rfl rfl
theorem mM_X9_231 : Cond.methodLink RX9 231 yX9_dueFrom ∈ lw_g := ing_4 (i := 81) rfl rfl
theorem mI_X9_dueFrom : Cond.instanceMethod yX9_dueFrom ∈ lw_g := ing_4 (i := 83) rfl rfl
theorem mC_X9_dueFrom : Cond.code yX9_dueFrom cX9_dueFrom 4 (some .int) ∈ lw_g := ing_4 (i := 84) rfl rfl
theorem mM_X9_399 : Cond.methodLink RX9 399 yX7_litLater ∈ lw_g := ing_4 (i := 85) rfl rfl
theorem mI_X7_litLater : Cond.instanceMethod yX7_litLater ∈ lw_g := ing_4 (i := 86) rfl rfl
theorem mS_X7_litLater : Cond.selects RX7 yX7_litLater yX7_litLater ∈ lw_g := ing_4 (i := 87) rfl rfl
theorem mC_X7_litLater : Cond.code yX7_litLater cX7_litLater 3 (some .boolean) ∈ lw_g := ing_4 (i := 88) rfl rfl
theorem mM_L_83 : Cond.methodLink RL 83 yX9_soot ∈ lw_g := ing_4 (i := 89) rfl rfl
theorem mI_X9_soot : Cond.instanceMethod yX9_soot ∈ lw_g := ing_4 (i := 90) rfl rfl
theorem mS_X9_soot : Cond.selects RX9 yX9_soot yX9_soot ∈ lw_g := ing_4 (i := 91) rfl rfl
theorem mC_X9_soot : Cond.code yX9_soot cX9_soot 2 (some .int) ∈ lw_g := ing_4 (i := 92) rfl rfl
theorem mM_X9_235 : Cond.methodLink RX9 235 yX9_gatherSoot ∈ lw_g := ing_4 (i := 93) rfl rfl
theorem mI_X9_gatherSoot : Cond.instanceMethod yX9_gatherSoot ∈ lw_g := ing_4 (i := 95) rfl rfl
theorem mC_X9_gatherSoot : Cond.code yX9_gatherSoot cX9_gatherSoot 2 none ∈ lw_g := ing_4 (i := 96) rfl rfl
theorem mM_X9_402 : Cond.methodLink RX9 402 yJ7_fill_53178 ∈ lw_g := ing_4 (i := 97) rfl rfl
theorem mT_J7_fill_53178 : Cond.static yJ7_fill_53178 ∈ lw_g := ing_4 (i := 98) rfl rfl
theorem mC_J7_fill_53178 : Cond.code yJ7_fill_53178 cJ7_fill_53178 4 none ∈ lw_g := ing_4 (i := 99) rfl rfl
theorem mM_X9_405 : Cond.methodLink RX9 405 yX4_addSoot ∈ lw_g := ing_4 (i := 100) rfl rfl
theorem mI_X4_addSoot : Cond.instanceMethod yX4_addSoot ∈ lw_g := ing_4 (i := 101) rfl rfl
theorem mS_X4_addSoot : Cond.selects RX4 yX4_addSoot yX4_addSoot ∈ lw_g := ing_4 (i := 102) rfl rfl
theorem mC_X4_addSoot : Cond.code yX4_addSoot cX4_addSoot 8 none ∈ lw_g := ing_4 (i := 103) rfl rfl
theorem mM_L_87 : Cond.methodLink RL 87 yX9_blackest ∈ lw_g := ing_4 (i := 104) rfl rfl
theorem mI_X9_blackest : Cond.instanceMethod yX9_blackest ∈ lw_g := ing_4 (i := 105) rfl rfl
theorem mS_X9_blackest : Cond.selects RX9 yX9_blackest yX9_blackest ∈ lw_g := ing_4 (i := 106) rfl rfl
theorem mC_X9_blackest : Cond.code yX9_blackest cX9_blackest 3 (some .int) ∈ lw_g := ing_4 (i := 107) rfl rfl
theorem mM_L_92 : Cond.methodLink RL 92 yX9_free ∈ lw_g := ing_4 (i := 108) rfl rfl
theorem mI_X9_free : Cond.instanceMethod yX9_free ∈ lw_g := ing_4 (i := 109) rfl rfl
theorem mS_X9_free : Cond.selects RX9 yX9_free yX9_free ∈ lw_g := ing_4 (i := 110) rfl rfl
theorem mC_X9_free : Cond.code yX9_free cX9_free 2 (some .int) ∈ lw_g := ing_4 (i := 111) rfl rfl
theorem mM_X9_238 : Cond.methodLink RX9 238 yX4_freeQuarters ∈ lw_g := ing_4 (i := 112) rfl rfl
theorem mM_L_96 : Cond.methodLink RL 96 yX9_plan ∈ lw_g := ing_4 (i := 113) rfl rfl
theorem mI_X9_plan : Cond.instanceMethod yX9_plan ∈ lw_g := ing_4 (i := 114) rfl rfl
theorem mS_X9_plan : Cond.selects RX9 yX9_plan yX9_plan ∈ lw_g := ing_4 (i := 115) rfl rfl
theorem mC_X9_plan : Cond.code yX9_plan cX9_plan 2 (some .int) ∈ lw_g := ing_4 (i := 116) rfl rfl
theorem mM_X9_241 : Cond.methodLink RX9 241 yX6_gatherUnlit ∈ lw_g := ing_4 (i := 117) rfl rfl
theorem mI_X6_gatherUnlit : Cond.instanceMethod yX6_gatherUnlit ∈ lw_g := ing_4 (i := 118) rfl rfl
theorem mS_X6_gatherUnlit : Cond.selects RX6 yX6_gatherUnlit yX6_gatherUnlit ∈ lw_g := ing_4 (i := 119) rfl rfl
theorem mC_X6_gatherUnlit : Cond.code yX6_gatherUnlit cX6_gatherUnlit 2 (some .boolean) ∈ lw_g := ing_4 (i := 120) rfl rfl
theorem mM_X6_44 : Cond.methodLink RX6 44 yX7_isLit ∈ lw_g := ing_4 (i := 121) rfl rfl
theorem mM_X6_48 : Cond.methodLink RX6 48 yX6_layClashes ∈ lw_g := ing_4 (i := 122) rfl rfl
theorem mI_X6_layClashes : Cond.instanceMethod yX6_layClashes ∈ lw_g := ing_4 (i := 124) rfl rfl
theorem mC_X6_layClashes : Cond.code yX6_layClashes cX6_layClashes 3 none ∈ lw_g := ing_4 (i := 125) rfl rfl
theorem mM_X6_51 : Cond.methodLink RX6 51 yJ7_fill_53178 ∈ lw_g := ing_4 (i := 126) rfl rfl
theorem mM_X6_57 : Cond.methodLink RX6 57 yX4_freeQuarters ∈ lw_g := ing_4 (i := 127) rfl rfl
theorem mM_X6_63 : Cond.methodLink RX6 63 yX6_layClashesOf ∈ lw_g := ing_4 (i := 128) rfl rfl
theorem mI_X6_layClashesOf : Cond.instanceMethod yX6_layClashesOf ∈ lw_g := ing_4 (i := 130) rfl rfl
theorem mC_X6_layClashesOf : Cond.code yX6_layClashesOf cX6_layClashesOf 11 none ∈ lw_g := ing_4 (i := 131) rfl rfl
theorem mM_X6_76 : Cond.methodLink RX6 76 yX4_levelBeginning ∈ lw_g := ing_4 (i := 132) rfl rfl
theorem mM_X6_80 : Cond.methodLink RX6 80 yX4_meeting ∈ lw_g := ing_4 (i := 133) rfl rfl
theorem mM_X6_84 : Cond.methodLink RX6 84 yX7_mayBeLit ∈ lw_g := ing_4 (i := 134) rfl rfl
theorem mM_X6_88 : Cond.methodLink RX6 88 yX6_clashPlace ∈ lw_g := ing_4 (i := 135) rfl rfl
theorem mT_X6_clashPlace : Cond.static yX6_clashPlace ∈ lw_g := ing_4 (i := 136) rfl rfl
theorem mC_X6_clashPlace : Cond.code yX6_clashPlace cX6_clashPlace 3 (some .int) ∈ lw_g := ing_4 (i := 137) rfl rfl
theorem mM_X6_91 : Cond.methodLink RX6 91 yX7_smokeOf ∈ lw_g := ing_4 (i := 138) rfl rfl
theorem mM_X6_95 : Cond.methodLink RX6 95 yX4_lightingsThatTouch ∈ lw_g := ing_4 (i := 139) rfl rfl
theorem mM_X9_244 : Cond.methodLink RX9 244 yX6_findSoonest ∈ lw_g := ing_4 (i := 140) rfl rfl
theorem mI_X6_findSoonest : Cond.instanceMethod yX6_findSoonest ∈ lw_g := ing_4 (i := 141) rfl rfl
theorem mS_X6_findSoonest : Cond.selects RX6 yX6_findSoonest yX6_findSoonest ∈ lw_g := ing_4 (i := 142) rfl rfl
theorem mC_X6_findSoonest : Cond.code yX6_findSoonest cX6_findSoonest 1 (some .boolean) ∈ lw_g := ing_4 (i := 143) rfl rfl
theorem mM_X6_128 : Cond.methodLink RX6 128 yX6_shutSet ∈ lw_g := ing_4 (i := 144) rfl rfl
theorem mI_X6_shutSet : Cond.instanceMethod yX6_shutSet ∈ lw_g := ing_4 (i := 145) rfl rfl
theorem mS_X6_shutSet : Cond.selects RX6 yX6_shutSet yX6_shutSet ∈ lw_g := ing_4 (i := 146) rfl rfl
theorem mC_X6_shutSet : Cond.code yX6_shutSet cX6_shutSet 3 (some .int) ∈ lw_g := ing_4 (i := 147) rfl rfl
theorem mM_X6_98 : Cond.methodLink RX6 98 yJ6_bitCount_0f7a4 ∈ lw_g := ing_4 (i := 148) rfl rfl
theorem mT_J6_bitCount_0f7a4 : Cond.static yJ6_bitCount_0f7a4 ∈ lw_g := ing_4 (i := 149) rfl rfl
theorem mC_J6_bitCount_0f7a4 : Cond.code yJ6_bitCount_0f7a4 cJ6_bitCount_0f7a4 1 (some .int) ∈ lw_g := ing_4 (i := 150) rfl rfl
theorem mK_J6_265 : Cond.constant RJ6 265 (1431655765 : Int32) ∈ lw_g := ing_4 (i := 151) rfl rfl
theorem mK_J6_266 : Cond.constant RJ6 266 (858993459 : Int32) ∈ lw_g := ing_4 (i := 152) rfl rfl
theorem mK_J6_267 : Cond.constant RJ6 267 (252645135 : Int32) ∈ lw_g := ing_4 (i := 153) rfl rfl
theorem mM_X6_103 : Cond.methodLink RX6 103 yX6_canLight ∈ lw_g := ing_4 (i := 154) rfl rfl
theorem mI_X6_canLight : Cond.instanceMethod yX6_canLight ∈ lw_g := ing_4 (i := 156) rfl rfl
theorem mC_X6_canLight : Cond.code yX6_canLight cX6_canLight 6 (some .boolean) ∈ lw_g := ing_4 (i := 157) rfl rfl
theorem mM_X6_114 : Cond.methodLink RX6 114 yX6_firstOf ∈ lw_g := ing_4 (i := 158) rfl rfl
theorem mT_X6_firstOf : Cond.static yX6_firstOf ∈ lw_g := ing_4 (i := 159) rfl rfl
theorem mC_X6_firstOf : Cond.code yX6_firstOf cX6_firstOf 1 (some .int) ∈ lw_g := ing_4 (i := 160) rfl rfl
theorem mM_X6_106 : Cond.methodLink RX6 106 yJ6_numberOfTrailingZeros_0f7a4 ∈ lw_g := ing_4 (i := 161) rfl rfl
theorem mM_X6_109 : Cond.methodLink RX6 109 yJ9_min_7cf53 ∈ lw_g := ing_4 (i := 162) rfl rfl
theorem mM_X6_117 : Cond.methodLink RX6 117 yX6_isOpen ∈ lw_g := ing_4 (i := 163) rfl rfl
theorem mI_X6_isOpen : Cond.instanceMethod yX6_isOpen ∈ lw_g := ing_4 (i := 165) rfl rfl
theorem mC_X6_isOpen : Cond.code yX6_isOpen cX6_isOpen 4 (some .boolean) ∈ lw_g := ing_4 (i := 166) rfl rfl
theorem mM_X6_121 : Cond.methodLink RX6 121 yX6_narrow ∈ lw_g := ing_4 (i := 167) rfl rfl
theorem mI_X6_narrow : Cond.instanceMethod yX6_narrow ∈ lw_g := ing_4 (i := 169) rfl rfl
theorem mC_X6_narrow : Cond.code yX6_narrow cX6_narrow 7 (some .boolean) ∈ lw_g := ing_4 (i := 170) rfl rfl
theorem mM_X6_142 : Cond.methodLink RX6 142 yX6_seekSoonest ∈ lw_g := ing_4 (i := 171) rfl rfl
theorem mI_X6_seekSoonest : Cond.instanceMethod yX6_seekSoonest ∈ lw_g := ing_4 (i := 173) rfl rfl
theorem mC_X6_seekSoonest : Cond.code yX6_seekSoonest cX6_seekSoonest 8 none ∈ lw_g := ing_4 (i := 174) rfl rfl
theorem mM_X6_146 : Cond.methodLink RX6 146 yX6_keepIfSooner ∈ lw_g := ing_4 (i := 175) rfl rfl
theorem mI_X6_keepIfSooner : Cond.instanceMethod yX6_keepIfSooner ∈ lw_g := ing_4 (i := 177) rfl rfl
theorem mC_X6_keepIfSooner : Cond.code yX6_keepIfSooner cX6_keepIfSooner 3 none ∈ lw_g := ing_4 (i := 178) rfl rfl
theorem mM_X6_155 : Cond.methodLink RX6 155 yX6_isSooner ∈ lw_g := ing_4 (i := 179) rfl rfl
theorem mI_X6_isSooner : Cond.instanceMethod yX6_isSooner ∈ lw_g := ing_4 (i := 181) rfl rfl
theorem mC_X6_isSooner : Cond.code yX6_isSooner cX6_isSooner 3 (some .boolean) ∈ lw_g := ing_4 (i := 182) rfl rfl
theorem mM_X6_158 : Cond.methodLink RX6 158 arraycopyName ∈ lw_g := ing_4 (i := 183) rfl rfl
theorem mM_X6_149 : Cond.methodLink RX6 149 yJ9_max_7cf53 ∈ lw_g := ing_4 (i := 184) rfl rfl
theorem mM_X6_152 : Cond.methodLink RX6 152 yX6_maySooner ∈ lw_g := ing_4 (i := 185) rfl rfl
theorem mI_X6_maySooner : Cond.instanceMethod yX6_maySooner ∈ lw_g := ing_4 (i := 187) rfl rfl
theorem mC_X6_maySooner : Cond.code yX6_maySooner cX6_maySooner 7 (some .boolean) ∈ lw_g := ing_4 (i := 188) rfl rfl
theorem mM_X9_253 : Cond.methodLink RX9 253 yX6_plannedQuarter ∈ lw_g := ing_4 (i := 189) rfl rfl
theorem mI_X6_plannedQuarter : Cond.instanceMethod yX6_plannedQuarter ∈ lw_g := ing_4 (i := 190) rfl rfl
theorem mS_X6_plannedQuarter : Cond.selects RX6 yX6_plannedQuarter yX6_plannedQuarter ∈ lw_g := ing_4 (i := 191) rfl rfl
theorem mC_X6_plannedQuarter : Cond.code yX6_plannedQuarter cX6_plannedQuarter 3 (some .int) ∈ lw_g := ing_4 (i := 192) rfl rfl
theorem mM_X6_164 : Cond.methodLink RX6 164 yX7_has ∈ lw_g := ing_4 (i := 193) rfl rfl
theorem mM_L_100 : Cond.methodLink RL 100 yX9_plans ∈ lw_g := ing_4 (i := 194) rfl rfl
theorem mI_X9_plans : Cond.instanceMethod yX9_plans ∈ lw_g := ing_4 (i := 195) rfl rfl
theorem mS_X9_plans : Cond.selects RX9 yX9_plans yX9_plans ∈ lw_g := ing_4 (i := 196) rfl rfl
theorem mC_X9_plans : Cond.code yX9_plans cX9_plans 1 (some .int) ∈ lw_g := ing_4 (i := 197) rfl rfl
theorem mM_X9_256 : Cond.methodLink RX9 256 yX6_tallyPlans ∈ lw_g := ing_4 (i := 198) rfl rfl
theorem mI_X6_tallyPlans : Cond.instanceMethod yX6_tallyPlans ∈ lw_g := ing_4 (i := 199) rfl rfl
theorem mS_X6_tallyPlans : Cond.selects RX6 yX6_tallyPlans yX6_tallyPlans ∈ lw_g := ing_4 (i := 200) rfl rfl
theorem mC_X6_tallyPlans : Cond.code yX6_tallyPlans cX6_tallyPlans 1 (some .int) ∈ lw_g := ing_4 (i := 201) rfl rfl
theorem mM_X6_132 : Cond.methodLink RX6 132 yX6_addPlans ∈ lw_g := ing_4 (i := 202) rfl rfl
theorem mI_X6_addPlans : Cond.instanceMethod yX6_addPlans ∈ lw_g := ing_4 (i := 204) rfl rfl
theorem mC_X6_addPlans : Cond.code yX6_addPlans cX6_addPlans 6 none ∈ lw_g := ing_4 (i := 205) rfl rfl
theorem mK_X6_135 : Cond.constant RX6 135 (100000 : Int32) ∈ lw_g := ing_4 (i := 206) rfl rfl
theorem mM_L_104 : Cond.methodLink RL 104 yX9_shut ∈ lw_g := ing_4 (i := 207) rfl rfl
theorem mI_X9_shut : Cond.instanceMethod yX9_shut ∈ lw_g := ing_4 (i := 208) rfl rfl
theorem mS_X9_shut : Cond.selects RX9 yX9_shut yX9_shut ∈ lw_g := ing_4 (i := 209) rfl rfl
theorem mC_X9_shut : Cond.code yX9_shut cX9_shut 1 (some .int) ∈ lw_g := ing_4 (i := 210) rfl rfl
theorem mM_X9_259 : Cond.methodLink RX9 259 yX6_shutSet ∈ lw_g := ing_4 (i := 211) rfl rfl
theorem mM_X9_262 : Cond.methodLink RX9 262 yX6_chimneysOf ∈ lw_g := ing_4 (i := 212) rfl rfl
theorem mI_X6_chimneysOf : Cond.instanceMethod yX6_chimneysOf ∈ lw_g := ing_4 (i := 213) rfl rfl
theorem mS_X6_chimneysOf : Cond.selects RX6 yX6_chimneysOf yX6_chimneysOf ∈ lw_g := ing_4 (i := 214) rfl rfl
theorem mC_X6_chimneysOf : Cond.code yX6_chimneysOf cX6_chimneysOf 4 (some .int) ∈ lw_g := ing_4 (i := 215) rfl rfl
theorem mM_L_108 : Cond.methodLink RL 108 yX9_most ∈ lw_g := ing_4 (i := 216) rfl rfl
theorem mI_X9_most : Cond.instanceMethod yX9_most ∈ lw_g := ing_4 (i := 217) rfl rfl
theorem mS_X9_most : Cond.selects RX9 yX9_most yX9_most ∈ lw_g := ing_4 (i := 218) rfl rfl
theorem mC_X9_most : Cond.code yX9_most cX9_most 4 (some .int) ∈ lw_g := ing_4 (i := 219) rfl rfl
theorem mM_X9_265 : Cond.methodLink RX9 265 yX9_isLightingQuarter ∈ lw_g := ing_4 (i := 220) rfl rfl
theorem mM_X9_268 : Cond.methodLink RX9 268 yX6_greatestSet ∈ lw_g := ing_4 (i := 221) rfl rfl
theorem mI_X6_greatestSet : Cond.instanceMethod yX6_greatestSet ∈ lw_g := ing_4 (i := 222) rfl rfl
theorem mS_X6_greatestSet : Cond.selects RX6 yX6_greatestSet yX6_greatestSet ∈ lw_g := ing_4 (i := 223) rfl rfl
theorem mC_X6_greatestSet : Cond.code yX6_greatestSet cX6_greatestSet 4 (some .int) ∈ lw_g := ing_4 (i := 224) rfl rfl
theorem mM_X9_271 : Cond.methodLink RX9 271 yJ6_bitCount_0f7a4 ∈ lw_g := ing_4 (i := 225) rfl rfl
theorem mM_L_112 : Cond.methodLink RL 112 yX9_price ∈ lw_g := ing_4 (i := 226) rfl rfl
theorem mI_X9_price : Cond.instanceMethod yX9_price ∈ lw_g := ing_4 (i := 227) rfl rfl
theorem mS_X9_price : Cond.selects RX9 yX9_price yX9_price ∈ lw_g := ing_4 (i := 228) rfl rfl
theorem mC_X9_price : Cond.code yX9_price cX9_price 3 (some .int) ∈ lw_g := ing_4 (i := 229) rfl rfl
theorem mM_X9_275 : Cond.methodLink RX9 275 yX9_priceIn ∈ lw_g := ing_4 (i := 230) rfl rfl
theorem mI_X9_priceIn : Cond.instanceMethod yX9_priceIn ∈ lw_g := ing_4 (i := 232) rfl rfl
theorem mC_X9_priceIn : Cond.code yX9_priceIn cX9_priceIn 5 (some .int) ∈ lw_g := ing_4 (i := 233) rfl rfl
theorem mM_L_116 : Cond.methodLink RL 116 yX9_cheapest ∈ lw_g := ing_4 (i := 234) rfl rfl
theorem mI_X9_cheapest : Cond.instanceMethod yX9_cheapest ∈ lw_g := ing_4 (i := 235) rfl rfl
theorem mS_X9_cheapest : Cond.selects RX9 yX9_cheapest yX9_cheapest ∈ lw_g := ing_4 (i := 236) rfl rfl
theorem mC_X9_cheapest : Cond.code yX9_cheapest cX9_cheapest 6 (some .int) ∈ lw_g := ing_4 (i := 237) rfl rfl
theorem mM_L_120 : Cond.methodLink RL 120 yX9_higher ∈ lw_g := ing_4 (i := 238) rfl rfl
theorem mI_X9_higher : Cond.instanceMethod yX9_higher ∈ lw_g := ing_4 (i := 239) rfl rfl
theorem mS_X9_higher : Cond.selects RX9 yX9_higher yX9_higher ∈ lw_g := ing_5 (i := 0) rfl rfl
theorem mC_X9_higher : Cond.code yX9_higher cX9_higher 3 (some .int) ∈ lw_g := ing_5 (i := 1) rfl rfl
theorem mM_X9_278 : Cond.methodLink RX9 278 yX4_layLit ∈ lw_g := ing_5 (i := 2) rfl rfl
theorem mI_X4_layLit : Cond.instanceMethod yX4_layLit ∈ lw_g := ing_5 (i := 3) rfl rfl
theorem mS_X4_layLit : Cond.selects RX4 yX4_layLit yX4_layLit ∈ lw_g := ing_5 (i := 4) rfl rfl
theorem mC_X4_layLit : Cond.code yX4_layLit cX4_layLit 2 none ∈ lw_g := ing_5 (i := 5) rfl rfl
theorem mM_X4_57 : Cond.methodLink RX4 57 yX4_layRaised ∈ lw_g := ing_5 (i := 6) rfl rfl
theorem mI_X4_layRaised : Cond.instanceMethod yX4_layRaised ∈ lw_g := ing_5 (i := 7) rfl rfl
theorem mS_X4_layRaised : Cond.selects RX4 yX4_layRaised yX4_layRaised ∈ lw_g := ing_5 (i := 8) rfl rfl
theorem mC_X4_layRaised : Cond.code yX4_layRaised cX4_layRaised 4 none ∈ lw_g := ing_5 (i := 9) rfl rfl
theorem mM_X9_281 : Cond.methodLink RX9 281 yX4_layRaised ∈ lw_g := ing_5 (i := 10) rfl rfl
theorem mM_X9_285 : Cond.methodLink RX9 285 yX4_touchesSome ∈ lw_g := ing_5 (i := 11) rfl rfl
theorem mI_X4_touchesSome : Cond.instanceMethod yX4_touchesSome ∈ lw_g := ing_5 (i := 12) rfl rfl
theorem mS_X4_touchesSome : Cond.selects RX4 yX4_touchesSome yX4_touchesSome ∈ lw_g := ing_5 (i := 13) rfl rfl
theorem mC_X4_touchesSome : Cond.code yX4_touchesSome cX4_touchesSome 3 (some .boolean) ∈ lw_g := ing_5 (i := 14) rfl rfl
theorem mM_X4_123 : Cond.methodLink RX4 123 yX4_closeness ∈ lw_g := ing_5 (i := 15) rfl rfl
theorem mI_X4_closeness : Cond.instanceMethod yX4_closeness ∈ lw_g := ing_5 (i := 16) rfl rfl
theorem mS_X4_closeness : Cond.selects RX4 yX4_closeness yX4_closeness ∈ lw_g := ing_5 (i := 17) rfl rfl
theorem mC_X4_closeness : Cond.code yX4_closeness cX4_closeness 6 (some .int) ∈ lw_g := ing_5 (i := 18) rfl rfl
theorem mM_L_124 : Cond.methodLink RL 124 yX9_thickness ∈ lw_g := ing_5 (i := 19) rfl rfl
theorem mI_X9_thickness : Cond.instanceMethod yX9_thickness ∈ lw_g := ing_5 (i := 20) rfl rfl
theorem mS_X9_thickness : Cond.selects RX9 yX9_thickness yX9_thickness ∈ lw_g := ing_5 (i := 21) rfl rfl
theorem mC_X9_thickness : Cond.code yX9_thickness cX9_thickness 4 (some .int) ∈ lw_g := ing_5 (i := 22) rfl rfl
theorem mM_X9_288 : Cond.methodLink RX9 288 yX4_closeness ∈ lw_g := ing_5 (i := 23) rfl rfl
theorem mM_X9_291 : Cond.methodLink RX9 291 yJ9_max_7cf53 ∈ lw_g := ing_5 (i := 24) rfl rfl
theorem mM_L_128 : Cond.methodLink RL 128 yX9_sheets ∈ lw_g := ing_5 (i := 25) rfl rfl
theorem mI_X9_sheets : Cond.instanceMethod yX9_sheets ∈ lw_g := ing_5 (i := 26) rfl rfl
theorem mS_X9_sheets : Cond.selects RX9 yX9_sheets yX9_sheets ∈ lw_g := ing_5 (i := 27) rfl rfl
theorem mC_X9_sheets : Cond.code yX9_sheets cX9_sheets 3 (some .int) ∈ lw_g := ing_5 (i := 28) rfl rfl
theorem mM_X9_296 : Cond.methodLink RX9 296 yX9_refusalOfSheets ∈ lw_g := ing_5 (i := 29) rfl rfl
theorem mI_X9_refusalOfSheets : Cond.instanceMethod yX9_refusalOfSheets ∈ lw_g := ing_5 (i := 31) rfl rfl
theorem mC_X9_refusalOfSheets : Cond.code yX9_refusalOfSheets cX9_refusalOfSheets 3 (some .int) ∈ lw_g := ing_5 (i := 32) rfl rfl
theorem mM_X9_409 : Cond.methodLink RX9 409 yX0_takeSheets ∈ lw_g := ing_5 (i := 33) rfl rfl
theorem mI_X0_takeSheets : Cond.instanceMethod yX0_takeSheets ∈ lw_g := ing_5 (i := 34) rfl rfl
theorem mS_X0_takeSheets : Cond.selects RX0 yX0_takeSheets yX0_takeSheets ∈ lw_g := ing_5 (i := 35) rfl rfl
theorem mC_X0_takeSheets : Cond.code yX0_takeSheets cX0_takeSheets 7 (some .boolean) ∈ lw_g := ing_5 (i := 36) rfl rfl
theorem mM_X0_57 : Cond.methodLink RX0 57 yX3_at ∈ lw_g := ing_5 (i := 37) rfl rfl
theorem mK_X0_61 : Cond.constantLong RX0 61 (40 : Int64) ∈ lw_g := ing_5 (i := 38) rfl rfl
theorem mM_X0_63 : Cond.methodLink RX0 63 yX0_layShares ∈ lw_g := ing_5 (i := 39) rfl rfl
theorem mI_X0_layShares : Cond.instanceMethod yX0_layShares ∈ lw_g := ing_5 (i := 41) rfl rfl
theorem mC_X0_layShares : Cond.code yX0_layShares cX0_layShares 4 none ∈ lw_g := ing_5 (i := 42) rfl rfl
theorem mM_X0_70 : Cond.methodLink RX0 70 yJ7_fill_53178 ∈ lw_g := ing_5 (i := 43) rfl rfl
theorem mM_X0_76 : Cond.methodLink RX0 76 yX7_mayBeLit ∈ lw_g := ing_5 (i := 44) rfl rfl
theorem mM_X0_82 : Cond.methodLink RX0 82 yX4_addSoot ∈ lw_g := ing_5 (i := 45) rfl rfl
theorem mM_X0_88 : Cond.methodLink RX0 88 yX0_sharePlace ∈ lw_g := ing_5 (i := 46) rfl rfl
theorem mT_X0_sharePlace : Cond.static yX0_sharePlace ∈ lw_g := ing_5 (i := 47) rfl rfl
theorem mC_X0_sharePlace : Cond.code yX0_sharePlace cX0_sharePlace 3 (some .int) ∈ lw_g := ing_5 (i := 48) rfl rfl
theorem mM_X0_67 : Cond.methodLink RX0 67 yX0_layAmounts ∈ lw_g := ing_5 (i := 49) rfl rfl
theorem mI_X0_layAmounts : Cond.instanceMethod yX0_layAmounts ∈ lw_g := ing_5 (i := 51) rfl rfl
theorem mC_X0_layAmounts : Cond.code yX0_layAmounts cX0_layAmounts 4 none ∈ lw_g := ing_5 (i := 52) rfl rfl
theorem mM_X0_92 : Cond.methodLink RX0 92 yX0_addAmount ∈ lw_g := ing_5 (i := 53) rfl rfl
theorem mI_X0_addAmount : Cond.instanceMethod yX0_addAmount ∈ lw_g := ing_5 (i := 55) rfl rfl
theorem mC_X0_addAmount : Cond.code yX0_addAmount cX0_addAmount 6 none ∈ lw_g := ing_5 (i := 56) rfl rfl
theorem mM_X9_299 : Cond.methodLink RX9 299 yX0_seekDay ∈ lw_g := ing_5 (i := 57) rfl rfl
theorem mI_X0_seekDay : Cond.instanceMethod yX0_seekDay ∈ lw_g := ing_5 (i := 58) rfl rfl
theorem mS_X0_seekDay : Cond.selects RX0 yX0_seekDay yX0_seekDay ∈ lw_g := ing_5 (i := 59) rfl rfl
theorem mC_X0_seekDay : Cond.code yX0_seekDay cX0_seekDay 6 none ∈ lw_g := ing_5 (i := 60) rfl rfl
theorem mM_X0_106 : Cond.methodLink RX0 106 yX0_fittingOptions ∈ lw_g := ing_5 (i := 61) rfl rfl
theorem mI_X0_fittingOptions : Cond.instanceMethod yX0_fittingOptions ∈ lw_g := ing_5 (i := 63) rfl rfl
theorem mC_X0_fittingOptions : Cond.code yX0_fittingOptions cX0_fittingOptions 7 (some .int) ∈ lw_g := ing_5 (i := 64) rfl rfl
theorem mM_X0_96 : Cond.methodLink RX0 96 yX0_optionsThatGive ∈ lw_g := ing_5 (i := 65) rfl rfl
theorem mI_X0_optionsThatGive : Cond.instanceMethod yX0_optionsThatGive ∈ lw_g := ing_5 (i := 67) rfl rfl
theorem mC_X0_optionsThatGive : Cond.code yX0_optionsThatGive cX0_optionsThatGive 5 (some .int) ∈ lw_g := ing_5 (i := 68) rfl rfl
theorem mM_X0_110 : Cond.methodLink RX0 110 yX0_addDays ∈ lw_g := ing_5 (i := 69) rfl rfl
theorem mI_X0_addDays : Cond.instanceMethod yX0_addDays ∈ lw_g := ing_5 (i := 71) rfl rfl
theorem mC_X0_addDays : Cond.code yX0_addDays cX0_addDays 6 none ∈ lw_g := ing_5 (i := 72) rfl rfl
theorem mM_L_132 : Cond.methodLink RL 132 yX9_sheet ∈ lw_g := ing_5 (i := 73) rfl rfl
theorem mI_X9_sheet : Cond.instanceMethod yX9_sheet ∈ lw_g := ing_5 (i := 74) rfl rfl
theorem mS_X9_sheet : Cond.selects RX9 yX9_sheet yX9_sheet ∈ lw_g := ing_5 (i := 75) rfl rfl
theorem mC_X9_sheet : Cond.code yX9_sheet cX9_sheet 5 (some .int) ∈ lw_g := ing_5 (i := 76) rfl rfl
theorem mM_X9_305 : Cond.methodLink RX9 305 yX0_dayQuarter ∈ lw_g := ing_5 (i := 77) rfl rfl
theorem mI_X0_dayQuarter : Cond.instanceMethod yX0_dayQuarter ∈ lw_g := ing_5 (i := 78) rfl rfl
theorem mS_X0_dayQuarter : Cond.selects RX0 yX0_dayQuarter yX0_dayQuarter ∈ lw_g := ing_5 (i := 79) rfl rfl
theorem mC_X0_dayQuarter : Cond.code yX0_dayQuarter cX0_dayQuarter 2 (some .int) ∈ lw_g := ing_5 (i := 80) rfl rfl
theorem mM_L_136 : Cond.methodLink RL 136 yX9_sure ∈ lw_g := ing_5 (i := 81) rfl rfl
theorem mI_X9_sure : Cond.instanceMethod yX9_sure ∈ lw_g := ing_5 (i := 82) rfl rfl
theorem mS_X9_sure : Cond.selects RX9 yX9_sure yX9_sure ∈ lw_g := ing_5 (i := 83) rfl rfl
theorem mC_X9_sure : Cond.code yX9_sure cX9_sure 3 (some .int) ∈ lw_g := ing_5 (i := 84) rfl rfl
theorem mM_L_140 : Cond.methodLink RL 140 yX9_gusts ∈ lw_g := ing_5 (i := 85) rfl rfl
theorem mI_X9_gusts : Cond.instanceMethod yX9_gusts ∈ lw_g := ing_5 (i := 86) rfl rfl
theorem mS_X9_gusts : Cond.selects RX9 yX9_gusts yX9_gusts ∈ lw_g := ing_5 (i := 87) rfl rfl
theorem mC_X9_gusts : Cond.code yX9_gusts cX9_gusts 2 (some .int) ∈ lw_g := ing_5 (i := 88) rfl rfl
theorem mM_X9_311 : Cond.methodLink RX9 311 yX8_drawFrom ∈ lw_g := ing_5 (i := 89) rfl rfl
theorem mI_X8_drawFrom : Cond.instanceMethod yX8_drawFrom ∈ lw_g := ing_5 (i := 90) rfl rfl
theorem mS_X8_drawFrom : Cond.selects RX8 yX8_drawFrom yX8_drawFrom ∈ lw_g := ing_5 (i := 91) rfl rfl
theorem mC_X8_drawFrom : Cond.code yX8_drawFrom cX8_drawFrom 4 none ∈ lw_g := ing_5 (i := 92) rfl rfl
theorem mK_X8_37 : Cond.constant RX8 37 (1103515245 : Int32) ∈ lw_g := ing_5 (i := 93) rfl rfl
theorem mM_X9_314 : Cond.methodLink RX9 314 yX4_touchingPairs ∈ lw_g := ing_5 (i := 94) rfl rfl
theorem mI_X4_touchingPairs : Cond.instanceMethod yX4_touchingPairs ∈ lw_g := ing_5 (i := 95) rfl rfl
theorem mS_X4_touchingPairs : Cond.selects RX4 yX4_touchingPairs yX4_touchingPairs ∈ lw_g := ing_5 (i := 96) rfl rfl
theorem mC_X4_touchingPairs : Cond.code yX4_touchingPairs cX4_touchingPairs 4 (some .int) ∈ lw_g := ing_5 (i := 97) rfl rfl
theorem mM_L_144 : Cond.methodLink RL 144 yX9_calm ∈ lw_g := ing_5 (i := 98) rfl rfl
theorem mI_X9_calm : Cond.instanceMethod yX9_calm ∈ lw_g := ing_5 (i := 99) rfl rfl
theorem mS_X9_calm : Cond.selects RX9 yX9_calm yX9_calm ∈ lw_g := ing_5 (i := 100) rfl rfl
theorem mC_X9_calm : Cond.code yX9_calm cX9_calm 2 (some .int) ∈ lw_g := ing_5 (i := 101) rfl rfl
theorem mM_X9_317 : Cond.methodLink RX9 317 yX1_calmSeeds ∈ lw_g := ing_5 (i := 102) rfl rfl
theorem mI_X1_calmSeeds : Cond.instanceMethod yX1_calmSeeds ∈ lw_g := ing_5 (i := 103) rfl rfl
theorem mS_X1_calmSeeds : Cond.selects RX1 yX1_calmSeeds yX1_calmSeeds ∈ lw_g := ing_5 (i := 104) rfl rfl
theorem mC_X1_calmSeeds : Cond.code yX1_calmSeeds cX1_calmSeeds 4 (some .int) ∈ lw_g := ing_5 (i := 105) rfl rfl
theorem mM_X1_42 : Cond.methodLink RX1 42 yX1_isCalm ∈ lw_g := ing_5 (i := 106) rfl rfl
theorem mI_X1_isCalm : Cond.instanceMethod yX1_isCalm ∈ lw_g := ing_5 (i := 108) rfl rfl
theorem mC_X1_isCalm : Cond.code yX1_isCalm cX1_isCalm 2 (some .boolean) ∈ lw_g := ing_5 (i := 109) rfl rfl
theorem mM_X1_27 : Cond.methodLink RX1 27 yX8_drawFrom ∈ lw_g := ing_5 (i := 110) rfl rfl
theorem mM_X1_33 : Cond.methodLink RX1 33 yX4_layLit ∈ lw_g := ing_5 (i := 111) rfl rfl
theorem mM_X1_38 : Cond.methodLink RX1 38 yX4_someTouch ∈ lw_g := ing_5 (i := 112) rfl rfl
theorem mI_X4_someTouch : Cond.instanceMethod yX4_someTouch ∈ lw_g := ing_5 (i := 113) rfl rfl
theorem mS_X4_someTouch : Cond.selects RX4 yX4_someTouch yX4_someTouch ∈ lw_g := ing_5 (i := 114) rfl rfl
theorem mC_X4_someTouch : Cond.code yX4_someTouch cX4_someTouch 3 (some .boolean) ∈ lw_g := ing_5 (i := 115) rfl rfl
theorem mM_L_148 : Cond.methodLink RL 148 yX9_steady ∈ lw_g := ing_5 (i := 116) rfl rfl
theorem mI_X9_steady : Cond.instanceMethod yX9_steady ∈ lw_g := ing_5 (i := 117) rfl rfl
theorem mS_X9_steady : Cond.selects RX9 yX9_steady yX9_steady ∈ lw_g := ing_5 (i := 118) rfl rfl
theorem mC_X9_steady : Cond.code yX9_steady cX9_steady 2 (some .int) ∈ lw_g := ing_5 (i := 119) rfl rfl
theorem mM_X9_320 : Cond.methodLink RX9 320 yX1_calmSteadyWinds ∈ lw_g := ing_5 (i := 120) rfl rfl
theorem mI_X1_calmSteadyWinds : Cond.instanceMethod yX1_calmSteadyWinds ∈ lw_g := ing_5 (i := 121) rfl rfl
theorem mS_X1_calmSteadyWinds : Cond.selects RX1 yX1_calmSteadyWinds yX1_calmSteadyWinds ∈ lw_g := ing_5 (i := 122) rfl rfl
theorem mC_X1_calmSteadyWinds : Cond.code yX1_calmSteadyWinds cX1_calmSteadyWinds 3 (some .int) ∈ lw_g := ing_5 (i := 123) rfl rfl
theorem mM_X1_50 : Cond.methodLink RX1 50 yX1_isSteadyCalm ∈ lw_g := ing_5 (i := 124) rfl rfl
theorem mI_X1_isSteadyCalm : Cond.instanceMethod yX1_isSteadyCalm ∈ lw_g := ing_5 (i := 126) rfl rfl
theorem mC_X1_isSteadyCalm : Cond.code yX1_isSteadyCalm cX1_isSteadyCalm 2 (some .boolean) ∈ lw_g := ing_5 (i := 127) rfl rfl
theorem mM_X1_46 : Cond.methodLink RX1 46 yX8_blowSteadily ∈ lw_g := ing_5 (i := 128) rfl rfl
theorem mI_X8_blowSteadily : Cond.instanceMethod yX8_blowSteadily ∈ lw_g := ing_5 (i := 129) rfl rfl
theorem mS_X8_blowSteadily : Cond.selects RX8 yX8_blowSteadily yX8_blowSteadily ∈ lw_g := ing_5 (i := 130) rfl rfl
theorem mC_X8_blowSteadily : Cond.code yX8_blowSteadily cX8_blowSteadily 3 none ∈ lw_g := ing_5 (i := 131) rfl rfl
theorem mM_X8_38 : Cond.methodLink RX8 38 yJ7_fill_53178 ∈ lw_g := ing_5 (i := 132) rfl rfl
theorem mM_X9_323 : Cond.methodLink RX9 323 yX1_calmSteadyWind ∈ lw_g := ing_5 (i := 133) rfl rfl
theorem mI_X1_calmSteadyWind : Cond.instanceMethod yX1_calmSteadyWind ∈ lw_g := ing_5 (i := 134) rfl rfl
theorem mS_X1_calmSteadyWind : Cond.selects RX1 yX1_calmSteadyWind yX1_calmSteadyWind ∈ lw_g := ing_5 (i := 135) rfl rfl
theorem mC_X1_calmSteadyWind : Cond.code yX1_calmSteadyWind cX1_calmSteadyWind 4 (some .int) ∈ lw_g := ing_5 (i := 136) rfl rfl
theorem mM_L_152 : Cond.methodLink RL 152 yX9_best ∈ lw_g := ing_5 (i := 137) rfl rfl
theorem mI_X9_best : Cond.instanceMethod yX9_best ∈ lw_g := ing_5 (i := 138) rfl rfl
theorem mS_X9_best : Cond.selects RX9 yX9_best yX9_best ∈ lw_g := ing_5 (i := 139) rfl rfl
theorem mC_X9_best : Cond.code yX9_best cX9_best 4 (some .int) ∈ lw_g := ing_5 (i := 140) rfl rfl
theorem mM_X9_326 : Cond.methodLink RX9 326 yX9_refusalOfForecast ∈ lw_g := ing_5 (i := 141) rfl rfl
theorem mI_X9_refusalOfForecast : Cond.instanceMethod yX9_refusalOfForecast ∈ lw_g := ing_5 (i := 143) rfl rfl
theorem mC_X9_refusalOfForecast : Cond.code yX9_refusalOfForecast cX9_refusalOfForecast 3 (some .int) ∈ lw_g := ing_5 (i := 144) rfl rfl
theorem mM_X9_329 : Cond.methodLink RX9 329 yX1_weigh ∈ lw_g := ing_5 (i := 145) rfl rfl
theorem mI_X1_weigh : Cond.instanceMethod yX1_weigh ∈ lw_g := ing_5 (i := 146) rfl rfl
theorem mS_X1_weigh : Cond.selects RX1 yX1_weigh yX1_weigh ∈ lw_g := ing_5 (i := 147) rfl rfl
theorem mC_X1_weigh : Cond.code yX1_weigh cX1_weigh 4 none ∈ lw_g := ing_5 (i := 148) rfl rfl
theorem mM_X1_53 : Cond.methodLink RX1 53 yJ7_fill_53178 ∈ lw_g := ing_5 (i := 149) rfl rfl
theorem mM_X1_63 : Cond.methodLink RX1 63 yX4_layWhole ∈ lw_g := ing_5 (i := 150) rfl rfl
theorem mM_X1_66 : Cond.methodLink RX1 66 yX4_freeQuarters ∈ lw_g := ing_5 (i := 151) rfl rfl
theorem mM_X1_70 : Cond.methodLink RX1 70 yX1_addGoodDay ∈ lw_g := ing_5 (i := 152) rfl rfl
theorem mI_X1_addGoodDay : Cond.instanceMethod yX1_addGoodDay ∈ lw_g := ing_5 (i := 154) rfl rfl
theorem mC_X1_addGoodDay : Cond.code yX1_addGoodDay cX1_addGoodDay 3 none ∈ lw_g := ing_5 (i := 155) rfl rfl
theorem mM_X1_73 : Cond.methodLink RX1 73 yX7_has ∈ lw_g := ing_5 (i := 156) rfl rfl
theorem mM_L_156 : Cond.methodLink RL 156 yX9_breaks ∈ lw_g := ing_5 (i := 157) rfl rfl
theorem mI_X9_breaks : Cond.instanceMethod yX9_breaks ∈ lw_g := ing_5 (i := 158) rfl rfl
theorem mS_X9_breaks : Cond.selects RX9 yX9_breaks yX9_breaks ∈ lw_g := ing_5 (i := 159) rfl rfl
theorem mC_X9_breaks : Cond.code yX9_breaks cX9_breaks 2 (some .int) ∈ lw_g := ing_5 (i := 160) rfl rfl
theorem mM_X9_335 : Cond.methodLink RX9 335 yX1_firstBreakingSeed ∈ lw_g := ing_5 (i := 161) rfl rfl
theorem mI_X1_firstBreakingSeed : Cond.instanceMethod yX1_firstBreakingSeed ∈ lw_g := ing_5 (i := 162) rfl rfl
theorem mS_X1_firstBreakingSeed : Cond.selects RX1 yX1_firstBreakingSeed yX1_firstBreakingSeed ∈ lw_g := ing_5 (i := 163) rfl rfl
theorem mC_X1_firstBreakingSeed : Cond.code yX1_firstBreakingSeed cX1_firstBreakingSeed 3 (some .int) ∈ lw_g := ing_5 (i := 164) rfl rfl
theorem mM_L_160 : Cond.methodLink RL 160 yX9_worth ∈ lw_g := ing_5 (i := 165) rfl rfl
theorem mI_X9_worth : Cond.instanceMethod yX9_worth ∈ lw_g := ing_5 (i := 166) rfl rfl
theorem mS_X9_worth : Cond.selects RX9 yX9_worth yX9_worth ∈ lw_g := ing_5 (i := 167) rfl rfl
theorem mC_X9_worth : Cond.code yX9_worth cX9_worth 4 (some .int) ∈ lw_g := ing_5 (i := 168) rfl rfl
theorem mM_L_164 : Cond.methodLink RL 164 yX9_sky ∈ lw_g := ing_5 (i := 169) rfl rfl
theorem mI_X9_sky : Cond.instanceMethod yX9_sky ∈ lw_g := ing_5 (i := 170) rfl rfl
theorem mS_X9_sky : Cond.selects RX9 yX9_sky yX9_sky ∈ lw_g := ing_5 (i := 171) rfl rfl
theorem mC_X9_sky : Cond.code yX9_sky cX9_sky 3 (some .int) ∈ lw_g := ing_5 (i := 172) rfl rfl
theorem mM_X9_344 : Cond.methodLink RX9 344 yJ7_fill_d0a16 ∈ lw_g := ing_5 (i := 173) rfl rfl
theorem mT_J7_fill_d0a16 : Cond.static yJ7_fill_d0a16 ∈ lw_g := ing_5 (i := 174) rfl rfl
theorem mC_J7_fill_d0a16 : Cond.code yJ7_fill_d0a16 cJ7_fill_d0a16 5 none ∈ lw_g := ing_5 (i := 175) rfl rfl
theorem mM_X9_350 : Cond.methodLink RX9 350 yX9_markSmoky ∈ lw_g := ing_5 (i := 176) rfl rfl
theorem mI_X9_markSmoky : Cond.instanceMethod yX9_markSmoky ∈ lw_g := ing_5 (i := 178) rfl rfl
theorem mC_X9_markSmoky : Cond.code yX9_markSmoky cX9_markSmoky 7 none ∈ lw_g := ing_5 (i := 179) rfl rfl
theorem mM_L_168 : Cond.methodLink RL 168 yX9_numbers ∈ lw_g := ing_5 (i := 180) rfl rfl
theorem mI_X9_numbers : Cond.instanceMethod yX9_numbers ∈ lw_g := ing_5 (i := 181) rfl rfl
theorem mS_X9_numbers : Cond.selects RX9 yX9_numbers yX9_numbers ∈ lw_g := ing_5 (i := 182) rfl rfl
theorem mC_X9_numbers : Cond.code yX9_numbers cX9_numbers 5 (some .int) ∈ lw_g := ing_5 (i := 183) rfl rfl
theorem mM_X9_353 : Cond.methodLink RX9 353 yX3_begin ∈ lw_g := ing_5 (i := 184) rfl rfl
theorem mI_X3_begin : Cond.instanceMethod yX3_begin ∈ lw_g := ing_5 (i := 185) rfl rfl
theorem mS_X3_begin : Cond.selects RX3 yX3_begin yX3_begin ∈ lw_g := ing_5 (i := 186) rfl rfl
theorem mC_X3_begin : Cond.code yX3_begin cX3_begin 3 none ∈ lw_g := ing_5 (i := 187) rfl rfl
theorem mM_X3_22 : Cond.methodLink RX3 22 yJ7_fill_d0a16 ∈ lw_g := ing_5 (i := 188) rfl rfl
theorem mM_L_174 : Cond.methodLink RL 174 yX9_write ∈ lw_g := ing_5 (i := 189) rfl rfl
theorem mI_X9_write : Cond.instanceMethod yX9_write ∈ lw_g := ing_5 (i := 190) rfl rfl
theorem mS_X9_write : Cond.selects RX9 yX9_write yX9_write ∈ lw_g := ing_5 (i := 191) rfl rfl
theorem mC_X9_write : Cond.code yX9_write cX9_write 6 (some .long) ∈ lw_g := ing_5 (i := 192) rfl rfl
theorem mK_X9_356 : Cond.constantLong RX9 356 (-2 : Int64) ∈ lw_g := ing_5 (i := 193) rfl rfl
theorem mK_X9_358 : Cond.constantLong RX9 358 (-6 : Int64) ∈ lw_g := ing_5 (i := 194) rfl rfl
theorem mM_X9_360 : Cond.methodLink RX9 360 yX3_hasPlace ∈ lw_g := ing_5 (i := 195) rfl rfl
theorem mM_X9_363 : Cond.methodLink RX9 363 yX3_put ∈ lw_g := ing_5 (i := 196) rfl rfl
theorem mI_X3_put : Cond.instanceMethod yX3_put ∈ lw_g := ing_5 (i := 197) rfl rfl
theorem mS_X3_put : Cond.selects RX3 yX3_put yX3_put ∈ lw_g := ing_5 (i := 198) rfl rfl
theorem mC_X3_put : Cond.code yX3_put cX3_put 4 (some .long) ∈ lw_g := ing_5 (i := 199) rfl rfl
theorem mM_X3_32 : Cond.methodLink RX3 32 yX3_cut ∈ lw_g := ing_5 (i := 200) rfl rfl
theorem mI_X3_cut : Cond.instanceMethod yX3_cut ∈ lw_g := ing_5 (i := 202) rfl rfl
theorem mC_X3_cut : Cond.code yX3_cut cX3_cut 3 (some .long) ∈ lw_g := ing_5 (i := 203) rfl rfl
theorem mK_X9_367 : Cond.constantLong RX9 367 (-7 : Int64) ∈ lw_g := ing_5 (i := 204) rfl rfl
theorem mM_L_179 : Cond.methodLink RL 179 yX9_copy ∈ lw_g := ing_5 (i := 205) rfl rfl
theorem mI_X9_copy : Cond.instanceMethod yX9_copy ∈ lw_g := ing_5 (i := 206) rfl rfl
theorem mS_X9_copy : Cond.selects RX9 yX9_copy yX9_copy ∈ lw_g := ing_5 (i := 207) rfl rfl
theorem mC_X9_copy : Cond.code yX9_copy cX9_copy 4 (some .int) ∈ lw_g := ing_5 (i := 208) rfl rfl
theorem mM_L_183 : Cond.methodLink RL 183 yX9_image ∈ lw_g := ing_5 (i := 209) rfl rfl
theorem mI_X9_image : Cond.instanceMethod yX9_image ∈ lw_g := ing_5 (i := 210) rfl rfl
theorem mS_X9_image : Cond.selects RX9 yX9_image yX9_image ∈ lw_g := ing_5 (i := 211) rfl rfl
theorem mC_X9_image : Cond.code yX9_image cX9_image 2 (some .int) ∈ lw_g := ing_5 (i := 212) rfl rfl
theorem mM_L_187 : Cond.methodLink RL 187 yX9_restore ∈ lw_g := ing_5 (i := 213) rfl rfl
theorem mI_X9_restore : Cond.instanceMethod yX9_restore ∈ lw_g := ing_5 (i := 214) rfl rfl
theorem mS_X9_restore : Cond.selects RX9 yX9_restore yX9_restore ∈ lw_g := ing_5 (i := 215) rfl rfl
theorem mC_X9_restore : Cond.code yX9_restore cX9_restore 2 (some .int) ∈ lw_g := ing_5 (i := 216) rfl rfl
theorem mM_L_191 : Cond.methodLink RL 191 yX9_count ∈ lw_g := ing_5 (i := 217) rfl rfl
theorem mI_X9_count : Cond.instanceMethod yX9_count ∈ lw_g := ing_5 (i := 218) rfl rfl
theorem mS_X9_count : Cond.selects RX9 yX9_count yX9_count ∈ lw_g := ing_5 (i := 219) rfl rfl
theorem mC_X9_count : Cond.code yX9_count cX9_count 2 (some .int) ∈ lw_g := ing_5 (i := 220) rfl rfl
theorem mM_X9_375 : Cond.methodLink RX9 375 yX7_litCount ∈ lw_g := ing_5 (i := 221) rfl rfl
theorem mM_X9_390 : Cond.methodLink RX9 390 yX9_dueFromAll ∈ lw_g := ing_5 (i := 222) rfl rfl
theorem mI_X9_dueFromAll : Cond.instanceMethod yX9_dueFromAll ∈ lw_g := ing_5 (i := 224) rfl rfl
theorem mC_X9_dueFromAll : Cond.code yX9_dueFromAll cX9_dueFromAll 3 (some .int) ∈ lw_g := ing_5 (i := 225) rfl rfl
theorem mL_L_10 : Cond.classLink RL 10 RX10 ∈ lw_g := ing_5 (i := 226) rfl rfl
theorem mX_X10 : Cond.instantiable RX10 40 ∈ lw_g := ing_5 (i := 227) rfl rfl
theorem mM_L_12 : Cond.methodLink RL 12 yX10_init ∈ lw_g := ing_5 (i := 228) rfl rfl
theorem mI_X10_init : Cond.instanceMethod yX10_init ∈ lw_g := ing_5 (i := 229) rfl rfl
theorem mC_X10_init : Cond.code yX10_init cX10_init 1 none ∈ lw_g := ing_5 (i := 230) rfl rfl
theorem mM_X10_85 : Cond.methodLink RX10 85 yX10_plain ∈ lw_g := ing_5 (i := 232) rfl rfl
theorem mT_X10_plain : Cond.static yX10_plain ∈ lw_g := ing_5 (i := 233) rfl rfl
theorem mC_X10_plain : Cond.code yX10_plain cX10_plain 2 none ∈ lw_g := ing_5 (i := 234) rfl rfl
theorem mF_X10_1 : Cond.fieldLink RX10 1 "SmokesApartModel" "thrown" "I" ∈ lw_g := ing_5 (i := 235) rfl rfl
theorem mF_X10_13 : Cond.fieldLink RX10 13 "SmokesApartModel" "all" "[I" ∈ lw_g := ing_5 (i := 236) rfl rfl
theorem mF_X10_17 : Cond.fieldLink RX10 17 "SmokesApartModel" "hasImage" "[Z" ∈ lw_g := ing_5 (i := 237) rfl rfl
theorem mF_X10_21 : Cond.fieldLink RX10 21 "SmokesApartModel" "tape" "[I" ∈ lw_g := ing_5 (i := 238) rfl rfl
theorem mF_X10_24 : Cond.fieldLink RX10 24 "SmokesApartModel" "fresh" "[I" ∈ lw_g := ing_5 (i := 239) rfl rfl
theorem mF_X10_89 : Cond.fieldLink RX10 89 "SmokesApartModel" "taped" "I" ∈ lw_g := ing_6 (i := 0) rfl rfl
theorem mF_X10_107 : Cond.fieldLink RX10 107 "SmokesApartModel" "at" "I" ∈ lw_g := ing_6 (i := 1) rfl rfl
theorem mF_X10_110 : Cond.fieldLink RX10 110 "SmokesApartModel" "behind" "I" ∈ lw_g := ing_6 (i := 2) rfl rfl
theorem mF_X10_92 : Cond.fieldLink RX10 92 "SmokesApartModel" "size" "I" ∈ lw_g := ing_6 (i := 3) rfl rfl
theorem mF_X10_117 : Cond.fieldLink RX10 117 "SmokesApartModel" "kind" "I" ∈ lw_g := ing_6 (i := 4) rfl rfl
theorem mF_X10_130 : Cond.fieldLink RX10 130 "SmokesApartModel" "number" "I" ∈ lw_g := ing_6 (i := 5) rfl rfl
theorem mF_X10_133 : Cond.fieldLink RX10 133 "SmokesApartModel" "wrong" "I" ∈ lw_g := ing_6 (i := 6) rfl rfl
theorem mF_X10_136 : Cond.fieldLink RX10 136 "SmokesApartModel" "wrongAt" "I" ∈ lw_g := ing_6 (i := 7) rfl rfl
theorem mF_X10_168 : Cond.fieldLink RX10 168 "SmokesApartModel" "faultKind" "I" ∈ lw_g := ing_6 (i := 8) rfl rfl
theorem mF_X10_27 : Cond.fieldLink RX10 27 "SmokesApartModel" "faultPlace" "I" ∈ lw_g := ing_6 (i := 9) rfl rfl
theorem mF_X10_30 : Cond.fieldLink RX10 30 "SmokesApartModel" "lows" "[I" ∈ lw_g := ing_6 (i := 10) rfl rfl
theorem mF_X10_33 : Cond.fieldLink RX10 33 "SmokesApartModel" "highs" "[I" ∈ lw_g := ing_6 (i := 11) rfl rfl
theorem mF_X10_36 : Cond.fieldLink RX10 36 "SmokesApartModel" "puffsOf" "[I" ∈ lw_g := ing_6 (i := 12) rfl rfl
theorem mF_X10_39 : Cond.fieldLink RX10 39 "SmokesApartModel" "puffMany" "[I" ∈ lw_g := ing_6 (i := 13) rfl rfl
theorem mF_X10_42 : Cond.fieldLink RX10 42 "SmokesApartModel" "touches" "[Z" ∈ lw_g := ing_6 (i := 14) rfl rfl
theorem mF_X10_45 : Cond.fieldLink RX10 45 "SmokesApartModel" "kept" "[I" ∈ lw_g := ing_6 (i := 15) rfl rfl
theorem mF_X10_232 : Cond.fieldLink RX10 232 "SmokesApartModel" "why" "I" ∈ lw_g := ing_6 (i := 16) rfl rfl
theorem mF_X10_48 : Cond.fieldLink RX10 48 "SmokesApartModel" "pairs" "[I" ∈ lw_g := ing_6 (i := 17) rfl rfl
theorem mF_X10_51 : Cond.fieldLink RX10 51 "SmokesApartModel" "few" "[I" ∈ lw_g := ing_6 (i := 18) rfl rfl
theorem mF_X10_54 : Cond.fieldLink RX10 54 "SmokesApartModel" "freeOf" "[I" ∈ lw_g := ing_6 (i := 19) rfl rfl
theorem mF_X10_57 : Cond.fieldLink RX10 57 "SmokesApartModel" "quarterOf" "[I" ∈ lw_g := ing_6 (i := 20) rfl rfl
theorem mF_X10_60 : Cond.fieldLink RX10 60 "SmokesApartModel" "bestOf" "[I" ∈ lw_g := ing_6 (i := 21) rfl rfl
theorem mF_X10_63 : Cond.fieldLink RX10 63 "SmokesApartModel" "areApart" "[Z" ∈ lw_g := ing_6 (i := 22) rfl rfl
theorem mF_X10_278 : Cond.fieldLink RX10 278 "SmokesApartModel" "fewMany" "I" ∈ lw_g := ing_6 (i := 23) rfl rfl
theorem mF_X10_284 : Cond.fieldLink RX10 284 "SmokesApartModel" "bestLatest" "I" ∈ lw_g := ing_6 (i := 24) rfl rfl
theorem mF_X10_287 : Cond.fieldLink RX10 287 "SmokesApartModel" "bestSum" "I" ∈ lw_g := ing_6 (i := 25) rfl rfl
theorem mF_X10_66 : Cond.fieldLink RX10 66 "SmokesApartModel" "sootFor" "[I" ∈ lw_g := ing_6 (i := 26) rfl rfl
theorem mF_X10_329 : Cond.fieldLink RX10 329 "SmokesApartModel" "alwaysLit" "I" ∈ lw_g := ing_6 (i := 27) rfl rfl
theorem mF_X10_332 : Cond.fieldLink RX10 332 "SmokesApartModel" "theDay" "I" ∈ lw_g := ing_6 (i := 28) rfl rfl
theorem mF_X10_69 : Cond.fieldLink RX10 69 "SmokesApartModel" "goodIn" "[I" ∈ lw_g := ing_6 (i := 29) rfl rfl
theorem mF_X10_355 : Cond.fieldLink RX10 355 "SmokesApartModel" "goodSome" "I" ∈ lw_g := ing_6 (i := 30) rfl rfl
theorem mF_X10_72 : Cond.fieldLink RX10 72 "SmokesApartModel" "hadSmoke" "[Z" ∈ lw_g := ing_6 (i := 31) rfl rfl
theorem mF_X10_75 : Cond.fieldLink RX10 75 "SmokesApartModel" "rowSort" "[I" ∈ lw_g := ing_6 (i := 32) rfl rfl
theorem mF_X10_78 : Cond.fieldLink RX10 78 "SmokesApartModel" "rowMany" "[I" ∈ lw_g := ing_6 (i := 33) rfl rfl
theorem mF_X10_81 : Cond.fieldLink RX10 81 "SmokesApartModel" "numbers" "[J" ∈ lw_g := ing_6 (i := 34) rfl rfl
theorem mZ_superclass_10 : Cond.superclass "SmokesApartModel" "java/lang/Object" ∈ lw_g := ing_6 (i := 115) rfl rfl
theorem mZ_arrayClass_3 : Cond.arrayClass FieldType.boolean ∈ lw_g := ing_6 (i := 116) rfl rfl
theorem mM_L_17 : Cond.methodLink RL 17 yX10_feed ∈ lw_g := ing_6 (i := 117) rfl rfl
theorem mI_X10_feed : Cond.instanceMethod yX10_feed ∈ lw_g := ing_6 (i := 118) rfl rfl
theorem mS_X10_feed : Cond.selects RX10 yX10_feed yX10_feed ∈ lw_g := ing_6 (i := 119) rfl rfl
theorem mC_X10_feed : Cond.code yX10_feed cX10_feed 8 (some .int) ∈ lw_g := ing_6 (i := 120) rfl rfl
theorem mM_L_22 : Cond.methodLink RL 22 yX10_town ∈ lw_g := ing_6 (i := 121) rfl rfl
theorem mI_X10_town : Cond.instanceMethod yX10_town ∈ lw_g := ing_6 (i := 122) rfl rfl
theorem mS_X10_town : Cond.selects RX10 yX10_town yX10_town ∈ lw_g := ing_6 (i := 123) rfl rfl
theorem mC_X10_town : Cond.code yX10_town cX10_town 3 (some .int) ∈ lw_g := ing_6 (i := 124) rfl rfl
theorem mM_X10_149 : Cond.methodLink RX10 149 yX10_within ∈ lw_g := ing_6 (i := 125) rfl rfl
theorem mT_X10_within : Cond.static yX10_within ∈ lw_g := ing_6 (i := 126) rfl rfl
theorem mC_X10_within : Cond.code yX10_within cX10_within 6 (some .boolean) ∈ lw_g := ing_6 (i := 127) rfl rfl
theorem mM_X10_142 : Cond.methodLink RX10 142 yX10_next ∈ lw_g := ing_6 (i := 128) rfl rfl
theorem mI_X10_next : Cond.instanceMethod yX10_next ∈ lw_g := ing_6 (i := 130) rfl rfl
theorem mC_X10_next : Cond.code yX10_next cX10_next 1 none ∈ lw_g := ing_6 (i := 131) rfl rfl
theorem mM_X10_113 : Cond.methodLink RX10 113 yX10_see ∈ lw_g := ing_6 (i := 132) rfl rfl
theorem mI_X10_see : Cond.instanceMethod yX10_see ∈ lw_g := ing_6 (i := 134) rfl rfl
theorem mC_X10_see : Cond.code yX10_see cX10_see 2 (some .int) ∈ lw_g := ing_6 (i := 135) rfl rfl
theorem mM_X10_120 : Cond.methodLink RX10 120 yX10_isSmall ∈ lw_g := ing_6 (i := 136) rfl rfl
theorem mT_X10_isSmall : Cond.static yX10_isSmall ∈ lw_g := ing_6 (i := 137) rfl rfl
theorem mC_X10_isSmall : Cond.code yX10_isSmall cX10_isSmall 1 (some .boolean) ∈ lw_g := ing_6 (i := 138) rfl rfl
theorem mM_X10_124 : Cond.methodLink RX10 124 yX10_keyAt ∈ lw_g := ing_6 (i := 139) rfl rfl
theorem mI_X10_keyAt : Cond.instanceMethod yX10_keyAt ∈ lw_g := ing_6 (i := 141) rfl rfl
theorem mC_X10_keyAt : Cond.code yX10_keyAt cX10_keyAt 4 (some .int) ∈ lw_g := ing_6 (i := 142) rfl rfl
theorem mZ_stringRef_7 : Cond.stringRef "SmokesApartModel" (95 : Nat) " chimney from to wind layer thick fine " ∈ lw_tbl := int_6 (i := 143) rfl
theorem mM_X10_97 : Cond.methodLink RX10 97 yJ0_length_8abf5 ∈ lw_g := ing_6 (i := 144) rfl rfl
theorem mM_X10_103 : Cond.methodLink RX10 103 yJ0_charAt_5068e ∈ lw_g := ing_6 (i := 145) rfl rfl
theorem mM_X10_127 : Cond.methodLink RX10 127 yX10_isDigit ∈ lw_g := ing_6 (i := 146) rfl rfl
theorem mT_X10_isDigit : Cond.static yX10_isDigit ∈ lw_g := ing_6 (i := 147) rfl rfl
theorem mC_X10_isDigit : Cond.code yX10_isDigit cX10_isDigit 1 (some .boolean) ∈ lw_g := ing_6 (i := 148) rfl rfl
theorem mM_X10_139 : Cond.methodLink RX10 139 yX10_is ∈ lw_g := ing_6 (i := 149) rfl rfl
theorem mI_X10_is : Cond.instanceMethod yX10_is ∈ lw_g := ing_6 (i := 151) rfl rfl
theorem mC_X10_is : Cond.code yX10_is cX10_is 2 (some .boolean) ∈ lw_g := ing_6 (i := 152) rfl rfl
theorem mM_X10_162 : Cond.methodLink RX10 162 yX10_readChimney ∈ lw_g := ing_6 (i := 153) rfl rfl
theorem mI_X10_readChimney : Cond.instanceMethod yX10_readChimney ∈ lw_g := ing_6 (i := 155) rfl rfl
theorem mC_X10_readChimney : Cond.code yX10_readChimney cX10_readChimney 7 none ∈ lw_g := ing_6 (i := 156) rfl rfl
theorem mM_X10_145 : Cond.methodLink RX10 145 yX10_fails ∈ lw_g := ing_6 (i := 157) rfl rfl
theorem mI_X10_fails : Cond.instanceMethod yX10_fails ∈ lw_g := ing_6 (i := 159) rfl rfl
theorem mC_X10_fails : Cond.code yX10_fails cX10_fails 2 none ∈ lw_g := ing_6 (i := 160) rfl rfl
theorem mM_X10_153 : Cond.methodLink RX10 153 yX10_takes ∈ lw_g := ing_6 (i := 161) rfl rfl
theorem mI_X10_takes : Cond.instanceMethod yX10_takes ∈ lw_g := ing_6 (i := 163) rfl rfl
theorem mC_X10_takes : Cond.code yX10_takes cX10_takes 4 (some .int) ∈ lw_g := ing_6 (i := 164) rfl rfl
theorem mK_X10_157 : Cond.constantLong RX10 157 (9 : Int64) ∈ lw_g := ing_6 (i := 165) rfl rfl
theorem mM_X10_159 : Cond.methodLink RX10 159 yX10_eats ∈ lw_g := ing_6 (i := 166) rfl rfl
theorem mI_X10_eats : Cond.instanceMethod yX10_eats ∈ lw_g := ing_6 (i := 168) rfl rfl
theorem mC_X10_eats : Cond.code yX10_eats cX10_eats 2 (some .boolean) ∈ lw_g := ing_6 (i := 169) rfl rfl
theorem mM_X10_165 : Cond.methodLink RX10 165 yX10_readWind ∈ lw_g := ing_6 (i := 170) rfl rfl
theorem mI_X10_readWind : Cond.instanceMethod yX10_readWind ∈ lw_g := ing_6 (i := 172) rfl rfl
theorem mC_X10_readWind : Cond.code yX10_readWind cX10_readWind 5 none ∈ lw_g := ing_6 (i := 173) rfl rfl
theorem mM_L_26 : Cond.methodLink RL 26 yX10_fault ∈ lw_g := ing_6 (i := 174) rfl rfl
theorem mI_X10_fault : Cond.instanceMethod yX10_fault ∈ lw_g := ing_6 (i := 175) rfl rfl
theorem mS_X10_fault : Cond.selects RX10 yX10_fault yX10_fault ∈ lw_g := ing_6 (i := 176) rfl rfl
theorem mC_X10_fault : Cond.code yX10_fault cX10_fault 2 (some .int) ∈ lw_g := ing_6 (i := 177) rfl rfl
theorem mM_L_31 : Cond.methodLink RL 31 yX10_chimney ∈ lw_g := ing_6 (i := 178) rfl rfl
theorem mI_X10_chimney : Cond.instanceMethod yX10_chimney ∈ lw_g := ing_6 (i := 179) rfl rfl
theorem mS_X10_chimney : Cond.selects RX10 yX10_chimney yX10_chimney ∈ lw_g := ing_6 (i := 180) rfl rfl
theorem mC_X10_chimney : Cond.code yX10_chimney cX10_chimney 3 (some .int) ∈ lw_g := ing_6 (i := 181) rfl rfl
theorem mM_X10_173 : Cond.methodLink RX10 173 yX10_isChimney ∈ lw_g := ing_6 (i := 182) rfl rfl
theorem mI_X10_isChimney : Cond.instanceMethod yX10_isChimney ∈ lw_g := ing_6 (i := 184) rfl rfl
theorem mC_X10_isChimney : Cond.code yX10_isChimney cX10_isChimney 3 (some .boolean) ∈ lw_g := ing_6 (i := 185) rfl rfl
theorem mK_X10_177 : Cond.constantLong RX10 177 (6 : Int64) ∈ lw_g := ing_6 (i := 186) rfl rfl
theorem mM_X10_179 : Cond.methodLink RX10 179 yX10_litAt ∈ lw_g := ing_6 (i := 187) rfl rfl
theorem mI_X10_litAt : Cond.instanceMethod yX10_litAt ∈ lw_g := ing_6 (i := 189) rfl rfl
theorem mC_X10_litAt : Cond.code yX10_litAt cX10_litAt 2 (some .int) ∈ lw_g := ing_6 (i := 190) rfl rfl
theorem mM_L_36 : Cond.methodLink RL 36 yX10_wind ∈ lw_g := ing_6 (i := 191) rfl rfl
theorem mI_X10_wind : Cond.instanceMethod yX10_wind ∈ lw_g := ing_6 (i := 192) rfl rfl
theorem mS_X10_wind : Cond.selects RX10 yX10_wind yX10_wind ∈ lw_g := ing_6 (i := 193) rfl rfl
theorem mC_X10_wind : Cond.code yX10_wind cX10_wind 3 (some .int) ∈ lw_g := ing_6 (i := 194) rfl rfl
theorem mM_X10_182 : Cond.methodLink RX10 182 yX10_isHour ∈ lw_g := ing_6 (i := 195) rfl rfl
theorem mI_X10_isHour : Cond.instanceMethod yX10_isHour ∈ lw_g := ing_6 (i := 197) rfl rfl
theorem mC_X10_isHour : Cond.code yX10_isHour cX10_isHour 2 (some .boolean) ∈ lw_g := ing_6 (i := 198) rfl rfl
theorem mK_X10_171 : Cond.constantLong RX10 171 (47 : Int64) ∈ lw_g := ing_6 (i := 199) rfl rfl
theorem mM_X10_185 : Cond.methodLink RX10 185 yX10_windOf ∈ lw_g := ing_6 (i := 200) rfl rfl
theorem mI_X10_windOf : Cond.instanceMethod yX10_windOf ∈ lw_g := ing_6 (i := 202) rfl rfl
theorem mC_X10_windOf : Cond.code yX10_windOf cX10_windOf 6 (some .int) ∈ lw_g := ing_6 (i := 203) rfl rfl
theorem mM_L_40 : Cond.methodLink RL 40 yX10_light ∈ lw_g := ing_6 (i := 204) rfl rfl
theorem mI_X10_light : Cond.instanceMethod yX10_light ∈ lw_g := ing_6 (i := 205) rfl rfl
theorem mS_X10_light : Cond.selects RX10 yX10_light yX10_light ∈ lw_g := ing_6 (i := 206) rfl rfl
theorem mC_X10_light : Cond.code yX10_light cX10_light 3 (some .int) ∈ lw_g := ing_6 (i := 207) rfl rfl
theorem mM_X10_202 : Cond.methodLink RX10 202 yX10_isLit ∈ lw_g := ing_6 (i := 208) rfl rfl
theorem mI_X10_isLit : Cond.instanceMethod yX10_isLit ∈ lw_g := ing_6 (i := 210) rfl rfl
theorem mC_X10_isLit : Cond.code yX10_isLit cX10_isLit 2 (some .boolean) ∈ lw_g := ing_6 (i := 211) rfl rfl
theorem mM_X10_218 : Cond.methodLink RX10 218 yX10_isTime ∈ lw_g := ing_6 (i := 212) rfl rfl
theorem mI_X10_isTime : Cond.instanceMethod yX10_isTime ∈ lw_g := ing_6 (i := 214) rfl rfl
theorem mC_X10_isTime : Cond.code yX10_isTime cX10_isTime 3 (some .boolean) ∈ lw_g := ing_6 (i := 215) rfl rfl
theorem mM_L_44 : Cond.methodLink RL 44 yX10_out ∈ lw_g := ing_6 (i := 216) rfl rfl
theorem mI_X10_out : Cond.instanceMethod yX10_out ∈ lw_g := ing_6 (i := 217) rfl rfl
theorem mS_X10_out : Cond.selects RX10 yX10_out yX10_out ∈ lw_g := ing_6 (i := 218) rfl rfl
theorem mC_X10_out : Cond.code yX10_out cX10_out 3 (some .int) ∈ lw_g := ing_6 (i := 219) rfl rfl
theorem mM_L_48 : Cond.methodLink RL 48 yX10_judge ∈ lw_g := ing_6 (i := 220) rfl rfl
theorem mI_X10_judge : Cond.instanceMethod yX10_judge ∈ lw_g := ing_6 (i := 221) rfl rfl
theorem mS_X10_judge : Cond.selects RX10 yX10_judge yX10_judge ∈ lw_g := ing_6 (i := 222) rfl rfl
theorem mC_X10_judge : Cond.code yX10_judge cX10_judge 6 (some .int) ∈ lw_g := ing_6 (i := 223) rfl rfl
theorem mK_X10_239 : Cond.constantLong RX10 239 (3 : Int64) ∈ lw_g := ing_6 (i := 224) rfl rfl
theorem mK_X10_241 : Cond.constantLong RX10 241 (2 : Int64) ∈ lw_g := ing_6 (i := 225) rfl rfl
theorem mM_X10_243 : Cond.methodLink RX10 243 yX10_lightsAll ∈ lw_g := ing_6 (i := 226) rfl rfl
theorem mI_X10_lightsAll : Cond.instanceMethod yX10_lightsAll ∈ lw_g := ing_6 (i := 228) rfl rfl
theorem mC_X10_lightsAll : Cond.code yX10_lightsAll cX10_lightsAll 5 (some .int) ∈ lw_g := ing_6 (i := 229) rfl rfl
theorem mM_X10_235 : Cond.methodLink RX10 235 yX10_refuses ∈ lw_g := ing_6 (i := 230) rfl rfl
theorem mI_X10_refuses : Cond.instanceMethod yX10_refuses ∈ lw_g := ing_6 (i := 232) rfl rfl
theorem mC_X10_refuses : Cond.code yX10_refuses cX10_refuses 5 (some .int) ∈ lw_g := ing_6 (i := 233) rfl rfl
theorem mK_X10_222 : Cond.constantLong RX10 222 (32 : Int64) ∈ lw_g := ing_6 (i := 234) rfl rfl
theorem mK_X10_224 : Cond.constantLong RX10 224 (23 : Int64) ∈ lw_g := ing_6 (i := 235) rfl rfl
theorem mM_X10_226 : Cond.methodLink RX10 226 yX10_laysNow ∈ lw_g := ing_6 (i := 236) rfl rfl
theorem mI_X10_laysNow : Cond.instanceMethod yX10_laysNow ∈ lw_g := ing_6 (i := 238) rfl rfl
theorem mC_X10_laysNow : Cond.code yX10_laysNow cX10_laysNow 1 none ∈ lw_g := ing_6 (i := 239) rfl rfl
theorem mM_X10_209 : Cond.methodLink RX10 209 yX10_laysWinds ∈ lw_g := ing_7 (i := 0) rfl rfl
theorem mI_X10_laysWinds : Cond.instanceMethod yX10_laysWinds ∈ lw_g := ing_7 (i := 2) rfl rfl
theorem mC_X10_laysWinds : Cond.code yX10_laysWinds cX10_laysWinds 2 none ∈ lw_g := ing_7 (i := 3) rfl rfl
theorem mM_X10_212 : Cond.methodLink RX10 212 yX10_laysLit ∈ lw_g := ing_7 (i := 4) rfl rfl
theorem mI_X10_laysLit : Cond.instanceMethod yX10_laysLit ∈ lw_g := ing_7 (i := 6) rfl rfl
theorem mC_X10_laysLit : Cond.code yX10_laysLit cX10_laysLit 2 none ∈ lw_g := ing_7 (i := 7) rfl rfl
theorem mM_X10_205 : Cond.methodLink RX10 205 yX10_laysFire ∈ lw_g := ing_7 (i := 8) rfl rfl
theorem mI_X10_laysFire : Cond.instanceMethod yX10_laysFire ∈ lw_g := ing_7 (i := 10) rfl rfl
theorem mC_X10_laysFire : Cond.code yX10_laysFire cX10_laysFire 5 none ∈ lw_g := ing_7 (i := 11) rfl rfl
theorem mM_X10_189 : Cond.methodLink RX10 189 yX10_laysPuffs ∈ lw_g := ing_7 (i := 12) rfl rfl
theorem mI_X10_laysPuffs : Cond.instanceMethod yX10_laysPuffs ∈ lw_g := ing_7 (i := 14) rfl rfl
theorem mC_X10_laysPuffs : Cond.code yX10_laysPuffs cX10_laysPuffs 13 none ∈ lw_g := ing_7 (i := 15) rfl rfl
theorem mK_X10_193 : Cond.constantLong RX10 193 (39 : Int64) ∈ lw_g := ing_7 (i := 16) rfl rfl
theorem mM_X10_229 : Cond.methodLink RX10 229 yX10_touchesLit ∈ lw_g := ing_7 (i := 17) rfl rfl
theorem mI_X10_touchesLit : Cond.instanceMethod yX10_touchesLit ∈ lw_g := ing_7 (i := 19) rfl rfl
theorem mC_X10_touchesLit : Cond.code yX10_touchesLit cX10_touchesLit 5 (some .boolean) ∈ lw_g := ing_7 (i := 20) rfl rfl
theorem mM_X10_215 : Cond.methodLink RX10 215 yX10_areTouching ∈ lw_g := ing_7 (i := 21) rfl rfl
theorem mI_X10_areTouching : Cond.instanceMethod yX10_areTouching ∈ lw_g := ing_7 (i := 23) rfl rfl
theorem mC_X10_areTouching : Cond.code yX10_areTouching cX10_areTouching 6 (some .boolean) ∈ lw_g := ing_7 (i := 24) rfl rfl
theorem mM_X10_195 : Cond.methodLink RX10 195 yX10_puffIn ∈ lw_g := ing_7 (i := 25) rfl rfl
theorem mI_X10_puffIn : Cond.instanceMethod yX10_puffIn ∈ lw_g := ing_7 (i := 27) rfl rfl
theorem mC_X10_puffIn : Cond.code yX10_puffIn cX10_puffIn 3 (some .int) ∈ lw_g := ing_7 (i := 28) rfl rfl
theorem mM_X10_198 : Cond.methodLink RX10 198 yX10_meet ∈ lw_g := ing_7 (i := 29) rfl rfl
theorem mT_X10_meet : Cond.static yX10_meet ∈ lw_g := ing_7 (i := 30) rfl rfl
theorem mC_X10_meet : Cond.code yX10_meet cX10_meet 3 (some .boolean) ∈ lw_g := ing_7 (i := 31) rfl rfl
theorem mM_X10_246 : Cond.methodLink RX10 246 yX10_litMany ∈ lw_g := ing_7 (i := 32) rfl rfl
theorem mI_X10_litMany : Cond.instanceMethod yX10_litMany ∈ lw_g := ing_7 (i := 34) rfl rfl
theorem mC_X10_litMany : Cond.code yX10_litMany cX10_litMany 3 (some .int) ∈ lw_g := ing_7 (i := 35) rfl rfl
theorem mM_L_52 : Cond.methodLink RL 52 yX10_perform ∈ lw_g := ing_7 (i := 36) rfl rfl
theorem mI_X10_perform : Cond.instanceMethod yX10_perform ∈ lw_g := ing_7 (i := 37) rfl rfl
theorem mS_X10_perform : Cond.selects RX10 yX10_perform yX10_perform ∈ lw_g := ing_7 (i := 38) rfl rfl
theorem mC_X10_perform : Cond.code yX10_perform cX10_perform 2 (some .int) ∈ lw_g := ing_7 (i := 39) rfl rfl
theorem mM_L_57 : Cond.methodLink RL 57 yX10_smoke ∈ lw_g := ing_7 (i := 40) rfl rfl
theorem mI_X10_smoke : Cond.instanceMethod yX10_smoke ∈ lw_g := ing_7 (i := 41) rfl rfl
theorem mS_X10_smoke : Cond.selects RX10 yX10_smoke yX10_smoke ∈ lw_g := ing_7 (i := 42) rfl rfl
theorem mC_X10_smoke : Cond.code yX10_smoke cX10_smoke 7 (some .int) ∈ lw_g := ing_7 (i := 43) rfl rfl
theorem mK_X10_249 : Cond.constantLong RX10 249 (24 : Int64) ∈ lw_g := ing_7 (i := 44) rfl rfl
theorem mM_L_61 : Cond.methodLink RL 61 yX10_puffs ∈ lw_g := ing_7 (i := 45) rfl rfl
theorem mI_X10_puffs : Cond.instanceMethod yX10_puffs ∈ lw_g := ing_7 (i := 46) rfl rfl
theorem mS_X10_puffs : Cond.selects RX10 yX10_puffs yX10_puffs ∈ lw_g := ing_7 (i := 47) rfl rfl
theorem mC_X10_puffs : Cond.code yX10_puffs cX10_puffs 5 (some .int) ∈ lw_g := ing_7 (i := 48) rfl rfl
theorem mM_L_66 : Cond.methodLink RL 66 yX10_puff ∈ lw_g := ing_7 (i := 49) rfl rfl
theorem mI_X10_puff : Cond.instanceMethod yX10_puff ∈ lw_g := ing_7 (i := 50) rfl rfl
theorem mS_X10_puff : Cond.selects RX10 yX10_puff yX10_puff ∈ lw_g := ing_7 (i := 51) rfl rfl
theorem mC_X10_puff : Cond.code yX10_puff cX10_puff 7 (some .int) ∈ lw_g := ing_7 (i := 52) rfl rfl
theorem mM_L_70 : Cond.methodLink RL 70 yX10_touch ∈ lw_g := ing_7 (i := 53) rfl rfl
theorem mI_X10_touch : Cond.instanceMethod yX10_touch ∈ lw_g := ing_7 (i := 54) rfl rfl
theorem mS_X10_touch : Cond.selects RX10 yX10_touch yX10_touch ∈ lw_g := ing_7 (i := 55) rfl rfl
theorem mC_X10_touch : Cond.code yX10_touch cX10_touch 3 (some .int) ∈ lw_g := ing_7 (i := 56) rfl rfl
theorem mM_X10_251 : Cond.methodLink RX10 251 yX10_areTwo ∈ lw_g := ing_7 (i := 57) rfl rfl
theorem mI_X10_areTwo : Cond.instanceMethod yX10_areTwo ∈ lw_g := ing_7 (i := 59) rfl rfl
theorem mC_X10_areTwo : Cond.code yX10_areTwo cX10_areTwo 3 (some .boolean) ∈ lw_g := ing_7 (i := 60) rfl rfl
theorem mM_X10_254 : Cond.methodLink RX10 254 yX10_quarters ∈ lw_g := ing_7 (i := 61) rfl rfl
theorem mI_X10_quarters : Cond.instanceMethod yX10_quarters ∈ lw_g := ing_7 (i := 63) rfl rfl
theorem mC_X10_quarters : Cond.code yX10_quarters cX10_quarters 5 (some .int) ∈ lw_g := ing_7 (i := 64) rfl rfl
theorem mM_X10_257 : Cond.methodLink RX10 257 yX10_firstTouch ∈ lw_g := ing_7 (i := 65) rfl rfl
theorem mI_X10_firstTouch : Cond.instanceMethod yX10_firstTouch ∈ lw_g := ing_7 (i := 67) rfl rfl
theorem mC_X10_firstTouch : Cond.code yX10_firstTouch cX10_firstTouch 2 (some .int) ∈ lw_g := ing_7 (i := 68) rfl rfl
theorem mM_L_74 : Cond.methodLink RL 74 yX10_touching ∈ lw_g := ing_7 (i := 69) rfl rfl
theorem mI_X10_touching : Cond.instanceMethod yX10_touching ∈ lw_g := ing_7 (i := 70) rfl rfl
theorem mS_X10_touching : Cond.selects RX10 yX10_touching yX10_touching ∈ lw_g := ing_7 (i := 71) rfl rfl
theorem mC_X10_touching : Cond.code yX10_touching cX10_touching 3 (some .int) ∈ lw_g := ing_7 (i := 72) rfl rfl
theorem mM_L_78 : Cond.methodLink RL 78 yX10_pair ∈ lw_g := ing_7 (i := 73) rfl rfl
theorem mI_X10_pair : Cond.instanceMethod yX10_pair ∈ lw_g := ing_7 (i := 74) rfl rfl
theorem mS_X10_pair : Cond.selects RX10 yX10_pair yX10_pair ∈ lw_g := ing_7 (i := 75) rfl rfl
theorem mC_X10_pair : Cond.code yX10_pair cX10_pair 3 (some .int) ∈ lw_g := ing_7 (i := 76) rfl rfl
theorem mM_X10_260 : Cond.methodLink RX10 260 yX10_laysPairs ∈ lw_g := ing_7 (i := 77) rfl rfl
theorem mI_X10_laysPairs : Cond.instanceMethod yX10_laysPairs ∈ lw_g := ing_7 (i := 79) rfl rfl
theorem mC_X10_laysPairs : Cond.code yX10_laysPairs cX10_laysPairs 6 (some .int) ∈ lw_g := ing_7 (i := 80) rfl rfl
theorem mM_L_82 : Cond.methodLink RL 82 yX10_pays ∈ lw_g := ing_7 (i := 81) rfl rfl
theorem mI_X10_pays : Cond.instanceMethod yX10_pays ∈ lw_g := ing_7 (i := 82) rfl rfl
theorem mS_X10_pays : Cond.selects RX10 yX10_pays yX10_pays ∈ lw_g := ing_7 (i := 83) rfl rfl
theorem mC_X10_pays : Cond.code yX10_pays cX10_pays 2 (some .int) ∈ lw_g := ing_7 (i := 84) rfl rfl
theorem mM_X10_266 : Cond.methodLink RX10 266 yX10_paysOf ∈ lw_g := ing_7 (i := 85) rfl rfl
theorem mI_X10_paysOf : Cond.instanceMethod yX10_paysOf ∈ lw_g := ing_7 (i := 87) rfl rfl
theorem mC_X10_paysOf : Cond.code yX10_paysOf cX10_paysOf 4 (some .int) ∈ lw_g := ing_7 (i := 88) rfl rfl
theorem mM_X10_263 : Cond.methodLink RX10 263 yX10_faulty ∈ lw_g := ing_7 (i := 89) rfl rfl
theorem mI_X10_faulty : Cond.instanceMethod yX10_faulty ∈ lw_g := ing_7 (i := 91) rfl rfl
theorem mC_X10_faulty : Cond.code yX10_faulty cX10_faulty 3 (some .int) ∈ lw_g := ing_7 (i := 92) rfl rfl
theorem mM_L_86 : Cond.methodLink RL 86 yX10_soot ∈ lw_g := ing_7 (i := 93) rfl rfl
theorem mI_X10_soot : Cond.instanceMethod yX10_soot ∈ lw_g := ing_7 (i := 94) rfl rfl
theorem mS_X10_soot : Cond.selects RX10 yX10_soot yX10_soot ∈ lw_g := ing_7 (i := 95) rfl rfl
theorem mC_X10_soot : Cond.code yX10_soot cX10_soot 2 (some .int) ∈ lw_g := ing_7 (i := 96) rfl rfl
theorem mM_X10_272 : Cond.methodLink RX10 272 yX10_sootAll ∈ lw_g := ing_7 (i := 97) rfl rfl
theorem mI_X10_sootAll : Cond.instanceMethod yX10_sootAll ∈ lw_g := ing_7 (i := 99) rfl rfl
theorem mC_X10_sootAll : Cond.code yX10_sootAll cX10_sootAll 4 (some .int) ∈ lw_g := ing_7 (i := 100) rfl rfl
theorem mM_X10_269 : Cond.methodLink RX10 269 yX10_sootOf ∈ lw_g := ing_7 (i := 101) rfl rfl
theorem mI_X10_sootOf : Cond.instanceMethod yX10_sootOf ∈ lw_g := ing_7 (i := 103) rfl rfl
theorem mC_X10_sootOf : Cond.code yX10_sootOf cX10_sootOf 5 (some .int) ∈ lw_g := ing_7 (i := 104) rfl rfl
theorem mM_L_91 : Cond.methodLink RL 91 yX10_blackest ∈ lw_g := ing_7 (i := 105) rfl rfl
theorem mI_X10_blackest : Cond.instanceMethod yX10_blackest ∈ lw_g := ing_7 (i := 106) rfl rfl
theorem mS_X10_blackest : Cond.selects RX10 yX10_blackest yX10_blackest ∈ lw_g := ing_7 (i := 107) rfl rfl
theorem mC_X10_blackest : Cond.code yX10_blackest cX10_blackest 3 (some .int) ∈ lw_g := ing_7 (i := 108) rfl rfl
theorem mM_L_95 : Cond.methodLink RL 95 yX10_free ∈ lw_g := ing_7 (i := 109) rfl rfl
theorem mI_X10_free : Cond.instanceMethod yX10_free ∈ lw_g := ing_7 (i := 110) rfl rfl
theorem mS_X10_free : Cond.selects RX10 yX10_free yX10_free ∈ lw_g := ing_7 (i := 111) rfl rfl
theorem mC_X10_free : Cond.code yX10_free cX10_free 2 (some .int) ∈ lw_g := ing_7 (i := 112) rfl rfl
theorem mM_X10_275 : Cond.methodLink RX10 275 yX10_freeFor ∈ lw_g := ing_7 (i := 113) rfl rfl
theorem mI_X10_freeFor : Cond.instanceMethod yX10_freeFor ∈ lw_g := ing_7 (i := 115) rfl rfl
theorem mC_X10_freeFor : Cond.code yX10_freeFor cX10_freeFor 4 (some .int) ∈ lw_g := ing_7 (i := 116) rfl rfl
theorem mM_L_99 : Cond.methodLink RL 99 yX10_plan ∈ lw_g := ing_7 (i := 117) rfl rfl
theorem mI_X10_plan : Cond.instanceMethod yX10_plan ∈ lw_g := ing_7 (i := 118) rfl rfl
theorem mS_X10_plan : Cond.selects RX10 yX10_plan yX10_plan ∈ lw_g := ing_7 (i := 119) rfl rfl
theorem mC_X10_plan : Cond.code yX10_plan cX10_plan 3 (some .int) ∈ lw_g := ing_7 (i := 120) rfl rfl
theorem mK_X10_297 : Cond.constantLong RX10 297 (10 : Int64) ∈ lw_g := ing_7 (i := 121) rfl rfl
theorem mM_X10_299 : Cond.methodLink RX10 299 yX10_laysFew ∈ lw_g := ing_7 (i := 122) rfl rfl
theorem mI_X10_laysFew : Cond.instanceMethod yX10_laysFew ∈ lw_g := ing_7 (i := 124) rfl rfl
theorem mC_X10_laysFew : Cond.code yX10_laysFew cX10_laysFew 3 (some .boolean) ∈ lw_g := ing_7 (i := 125) rfl rfl
theorem mM_X10_281 : Cond.methodLink RX10 281 yX10_isIn ∈ lw_g := ing_7 (i := 126) rfl rfl
theorem mT_X10_isIn : Cond.static yX10_isIn ∈ lw_g := ing_7 (i := 127) rfl rfl
theorem mC_X10_isIn : Cond.code yX10_isIn cX10_isIn 2 (some .boolean) ∈ lw_g := ing_7 (i := 128) rfl rfl
theorem mM_X10_293 : Cond.methodLink RX10 293 yX10_plansFrom ∈ lw_g := ing_7 (i := 129) rfl rfl
theorem mI_X10_plansFrom : Cond.instanceMethod yX10_plansFrom ∈ lw_g := ing_7 (i := 131) rfl rfl
theorem mC_X10_plansFrom : Cond.code yX10_plansFrom cX10_plansFrom 5 none ∈ lw_g := ing_7 (i := 132) rfl rfl
theorem mM_X10_290 : Cond.methodLink RX10 290 yX10_goesWith ∈ lw_g := ing_7 (i := 133) rfl rfl
theorem mI_X10_goesWith : Cond.instanceMethod yX10_goesWith ∈ lw_g := ing_7 (i := 135) rfl rfl
theorem mC_X10_goesWith : Cond.code yX10_goesWith cX10_goesWith 5 (some .boolean) ∈ lw_g := ing_7 (i := 136) rfl rfl
theorem mM_L_103 : Cond.methodLink RL 103 yX10_plans ∈ lw_g := ing_7 (i := 137) rfl rfl
theorem mI_X10_plans : Cond.instanceMethod yX10_plans ∈ lw_g := ing_7 (i := 138) rfl rfl
theorem mS_X10_plans : Cond.selects RX10 yX10_plans yX10_plans ∈ lw_g := ing_7 (i := 139) rfl rfl
theorem mC_X10_plans : Cond.code yX10_plans cX10_plans 1 (some .int) ∈ lw_g := ing_7 (i := 140) rfl rfl
theorem mK_X10_307 : Cond.constant RX10 307 (100000 : Int32) ∈ lw_g := ing_7 (i := 141) rfl rfl
theorem mM_X10_303 : Cond.methodLink RX10 303 yX10_waysFrom ∈ lw_g := ing_7 (i := 142) rfl rfl
theorem mI_X10_waysFrom : Cond.instanceMethod yX10_waysFrom ∈ lw_g := ing_7 (i := 144) rfl rfl
theorem mC_X10_waysFrom : Cond.code yX10_waysFrom cX10_waysFrom 7 (some .int) ∈ lw_g := ing_7 (i := 145) rfl rfl
theorem mM_L_107 : Cond.methodLink RL 107 yX10_shut ∈ lw_g := ing_7 (i := 146) rfl rfl
theorem mI_X10_shut : Cond.instanceMethod yX10_shut ∈ lw_g := ing_7 (i := 147) rfl rfl
theorem mS_X10_shut : Cond.selects RX10 yX10_shut yX10_shut ∈ lw_g := ing_7 (i := 148) rfl rfl
theorem mC_X10_shut : Cond.code yX10_shut cX10_shut 3 (some .int) ∈ lw_g := ing_7 (i := 149) rfl rfl
theorem mM_X10_308 : Cond.methodLink RX10 308 yX10_bitsOf ∈ lw_g := ing_7 (i := 150) rfl rfl
theorem mT_X10_bitsOf : Cond.static yX10_bitsOf ∈ lw_g := ing_7 (i := 151) rfl rfl
theorem mC_X10_bitsOf : Cond.code yX10_bitsOf cX10_bitsOf 3 (some .int) ∈ lw_g := ing_7 (i := 152) rfl rfl
theorem mM_X10_311 : Cond.methodLink RX10 311 yX10_asChimneys ∈ lw_g := ing_7 (i := 153) rfl rfl
theorem mI_X10_asChimneys : Cond.instanceMethod yX10_asChimneys ∈ lw_g := ing_7 (i := 155) rfl rfl
theorem mC_X10_asChimneys : Cond.code yX10_asChimneys cX10_asChimneys 4 (some .int) ∈ lw_g := ing_7 (i := 156) rfl rfl
theorem mM_L_111 : Cond.methodLink RL 111 yX10_most ∈ lw_g := ing_7 (i := 157) rfl rfl
theorem mI_X10_most : Cond.instanceMethod yX10_most ∈ lw_g := ing_7 (i := 158) rfl rfl
theorem mS_X10_most : Cond.selects RX10 yX10_most yX10_most ∈ lw_g := ing_7 (i := 159) rfl rfl
theorem mC_X10_most : Cond.code yX10_most cX10_most 5 (some .int) ∈ lw_g := ing_7 (i := 160) rfl rfl
theorem mM_L_115 : Cond.methodLink RL 115 yX10_price ∈ lw_g := ing_7 (i := 161) rfl rfl
theorem mI_X10_price : Cond.instanceMethod yX10_price ∈ lw_g := ing_7 (i := 162) rfl rfl
theorem mS_X10_price : Cond.selects RX10 yX10_price yX10_price ∈ lw_g := ing_7 (i := 163) rfl rfl
theorem mC_X10_price : Cond.code yX10_price cX10_price 3 (some .int) ∈ lw_g := ing_7 (i := 164) rfl rfl
theorem mM_X10_317 : Cond.methodLink RX10 317 yX10_priceOf ∈ lw_g := ing_7 (i := 165) rfl rfl
theorem mI_X10_priceOf : Cond.instanceMethod yX10_priceOf ∈ lw_g := ing_7 (i := 167) rfl rfl
theorem mC_X10_priceOf : Cond.code yX10_priceOf cX10_priceOf 5 (some .int) ∈ lw_g := ing_7 (i := 168) rfl rfl
theorem mM_X10_314 : Cond.methodLink RX10 314 yX10_paysAll ∈ lw_g := ing_7 (i := 169) rfl rfl
theorem mI_X10_paysAll : Cond.instanceMethod yX10_paysAll ∈ lw_g := ing_7 (i := 171) rfl rfl
theorem mC_X10_paysAll : Cond.code yX10_paysAll cX10_paysAll 3 (some .int) ∈ lw_g := ing_7 (i := 172) rfl rfl
theorem mM_L_119 : Cond.methodLink RL 119 yX10_cheapest ∈ lw_g := ing_7 (i := 173) rfl rfl
theorem mI_X10_cheapest : Cond.instanceMethod yX10_cheapest ∈ lw_g := ing_7 (i := 174) rfl rfl
theorem mS_X10_cheapest : Cond.selects RX10 yX10_cheapest yX10_cheapest ∈ lw_g := ing_7 (i := 175) rfl rfl
theorem mC_X10_cheapest : Cond.code yX10_cheapest cX10_cheapest 6 (some .int) ∈ lw_g := ing_7 (i := 176) rfl rfl
theorem mM_L_123 : Cond.methodLink RL 123 yX10_higher ∈ lw_g := ing_7 (i := 177) rfl rfl
theorem mI_X10_higher : Cond.instanceMethod yX10_higher ∈ lw_g := ing_7 (i := 178) rfl rfl
theorem mS_X10_higher : Cond.selects RX10 yX10_higher yX10_higher ∈ lw_g := ing_7 (i := 179) rfl rfl
theorem mC_X10_higher : Cond.code yX10_higher cX10_higher 3 (some .int) ∈ lw_g := ing_7 (i := 180) rfl rfl
theorem mM_L_127 : Cond.methodLink RL 127 yX10_thickness ∈ lw_g := ing_7 (i := 181) rfl rfl
theorem mI_X10_thickness : Cond.instanceMethod yX10_thickness ∈ lw_g := ing_7 (i := 182) rfl rfl
theorem mS_X10_thickness : Cond.selects RX10 yX10_thickness yX10_thickness ∈ lw_g := ing_7 (i := 183) rfl rfl
theorem mC_X10_thickness : Cond.code yX10_thickness cX10_thickness 2 (some .int) ∈ lw_g := ing_7 (i := 184) rfl rfl
theorem mM_X10_320 : Cond.methodLink RX10 320 yX10_anyTouch ∈ lw_g := ing_7 (i := 185) rfl rfl
theorem mI_X10_anyTouch : Cond.instanceMethod yX10_anyTouch ∈ lw_g := ing_7 (i := 187) rfl rfl
theorem mC_X10_anyTouch : Cond.code yX10_anyTouch cX10_anyTouch 3 (some .boolean) ∈ lw_g := ing_7 (i := 188) rfl rfl
theorem mM_L_131 : Cond.methodLink RL 131 yX10_sheets ∈ lw_g := ing_7 (i := 189) rfl rfl
theorem mI_X10_sheets : Cond.instanceMethod yX10_sheets ∈ lw_g := ing_7 (i := 190) rfl rfl
theorem mS_X10_sheets : Cond.selects RX10 yX10_sheets yX10_sheets ∈ lw_g := ing_7 (i := 191) rfl rfl
theorem mC_X10_sheets : Cond.code yX10_sheets cX10_sheets 3 (some .int) ∈ lw_g := ing_7 (i := 192) rfl rfl
theorem mM_X10_341 : Cond.methodLink RX10 341 yX10_refusesSheets ∈ lw_g := ing_7 (i := 193) rfl rfl
theorem mI_X10_refusesSheets : Cond.instanceMethod yX10_refusesSheets ∈ lw_g := ing_7 (i := 195) rfl rfl
theorem mC_X10_refusesSheets : Cond.code yX10_refusesSheets cX10_refusesSheets 3 (some .int) ∈ lw_g := ing_7 (i := 196) rfl rfl
theorem mM_X10_344 : Cond.methodLink RX10 344 yX10_daysOf ∈ lw_g := ing_7 (i := 197) rfl rfl
theorem mI_X10_daysOf : Cond.instanceMethod yX10_daysOf ∈ lw_g := ing_7 (i := 199) rfl rfl
theorem mC_X10_daysOf : Cond.code yX10_daysOf cX10_daysOf 7 (some .int) ∈ lw_g := ing_7 (i := 200) rfl rfl
theorem mM_X10_326 : Cond.methodLink RX10 326 yX10_laysSheets ∈ lw_g := ing_7 (i := 201) rfl rfl
theorem mI_X10_laysSheets : Cond.instanceMethod yX10_laysSheets ∈ lw_g := ing_7 (i := 203) rfl rfl
theorem mC_X10_laysSheets : Cond.code yX10_laysSheets cX10_laysSheets 4 none ∈ lw_g := ing_7 (i := 204) rfl rfl
theorem mM_X10_335 : Cond.methodLink RX10 335 yX10_isDay ∈ lw_g := ing_7 (i := 205) rfl rfl
theorem mI_X10_isDay : Cond.instanceMethod yX10_isDay ∈ lw_g := ing_7 (i := 207) rfl rfl
theorem mC_X10_isDay : Cond.code yX10_isDay cX10_isDay 3 (some .boolean) ∈ lw_g := ing_7 (i := 208) rfl rfl
theorem mM_X10_323 : Cond.methodLink RX10 323 yX10_quarterIn ∈ lw_g := ing_7 (i := 209) rfl rfl
theorem mI_X10_quarterIn : Cond.instanceMethod yX10_quarterIn ∈ lw_g := ing_7 (i := 211) rfl rfl
theorem mC_X10_quarterIn : Cond.code yX10_quarterIn cX10_quarterIn 5 (some .int) ∈ lw_g := ing_7 (i := 212) rfl rfl
theorem mM_X10_338 : Cond.methodLink RX10 338 yX10_fits ∈ lw_g := ing_7 (i := 213) rfl rfl
theorem mI_X10_fits : Cond.instanceMethod yX10_fits ∈ lw_g := ing_7 (i := 215) rfl rfl
theorem mC_X10_fits : Cond.code yX10_fits cX10_fits 7 (some .boolean) ∈ lw_g := ing_7 (i := 216) rfl rfl
theorem mM_L_135 : Cond.methodLink RL 135 yX10_sheet ∈ lw_g := ing_7 (i := 217) rfl rfl
theorem mI_X10_sheet : Cond.instanceMethod yX10_sheet ∈ lw_g := ing_7 (i := 218) rfl rfl
theorem mS_X10_sheet : Cond.selects RX10 yX10_sheet yX10_sheet ∈ lw_g := ing_7 (i := 219) rfl rfl
theorem mC_X10_sheet : Cond.code yX10_sheet cX10_sheet 5 (some .int) ∈ lw_g := ing_7 (i := 220) rfl rfl
theorem mM_L_139 : Cond.methodLink RL 139 yX10_sure ∈ lw_g := ing_7 (i := 221) rfl rfl
theorem mI_X10_sure : Cond.instanceMethod yX10_sure ∈ lw_g := ing_7 (i := 222) rfl rfl
theorem mS_X10_sure : Cond.selects RX10 yX10_sure yX10_sure ∈ lw_g := ing_7 (i := 223) rfl rfl
theorem mC_X10_sure : Cond.code yX10_sure cX10_sure 3 (some .int) ∈ lw_g := ing_7 (i := 224) rfl rfl
theorem mM_L_143 : Cond.methodLink RL 143 yX10_gusts ∈ lw_g := ing_7 (i := 225) rfl rfl
theorem mI_X10_gusts : Cond.instanceMethod yX10_gusts ∈ lw_g := ing_7 (i := 226) rfl rfl
theorem mS_X10_gusts : Cond.selects RX10 yX10_gusts yX10_gusts ∈ lw_g := ing_7 (i := 227) rfl rfl
theorem mC_X10_gusts : Cond.code yX10_gusts cX10_gusts 2 (some .int) ∈ lw_g := ing_7 (i := 228) rfl rfl
theorem mM_X10_347 : Cond.methodLink RX10 347 yX10_laysOther ∈ lw_g := ing_7 (i := 229) rfl rfl
theorem mI_X10_laysOther : Cond.instanceMethod yX10_laysOther ∈ lw_g := ing_7 (i := 231) rfl rfl
theorem mC_X10_laysOther : Cond.code yX10_laysOther cX10_laysOther 4 none ∈ lw_g := ing_7 (i := 232) rfl rfl
theorem mK_X10_188 : Cond.constant RX10 188 (1103515245 : Int32) ∈ lw_g := ing_7 (i := 233) rfl rfl
theorem mM_L_147 : Cond.methodLink RL 147 yX10_calm ∈ lw_g := ing_7 (i := 234) rfl rfl
theorem mI_X10_calm : Cond.instanceMethod yX10_calm ∈ lw_g := ing_7 (i := 235) rfl rfl
theorem mS_X10_calm : Cond.selects RX10 yX10_calm yX10_calm ∈ lw_g := ing_7 (i := 236) rfl rfl
theorem mC_X10_calm : Cond.code yX10_calm cX10_calm 4 (some .int) ∈ lw_g := ing_7 (i := 237) rfl rfl
theorem mK_X10_350 : Cond.constantLong RX10 350 (60 : Int64) ∈ lw_g := ing_7 (i := 238) rfl rfl
theorem mM_X10_352 : Cond.methodLink RX10 352 yX10_isCalm ∈ lw_g := ing_7 (i := 239) rfl rfl
theorem mI_X10_isCalm : Cond.instanceMethod yX10_isCalm ∈ lw_g := ing_8 (i := 1) rfl rfl
theorem mC_X10_isCalm : Cond.code yX10_isCalm cX10_isCalm 2 (some .boolean) ∈ lw_g := ing_8 (i := 2) rfl rfl
theorem mM_L_151 : Cond.methodLink RL 151 yX10_steady ∈ lw_g := ing_8 (i := 3) rfl rfl
theorem mI_X10_steady : Cond.instanceMethod yX10_steady ∈ lw_g := ing_8 (i := 4) rfl rfl
theorem mS_X10_steady : Cond.selects RX10 yX10_steady yX10_steady ∈ lw_g := ing_8 (i := 5) rfl rfl
theorem mC_X10_steady : Cond.code yX10_steady cX10_steady 5 (some .int) ∈ lw_g := ing_8 (i := 6) rfl rfl
theorem mM_L_155 : Cond.methodLink RL 155 yX10_best ∈ lw_g := ing_8 (i := 7) rfl rfl
theorem mI_X10_best : Cond.instanceMethod yX10_best ∈ lw_g := ing_8 (i := 8) rfl rfl
theorem mS_X10_best : Cond.selects RX10 yX10_best yX10_best ∈ lw_g := ing_8 (i := 9) rfl rfl
theorem mC_X10_best : Cond.code yX10_best cX10_best 4 (some .int) ∈ lw_g := ing_8 (i := 10) rfl rfl
theorem mM_X10_360 : Cond.methodLink RX10 360 yX10_refusesBest ∈ lw_g := ing_8 (i := 11) rfl rfl
theorem mI_X10_refusesBest : Cond.instanceMethod yX10_refusesBest ∈ lw_g := ing_8 (i := 13) rfl rfl
theorem mC_X10_refusesBest : Cond.code yX10_refusesBest cX10_refusesBest 3 (some .int) ∈ lw_g := ing_8 (i := 14) rfl rfl
theorem mK_X10_358 : Cond.constantLong RX10 358 (20 : Int64) ∈ lw_g := ing_8 (i := 15) rfl rfl
theorem mM_X10_363 : Cond.methodLink RX10 363 yX10_bestBy ∈ lw_g := ing_8 (i := 16) rfl rfl
theorem mI_X10_bestBy : Cond.instanceMethod yX10_bestBy ∈ lw_g := ing_8 (i := 18) rfl rfl
theorem mC_X10_bestBy : Cond.code yX10_bestBy cX10_bestBy 6 (some .int) ∈ lw_g := ing_8 (i := 19) rfl rfl
theorem mM_L_159 : Cond.methodLink RL 159 yX10_breaks ∈ lw_g := ing_8 (i := 20) rfl rfl
theorem mI_X10_breaks : Cond.instanceMethod yX10_breaks ∈ lw_g := ing_8 (i := 21) rfl rfl
theorem mS_X10_breaks : Cond.selects RX10 yX10_breaks yX10_breaks ∈ lw_g := ing_8 (i := 22) rfl rfl
theorem mC_X10_breaks : Cond.code yX10_breaks cX10_breaks 3 (some .int) ∈ lw_g := ing_8 (i := 23) rfl rfl
theorem mK_X10_366 : Cond.constantLong RX10 366 (200 : Int64) ∈ lw_g := ing_8 (i := 24) rfl rfl
theorem mM_L_163 : Cond.methodLink RL 163 yX10_worth ∈ lw_g := ing_8 (i := 25) rfl rfl
theorem mI_X10_worth : Cond.instanceMethod yX10_worth ∈ lw_g := ing_8 (i := 26) rfl rfl
theorem mS_X10_worth : Cond.selects RX10 yX10_worth yX10_worth ∈ lw_g := ing_8 (i := 27) rfl rfl
theorem mC_X10_worth : Cond.code yX10_worth cX10_worth 5 (some .int) ∈ lw_g := ing_8 (i := 28) rfl rfl
theorem mM_L_167 : Cond.methodLink RL 167 yX10_sky ∈ lw_g := ing_8 (i := 29) rfl rfl
theorem mI_X10_sky : Cond.instanceMethod yX10_sky ∈ lw_g := ing_8 (i := 30) rfl rfl
theorem mS_X10_sky : Cond.selects RX10 yX10_sky yX10_sky ∈ lw_g := ing_8 (i := 31) rfl rfl
theorem mC_X10_sky : Cond.code yX10_sky cX10_sky 3 (some .int) ∈ lw_g := ing_8 (i := 32) rfl rfl
theorem mM_L_171 : Cond.methodLink RL 171 yX10_numbers ∈ lw_g := ing_8 (i := 33) rfl rfl
theorem mI_X10_numbers : Cond.instanceMethod yX10_numbers ∈ lw_g := ing_8 (i := 34) rfl rfl
theorem mS_X10_numbers : Cond.selects RX10 yX10_numbers yX10_numbers ∈ lw_g := ing_8 (i := 35) rfl rfl
theorem mC_X10_numbers : Cond.code yX10_numbers cX10_numbers 5 (some .int) ∈ lw_g := ing_8 (i := 36) rfl rfl
theorem mK_X10_368 : Cond.constantLong RX10 368 (40 : Int64) ∈ lw_g := ing_8 (i := 37) rfl rfl
theorem mM_L_178 : Cond.methodLink RL 178 yX10_write ∈ lw_g := ing_8 (i := 38) rfl rfl
theorem mI_X10_write : Cond.instanceMethod yX10_write ∈ lw_g := ing_8 (i := 39) rfl rfl
theorem mS_X10_write : Cond.selects RX10 yX10_write yX10_write ∈ lw_g := ing_8 (i := 40) rfl rfl
theorem mC_X10_write : Cond.code yX10_write cX10_write 5 (some .long) ∈ lw_g := ing_8 (i := 41) rfl rfl
theorem mK_X10_370 : Cond.constantLong RX10 370 (-2 : Int64) ∈ lw_g := ing_8 (i := 42) rfl rfl
theorem mK_X10_372 : Cond.constantLong RX10 372 (-6 : Int64) ∈ lw_g := ing_8 (i := 43) rfl rfl
theorem mK_X10_374 : Cond.constantLong RX10 374 (-7 : Int64) ∈ lw_g := ing_8 (i := 44) rfl rfl
theorem mM_X10_376 : Cond.methodLink RX10 376 yX10_cut ∈ lw_g := ing_8 (i := 45) rfl rfl
theorem mT_X10_cut : Cond.static yX10_cut ∈ lw_g := ing_8 (i := 46) rfl rfl
theorem mC_X10_cut : Cond.code yX10_cut cX10_cut 3 (some .long) ∈ lw_g := ing_8 (i := 47) rfl rfl
theorem mM_L_182 : Cond.methodLink RL 182 yX10_copy ∈ lw_g := ing_8 (i := 48) rfl rfl
theorem mI_X10_copy : Cond.instanceMethod yX10_copy ∈ lw_g := ing_8 (i := 49) rfl rfl
theorem mS_X10_copy : Cond.selects RX10 yX10_copy yX10_copy ∈ lw_g := ing_8 (i := 50) rfl rfl
theorem mC_X10_copy : Cond.code yX10_copy cX10_copy 3 (some .int) ∈ lw_g := ing_8 (i := 51) rfl rfl
theorem mM_L_186 : Cond.methodLink RL 186 yX10_image ∈ lw_g := ing_8 (i := 52) rfl rfl
theorem mI_X10_image : Cond.instanceMethod yX10_image ∈ lw_g := ing_8 (i := 53) rfl rfl
theorem mS_X10_image : Cond.selects RX10 yX10_image yX10_image ∈ lw_g := ing_8 (i := 54) rfl rfl
theorem mC_X10_image : Cond.code yX10_image cX10_image 3 (some .int) ∈ lw_g := ing_8 (i := 55) rfl rfl
theorem mM_L_190 : Cond.methodLink RL 190 yX10_restore ∈ lw_g := ing_8 (i := 56) rfl rfl
theorem mI_X10_restore : Cond.instanceMethod yX10_restore ∈ lw_g := ing_8 (i := 57) rfl rfl
theorem mS_X10_restore : Cond.selects RX10 yX10_restore yX10_restore ∈ lw_g := ing_8 (i := 58) rfl rfl
theorem mC_X10_restore : Cond.code yX10_restore cX10_restore 3 (some .int) ∈ lw_g := ing_8 (i := 59) rfl rfl
theorem mM_L_194 : Cond.methodLink RL 194 yX10_count ∈ lw_g := ing_8 (i := 60) rfl rfl
theorem mI_X10_count : Cond.instanceMethod yX10_count ∈ lw_g := ing_8 (i := 61) rfl rfl
theorem mS_X10_count : Cond.selects RX10 yX10_count yX10_count ∈ lw_g := ing_8 (i := 62) rfl rfl
theorem mC_X10_count : Cond.code yX10_count cX10_count 2 (some .int) ∈ lw_g := ing_8 (i := 63) rfl rfl
theorem mK_L_172 : Cond.constantLong RL 172 (4294967295 : Int64) ∈ lw_g := ing_8 (i := 64) rfl rfl
theorem mF_J0_9 : Cond.fieldLink RJ0 9 "java/lang/String" "value" "[B" ∈ lw_g := ing_8 (i := 65) rfl rfl
theorem mF_J0_15 : Cond.fieldLink RJ0 15 "java/lang/String" "coder" "B" ∈ lw_g := ing_8 (i := 66) rfl rfl
theorem inG0 : ∀ w ∈ wsX00, w ∈ lw_g := fun w h => List.mem_filter.mpr ⟨inX0 w h, List.all_eq_true.mp (by decide +kernel : wsX00.all goodWord = true) w h⟩
theorem inG1 : ∀ w ∈ wsX10, w ∈ lw_g := fun w h => List.mem_filter.mpr ⟨inX1 w h, List.all_eq_true.mp (by decide +kernel : wsX10.all goodWord = true) w h⟩
theorem inG2 : ∀ w ∈ wsX20, w ∈ lw_g := fun w h => List.mem_filter.mpr ⟨inX2 w h, List.all_eq_true.mp (by decide +kernel : wsX20.all goodWord = true) w h⟩
theorem inG3 : ∀ w ∈ wsX30, w ∈ lw_g := fun w h => List.mem_filter.mpr ⟨inX3 w h, List.all_eq_true.mp (by decide +kernel : wsX30.all goodWord = true) w h⟩
theorem inG4 : ∀ w ∈ wsX40, w ∈ lw_g := fun w h => List.mem_filter.mpr ⟨inX4 w h, List.all_eq_true.mp (by decide +kernel : wsX40.all goodWord = true) w h⟩
theorem inG5 : ∀ w ∈ wsX50, w ∈ lw_g := fun w h => List.mem_filter.mpr ⟨inX5 w h, List.all_eq_true.mp (by decide +kernel : wsX50.all goodWord = true) w h⟩
theorem inG6 : ∀ w ∈ wsX60, w ∈ lw_g := fun w h => List.mem_filter.mpr ⟨inX6 w h, List.all_eq_true.mp (by decide +kernel : wsX60.all goodWord = true) w h⟩
theorem inG7 : ∀ w ∈ wsX70, w ∈ lw_g := fun w h => List.mem_filter.mpr ⟨inX7 w h, List.all_eq_true.mp (by decide +kernel : wsX70.all goodWord = true) w h⟩
theorem inG8 : ∀ w ∈ wsX80, w ∈ lw_g := fun w h => List.mem_filter.mpr ⟨inX8 w h, List.all_eq_true.mp (by decide +kernel : wsX80.all goodWord = true) w h⟩
theorem inG9 : ∀ w ∈ wsX90, w ∈ lw_g := fun w h => List.mem_filter.mpr ⟨inX9 w h, List.all_eq_true.mp (by decide +kernel : wsX90.all goodWord = true) w h⟩
theorem inG10 : ∀ w ∈ wsX100, w ∈ lw_g := fun w h => List.mem_filter.mpr ⟨inX10 w h, List.all_eq_true.mp (by decide +kernel : wsX100.all goodWord = true) w h⟩
