theorem nf_0 : (RX2, 25, "HedgeChains$Hedge", "length", "I") ∈ xNF := List.mem_of_getElem? (i := 0) rfl
theorem nf_1 : (RX8, 207, "HedgeChains$Hedge", "length", "I") ∈ xNF := List.mem_of_getElem? (i := 1) rfl
theorem nf_2 : (RX4, 135, "HedgeChains$Hedge", "length", "I") ∈ xNF := List.mem_of_getElem? (i := 2) rfl
theorem nf_3 : (RX5, 48, "HedgeChains$Contract", "made", "Z") ∈ xNF := List.mem_of_getElem? (i := 3) rfl
theorem nf_4 : (RX4, 84, "HedgeChains$Contract", "made", "Z") ∈ xNF := List.mem_of_getElem? (i := 4) rfl
theorem nf_5 : (RX8, 132, "HedgeChains$Contract", "made", "Z") ∈ xNF := List.mem_of_getElem? (i := 5) rfl
theorem nf_6 : (RX4, 88, "HedgeChains$Contract", "price", "I") ∈ xNF := List.mem_of_getElem? (i := 6) rfl
theorem nf_7 : (RX8, 232, "HedgeChains$Contract", "price", "I") ∈ xNF := List.mem_of_getElem? (i := 7) rfl
theorem nf_8 : (RX5, 57, "HedgeChains$Contract", "lastWeek", "I") ∈ xNF := List.mem_of_getElem? (i := 8) rfl
theorem nf_9 : (RX4, 114, "HedgeChains$Contract", "lastWeek", "I") ∈ xNF := List.mem_of_getElem? (i := 9) rfl
theorem nf_10 : (RX8, 235, "HedgeChains$Contract", "lastWeek", "I") ∈ xNF := List.mem_of_getElem? (i := 10) rfl
theorem nf_11 : (RX8, 142, "HedgeChains$Contract", "fine", "I") ∈ xNF := List.mem_of_getElem? (i := 11) rfl
theorem nf_12 : (RX4, 120, "HedgeChains$Contract", "fine", "I") ∈ xNF := List.mem_of_getElem? (i := 12) rfl
theorem nf_13 : (RX8, 96, "HedgeChains$Land", "hedges", "[LHedgeChains$Hedge;") ∈ xNF := List.mem_of_getElem? (i := 13) rfl
theorem nf_14 : (RX5, 44, "HedgeChains$Land", "contracts", "[LHedgeChains$Contract;") ∈ xNF := List.mem_of_getElem? (i := 14) rfl
theorem nf_15 : (RX8, 128, "HedgeChains$Land", "contracts", "[LHedgeChains$Contract;") ∈ xNF := List.mem_of_getElem? (i := 15) rfl
theorem nf_16 : (RX8, 57, "HedgeChains$Land", "week", "I") ∈ xNF := List.mem_of_getElem? (i := 16) rfl
theorem nf_17 : (RX5, 36, "HedgeChains$Land", "week", "I") ∈ xNF := List.mem_of_getElem? (i := 17) rfl
theorem nf_18 : (RX8, 93, "HedgeChains$Land", "work", "I") ∈ xNF := List.mem_of_getElem? (i := 18) rfl
theorem nf_19 : (RX8, 84, "HedgeChains$Land", "stakes", "I") ∈ xNF := List.mem_of_getElem? (i := 19) rfl
theorem nf_20 : (RX8, 149, "HedgeChains$Land", "purse", "I") ∈ xNF := List.mem_of_getElem? (i := 20) rfl
theorem nf_21 : (RX8, 152, "HedgeChains$Land", "debt", "I") ∈ xNF := List.mem_of_getElem? (i := 21) rfl
theorem nf_22 : (RX8, 208, "HedgeChains$Land", "earned", "I") ∈ xNF := List.mem_of_getElem? (i := 22) rfl
theorem nf_23 : (RX8, 211, "HedgeChains$Land", "fined", "I") ∈ xNF := List.mem_of_getElem? (i := 23) rfl
theorem nf_24 : (RX8, 217, "HedgeChains$Land", "laid", "I") ∈ xNF := List.mem_of_getElem? (i := 24) rfl
theorem nf_25 : (RX8, 220, "HedgeChains$Land", "planted", "I") ∈ xNF := List.mem_of_getElem? (i := 25) rfl
theorem nf_26 : (RX8, 16, "HedgeChains$State", "land", "LHedgeChains$Land;") ∈ xNF := List.mem_of_getElem? (i := 26) rfl
theorem nf_27 : (RX8, 171, "HedgeChains$State", "slots", "[LHedgeChains$Land;") ∈ xNF := List.mem_of_getElem? (i := 27) rfl
theorem nf_28 : (RX8, 167, "HedgeChains$State", "filled", "[Z") ∈ xNF := List.mem_of_getElem? (i := 28) rfl
theorem nf_29 : (RX8, 179, "HedgeChains$History", "kept", "I") ∈ xNF := List.mem_of_getElem? (i := 29) rfl
theorem nf_30 : (RX2, 32, "HedgeChains$Text", "length", "I") ∈ xNF := List.mem_of_getElem? (i := 30) rfl
theorem nf_31 : (RX8, 185, "HedgeChains$Text", "length", "I") ∈ xNF := List.mem_of_getElem? (i := 31) rfl
theorem nf_32 : (RX8, 199, "HedgeChains$HedgeReader", "hedge", "LHedgeChains$Hedge;") ∈ xNF := List.mem_of_getElem? (i := 32) rfl
theorem nf_33 : (RX8, 196, "HedgeChains$HedgeReader", "told", "I") ∈ xNF := List.mem_of_getElem? (i := 33) rfl
theorem nm_0 : (RX8, 9, yX6_init) ∈ xNM := List.mem_of_getElem? (i := 0) rfl
theorem nm_1 : (RX6, 11, yX4_init) ∈ xNM := List.mem_of_getElem? (i := 1) rfl
theorem nm_2 : (RX4, 23, yX1_init) ∈ xNM := List.mem_of_getElem? (i := 2) rfl
theorem nm_3 : (RX4, 24, yX1_addChains) ∈ xNM := List.mem_of_getElem? (i := 3) rfl
theorem nm_4 : (RX4, 28, yX0_init) ∈ xNM := List.mem_of_getElem? (i := 4) rfl
theorem nm_5 : (RX8, 23, yX3_init) ∈ xNM := List.mem_of_getElem? (i := 5) rfl
theorem nm_6 : (RX3, 17, yX6_init) ∈ xNM := List.mem_of_getElem? (i := 6) rfl
theorem nm_7 : (RX8, 30, yX7_init) ∈ xNM := List.mem_of_getElem? (i := 7) rfl
theorem nm_8 : (RX8, 37, yX2_init) ∈ xNM := List.mem_of_getElem? (i := 8) rfl
theorem nm_9 : (RX2, 11, yX1_init) ∈ xNM := List.mem_of_getElem? (i := 9) rfl
theorem nm_10 : (RX8, 44, yX5_init) ∈ xNM := List.mem_of_getElem? (i := 10) rfl
theorem nm_11 : (RX8, 265, yX1_has) ∈ xNM := List.mem_of_getElem? (i := 11) rfl
theorem nm_12 : (RX8, 63, yX4_isClosed) ∈ xNM := List.mem_of_getElem? (i := 12) rfl
theorem nm_13 : (RX8, 67, yX4_canLay) ∈ xNM := List.mem_of_getElem? (i := 13) rfl
theorem nm_14 : (RX4, 73, yX1_isToLay) ∈ xNM := List.mem_of_getElem? (i := 14) rfl
theorem nm_15 : (RX4, 77, yX1_thicknessOf) ∈ xNM := List.mem_of_getElem? (i := 15) rfl
theorem nm_16 : (RX8, 70, yX3_keep) ∈ xNM := List.mem_of_getElem? (i := 16) rfl
theorem nm_17 : (RX3, 25, yX6_copyFrom) ∈ xNM := List.mem_of_getElem? (i := 17) rfl
theorem nm_18 : (RX6, 26, yX4_copyFrom) ∈ xNM := List.mem_of_getElem? (i := 18) rfl
theorem nm_19 : (RX4, 48, yX1_copyFrom) ∈ xNM := List.mem_of_getElem? (i := 19) rfl
theorem nm_20 : (RX4, 52, yX0_copyFrom) ∈ xNM := List.mem_of_getElem? (i := 20) rfl
theorem nm_21 : (RX8, 74, yX4_layChain) ∈ xNM := List.mem_of_getElem? (i := 21) rfl
theorem nm_22 : (RX4, 81, yX1_changeChain) ∈ xNM := List.mem_of_getElem? (i := 22) rfl
theorem nm_23 : (RX4, 101, yX1_numberOf) ∈ xNM := List.mem_of_getElem? (i := 23) rfl
theorem nm_24 : (RX8, 78, yX4_canCut) ∈ xNM := List.mem_of_getElem? (i := 24) rfl
theorem nm_25 : (RX4, 95, yX1_isToCut) ∈ xNM := List.mem_of_getElem? (i := 25) rfl
theorem nm_26 : (RX8, 81, yX4_cutChain) ∈ xNM := List.mem_of_getElem? (i := 26) rfl
theorem nm_27 : (RX8, 87, yX4_canPlant) ∈ xNM := List.mem_of_getElem? (i := 27) rfl
theorem nm_28 : (RX4, 98, yX1_kindOf) ∈ xNM := List.mem_of_getElem? (i := 28) rfl
theorem nm_29 : (RX8, 90, yX4_plantChain) ∈ xNM := List.mem_of_getElem? (i := 29) rfl
theorem nm_30 : (RX8, 100, yX1_kindOf) ∈ xNM := List.mem_of_getElem? (i := 30) rfl
theorem nm_31 : (RX8, 106, yX4_grubChain) ∈ xNM := List.mem_of_getElem? (i := 31) rfl
theorem nm_32 : (RX8, 109, yX4_passWeek) ∈ xNM := List.mem_of_getElem? (i := 32) rfl
theorem nm_33 : (RX4, 104, yX1_grow) ∈ xNM := List.mem_of_getElem? (i := 33) rfl
theorem nm_34 : (RX8, 116, yX4_settingOf) ∈ xNM := List.mem_of_getElem? (i := 34) rfl
theorem nm_35 : (RX8, 119, yX4_changeSetting) ∈ xNM := List.mem_of_getElem? (i := 35) rfl
theorem nm_36 : (RX8, 125, yX1_numberOf) ∈ xNM := List.mem_of_getElem? (i := 36) rfl
theorem nm_37 : (RX8, 138, yX0_make) ∈ xNM := List.mem_of_getElem? (i := 37) rfl
theorem nm_38 : (RX8, 145, yX4_spend) ∈ xNM := List.mem_of_getElem? (i := 38) rfl
theorem nm_39 : (RX8, 164, yX6_fillSlot) ∈ xNM := List.mem_of_getElem? (i := 39) rfl
theorem nm_40 : (RX8, 175, yX4_copyFrom) ∈ xNM := List.mem_of_getElem? (i := 40) rfl
theorem nm_41 : (RX8, 182, yX3_bringBack) ∈ xNM := List.mem_of_getElem? (i := 41) rfl
theorem nm_42 : (RX8, 188, yX7_addSign) ∈ xNM := List.mem_of_getElem? (i := 42) rfl
theorem nm_43 : (RX8, 192, yX2_faultOf) ∈ xNM := List.mem_of_getElem? (i := 43) rfl
theorem nm_44 : (RX2, 35, yX7_signAt) ∈ xNM := List.mem_of_getElem? (i := 44) rfl
theorem nm_45 : (RX2, 50, yX1_addChains) ∈ xNM := List.mem_of_getElem? (i := 45) rfl
theorem nm_46 : (RX8, 203, yX4_replaceHedge) ∈ xNM := List.mem_of_getElem? (i := 46) rfl
theorem nm_47 : (RX8, 214, yX4_numberOfContracts) ∈ xNM := List.mem_of_getElem? (i := 47) rfl
theorem nm_48 : (RX8, 223, yX6_numberOfSnapshots) ∈ xNM := List.mem_of_getElem? (i := 48) rfl
theorem nm_49 : (RX8, 226, yX1_longestRunBegin) ∈ xNM := List.mem_of_getElem? (i := 49) rfl
theorem nm_50 : (RX8, 229, yX1_runFrom) ∈ xNM := List.mem_of_getElem? (i := 50) rfl
theorem nm_51 : (RX8, 238, yX1_thicknessOf) ∈ xNM := List.mem_of_getElem? (i := 51) rfl
theorem nm_52 : (RX8, 241, yX1_ageOf) ∈ xNM := List.mem_of_getElem? (i := 52) rfl
theorem nm_53 : (RX8, 244, yX1_workToLay) ∈ xNM := List.mem_of_getElem? (i := 53) rfl
theorem nm_54 : (RX8, 247, yX1_stakesToLay) ∈ xNM := List.mem_of_getElem? (i := 54) rfl
theorem nm_55 : (RX8, 250, yX1_stakesToCut) ∈ xNM := List.mem_of_getElem? (i := 55) rfl
theorem nm_56 : (RX8, 253, yX4_weeksUntilLaid) ∈ xNM := List.mem_of_getElem? (i := 56) rfl
theorem nm_57 : (RX8, 256, yX5_reckon) ∈ xNM := List.mem_of_getElem? (i := 57) rfl
theorem nm_58 : (RX5, 54, yX4_weeksOfWork) ∈ xNM := List.mem_of_getElem? (i := 58) rfl
theorem nm_59 : (RX4, 141, yX1_workToLay) ∈ xNM := List.mem_of_getElem? (i := 59) rfl
theorem nm_60 : (RX5, 60, yX4_finePerWeek) ∈ xNM := List.mem_of_getElem? (i := 60) rfl
theorem nm_61 : (RX8, 259, yX5_leastFines) ∈ xNM := List.mem_of_getElem? (i := 61) rfl
theorem nm_62 : (RX8, 262, yX5_firstField) ∈ xNM := List.mem_of_getElem? (i := 62) rfl
theorem mwX1_init : xW yX1_init cX1_init 1 none 0 := ⟨w_4, w_40, by decide +kernel, by decide +kernel, by decide +kernel⟩
theorem mwX1_has : xW yX1_has cX1_has 2 (some .boolean) 1 := ⟨w_4, w_70, by decide +kernel, by decide +kernel, by decide +kernel⟩
theorem mvX1_has : xWv yX1_has := ⟨w_69, ws_2⟩
theorem mwX1_changeChain : xW yX1_changeChain cX1_changeChain 4 none 3 := ⟨w_4, w_66, by decide +kernel, by decide +kernel, by decide +kernel⟩
theorem mvX1_changeChain : xWv yX1_changeChain := ⟨w_65, ws_1⟩
theorem mwX1_addChains : xW yX1_addChains cX1_addChains 5 none 3 := ⟨w_4, w_62, by decide +kernel, by decide +kernel, by decide +kernel⟩
theorem mvX1_addChains : xWv yX1_addChains := ⟨w_61, ws_0⟩
theorem mwX0_init : xW yX0_init cX0_init 1 none 0 := ⟨w_5, w_74, by decide +kernel, by decide +kernel, by decide +kernel⟩
theorem mwX4_init : xW yX4_init cX4_init 2 none 0 := ⟨w_3, w_31, by decide +kernel, by decide +kernel, by decide +kernel⟩
theorem mwX6_init : xW yX6_init cX6_init 2 none 0 := ⟨w_2, w_25, by decide +kernel, by decide +kernel, by decide +kernel⟩
theorem mwX3_init : xW yX3_init cX3_init 2 none 0 := ⟨w_6, w_174, by decide +kernel, by decide +kernel, by decide +kernel⟩
theorem mwX7_init : xW yX7_init cX7_init 1 none 0 := ⟨w_7, w_194, by decide +kernel, by decide +kernel, by decide +kernel⟩
theorem mwX2_init : xW yX2_init cX2_init 1 none 0 := ⟨w_8, w_210, by decide +kernel, by decide +kernel, by decide +kernel⟩
theorem mwX5_init : xW yX5_init cX5_init 1 none 0 := ⟨w_9, w_230, by decide +kernel, by decide +kernel, by decide +kernel⟩
theorem mwX8_init : xW yX8_init cX8_init 1 none 0 := ⟨w_1, w_17, by decide +kernel, by decide +kernel, by decide +kernel⟩
theorem mwX8_isWithin : xW yX8_isWithin cX8_isWithin 3 (some .boolean) 3 := ⟨w_1, w_283, by decide +kernel, by decide +kernel, by decide +kernel⟩
theorem mwX8_isField : xW yX8_isField cX8_isField 1 (some .boolean) 1 := ⟨w_1, w_280, by decide +kernel, by decide +kernel, by decide +kernel⟩
theorem mwX8_isChain : xW yX8_isChain cX8_isChain 3 (some .boolean) 2 := ⟨w_1, w_277, by decide +kernel, by decide +kernel, by decide +kernel⟩
theorem mvX8_isChain : xWv yX8_isChain := ⟨w_276, ws_3⟩
theorem mwX4_isClosed : xW yX4_isClosed cX4_isClosed 3 (some .boolean) 1 := ⟨w_3, w_288, by decide +kernel, by decide +kernel, by decide +kernel⟩
theorem mvX4_isClosed : xWv yX4_isClosed := ⟨w_287, ws_4⟩
theorem mwX1_isToLay : xW yX1_isToLay cX1_isToLay 2 (some .boolean) 1 := ⟨w_4, w_296, by decide +kernel, by decide +kernel, by decide +kernel⟩
theorem mvX1_isToLay : xWv yX1_isToLay := ⟨w_295, ws_6⟩
theorem mwX1_thicknessOf : xW yX1_thicknessOf cX1_thicknessOf 2 (some .int) 1 := ⟨w_4, w_300, by decide +kernel, by decide +kernel, by decide +kernel⟩
theorem mvX1_thicknessOf : xWv yX1_thicknessOf := ⟨w_299, ws_7⟩
theorem mwX4_canLay : xW yX4_canLay cX4_canLay 4 (some .boolean) 2 := ⟨w_3, w_292, by decide +kernel, by decide +kernel, by decide +kernel⟩
theorem mvX4_canLay : xWv yX4_canLay := ⟨w_291, ws_5⟩
theorem mwX1_copyFrom : xW yX1_copyFrom cX1_copyFrom 2 none 1 := ⟨w_4, w_316, by decide +kernel, by decide +kernel, by decide +kernel⟩
theorem mvX1_copyFrom : xWv yX1_copyFrom := ⟨w_315, ws_11⟩
theorem mwX0_copyFrom : xW yX0_copyFrom cX0_copyFrom 2 none 1 := ⟨w_5, w_323, by decide +kernel, by decide +kernel, by decide +kernel⟩
theorem mvX0_copyFrom : xWv yX0_copyFrom := ⟨w_322, ws_12⟩
theorem mwX4_copyFrom : xW yX4_copyFrom cX4_copyFrom 3 none 1 := ⟨w_3, w_312, by decide +kernel, by decide +kernel, by decide +kernel⟩
theorem mvX4_copyFrom : xWv yX4_copyFrom := ⟨w_311, ws_10⟩
theorem mwX6_copyFrom : xW yX6_copyFrom cX6_copyFrom 3 none 1 := ⟨w_2, w_308, by decide +kernel, by decide +kernel, by decide +kernel⟩
theorem mvX6_copyFrom : xWv yX6_copyFrom := ⟨w_307, ws_9⟩
theorem mwX3_keep : xW yX3_keep cX3_keep 2 none 1 := ⟨w_6, w_304, by decide +kernel, by decide +kernel, by decide +kernel⟩
theorem mvX3_keep : xWv yX3_keep := ⟨w_303, ws_8⟩
theorem mwX1_kindOf : xW yX1_kindOf cX1_kindOf 2 (some .int) 1 := ⟨w_4, w_343, by decide +kernel, by decide +kernel, by decide +kernel⟩
theorem mvX1_kindOf : xWv yX1_kindOf := ⟨w_342, ws_16⟩
theorem mwX1_numberOf : xW yX1_numberOf cX1_numberOf 4 (some .int) 1 := ⟨w_4, w_339, by decide +kernel, by decide +kernel, by decide +kernel⟩
theorem mvX1_numberOf : xWv yX1_numberOf := ⟨w_338, ws_15⟩
theorem mwX4_endContractIfNoneStands : xW yX4_endContractIfNoneStands cX4_endContractIfNoneStands 2 none 1 := ⟨w_3, w_335, by decide +kernel, by decide +kernel, by decide +kernel⟩
theorem mvX4_endContractIfNoneStands : xWv yX4_endContractIfNoneStands := ⟨w_334, ws_14⟩
theorem mwX4_layChain : xW yX4_layChain cX4_layChain 5 none 2 := ⟨w_3, w_330, by decide +kernel, by decide +kernel, by decide +kernel⟩
theorem mvX4_layChain : xWv yX4_layChain := ⟨w_329, ws_13⟩
theorem mwX8_lay : xW yX8_lay cX8_lay 5 (some .int) 3 := ⟨w_1, w_273, by decide +kernel, by decide +kernel, by decide +kernel⟩
theorem mvX8_lay : xWv yX8_lay := ⟨w_271, w_272⟩
theorem mwX1_isToCut : xW yX1_isToCut cX1_isToCut 2 (some .boolean) 1 := ⟨w_4, w_355, by decide +kernel, by decide +kernel, by decide +kernel⟩
theorem mvX1_isToCut : xWv yX1_isToCut := ⟨w_354, ws_18⟩
theorem mwX4_canCut : xW yX4_canCut cX4_canCut 3 (some .boolean) 2 := ⟨w_3, w_351, by decide +kernel, by decide +kernel, by decide +kernel⟩
theorem mvX4_canCut : xWv yX4_canCut := ⟨w_350, ws_17⟩
theorem mwX4_cutChain : xW yX4_cutChain cX4_cutChain 4 none 2 := ⟨w_3, w_359, by decide +kernel, by decide +kernel, by decide +kernel⟩
theorem mvX4_cutChain : xWv yX4_cutChain := ⟨w_358, ws_19⟩
theorem mwX8_cut : xW yX8_cut cX8_cut 3 (some .int) 2 := ⟨w_1, w_347, by decide +kernel, by decide +kernel, by decide +kernel⟩
theorem mvX8_cut : xWv yX8_cut := ⟨w_345, w_346⟩
theorem mwX4_canPlant : xW yX4_canPlant cX4_canPlant 3 (some .boolean) 2 := ⟨w_3, w_367, by decide +kernel, by decide +kernel, by decide +kernel⟩
theorem mvX4_canPlant : xWv yX4_canPlant := ⟨w_366, ws_20⟩
theorem mwX4_plantChain : xW yX4_plantChain cX4_plantChain 3 none 2 := ⟨w_3, w_372, by decide +kernel, by decide +kernel, by decide +kernel⟩
theorem mvX4_plantChain : xWv yX4_plantChain := ⟨w_371, ws_21⟩
theorem mwX8_plant : xW yX8_plant cX8_plant 3 (some .int) 2 := ⟨w_1, w_363, by decide +kernel, by decide +kernel, by decide +kernel⟩
theorem mvX8_plant : xWv yX8_plant := ⟨w_361, w_362⟩
theorem mwX4_grubChain : xW yX4_grubChain cX4_grubChain 3 none 2 := ⟨w_3, w_381, by decide +kernel, by decide +kernel, by decide +kernel⟩
theorem mvX4_grubChain : xWv yX4_grubChain := ⟨w_380, ws_22⟩
theorem mwX8_grub : xW yX8_grub cX8_grub 4 (some .int) 2 := ⟨w_1, w_376, by decide +kernel, by decide +kernel, by decide +kernel⟩
theorem mvX8_grub : xWv yX8_grub := ⟨w_374, w_375⟩
theorem mwX1_ageOf : xW yX1_ageOf cX1_ageOf 2 (some .int) 1 := ⟨w_4, w_401, by decide +kernel, by decide +kernel, by decide +kernel⟩
theorem mvX1_ageOf : xWv yX1_ageOf := ⟨w_400, ws_26⟩
theorem mwX1_growOlder : xW yX1_growOlder cX1_growOlder 2 none 1 := ⟨w_4, w_397, by decide +kernel, by decide +kernel, by decide +kernel⟩
theorem mvX1_growOlder : xWv yX1_growOlder := ⟨w_396, ws_25⟩
theorem mwX1_growLaid : xW yX1_growLaid cX1_growLaid 3 none 1 := ⟨w_4, w_407, by decide +kernel, by decide +kernel, by decide +kernel⟩
theorem mvX1_growLaid : xWv yX1_growLaid := ⟨w_406, ws_27⟩
theorem mwX1_grow : xW yX1_grow cX1_grow 4 none 1 := ⟨w_4, w_393, by decide +kernel, by decide +kernel, by decide +kernel⟩
theorem mvX1_grow : xWv yX1_grow := ⟨w_392, ws_24⟩
theorem mwX4_finePerWeek : xW yX4_finePerWeek cX4_finePerWeek 2 (some .int) 1 := ⟨w_3, w_415, by decide +kernel, by decide +kernel, by decide +kernel⟩
theorem mvX4_finePerWeek : xWv yX4_finePerWeek := ⟨w_414, ws_29⟩
theorem mwX4_finesDue : xW yX4_finesDue cX4_finesDue 3 (some .int) 0 := ⟨w_3, w_411, by decide +kernel, by decide +kernel, by decide +kernel⟩
theorem mvX4_finesDue : xWv yX4_finesDue := ⟨w_410, ws_28⟩
theorem mwX4_spend : xW yX4_spend cX4_spend 3 none 1 := ⟨w_3, w_419, by decide +kernel, by decide +kernel, by decide +kernel⟩
theorem mvX4_spend : xWv yX4_spend := ⟨w_418, ws_30⟩
theorem mwX4_passWeek : xW yX4_passWeek cX4_passWeek 2 (some .int) 0 := ⟨w_3, w_389, by decide +kernel, by decide +kernel, by decide +kernel⟩
theorem mvX4_passWeek : xWv yX4_passWeek := ⟨w_388, ws_23⟩
theorem mwX8_pass : xW yX8_pass cX8_pass 4 (some .int) 1 := ⟨w_1, w_385, by decide +kernel, by decide +kernel, by decide +kernel⟩
theorem mvX8_pass : xWv yX8_pass := ⟨w_383, w_384⟩
theorem mwX8_canBeSet : xW yX8_canBeSet cX8_canBeSet 2 (some .boolean) 2 := ⟨w_1, w_427, by decide +kernel, by decide +kernel, by decide +kernel⟩
theorem mwX4_settingOf : xW yX4_settingOf cX4_settingOf 2 (some .int) 1 := ⟨w_3, w_431, by decide +kernel, by decide +kernel, by decide +kernel⟩
theorem mvX4_settingOf : xWv yX4_settingOf := ⟨w_430, ws_31⟩
theorem mwX4_changeSetting : xW yX4_changeSetting cX4_changeSetting 3 none 2 := ⟨w_3, w_435, by decide +kernel, by decide +kernel, by decide +kernel⟩
theorem mvX4_changeSetting : xWv yX4_changeSetting := ⟨w_434, ws_32⟩
theorem mwX8_set : xW yX8_set cX8_set 4 (some .int) 2 := ⟨w_1, w_424, by decide +kernel, by decide +kernel, by decide +kernel⟩
theorem mvX8_set : xWv yX8_set := ⟨w_422, w_423⟩
theorem mwX0_make : xW yX0_make cX0_make 4 none 3 := ⟨w_5, w_447, by decide +kernel, by decide +kernel, by decide +kernel⟩
theorem mvX0_make : xWv yX0_make := ⟨w_446, ws_33⟩
theorem mwX8_contract : xW yX8_contract cX8_contract 6 (some .int) 4 := ⟨w_1, w_442, by decide +kernel, by decide +kernel, by decide +kernel⟩
theorem mvX8_contract : xWv yX8_contract := ⟨w_440, w_441⟩
theorem mwX8_giveBack : xW yX8_giveBack cX8_giveBack 4 (some .int) 1 := ⟨w_1, w_451, by decide +kernel, by decide +kernel, by decide +kernel⟩
theorem mvX8_giveBack : xWv yX8_giveBack := ⟨w_449, w_450⟩
theorem mwX8_payDebt : xW yX8_payDebt cX8_payDebt 2 (some .int) 0 := ⟨w_1, w_456, by decide +kernel, by decide +kernel, by decide +kernel⟩
theorem mvX8_payDebt : xWv yX8_payDebt := ⟨w_454, w_455⟩
theorem mwX8_isSlot : xW yX8_isSlot cX8_isSlot 1 (some .boolean) 1 := ⟨w_1, w_464, by decide +kernel, by decide +kernel, by decide +kernel⟩
theorem mwX6_fillSlot : xW yX6_fillSlot cX6_fillSlot 2 none 1 := ⟨w_2, w_468, by decide +kernel, by decide +kernel, by decide +kernel⟩
theorem mvX6_fillSlot : xWv yX6_fillSlot := ⟨w_467, ws_34⟩
theorem mwX8_take : xW yX8_take cX8_take 2 (some .int) 1 := ⟨w_1, w_461, by decide +kernel, by decide +kernel, by decide +kernel⟩
theorem mvX8_take : xWv yX8_take := ⟨w_459, w_460⟩
theorem mwX8_restore : xW yX8_restore cX8_restore 2 (some .int) 1 := ⟨w_1, w_472, by decide +kernel, by decide +kernel, by decide +kernel⟩
theorem mvX8_restore : xWv yX8_restore := ⟨w_470, w_471⟩
theorem mwX3_bringBack : xW yX3_bringBack cX3_bringBack 2 none 1 := ⟨w_6, w_481, by decide +kernel, by decide +kernel, by decide +kernel⟩
theorem mvX3_bringBack : xWv yX3_bringBack := ⟨w_480, ws_35⟩
theorem mwX8_undo : xW yX8_undo cX8_undo 1 (some .int) 0 := ⟨w_1, w_477, by decide +kernel, by decide +kernel, by decide +kernel⟩
theorem mvX8_undo : xWv yX8_undo := ⟨w_475, w_476⟩
theorem mwX7_addSign : xW yX7_addSign cX7_addSign 2 none 1 := ⟨w_7, w_489, by decide +kernel, by decide +kernel, by decide +kernel⟩
theorem mvX7_addSign : xWv yX7_addSign := ⟨w_488, ws_36⟩
theorem mwX8_append : xW yX8_append cX8_append 2 (some .int) 1 := ⟨w_1, w_485, by decide +kernel, by decide +kernel, by decide +kernel⟩
theorem mvX8_append : xWv yX8_append := ⟨w_483, w_484⟩
theorem mwX8_clearText : xW yX8_clearText cX8_clearText 2 (some .int) 0 := ⟨w_1, w_493, by decide +kernel, by decide +kernel, by decide +kernel⟩
theorem mvX8_clearText : xWv yX8_clearText := ⟨w_491, w_492⟩
theorem mwX7_signAt : xW yX7_signAt cX7_signAt 2 (some .char) 1 := ⟨w_7, w_509, by decide +kernel, by decide +kernel, by decide +kernel⟩
theorem mvX7_signAt : xWv yX7_signAt := ⟨w_508, ws_39⟩
theorem mwX2_kindFor : xW yX2_kindFor cX2_kindFor 1 (some .int) 1 := ⟨w_8, w_512, by decide +kernel, by decide +kernel, by decide +kernel⟩
theorem mwX2_digitFor : xW yX2_digitFor cX2_digitFor 1 (some .int) 1 := ⟨w_8, w_515, by decide +kernel, by decide +kernel, by decide +kernel⟩
theorem mwX2_readNumber : xW yX2_readNumber cX2_readNumber 3 (some .int) 1 := ⟨w_8, w_519, by decide +kernel, by decide +kernel, by decide +kernel⟩
theorem mvX2_readNumber : xWv yX2_readNumber := ⟨w_518, ws_40⟩
theorem mwX2_readPart : xW yX2_readPart cX2_readPart 5 (some .boolean) 1 := ⟨w_8, w_505, by decide +kernel, by decide +kernel, by decide +kernel⟩
theorem mvX2_readPart : xWv yX2_readPart := ⟨w_504, ws_38⟩
theorem mwX2_faultOf : xW yX2_faultOf cX2_faultOf 3 (some .int) 1 := ⟨w_8, w_501, by decide +kernel, by decide +kernel, by decide +kernel⟩
theorem mvX2_faultOf : xWv yX2_faultOf := ⟨w_500, ws_37⟩
theorem mwX4_replaceHedge : xW yX4_replaceHedge cX4_replaceHedge 3 none 2 := ⟨w_3, w_524, by decide +kernel, by decide +kernel, by decide +kernel⟩
theorem mvX4_replaceHedge : xWv yX4_replaceHedge := ⟨w_523, ws_41⟩
theorem mwX8_read : xW yX8_read cX8_read 3 (some .int) 1 := ⟨w_1, w_497, by decide +kernel, by decide +kernel, by decide +kernel⟩
theorem mvX8_read : xWv yX8_read := ⟨w_495, w_496⟩
theorem mwX4_numberOfContracts : xW yX4_numberOfContracts cX4_numberOfContracts 3 (some .int) 0 := ⟨w_3, w_532, by decide +kernel, by decide +kernel, by decide +kernel⟩
theorem mvX4_numberOfContracts : xWv yX4_numberOfContracts := ⟨w_531, ws_42⟩
theorem mwX6_numberOfSnapshots : xW yX6_numberOfSnapshots cX6_numberOfSnapshots 3 (some .int) 0 := ⟨w_2, w_536, by decide +kernel, by decide +kernel, by decide +kernel⟩
theorem mvX6_numberOfSnapshots : xWv yX6_numberOfSnapshots := ⟨w_535, ws_43⟩
theorem mwX8_count : xW yX8_count cX8_count 2 (some .int) 1 := ⟨w_1, w_528, by decide +kernel, by decide +kernel, by decide +kernel⟩
theorem mvX8_count : xWv yX8_count := ⟨w_526, w_527⟩
theorem mwX1_runFrom : xW yX1_runFrom cX1_runFrom 3 (some .int) 1 := ⟨w_4, w_548, by decide +kernel, by decide +kernel, by decide +kernel⟩
theorem mvX1_runFrom : xWv yX1_runFrom := ⟨w_547, ws_45⟩
theorem mwX1_longestRunBegin : xW yX1_longestRunBegin cX1_longestRunBegin 5 (some .int) 0 := ⟨w_4, w_544, by decide +kernel, by decide +kernel, by decide +kernel⟩
theorem mvX1_longestRunBegin : xWv yX1_longestRunBegin := ⟨w_543, ws_44⟩
theorem mwX8_field : xW yX8_field cX8_field 5 (some .int) 2 := ⟨w_1, w_540, by decide +kernel, by decide +kernel, by decide +kernel⟩
theorem mvX8_field : xWv yX8_field := ⟨w_538, w_539⟩
theorem mwX8_chain : xW yX8_chain cX8_chain 5 (some .int) 3 := ⟨w_1, w_553, by decide +kernel, by decide +kernel, by decide +kernel⟩
theorem mvX8_chain : xWv yX8_chain := ⟨w_551, w_552⟩
theorem mwX1_workToLay : xW yX1_workToLay cX1_workToLay 3 (some .int) 0 := ⟨w_4, w_563, by decide +kernel, by decide +kernel, by decide +kernel⟩
theorem mvX1_workToLay : xWv yX1_workToLay := ⟨w_562, ws_46⟩
theorem mwX1_stakesToLay : xW yX1_stakesToLay cX1_stakesToLay 3 (some .int) 0 := ⟨w_4, w_568, by decide +kernel, by decide +kernel, by decide +kernel⟩
theorem mvX1_stakesToLay : xWv yX1_stakesToLay := ⟨w_567, ws_47⟩
theorem mwX8_toLay : xW yX8_toLay cX8_toLay 4 (some .int) 2 := ⟨w_1, w_559, by decide +kernel, by decide +kernel, by decide +kernel⟩
theorem mvX8_toLay : xWv yX8_toLay := ⟨w_557, w_558⟩
theorem mwX1_stakesOf : xW yX1_stakesOf cX1_stakesOf 3 (some .int) 1 := ⟨w_4, w_579, by decide +kernel, by decide +kernel, by decide +kernel⟩
theorem mwX1_stakesToCut : xW yX1_stakesToCut cX1_stakesToCut 3 (some .int) 0 := ⟨w_4, w_576, by decide +kernel, by decide +kernel, by decide +kernel⟩
theorem mvX1_stakesToCut : xWv yX1_stakesToCut := ⟨w_575, ws_48⟩
theorem mwX8_stakesIn : xW yX8_stakesIn cX8_stakesIn 2 (some .int) 1 := ⟨w_1, w_572, by decide +kernel, by decide +kernel, by decide +kernel⟩
theorem mvX8_stakesIn : xWv yX8_stakesIn := ⟨w_570, w_571⟩
theorem mwX4_workAfter : xW yX4_workAfter cX4_workAfter 2 (some .int) 1 := ⟨w_3, w_591, by decide +kernel, by decide +kernel, by decide +kernel⟩
theorem mvX4_workAfter : xWv yX4_workAfter := ⟨w_590, ws_50⟩
theorem mwX4_weeksUntilLaid : xW yX4_weeksUntilLaid cX4_weeksUntilLaid 7 (some .int) 1 := ⟨w_3, w_587, by decide +kernel, by decide +kernel, by decide +kernel⟩
theorem mvX4_weeksUntilLaid : xWv yX4_weeksUntilLaid := ⟨w_586, ws_49⟩
theorem mwX8_doneIn : xW yX8_doneIn cX8_doneIn 2 (some .int) 1 := ⟨w_1, w_583, by decide +kernel, by decide +kernel, by decide +kernel⟩
theorem mvX8_doneIn : xWv yX8_doneIn := ⟨w_581, w_582⟩
theorem mwX4_weeksOfWork : xW yX4_weeksOfWork cX4_weeksOfWork 2 (some .int) 1 := ⟨w_3, w_608, by decide +kernel, by decide +kernel, by decide +kernel⟩
theorem mvX4_weeksOfWork : xWv yX4_weeksOfWork := ⟨w_607, ws_53⟩
theorem mwX5_lookAt : xW yX5_lookAt cX5_lookAt 3 none 1 := ⟨w_9, w_604, by decide +kernel, by decide +kernel, by decide +kernel⟩
theorem mvX5_lookAt : xWv yX5_lookAt := ⟨w_603, ws_52⟩
theorem mwX5_isIn : xW yX5_isIn cX5_isIn 2 (some .boolean) 2 := ⟨w_9, w_618, by decide +kernel, by decide +kernel, by decide +kernel⟩
theorem mwX5_finesIfNext : xW yX5_finesIfNext cX5_finesIfNext 5 (some .int) 2 := ⟨w_9, w_622, by decide +kernel, by decide +kernel, by decide +kernel⟩
theorem mvX5_finesIfNext : xWv yX5_finesIfNext := ⟨w_621, ws_55⟩
theorem mwX5_leastOf : xW yX5_leastOf cX5_leastOf 4 (some .int) 1 := ⟨w_9, w_614, by decide +kernel, by decide +kernel, by decide +kernel⟩
theorem mvX5_leastOf : xWv yX5_leastOf := ⟨w_613, ws_54⟩
theorem mwX5_reckon : xW yX5_reckon cX5_reckon 3 none 1 := ⟨w_9, w_600, by decide +kernel, by decide +kernel, by decide +kernel⟩
theorem mvX5_reckon : xWv yX5_reckon := ⟨w_599, ws_51⟩
theorem mwX5_leastFines : xW yX5_leastFines cX5_leastFines 1 (some .int) 0 := ⟨w_9, w_628, by decide +kernel, by decide +kernel, by decide +kernel⟩
theorem mvX5_leastFines : xWv yX5_leastFines := ⟨w_627, ws_56⟩
theorem mwX5_firstField : xW yX5_firstField cX5_firstField 2 (some .int) 0 := ⟨w_9, w_632, by decide +kernel, by decide +kernel, by decide +kernel⟩
theorem mvX5_firstField : xWv yX5_firstField := ⟨w_631, ws_57⟩
theorem mwX8_bestOrder : xW yX8_bestOrder cX8_bestOrder 2 (some .int) 1 := ⟨w_1, w_596, by decide +kernel, by decide +kernel, by decide +kernel⟩
theorem mvX8_bestOrder : xWv yX8_bestOrder := ⟨w_594, w_595⟩
theorem mwX9_lays : xW yX9_lays cX9_lays 5 none 4 := ⟨w_10, w_642, by decide +kernel, by decide +kernel, by decide +kernel⟩
theorem mvX9_lays : xWv yX9_lays := ⟨w_641, ws_58⟩
theorem mwX9_init : xW yX9_init cX9_init 3 none 0 := ⟨w_10, w_637, by decide +kernel, by decide +kernel, by decide +kernel⟩
theorem mwX9_in : xW yX9_in cX9_in 3 (some .boolean) 3 := ⟨w_10, w_690, by decide +kernel, by decide +kernel, by decide +kernel⟩
theorem mwX9_isField : xW yX9_isField cX9_isField 1 (some .boolean) 1 := ⟨w_10, w_687, by decide +kernel, by decide +kernel, by decide +kernel⟩
theorem mwX9_isChain : xW yX9_isChain cX9_isChain 3 (some .boolean) 2 := ⟨w_10, w_684, by decide +kernel, by decide +kernel, by decide +kernel⟩
theorem mvX9_isChain : xWv yX9_isChain := ⟨w_683, ws_59⟩
theorem mwX9_isClosed : xW yX9_isClosed cX9_isClosed 3 (some .boolean) 1 := ⟨w_10, w_694, by decide +kernel, by decide +kernel, by decide +kernel⟩
theorem mvX9_isClosed : xWv yX9_isClosed := ⟨w_693, ws_60⟩
theorem mwX9_thickness : xW yX9_thickness cX9_thickness 3 (some .int) 2 := ⟨w_10, w_702, by decide +kernel, by decide +kernel, by decide +kernel⟩
theorem mvX9_thickness : xWv yX9_thickness := ⟨w_701, ws_62⟩
theorem mwX9_kindOf : xW yX9_kindOf cX9_kindOf 3 (some .int) 2 := ⟨w_10, w_706, by decide +kernel, by decide +kernel, by decide +kernel⟩
theorem mvX9_kindOf : xWv yX9_kindOf := ⟨w_705, ws_63⟩
theorem mwX9_canLay : xW yX9_canLay cX9_canLay 4 (some .boolean) 2 := ⟨w_10, w_698, by decide +kernel, by decide +kernel, by decide +kernel⟩
theorem mvX9_canLay : xWv yX9_canLay := ⟨w_697, ws_61⟩
theorem mwX9_keeps : xW yX9_keeps cX9_keeps 2 none 0 := ⟨w_10, w_710, by decide +kernel, by decide +kernel, by decide +kernel⟩
theorem mvX9_keeps : xWv yX9_keeps := ⟨w_709, ws_64⟩
theorem mwX9_con : xW yX9_con cX9_con 3 (some .int) 2 := ⟨w_10, w_714, by decide +kernel, by decide +kernel, by decide +kernel⟩
theorem mvX9_con : xWv yX9_con := ⟨w_713, ws_65⟩
theorem mwX9_ofKind : xW yX9_ofKind cX9_ofKind 5 (some .int) 2 := ⟨w_10, w_722, by decide +kernel, by decide +kernel, by decide +kernel⟩
theorem mvX9_ofKind : xWv yX9_ofKind := ⟨w_721, ws_67⟩
theorem mwX9_ends : xW yX9_ends cX9_ends 3 none 1 := ⟨w_10, w_718, by decide +kernel, by decide +kernel, by decide +kernel⟩
theorem mvX9_ends : xWv yX9_ends := ⟨w_717, ws_66⟩
theorem mwX9_acted : xW yX9_acted cX9_acted 3 (some .int) 1 := ⟨w_10, w_726, by decide +kernel, by decide +kernel, by decide +kernel⟩
theorem mvX9_acted : xWv yX9_acted := ⟨w_725, ws_68⟩
theorem mwX9_lay : xW yX9_lay cX9_lay 6 (some .int) 3 := ⟨w_10, w_680, by decide +kernel, by decide +kernel, by decide +kernel⟩
theorem mvX9_lay : xWv yX9_lay := ⟨w_678, w_679⟩
theorem mwX9_cut : xW yX9_cut cX9_cut 4 (some .int) 2 := ⟨w_10, w_730, by decide +kernel, by decide +kernel, by decide +kernel⟩
theorem mvX9_cut : xWv yX9_cut := ⟨w_728, w_729⟩
theorem mwX9_plant : xW yX9_plant cX9_plant 3 (some .int) 2 := ⟨w_10, w_734, by decide +kernel, by decide +kernel, by decide +kernel⟩
theorem mvX9_plant : xWv yX9_plant := ⟨w_732, w_733⟩
theorem mwX9_grub : xW yX9_grub cX9_grub 4 (some .int) 2 := ⟨w_10, w_738, by decide +kernel, by decide +kernel, by decide +kernel⟩
theorem mvX9_grub : xWv yX9_grub := ⟨w_736, w_737⟩
theorem mwX9_age : xW yX9_age cX9_age 3 (some .int) 2 := ⟨w_10, w_754, by decide +kernel, by decide +kernel, by decide +kernel⟩
theorem mvX9_age : xWv yX9_age := ⟨w_753, ws_71⟩
theorem mwX9_grows : xW yX9_grows cX9_grows 5 none 2 := ⟨w_10, w_750, by decide +kernel, by decide +kernel, by decide +kernel⟩
theorem mvX9_grows : xWv yX9_grows := ⟨w_749, ws_70⟩
theorem mwX9_pays : xW yX9_pays cX9_pays 3 none 1 := ⟨w_10, w_758, by decide +kernel, by decide +kernel, by decide +kernel⟩
theorem mvX9_pays : xWv yX9_pays := ⟨w_757, ws_72⟩
theorem mwX9_passesOne : xW yX9_passesOne cX9_passesOne 4 (some .int) 0 := ⟨w_10, w_746, by decide +kernel, by decide +kernel, by decide +kernel⟩
theorem mvX9_passesOne : xWv yX9_passesOne := ⟨w_745, ws_69⟩
theorem mwX9_pass : xW yX9_pass cX9_pass 4 (some .int) 1 := ⟨w_10, w_742, by decide +kernel, by decide +kernel, by decide +kernel⟩
theorem mvX9_pass : xWv yX9_pass := ⟨w_740, w_741⟩
theorem mwX9_set : xW yX9_set cX9_set 5 (some .int) 2 := ⟨w_10, w_762, by decide +kernel, by decide +kernel, by decide +kernel⟩
theorem mvX9_set : xWv yX9_set := ⟨w_760, w_761⟩
theorem mwX9_contract : xW yX9_contract cX9_contract 6 (some .int) 4 := ⟨w_10, w_766, by decide +kernel, by decide +kernel, by decide +kernel⟩
theorem mvX9_contract : xWv yX9_contract := ⟨w_764, w_765⟩
theorem mwX9_giveBack : xW yX9_giveBack cX9_giveBack 4 (some .int) 1 := ⟨w_10, w_770, by decide +kernel, by decide +kernel, by decide +kernel⟩
theorem mvX9_giveBack : xWv yX9_giveBack := ⟨w_768, w_769⟩
theorem mwX9_payDebt : xW yX9_payDebt cX9_payDebt 2 (some .int) 0 := ⟨w_10, w_774, by decide +kernel, by decide +kernel, by decide +kernel⟩
theorem mvX9_payDebt : xWv yX9_payDebt := ⟨w_772, w_773⟩
theorem mwX9_take : xW yX9_take cX9_take 4 (some .int) 1 := ⟨w_10, w_778, by decide +kernel, by decide +kernel, by decide +kernel⟩
theorem mvX9_take : xWv yX9_take := ⟨w_776, w_777⟩
theorem mwX9_restore : xW yX9_restore cX9_restore 4 (some .int) 1 := ⟨w_10, w_782, by decide +kernel, by decide +kernel, by decide +kernel⟩
theorem mvX9_restore : xWv yX9_restore := ⟨w_780, w_781⟩
theorem mwX9_undo : xW yX9_undo cX9_undo 2 (some .int) 0 := ⟨w_10, w_786, by decide +kernel, by decide +kernel, by decide +kernel⟩
theorem mvX9_undo : xWv yX9_undo := ⟨w_784, w_785⟩
theorem mwX9_append : xW yX9_append cX9_append 2 (some .int) 1 := ⟨w_10, w_790, by decide +kernel, by decide +kernel, by decide +kernel⟩
theorem mvX9_append : xWv yX9_append := ⟨w_788, w_789⟩
theorem mwX9_clearText : xW yX9_clearText cX9_clearText 2 (some .int) 0 := ⟨w_10, w_794, by decide +kernel, by decide +kernel, by decide +kernel⟩
theorem mvX9_clearText : xWv yX9_clearText := ⟨w_792, w_793⟩
theorem mwX9_sign : xW yX9_sign cX9_sign 1 (some .int) 0 := ⟨w_10, w_810, by decide +kernel, by decide +kernel, by decide +kernel⟩
theorem mvX9_sign : xWv yX9_sign := ⟨w_809, ws_75⟩
theorem mwX9_readsPart : xW yX9_readsPart cX9_readsPart 2 (some .boolean) 0 := ⟨w_10, w_806, by decide +kernel, by decide +kernel, by decide +kernel⟩
theorem mvX9_readsPart : xWv yX9_readsPart := ⟨w_805, ws_74⟩
theorem mwX9_chains : xW yX9_chains cX9_chains 3 (some .int) 0 := ⟨w_10, w_802, by decide +kernel, by decide +kernel, by decide +kernel⟩
theorem mvX9_chains : xWv yX9_chains := ⟨w_801, ws_73⟩
theorem mwX9_read : xW yX9_read cX9_read 4 (some .int) 1 := ⟨w_10, w_798, by decide +kernel, by decide +kernel, by decide +kernel⟩
theorem mvX9_read : xWv yX9_read := ⟨w_796, w_797⟩
theorem mwX9_contracts : xW yX9_contracts cX9_contracts 3 (some .int) 0 := ⟨w_10, w_818, by decide +kernel, by decide +kernel, by decide +kernel⟩
theorem mvX9_contracts : xWv yX9_contracts := ⟨w_817, ws_76⟩
theorem mwX9_count : xW yX9_count cX9_count 2 (some .int) 1 := ⟨w_10, w_814, by decide +kernel, by decide +kernel, by decide +kernel⟩
theorem mvX9_count : xWv yX9_count := ⟨w_812, w_813⟩
theorem mwX9_longest : xW yX9_longest cX9_longest 6 (some .int) 1 := ⟨w_10, w_826, by decide +kernel, by decide +kernel, by decide +kernel⟩
theorem mvX9_longest : xWv yX9_longest := ⟨w_825, ws_77⟩
theorem mwX9_field : xW yX9_field cX9_field 5 (some .int) 2 := ⟨w_10, w_822, by decide +kernel, by decide +kernel, by decide +kernel⟩
theorem mvX9_field : xWv yX9_field := ⟨w_820, w_821⟩
theorem mwX9_chain : xW yX9_chain cX9_chain 4 (some .int) 3 := ⟨w_10, w_830, by decide +kernel, by decide +kernel, by decide +kernel⟩
theorem mvX9_chain : xWv yX9_chain := ⟨w_828, w_829⟩
theorem mwX9_takes : xW yX9_takes cX9_takes 4 (some .int) 2 := ⟨w_10, w_838, by decide +kernel, by decide +kernel, by decide +kernel⟩
theorem mvX9_takes : xWv yX9_takes := ⟨w_837, ws_78⟩
theorem mwX9_workOf : xW yX9_workOf cX9_workOf 4 (some .int) 1 := ⟨w_10, w_842, by decide +kernel, by decide +kernel, by decide +kernel⟩
theorem mvX9_workOf : xWv yX9_workOf := ⟨w_841, ws_79⟩
theorem mwX9_toLay : xW yX9_toLay cX9_toLay 5 (some .int) 2 := ⟨w_10, w_834, by decide +kernel, by decide +kernel, by decide +kernel⟩
theorem mvX9_toLay : xWv yX9_toLay := ⟨w_832, w_833⟩
theorem mwX9_stakesIn : xW yX9_stakesIn cX9_stakesIn 5 (some .int) 1 := ⟨w_10, w_846, by decide +kernel, by decide +kernel, by decide +kernel⟩
theorem mvX9_stakesIn : xWv yX9_stakesIn := ⟨w_844, w_845⟩
theorem mwX9_doneIn : xW yX9_doneIn cX9_doneIn 6 (some .int) 1 := ⟨w_10, w_850, by decide +kernel, by decide +kernel, by decide +kernel⟩
theorem mvX9_doneIn : xWv yX9_doneIn := ⟨w_848, w_849⟩
theorem mwX9_weeksOf : xW yX9_weeksOf cX9_weeksOf 2 (some .int) 1 := ⟨w_10, w_862, by decide +kernel, by decide +kernel, by decide +kernel⟩
theorem mvX9_weeksOf : xWv yX9_weeksOf := ⟨w_861, ws_81⟩
theorem mwX9_costs : xW yX9_costs cX9_costs 5 (some .int) 2 := ⟨w_10, w_858, by decide +kernel, by decide +kernel, by decide +kernel⟩
theorem mvX9_costs : xWv yX9_costs := ⟨w_857, ws_80⟩
theorem mwX9_bestOrder : xW yX9_bestOrder cX9_bestOrder 7 (some .int) 1 := ⟨w_10, w_854, by decide +kernel, by decide +kernel, by decide +kernel⟩
theorem mvX9_bestOrder : xWv yX9_bestOrder := ⟨w_852, w_853⟩
theorem xvi {i : Int32} {n : Nat} (h : ¬ (i < 0 ∨ n ≤ i.toNatClampNeg)) : vp_in i n := h
theorem so_2 {a r : Int32} {G G' : Mem} (h : some (a, G) = some (r, G')) : r = a ∧ G' = G := ⟨(congrArg Prod.fst (Option.some.inj h)).symm, (congrArg Prod.snd (Option.some.inj h)).symm⟩
theorem so_1 {G G' : Mem} (h : some G = some G') : G' = G := (Option.some.inj h).symm
def FU : Nat := 10000
def lt {α β : Type} (a : α) (f : α → Option β) : Option β := f a
theorem lt_go {α β : Type} {a : α} {f : α → Option β} {r : β} (h : lt a f = some r) : f a = some r := h
def bd {β : Type} (a : Option (Int32 × Mem)) (f : Int32 → Mem → Option β) : Option β := match a with
  | none => none
  | some x => f x.1 x.2
theorem bd_some {β : Type} {a : Option (Int32 × Mem)} {f : Int32 → Mem → Option β} {r : β} (h : bd a f = some r) : ∃ (x : Int32) (G : Mem), a = some (x, G) ∧ f x G = some r := by
  cases a with
  | none => cases h
  | some x => exact ⟨x.1, x.2, rfl, h⟩
def bv {β : Type} (a : Option Mem) (f : Mem → Option β) : Option β := match a with
  | none => none
  | some x => f x
theorem bv_some {β : Type} {a : Option Mem} {f : Mem → Option β} {r : β} (h : bv a f = some r) : ∃ G : Mem, a = some G ∧ f G = some r := by
  cases a with
  | none => cases h
  | some x => exact ⟨x, rfl, h⟩
