theorem xtbl {w : Cond} (h : w ∈ tables_1) : w ∈ lw_tbl := List.mem_append_right _ h
theorem tnf_0 : Cond.fieldLinkNest RX2 25 "HedgeChains$Hedge" "length" "I" RX8 ∈ lw_tbl := xtbl (List.mem_of_getElem? (i := 46) (by decide +kernel))
theorem tnf_1 : Cond.fieldLinkNest RX8 207 "HedgeChains$Hedge" "length" "I" RX8 ∈ lw_tbl := xtbl (List.mem_of_getElem? (i := 47) (by decide +kernel))
theorem tnf_2 : Cond.fieldLinkNest RX4 135 "HedgeChains$Hedge" "length" "I" RX8 ∈ lw_tbl := xtbl (List.mem_of_getElem? (i := 48) (by decide +kernel))
theorem tnf_3 : Cond.fieldLinkNest RX5 48 "HedgeChains$Contract" "made" "Z" RX8 ∈ lw_tbl := xtbl (List.mem_of_getElem? (i := 77) (by decide +kernel))
theorem tnf_4 : Cond.fieldLinkNest RX4 84 "HedgeChains$Contract" "made" "Z" RX8 ∈ lw_tbl := xtbl (List.mem_of_getElem? (i := 78) (by decide +kernel))
theorem tnf_5 : Cond.fieldLinkNest RX8 132 "HedgeChains$Contract" "made" "Z" RX8 ∈ lw_tbl := xtbl (List.mem_of_getElem? (i := 79) (by decide +kernel))
theorem tnf_6 : Cond.fieldLinkNest RX4 88 "HedgeChains$Contract" "price" "I" RX8 ∈ lw_tbl := xtbl (List.mem_of_getElem? (i := 81) (by decide +kernel))
theorem tnf_7 : Cond.fieldLinkNest RX8 232 "HedgeChains$Contract" "price" "I" RX8 ∈ lw_tbl := xtbl (List.mem_of_getElem? (i := 82) (by decide +kernel))
theorem tnf_8 : Cond.fieldLinkNest RX5 57 "HedgeChains$Contract" "lastWeek" "I" RX8 ∈ lw_tbl := xtbl (List.mem_of_getElem? (i := 84) (by decide +kernel))
theorem tnf_9 : Cond.fieldLinkNest RX4 114 "HedgeChains$Contract" "lastWeek" "I" RX8 ∈ lw_tbl := xtbl (List.mem_of_getElem? (i := 85) (by decide +kernel))
theorem tnf_10 : Cond.fieldLinkNest RX8 235 "HedgeChains$Contract" "lastWeek" "I" RX8 ∈ lw_tbl := xtbl (List.mem_of_getElem? (i := 86) (by decide +kernel))
theorem tnf_11 : Cond.fieldLinkNest RX8 142 "HedgeChains$Contract" "fine" "I" RX8 ∈ lw_tbl := xtbl (List.mem_of_getElem? (i := 88) (by decide +kernel))
theorem tnf_12 : Cond.fieldLinkNest RX4 120 "HedgeChains$Contract" "fine" "I" RX8 ∈ lw_tbl := xtbl (List.mem_of_getElem? (i := 89) (by decide +kernel))
theorem tnf_13 : Cond.fieldLinkNest RX8 96 "HedgeChains$Land" "hedges" "[LHedgeChains$Hedge;" RX8 ∈ lw_tbl := xtbl (List.mem_of_getElem? (i := 100) (by decide +kernel))
theorem tnf_14 : Cond.fieldLinkNest RX5 44 "HedgeChains$Land" "contracts" "[LHedgeChains$Contract;" RX8 ∈ lw_tbl := xtbl (List.mem_of_getElem? (i := 102) (by decide +kernel))
theorem tnf_15 : Cond.fieldLinkNest RX8 128 "HedgeChains$Land" "contracts" "[LHedgeChains$Contract;" RX8 ∈ lw_tbl := xtbl (List.mem_of_getElem? (i := 103) (by decide +kernel))
theorem tnf_16 : Cond.fieldLinkNest RX8 57 "HedgeChains$Land" "week" "I" RX8 ∈ lw_tbl := xtbl (List.mem_of_getElem? (i := 104) (by decide +kernel))
theorem tnf_17 : Cond.fieldLinkNest RX5 36 "HedgeChains$Land" "week" "I" RX8 ∈ lw_tbl := xtbl (List.mem_of_getElem? (i := 106) (by decide +kernel))
theorem tnf_18 : Cond.fieldLinkNest RX8 93 "HedgeChains$Land" "work" "I" RX8 ∈ lw_tbl := xtbl (List.mem_of_getElem? (i := 111) (by decide +kernel))
theorem tnf_19 : Cond.fieldLinkNest RX8 84 "HedgeChains$Land" "stakes" "I" RX8 ∈ lw_tbl := xtbl (List.mem_of_getElem? (i := 113) (by decide +kernel))
theorem tnf_20 : Cond.fieldLinkNest RX8 149 "HedgeChains$Land" "purse" "I" RX8 ∈ lw_tbl := xtbl (List.mem_of_getElem? (i := 115) (by decide +kernel))
theorem tnf_21 : Cond.fieldLinkNest RX8 152 "HedgeChains$Land" "debt" "I" RX8 ∈ lw_tbl := xtbl (List.mem_of_getElem? (i := 117) (by decide +kernel))
theorem tnf_22 : Cond.fieldLinkNest RX8 208 "HedgeChains$Land" "earned" "I" RX8 ∈ lw_tbl := xtbl (List.mem_of_getElem? (i := 119) (by decide +kernel))
theorem tnf_23 : Cond.fieldLinkNest RX8 211 "HedgeChains$Land" "fined" "I" RX8 ∈ lw_tbl := xtbl (List.mem_of_getElem? (i := 121) (by decide +kernel))
theorem tnf_24 : Cond.fieldLinkNest RX8 217 "HedgeChains$Land" "laid" "I" RX8 ∈ lw_tbl := xtbl (List.mem_of_getElem? (i := 123) (by decide +kernel))
theorem tnf_25 : Cond.fieldLinkNest RX8 220 "HedgeChains$Land" "planted" "I" RX8 ∈ lw_tbl := xtbl (List.mem_of_getElem? (i := 125) (by decide +kernel))
theorem tnf_26 : Cond.fieldLinkNest RX8 16 "HedgeChains$State" "land" "LHedgeChains$Land;" RX8 ∈ lw_tbl := xtbl (List.mem_of_getElem? (i := 157) (by decide +kernel))
theorem tnf_27 : Cond.fieldLinkNest RX8 171 "HedgeChains$State" "slots" "[LHedgeChains$Land;" RX8 ∈ lw_tbl := xtbl (List.mem_of_getElem? (i := 159) (by decide +kernel))
theorem tnf_28 : Cond.fieldLinkNest RX8 167 "HedgeChains$State" "filled" "[Z" RX8 ∈ lw_tbl := xtbl (List.mem_of_getElem? (i := 161) (by decide +kernel))
theorem tnf_29 : Cond.fieldLinkNest RX8 179 "HedgeChains$History" "kept" "I" RX8 ∈ lw_tbl := xtbl (List.mem_of_getElem? (i := 182) (by decide +kernel))
theorem tnf_30 : Cond.fieldLinkNest RX2 32 "HedgeChains$Text" "length" "I" RX8 ∈ lw_tbl := xtbl (List.mem_of_getElem? (i := 198) (by decide +kernel))
theorem tnf_31 : Cond.fieldLinkNest RX8 185 "HedgeChains$Text" "length" "I" RX8 ∈ lw_tbl := xtbl (List.mem_of_getElem? (i := 199) (by decide +kernel))
theorem tnf_32 : Cond.fieldLinkNest RX8 199 "HedgeChains$HedgeReader" "hedge" "LHedgeChains$Hedge;" RX8 ∈ lw_tbl := xtbl (List.mem_of_getElem? (i := 215) (by decide +kernel))
theorem tnf_33 : Cond.fieldLinkNest RX8 196 "HedgeChains$HedgeReader" "told" "I" RX8 ∈ lw_tbl := xtbl (List.mem_of_getElem? (i := 217) (by decide +kernel))
theorem tnm_0 : Cond.methodLinkNest RX8 9 yX6_init RX8 ∈ lw_tbl := xtbl (List.mem_of_getElem? (i := 23) (by decide +kernel))
theorem tnm_1 : Cond.methodLinkNest RX6 11 yX4_init RX8 ∈ lw_tbl := xtbl (List.mem_of_getElem? (i := 29) (by decide +kernel))
theorem tnm_2 : Cond.methodLinkNest RX4 23 yX1_init RX8 ∈ lw_tbl := xtbl (List.mem_of_getElem? (i := 38) (by decide +kernel))
theorem tnm_3 : Cond.methodLinkNest RX4 24 yX1_addChains RX8 ∈ lw_tbl := xtbl (List.mem_of_getElem? (i := 59) (by decide +kernel))
theorem tnm_4 : Cond.methodLinkNest RX4 28 yX0_init RX8 ∈ lw_tbl := xtbl (List.mem_of_getElem? (i := 72) (by decide +kernel))
theorem tnm_5 : Cond.methodLinkNest RX8 23 yX3_init RX8 ∈ lw_tbl := xtbl (List.mem_of_getElem? (i := 172) (by decide +kernel))
theorem tnm_6 : Cond.methodLinkNest RX3 17 yX6_init RX8 ∈ lw_tbl := xtbl (List.mem_of_getElem? (i := 178) (by decide +kernel))
theorem tnm_7 : Cond.methodLinkNest RX8 30 yX7_init RX8 ∈ lw_tbl := xtbl (List.mem_of_getElem? (i := 192) (by decide +kernel))
theorem tnm_8 : Cond.methodLinkNest RX8 37 yX2_init RX8 ∈ lw_tbl := xtbl (List.mem_of_getElem? (i := 208) (by decide +kernel))
theorem tnm_9 : Cond.methodLinkNest RX2 11 yX1_init RX8 ∈ lw_tbl := xtbl (List.mem_of_getElem? (i := 213) (by decide +kernel))
theorem tnm_10 : Cond.methodLinkNest RX8 44 yX5_init RX8 ∈ lw_tbl := xtbl (List.mem_of_getElem? (i := 228) (by decide +kernel))
theorem tnm_11 : Cond.methodLinkNest RX8 265 yX1_has RX8 ∈ lw_tbl := xtbl (List.mem_of_getElem? (i := 284) (by decide +kernel))
theorem tnm_12 : Cond.methodLinkNest RX8 63 yX4_isClosed RX8 ∈ lw_tbl := xtbl (List.mem_of_getElem? (i := 285) (by decide +kernel))
theorem tnm_13 : Cond.methodLinkNest RX8 67 yX4_canLay RX8 ∈ lw_tbl := xtbl (List.mem_of_getElem? (i := 289) (by decide +kernel))
theorem tnm_14 : Cond.methodLinkNest RX4 73 yX1_isToLay RX8 ∈ lw_tbl := xtbl (List.mem_of_getElem? (i := 293) (by decide +kernel))
theorem tnm_15 : Cond.methodLinkNest RX4 77 yX1_thicknessOf RX8 ∈ lw_tbl := xtbl (List.mem_of_getElem? (i := 297) (by decide +kernel))
theorem tnm_16 : Cond.methodLinkNest RX8 70 yX3_keep RX8 ∈ lw_tbl := xtbl (List.mem_of_getElem? (i := 301) (by decide +kernel))
theorem tnm_17 : Cond.methodLinkNest RX3 25 yX6_copyFrom RX8 ∈ lw_tbl := xtbl (List.mem_of_getElem? (i := 305) (by decide +kernel))
theorem tnm_18 : Cond.methodLinkNest RX6 26 yX4_copyFrom RX8 ∈ lw_tbl := xtbl (List.mem_of_getElem? (i := 309) (by decide +kernel))
theorem tnm_19 : Cond.methodLinkNest RX4 48 yX1_copyFrom RX8 ∈ lw_tbl := xtbl (List.mem_of_getElem? (i := 313) (by decide +kernel))
theorem tnm_20 : Cond.methodLinkNest RX4 52 yX0_copyFrom RX8 ∈ lw_tbl := xtbl (List.mem_of_getElem? (i := 320) (by decide +kernel))
theorem tnm_21 : Cond.methodLinkNest RX8 74 yX4_layChain RX8 ∈ lw_tbl := xtbl (List.mem_of_getElem? (i := 327) (by decide +kernel))
theorem tnm_22 : Cond.methodLinkNest RX4 81 yX1_changeChain RX8 ∈ lw_tbl := xtbl (List.mem_of_getElem? (i := 331) (by decide +kernel))
theorem tnm_23 : Cond.methodLinkNest RX4 101 yX1_numberOf RX8 ∈ lw_tbl := xtbl (List.mem_of_getElem? (i := 336) (by decide +kernel))
theorem tnm_24 : Cond.methodLinkNest RX8 78 yX4_canCut RX8 ∈ lw_tbl := xtbl (List.mem_of_getElem? (i := 348) (by decide +kernel))
theorem tnm_25 : Cond.methodLinkNest RX4 95 yX1_isToCut RX8 ∈ lw_tbl := xtbl (List.mem_of_getElem? (i := 352) (by decide +kernel))
theorem tnm_26 : Cond.methodLinkNest RX8 81 yX4_cutChain RX8 ∈ lw_tbl := xtbl (List.mem_of_getElem? (i := 356) (by decide +kernel))
theorem tnm_27 : Cond.methodLinkNest RX8 87 yX4_canPlant RX8 ∈ lw_tbl := xtbl (List.mem_of_getElem? (i := 364) (by decide +kernel))
theorem tnm_28 : Cond.methodLinkNest RX4 98 yX1_kindOf RX8 ∈ lw_tbl := xtbl (List.mem_of_getElem? (i := 368) (by decide +kernel))
theorem tnm_29 : Cond.methodLinkNest RX8 90 yX4_plantChain RX8 ∈ lw_tbl := xtbl (List.mem_of_getElem? (i := 369) (by decide +kernel))
theorem tnm_30 : Cond.methodLinkNest RX8 100 yX1_kindOf RX8 ∈ lw_tbl := xtbl (List.mem_of_getElem? (i := 377) (by decide +kernel))
theorem tnm_31 : Cond.methodLinkNest RX8 106 yX4_grubChain RX8 ∈ lw_tbl := xtbl (List.mem_of_getElem? (i := 378) (by decide +kernel))
theorem tnm_32 : Cond.methodLinkNest RX8 109 yX4_passWeek RX8 ∈ lw_tbl := xtbl (List.mem_of_getElem? (i := 386) (by decide +kernel))
theorem tnm_33 : Cond.methodLinkNest RX4 104 yX1_grow RX8 ∈ lw_tbl := xtbl (List.mem_of_getElem? (i := 390) (by decide +kernel))
theorem tnm_34 : Cond.methodLinkNest RX8 116 yX4_settingOf RX8 ∈ lw_tbl := xtbl (List.mem_of_getElem? (i := 428) (by decide +kernel))
theorem tnm_35 : Cond.methodLinkNest RX8 119 yX4_changeSetting RX8 ∈ lw_tbl := xtbl (List.mem_of_getElem? (i := 432) (by decide +kernel))
theorem tnm_36 : Cond.methodLinkNest RX8 125 yX1_numberOf RX8 ∈ lw_tbl := xtbl (List.mem_of_getElem? (i := 443) (by decide +kernel))
theorem tnm_37 : Cond.methodLinkNest RX8 138 yX0_make RX8 ∈ lw_tbl := xtbl (List.mem_of_getElem? (i := 444) (by decide +kernel))
theorem tnm_38 : Cond.methodLinkNest RX8 145 yX4_spend RX8 ∈ lw_tbl := xtbl (List.mem_of_getElem? (i := 452) (by decide +kernel))
theorem tnm_39 : Cond.methodLinkNest RX8 164 yX6_fillSlot RX8 ∈ lw_tbl := xtbl (List.mem_of_getElem? (i := 465) (by decide +kernel))
theorem tnm_40 : Cond.methodLinkNest RX8 175 yX4_copyFrom RX8 ∈ lw_tbl := xtbl (List.mem_of_getElem? (i := 473) (by decide +kernel))
theorem tnm_41 : Cond.methodLinkNest RX8 182 yX3_bringBack RX8 ∈ lw_tbl := xtbl (List.mem_of_getElem? (i := 478) (by decide +kernel))
theorem tnm_42 : Cond.methodLinkNest RX8 188 yX7_addSign RX8 ∈ lw_tbl := xtbl (List.mem_of_getElem? (i := 486) (by decide +kernel))
theorem tnm_43 : Cond.methodLinkNest RX8 192 yX2_faultOf RX8 ∈ lw_tbl := xtbl (List.mem_of_getElem? (i := 498) (by decide +kernel))
theorem tnm_44 : Cond.methodLinkNest RX2 35 yX7_signAt RX8 ∈ lw_tbl := xtbl (List.mem_of_getElem? (i := 506) (by decide +kernel))
theorem tnm_45 : Cond.methodLinkNest RX2 50 yX1_addChains RX8 ∈ lw_tbl := xtbl (List.mem_of_getElem? (i := 520) (by decide +kernel))
theorem tnm_46 : Cond.methodLinkNest RX8 203 yX4_replaceHedge RX8 ∈ lw_tbl := xtbl (List.mem_of_getElem? (i := 521) (by decide +kernel))
theorem tnm_47 : Cond.methodLinkNest RX8 214 yX4_numberOfContracts RX8 ∈ lw_tbl := xtbl (List.mem_of_getElem? (i := 529) (by decide +kernel))
theorem tnm_48 : Cond.methodLinkNest RX8 223 yX6_numberOfSnapshots RX8 ∈ lw_tbl := xtbl (List.mem_of_getElem? (i := 533) (by decide +kernel))
theorem tnm_49 : Cond.methodLinkNest RX8 226 yX1_longestRunBegin RX8 ∈ lw_tbl := xtbl (List.mem_of_getElem? (i := 541) (by decide +kernel))
theorem tnm_50 : Cond.methodLinkNest RX8 229 yX1_runFrom RX8 ∈ lw_tbl := xtbl (List.mem_of_getElem? (i := 549) (by decide +kernel))
theorem tnm_51 : Cond.methodLinkNest RX8 238 yX1_thicknessOf RX8 ∈ lw_tbl := xtbl (List.mem_of_getElem? (i := 554) (by decide +kernel))
theorem tnm_52 : Cond.methodLinkNest RX8 241 yX1_ageOf RX8 ∈ lw_tbl := xtbl (List.mem_of_getElem? (i := 555) (by decide +kernel))
theorem tnm_53 : Cond.methodLinkNest RX8 244 yX1_workToLay RX8 ∈ lw_tbl := xtbl (List.mem_of_getElem? (i := 560) (by decide +kernel))
theorem tnm_54 : Cond.methodLinkNest RX8 247 yX1_stakesToLay RX8 ∈ lw_tbl := xtbl (List.mem_of_getElem? (i := 565) (by decide +kernel))
theorem tnm_55 : Cond.methodLinkNest RX8 250 yX1_stakesToCut RX8 ∈ lw_tbl := xtbl (List.mem_of_getElem? (i := 573) (by decide +kernel))
theorem tnm_56 : Cond.methodLinkNest RX8 253 yX4_weeksUntilLaid RX8 ∈ lw_tbl := xtbl (List.mem_of_getElem? (i := 584) (by decide +kernel))
theorem tnm_57 : Cond.methodLinkNest RX8 256 yX5_reckon RX8 ∈ lw_tbl := xtbl (List.mem_of_getElem? (i := 597) (by decide +kernel))
theorem tnm_58 : Cond.methodLinkNest RX5 54 yX4_weeksOfWork RX8 ∈ lw_tbl := xtbl (List.mem_of_getElem? (i := 605) (by decide +kernel))
theorem tnm_59 : Cond.methodLinkNest RX4 141 yX1_workToLay RX8 ∈ lw_tbl := xtbl (List.mem_of_getElem? (i := 609) (by decide +kernel))
theorem tnm_60 : Cond.methodLinkNest RX5 60 yX4_finePerWeek RX8 ∈ lw_tbl := xtbl (List.mem_of_getElem? (i := 610) (by decide +kernel))
theorem tnm_61 : Cond.methodLinkNest RX8 259 yX5_leastFines RX8 ∈ lw_tbl := xtbl (List.mem_of_getElem? (i := 625) (by decide +kernel))
theorem tnm_62 : Cond.methodLinkNest RX8 262 yX5_firstField RX8 ∈ lw_tbl := xtbl (List.mem_of_getElem? (i := 629) (by decide +kernel))
theorem tnF : ∀ q ∈ xNF, Cond.fieldLinkNest q.1 q.2.1 q.2.2.1 q.2.2.2.1 q.2.2.2.2 RX8 ∈ lw_tbl := List.forall_mem_cons.mpr ⟨tnf_0, List.forall_mem_cons.mpr ⟨tnf_1, List.forall_mem_cons.mpr ⟨tnf_2, List.forall_mem_cons.mpr ⟨tnf_3, List.forall_mem_cons.mpr ⟨tnf_4, List.forall_mem_cons.mpr ⟨tnf_5, List.forall_mem_cons.mpr ⟨tnf_6, List.forall_mem_cons.mpr ⟨tnf_7, List.forall_mem_cons.mpr ⟨tnf_8, List.forall_mem_cons.mpr ⟨tnf_9, List.forall_mem_cons.mpr ⟨tnf_10, List.forall_mem_cons.mpr ⟨tnf_11, List.forall_mem_cons.mpr ⟨tnf_12, List.forall_mem_cons.mpr ⟨tnf_13, List.forall_mem_cons.mpr ⟨tnf_14, List.forall_mem_cons.mpr ⟨tnf_15, List.forall_mem_cons.mpr ⟨tnf_16, List.forall_mem_cons.mpr ⟨tnf_17, List.forall_mem_cons.mpr ⟨tnf_18, List.forall_mem_cons.mpr ⟨tnf_19, List.forall_mem_cons.mpr ⟨tnf_20, List.forall_mem_cons.mpr ⟨tnf_21, List.forall_mem_cons.mpr ⟨tnf_22, List.forall_mem_cons.mpr ⟨tnf_23, List.forall_mem_cons.mpr ⟨tnf_24, List.forall_mem_cons.mpr ⟨tnf_25, List.forall_mem_cons.mpr ⟨tnf_26, List.forall_mem_cons.mpr ⟨tnf_27, List.forall_mem_cons.mpr ⟨tnf_28, List.forall_mem_cons.mpr ⟨tnf_29, List.forall_mem_cons.mpr ⟨tnf_30, List.forall_mem_cons.mpr ⟨tnf_31, List.forall_mem_cons.mpr ⟨tnf_32, List.forall_mem_cons.mpr ⟨tnf_33, fun _ h => absurd h List.not_mem_nil⟩⟩⟩⟩⟩⟩⟩⟩⟩⟩⟩⟩⟩⟩⟩⟩⟩⟩⟩⟩⟩⟩⟩⟩⟩⟩⟩⟩⟩⟩⟩⟩⟩⟩
theorem tnM : ∀ q ∈ xNM, Cond.methodLinkNest q.1 q.2.1 q.2.2 RX8 ∈ lw_tbl := List.forall_mem_cons.mpr ⟨tnm_0, List.forall_mem_cons.mpr ⟨tnm_1, List.forall_mem_cons.mpr ⟨tnm_2, List.forall_mem_cons.mpr ⟨tnm_3, List.forall_mem_cons.mpr ⟨tnm_4, List.forall_mem_cons.mpr ⟨tnm_5, List.forall_mem_cons.mpr ⟨tnm_6, List.forall_mem_cons.mpr ⟨tnm_7, List.forall_mem_cons.mpr ⟨tnm_8, List.forall_mem_cons.mpr ⟨tnm_9, List.forall_mem_cons.mpr ⟨tnm_10, List.forall_mem_cons.mpr ⟨tnm_11, List.forall_mem_cons.mpr ⟨tnm_12, List.forall_mem_cons.mpr ⟨tnm_13, List.forall_mem_cons.mpr ⟨tnm_14, List.forall_mem_cons.mpr ⟨tnm_15, List.forall_mem_cons.mpr ⟨tnm_16, List.forall_mem_cons.mpr ⟨tnm_17, List.forall_mem_cons.mpr ⟨tnm_18, List.forall_mem_cons.mpr ⟨tnm_19, List.forall_mem_cons.mpr ⟨tnm_20, List.forall_mem_cons.mpr ⟨tnm_21, List.forall_mem_cons.mpr ⟨tnm_22, List.forall_mem_cons.mpr ⟨tnm_23, List.forall_mem_cons.mpr ⟨tnm_24, List.forall_mem_cons.mpr ⟨tnm_25, List.forall_mem_cons.mpr ⟨tnm_26, List.forall_mem_cons.mpr ⟨tnm_27, List.forall_mem_cons.mpr ⟨tnm_28, List.forall_mem_cons.mpr ⟨tnm_29, List.forall_mem_cons.mpr ⟨tnm_30, List.forall_mem_cons.mpr ⟨tnm_31, List.forall_mem_cons.mpr ⟨tnm_32, List.forall_mem_cons.mpr ⟨tnm_33, List.forall_mem_cons.mpr ⟨tnm_34, List.forall_mem_cons.mpr ⟨tnm_35, List.forall_mem_cons.mpr ⟨tnm_36, List.forall_mem_cons.mpr ⟨tnm_37, List.forall_mem_cons.mpr ⟨tnm_38, List.forall_mem_cons.mpr ⟨tnm_39, List.forall_mem_cons.mpr ⟨tnm_40, List.forall_mem_cons.mpr ⟨tnm_41, List.forall_mem_cons.mpr ⟨tnm_42, List.forall_mem_cons.mpr ⟨tnm_43, List.forall_mem_cons.mpr ⟨tnm_44, List.forall_mem_cons.mpr ⟨tnm_45, List.forall_mem_cons.mpr ⟨tnm_46, List.forall_mem_cons.mpr ⟨tnm_47, List.forall_mem_cons.mpr ⟨tnm_48, List.forall_mem_cons.mpr ⟨tnm_49, List.forall_mem_cons.mpr ⟨tnm_50, List.forall_mem_cons.mpr ⟨tnm_51, List.forall_mem_cons.mpr ⟨tnm_52, List.forall_mem_cons.mpr ⟨tnm_53, List.forall_mem_cons.mpr ⟨tnm_54, List.forall_mem_cons.mpr ⟨tnm_55, List.forall_mem_cons.mpr ⟨tnm_56, List.forall_mem_cons.mpr ⟨tnm_57, List.forall_mem_cons.mpr ⟨tnm_58, List.forall_mem_cons.mpr ⟨tnm_59, List.forall_mem_cons.mpr ⟨tnm_60, List.forall_mem_cons.mpr ⟨tnm_61, List.forall_mem_cons.mpr ⟨tnm_62, fun _ h => absurd h List.not_mem_nil⟩⟩⟩⟩⟩⟩⟩⟩⟩⟩⟩⟩⟩⟩⟩⟩⟩⟩⟩⟩⟩⟩⟩⟩⟩⟩⟩⟩⟩⟩⟩⟩⟩⟩⟩⟩⟩⟩⟩⟩⟩⟩⟩⟩⟩⟩⟩⟩⟩⟩⟩⟩⟩⟩⟩⟩⟩⟩⟩⟩⟩⟩⟩
theorem tao_1 : Cond.arrayOver (.object RX1) ∈ lw_tbl := xtbl (List.mem_of_getElem? (i := 34) (by decide +kernel))
theorem tao_0 : Cond.arrayOver (.object RX0) ∈ lw_tbl := xtbl (List.mem_of_getElem? (i := 36) (by decide +kernel))
theorem tao_4 : Cond.arrayOver (.object RX4) ∈ lw_tbl := xtbl (List.mem_of_getElem? (i := 155) (by decide +kernel))
theorem tao_6 : Cond.arrayOver (.object RX6) ∈ lw_tbl := xtbl (List.mem_of_getElem? (i := 177) (by decide +kernel))
theorem tAO : ∀ q ∈ xAO, Cond.arrayOver (.object q) ∈ lw_tbl := List.forall_mem_cons.mpr ⟨tao_1, List.forall_mem_cons.mpr ⟨tao_0, List.forall_mem_cons.mpr ⟨tao_4, List.forall_mem_cons.mpr ⟨tao_6, fun _ h => absurd h List.not_mem_nil⟩⟩⟩⟩
theorem xNs_of {s : State} {args : Array Value} (hts : ∀ w ∈ lw_tbl, w.before args s = true) : xNs s := ⟨fun q hq => va_Nw.of rfl (hts _ (tnF q hq)), fun q hq => va_Nw.of rfl (hts _ (tnM q hq)), fun q hq => va_AO.of (hts _ (tAO q hq))⟩
theorem arr_prim {s : State} {args : Array Value} {ty : FieldType} (h : (Cond.arrayClass ty).before args s = true) (hR : ∀ cA, s.vm.findClass ("[" ++ ty.toString) = some cA → va_RA s cA ty) : ∃ cA, ArrOfT s cA ty ∧ va_RA s cA ty := by
  obtain ⟨cA, kA, comp, h1, h2, h3⟩ := Cond.arrayClass_spec h
  exact ⟨cA, fun n z => ⟨fun k h => (by cases h), kA, h2, comp, h3⟩, hR cA h1⟩
theorem arr_obj {s : State} {C : String} (h : va_AO C s) : ∃ cA, ArrOfT s cA (.object C) ∧ va_RA s cA (.object C) := by
  obtain ⟨comp, cA, kA, h1, h2, h3, h4, h5⟩ := Cond.arrayOver_spec h
  exact ⟨cA, fun n z => ⟨fun k h => (by cases h), kA, h3, comp, h4⟩, kA, comp, h3, h4, h1, h5⟩
/-! the shapes, out of the kinds -/
theorem A1_of {kd : Nat → Nat} {NP q : Nat} (h : ∀ i, i < 4 → kd (q + i) = kdH i) (hN : q + 4 ≤ NP) : A1 kd NP q := ⟨⟨by omega, h 0 (by omega)⟩, ⟨by omega, h 1 (by omega)⟩, ⟨by omega, h 2 (by omega)⟩, ⟨by omega, h 3 (by omega)⟩⟩
theorem kdL_H {f i : Nat} (hi : i < 4) : kdL (3 + 5 * f + i) = kdH i := by
  unfold kdL kdH
  rw [if_neg (by omega), if_neg (by omega), if_neg (by omega), show (3 + 5 * f + i - 3) % 5 = i by omega]
  rcases (show i = 0 ∨ i = 1 ∨ i = 2 ∨ i = 3 by omega) with rfl | rfl | rfl | rfl <;> rfl
theorem kdL_C {f : Nat} : kdL (3 + 5 * f + 4) = 0 := by
  unfold kdL
  rw [if_neg (by omega), if_neg (by omega), if_neg (by omega), show (3 + 5 * f + 4 - 3) % 5 = 4 by omega]
  rfl
theorem A4_of {kd : Nat → Nat} {NP q : Nat} (h : ∀ i, i < 33 → kd (q + i) = kdL i) (hN : q + 33 ≤ NP) : A4 kd NP q := by
  refine ⟨⟨by omega, h 0 (by omega)⟩, ⟨by omega, h 1 (by omega)⟩, ⟨by omega, h 2 (by omega)⟩, fun f hf => A1_of (fun i hi => ?_) (by omega), fun f hf => ⟨by omega, ?_⟩⟩
  · rw [show q + 3 + 5 * f + i = q + (3 + 5 * f + i) by omega, h _ (by omega), kdL_H hi]
  · rw [show q + 7 + 5 * f = q + (3 + 5 * f + 4) by omega, h _ (by omega), kdL_C]
theorem A6_of {kd : Nat → Nat} {NP q : Nat} (h : ∀ i, i < 102 → kd (q + i) = kdS i) (hN : q + 102 ≤ NP) : A6 kd NP q := by
  refine ⟨⟨by omega, h 0 (by omega)⟩, A4_of (fun i hi => ?_) (by omega), ⟨by omega, h 34 (by omega)⟩, ⟨by omega, h 35 (by omega)⟩, fun f hf => A4_of (fun i hi => ?_) (by omega)⟩
  · rw [show q + 1 + i = q + (1 + i) by omega, h _ (by omega)]
    unfold kdS
    rw [if_neg (by omega), if_pos (by omega), show 1 + i - 1 = i by omega]
  · rw [show q + 36 + 33 * f + i = q + (36 + 33 * f + i) by omega, h _ (by omega)]
    unfold kdS
    rw [if_neg (by omega), if_neg (by omega), if_neg (by omega), if_neg (by omega), show (36 + 33 * f + i - 36) % 33 = i by omega]
theorem A3_of {kd : Nat → Nat} {NP q : Nat} (h : ∀ i, i < 512 → kd (q + i) = kdHi i) (hN : q + 512 ≤ NP) : A3 kd NP q := by
  refine ⟨⟨by omega, h 0 (by omega)⟩, ⟨by omega, h 1 (by omega)⟩, fun f hf => A6_of (fun i hi => ?_) (by omega)⟩
  rw [show q + 2 + 102 * f + i = q + (2 + 102 * f + i) by omega, h _ (by omega)]
  unfold kdHi
  rw [if_neg (by omega), if_neg (by omega), show (2 + 102 * f + i - 2) % 102 = i by omega]
theorem A8_of {kd : Nat → Nat} {NP : Nat} (h : ∀ i, i < 627 → kd i = kdX i) (hN : 627 ≤ NP) : A8 kd NP 0 := by
  refine ⟨⟨by omega, h 0 (by omega)⟩, A6_of (fun i hi => ?_) (by omega), A3_of (fun i hi => ?_) (by omega), ⟨⟨by omega, h 615 (by omega)⟩, ⟨by omega, h 616 (by omega)⟩⟩, ⟨⟨by omega, h 617 (by omega)⟩, A1_of (fun i hi => ?_) (by omega)⟩, ⟨by omega, h 622 (by omega)⟩, ⟨by omega, h 623 (by omega)⟩, ⟨by omega, h 624 (by omega)⟩, ⟨by omega, h 625 (by omega)⟩, ⟨by omega, h 626 (by omega)⟩⟩
  · rw [h _ (by omega)]
    unfold kdX
    rw [if_neg (by omega), if_pos (by omega), show 0 + 1 + i - 1 = i by omega]
  · rw [h _ (by omega)]
    unfold kdX
    rw [if_neg (by omega), if_neg (by omega), if_pos (by omega), show 0 + 103 + i - 103 = i by omega]
  · rw [h _ (by omega)]
    rcases (show i = 0 ∨ i = 1 ∨ i = 2 ∨ i = 3 by omega) with rfl | rfl | rfl | rfl <;> rfl
theorem A9_of {kd : Nat → Nat} {NP q : Nat} (h : ∀ i, i < 6 → kd (q + i) = kdM i) (hN : q + 6 ≤ NP) : A9 kd NP q := ⟨⟨by omega, h 0 (by omega)⟩, ⟨by omega, h 1 (by omega)⟩, ⟨by omega, h 2 (by omega)⟩, ⟨by omega, h 3 (by omega)⟩, ⟨by omega, h 4 (by omega)⟩, ⟨by omega, h 5 (by omega)⟩⟩
/-- the memory at the law's first round -/
def GL0 : Mem := ovg (ovg (fun _ _ => 0) 0 gX) 627 gM

set_option maxRecDepth 4000 in
theorem law_start {p : Program} {e : Env} {s : State} {m : MethodId} {below : List Frame} {meth : Method} {c : Code} (l : Launch) {b L : Nat} {xs : Nat → Int32} (hp : ∃ G', itr FU (FL L xs) (0, GL0) = some G') (C0 : lw_At p s m meth c b L xs) : W p l e room_1 s m #[Value.ref b] below meth c s.heap [] 0 0 (lw_Z below #[Value.ref b] s) (entryFrame m ([Value.ref b] : List Value).toArray 4) := by
  obtain ⟨hx, hb, hr, hml, hown, hts, hX, hbl, hlocks, hgv⟩ := id C0
  obtain ⟨G', hp⟩ := hp
  obtain ⟨c0, iS0, hKn0⟩ := u_known (C := RX0) (T := TX0) (N := 4) (n := 4) hts (fun w h => xAll_tbl w (inlX0 w h)) (hts (.instantiable RX0 4) (xAll_tbl _ w_71))
  obtain ⟨c1, iS1, hKn1⟩ := u_known (C := RX1) (T := TX1) (N := 4) (n := 4) hts (fun w h => xAll_tbl w (inlX1 w h)) (hts (.instantiable RX1 4) (xAll_tbl _ w_37))
  obtain ⟨c2, iS2, hKn2⟩ := u_known (C := RX2) (T := TX2) (N := 3) (n := 3) hts (fun w h => xAll_tbl w (inlX2 w h)) (hts (.instantiable RX2 3) (xAll_tbl _ w_207))
  obtain ⟨c3, iS3, hKn3⟩ := u_known (C := RX3) (T := TX3) (N := 3) (n := 3) hts (fun w h => xAll_tbl w (inlX3 w h)) (hts (.instantiable RX3 3) (xAll_tbl _ w_171))
  obtain ⟨c4, iS4, hKn4⟩ := u_known (C := RX4) (T := TX4) (N := 14) (n := 14) hts (fun w h => xAll_tbl w (inlX4 w h)) (hts (.instantiable RX4 14) (xAll_tbl _ w_28))
  obtain ⟨c5, iS5, hKn5⟩ := u_known (C := RX5) (T := TX5) (N := 6) (n := 6) hts (fun w h => xAll_tbl w (inlX5 w h)) (hts (.instantiable RX5 6) (xAll_tbl _ w_227))
  obtain ⟨c6, iS6, hKn6⟩ := u_known (C := RX6) (T := TX6) (N := 3) (n := 3) hts (fun w h => xAll_tbl w (inlX6 w h)) (hts (.instantiable RX6 3) (xAll_tbl _ w_22))
  obtain ⟨c7, iS7, hKn7⟩ := u_known (C := RX7) (T := TX7) (N := 2) (n := 2) hts (fun w h => xAll_tbl w (inlX7 w h)) (hts (.instantiable RX7 2) (xAll_tbl _ w_191))
  obtain ⟨c8, iS8, hKn8⟩ := u_known (C := RX8) (T := TX8) (N := 6) (n := 6) hts (fun w h => xAll_tbl w (inlX8 w h)) (hts (.instantiable RX8 6) (xAll_tbl _ w_14))
  obtain ⟨c9, iS9, hKn9⟩ := u_known (C := RX9) (T := TX9) (N := 11) (n := 11) hts (fun w h => xAll_tbl w (inlX9 w h)) (hts (.instantiable RX9 11) (xAll_tbl _ w_634))
  obtain ⟨dC, dI, hKc⟩ : ∃ (dC : Nat → ClassId) (dI : Nat → Nat → Nat), ∀ (k : Nat) (q : vw_C), vwCl[k]? = some q → u_Kn s q.1 q.2.1 q.2.2 (dC k) (dI k) := by
    refine ⟨fun k => if k = 0 then c0 else if k = 1 then c1 else if k = 2 then c2 else if k = 3 then c3 else if k = 4 then c4 else if k = 5 then c5 else if k = 6 then c6 else if k = 7 then c7 else if k = 8 then c8 else c9, fun k => if k = 0 then iS0 else if k = 1 then iS1 else if k = 2 then iS2 else if k = 3 then iS3 else if k = 4 then iS4 else if k = 5 then iS5 else if k = 6 then iS6 else if k = 7 then iS7 else if k = 8 then iS8 else iS9, ?_⟩
    intro k q hq
    match k, hq with
    | 0, hq => cases hq; exact hKn0
    | 1, hq => cases hq; exact hKn1
    | 2, hq => cases hq; exact hKn2
    | 3, hq => cases hq; exact hKn3
    | 4, hq => cases hq; exact hKn4
    | 5, hq => cases hq; exact hKn5
    | 6, hq => cases hq; exact hKn6
    | 7, hq => cases hq; exact hKn7
    | 8, hq => cases hq; exact hKn8
    | 9, hq => cases hq; exact hKn9
    | k + 10, hq => simp [vwCl] at hq
  have hN : xNs s := xNs_of hts
  obtain ⟨a0, ha0⟩ := arr_prim (hts (.arrayClass .int) (xAll_tbl _ w_58)) (fun cA h => h)
  obtain ⟨a1, ha1⟩ := arr_prim (hts (.arrayClass .boolean) (xAll_tbl _ w_169)) (fun cA h => h)
  obtain ⟨a2, ha2⟩ := arr_prim (hts (.arrayClass .char) (xAll_tbl _ w_205)) (fun cA h => h)
  obtain ⟨a3, ha3⟩ := arr_obj (hN.2.2 RX1 (by simp [xAO]))
  obtain ⟨a4, ha4⟩ := arr_obj (hN.2.2 RX0 (by simp [xAO]))
  obtain ⟨a5, ha5⟩ := arr_obj (hN.2.2 RX4 (by simp [xAO]))
  obtain ⟨a6, ha6⟩ := arr_obj (hN.2.2 RX6 (by simp [xAO]))
  obtain ⟨c1, hc1⟩ : ∃ c1 : Nat → ClassId, ∀ ce : Nat → va_E, va_K (dC, dI) vwCl (xT (c1, ce)) s := by
    refine ⟨fun i => if i = 0 then a0 else if i = 1 then a1 else if i = 2 then a2 else if i = 3 then a3 else if i = 4 then a4 else if i = 5 then a5 else a6, fun ce => ⟨hKc, fun k q h => ?_⟩⟩
    match k, h with
    | 0, h => cases h; exact ha0
    | 1, h => cases h; exact ha1
    | 2, h => cases h; exact ha2
    | 3, h => cases h; exact ha3
    | 4, h => cases h; exact ha4
    | 5, h => cases h; exact ha5
    | 6, h => cases h; exact ha6
    | k + 7, h => simp [xT] at h
  obtain ⟨ce, hce⟩ : ∃ ce : Nat → va_E, ce = fun _ => .inl (c1 0, 0, .inl (fun _ => 0)) := ⟨_, rfl⟩
  have C : xC p s m #[Value.ref b] meth c code RL 4 ret (dC, dI) (c1, ce) := ⟨hx, hb, hml, hown, fun w hw => hts w (xAll_tbl w hw), hc1 ce, hN, hr, hlocks⟩
  rw [lg_entry_eq]
  have hl := lv_entry ([.ref b]) (n := 4) (Nat.le_of_ble_eq_true rfl)
  generalize (lg_sl ([.ref b]) ++ List.replicate (4 - (lg_sl ([.ref b])).length) Slot.unset).toArray = ls at hl ⊢
  obtain ⟨b0, hb0e⟩ : ∃ b0, b0 = s.heap.size := ⟨_, rfl⟩
  have hb0 : b0 ≤ s.heap.size := by omega
  have K : xX p l e room_1 s m #[Value.ref b] below meth c (fun q => b0 ≤ q) s.heap (dC, dI) (c1, ce) (bad b0) (fun _ => 99) 0 4 0 0 (lw_Z below #[Value.ref b] s) (fun _ _ => 0) 0 [(0, .ref b)] [] := by
    refine xnew (xCc C) (ci := 8) (T := TX8) tyX8 tyX8_ok inlX8 w_13 w_14 w_1 rfl [.null, .null, .null, .null, .null, .null] (by intro j hj; rcases (show j = 0 ∨ j = 1 ∨ j = 2 ∨ j = 3 ∨ j = 4 ∨ j = 5 by omega) with rfl | rfl | rfl | rfl | rfl | rfl <;> rfl) (by omega) hb0 (Nat.le_of_ble_eq_true rfl) (Nat.le_of_ble_eq_true rfl) dL_law_0 ?_
    refine xdup (xCc C) dL_law_3 rfl ?_
    refine xKI (xCc C) (cK8 va_eq va_eq) w_15 w_16 rfl mwX8_init ⟨(Nat.le_of_ble_eq_true rfl), (Nat.le_of_ble_eq_true rfl)⟩ (by omega) ⟨(Nat.le_of_ble_eq_true rfl), (Nat.le_of_ble_eq_true rfl)⟩ (Nat.le_of_ble_eq_true rfl) hb0 dL_law_4 ?_
    refine xastore_n (xCc C) (lv' := [(1, .ref (bad b0 0)), (0, .ref b)]) rfl (by decide) rfl dL_law_7 ?_
    refine xnew (xCc C) (ci := 9) (T := TX9) tyX9 tyX9_ok inlX9 w_633 w_634 w_10 rfl [.null, .null, .null, .null, .int 0, .null, .int 0, .int 0, .int 0, .int 0, .int 0] (by intro j hj; rcases (show j = 0 ∨ j = 1 ∨ j = 2 ∨ j = 3 ∨ j = 4 ∨ j = 5 ∨ j = 6 ∨ j = 7 ∨ j = 8 ∨ j = 9 ∨ j = 10 by omega) with rfl | rfl | rfl | rfl | rfl | rfl | rfl | rfl | rfl | rfl | rfl <;> rfl) (by omega) hb0 (Nat.le_of_ble_eq_true rfl) (Nat.le_of_ble_eq_true rfl) dL_law_8 ?_
    refine xdup (xCc C) dL_law_11 rfl ?_
    refine xKI (xCc C) (cK9 va_eq va_eq) w_635 w_636 rfl mwX9_init ⟨(Nat.le_of_ble_eq_true rfl), (Nat.le_of_ble_eq_true rfl)⟩ (by omega) ⟨(Nat.le_of_ble_eq_true rfl), (Nat.le_of_ble_eq_true rfl)⟩ (Nat.le_of_ble_eq_true rfl) hb0 dL_law_12 ?_
    refine xastore_n (xCc C) (lv' := [(2, .ref (bad b0 (0 + 627))), (1, .ref (bad b0 0)), (0, .ref b)]) rfl (by decide) rfl dL_law_15 ?_
    refine xiconst (xCc C) (v := 0) dL_law_16 (by decide) ?_
    refine xistore_n (xCc C) (lv' := [(3, .int 0), (2, .ref (bad b0 (0 + 627))), (1, .ref (bad b0 0)), (0, .ref b)]) rfl (by decide) rfl dL_law_17 ?_
    refine xwiden (k := 600000) (n := 7302250) (Nat.le_of_ble_eq_true rfl) (Nat.le_of_ble_eq_true rfl) ?_
    refine xsub (xCc C) (lv' := [(0, .ref b), (1, .ref (bad b0 0)), (2, .ref (bad b0 (0 + 627))), (3, .int 0)]) [3, 2, 1, 0] rfl ?_
    have aX : A8 (ovk (va_up (ovk (va_up (fun _ => 99) 0 99) 0 kdX) (0 + 627) 99) (0 + 627) kdM) (0 + 627 + 6) 0 := A8_of (fun i hi => by rw [ovk_lt (by omega), va_ne (by omega), show i = 0 + i by omega, ovk_ge, show 0 + i = i by omega]) (by omega)
    have aM : A9 (ovk (va_up (ovk (va_up (fun _ => 99) 0 99) 0 kdX) (0 + 627) 99) (0 + 627) kdM) (0 + 627 + 6) (0 + 627) := A9_of (fun i hi => ovk_ge) (by omega)
    subst hb0e
    exact wL_18 (xCc C) hX hbl aX aM FU 0 _ hp
  exact K s.heap [] ls (fun k q h => by simp [wo] at h) bad_D va_S.rf hl

