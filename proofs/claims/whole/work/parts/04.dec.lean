theorem dX0_init_0 : decode cX0_init 0 = .ok (.aload_n 0, 1) := by decide +kernel
theorem dX0_init_1 : decode cX0_init 1 = .ok (.invokespecial 1, 3) := by decide +kernel
theorem dX0_init_4 : decode cX0_init 4 = .ok (.aload_n 0, 1) := by decide +kernel
theorem dX0_init_5 : decode cX0_init 5 = .ok (.iconst 0, 1) := by decide +kernel
theorem dX0_init_6 : decode cX0_init 6 = .ok (.putfield 7, 3) := by decide +kernel
theorem dX0_init_9 : decode cX0_init 9 = .ok (.return_, 1) := by decide +kernel
theorem dX0_copyFrom_0 : decode cX0_copyFrom 0 = .ok (.aload_n 0, 1) := by decide +kernel
theorem dX0_copyFrom_1 : decode cX0_copyFrom 1 = .ok (.aload_n 1, 1) := by decide +kernel
theorem dX0_copyFrom_2 : decode cX0_copyFrom 2 = .ok (.getfield 7, 3) := by decide +kernel
theorem dX0_copyFrom_5 : decode cX0_copyFrom 5 = .ok (.putfield 7, 3) := by decide +kernel
theorem dX0_copyFrom_8 : decode cX0_copyFrom 8 = .ok (.aload_n 0, 1) := by decide +kernel
theorem dX0_copyFrom_9 : decode cX0_copyFrom 9 = .ok (.aload_n 1, 1) := by decide +kernel
theorem dX0_copyFrom_10 : decode cX0_copyFrom 10 = .ok (.getfield 13, 3) := by decide +kernel
theorem dX0_copyFrom_13 : decode cX0_copyFrom 13 = .ok (.putfield 13, 3) := by decide +kernel
theorem dX0_copyFrom_16 : decode cX0_copyFrom 16 = .ok (.aload_n 0, 1) := by decide +kernel
theorem dX0_copyFrom_17 : decode cX0_copyFrom 17 = .ok (.aload_n 1, 1) := by decide +kernel
theorem dX0_copyFrom_18 : decode cX0_copyFrom 18 = .ok (.getfield 17, 3) := by decide +kernel
theorem dX0_copyFrom_21 : decode cX0_copyFrom 21 = .ok (.putfield 17, 3) := by decide +kernel
theorem dX0_copyFrom_24 : decode cX0_copyFrom 24 = .ok (.aload_n 0, 1) := by decide +kernel
theorem dX0_copyFrom_25 : decode cX0_copyFrom 25 = .ok (.aload_n 1, 1) := by decide +kernel
theorem dX0_copyFrom_26 : decode cX0_copyFrom 26 = .ok (.getfield 20, 3) := by decide +kernel
theorem dX0_copyFrom_29 : decode cX0_copyFrom 29 = .ok (.putfield 20, 3) := by decide +kernel
theorem dX0_copyFrom_32 : decode cX0_copyFrom 32 = .ok (.return_, 1) := by decide +kernel
theorem dX0_make_0 : decode cX0_make 0 = .ok (.aload_n 0, 1) := by decide +kernel
theorem dX0_make_1 : decode cX0_make 1 = .ok (.iconst 1, 1) := by decide +kernel
theorem dX0_make_2 : decode cX0_make 2 = .ok (.putfield 7, 3) := by decide +kernel
theorem dX0_make_5 : decode cX0_make 5 = .ok (.aload_n 0, 1) := by decide +kernel
theorem dX0_make_6 : decode cX0_make 6 = .ok (.iload_n 1, 1) := by decide +kernel
theorem dX0_make_7 : decode cX0_make 7 = .ok (.putfield 13, 3) := by decide +kernel
theorem dX0_make_10 : decode cX0_make 10 = .ok (.aload_n 0, 1) := by decide +kernel
theorem dX0_make_11 : decode cX0_make 11 = .ok (.iload_n 2, 1) := by decide +kernel
theorem dX0_make_12 : decode cX0_make 12 = .ok (.putfield 17, 3) := by decide +kernel
theorem dX0_make_15 : decode cX0_make 15 = .ok (.aload_n 0, 1) := by decide +kernel
theorem dX0_make_16 : decode cX0_make 16 = .ok (.iload_n 3, 1) := by decide +kernel
theorem dX0_make_17 : decode cX0_make 17 = .ok (.putfield 20, 3) := by decide +kernel
theorem dX0_make_20 : decode cX0_make 20 = .ok (.return_, 1) := by decide +kernel
theorem dX1_init_0 : decode cX1_init 0 = .ok (.aload_n 0, 1) := by decide +kernel
theorem dX1_init_1 : decode cX1_init 1 = .ok (.invokespecial 3, 3) := by decide +kernel
theorem dX1_init_4 : decode cX1_init 4 = .ok (.aload_n 0, 1) := by decide +kernel
theorem dX1_init_5 : decode cX1_init 5 = .ok (.bipush 30, 2) := by decide +kernel
theorem dX1_init_7 : decode cX1_init 7 = .ok (.newarray .int, 2) := by decide +kernel
theorem dX1_init_9 : decode cX1_init 9 = .ok (.putfield 9, 3) := by decide +kernel
theorem dX1_init_12 : decode cX1_init 12 = .ok (.aload_n 0, 1) := by decide +kernel
theorem dX1_init_13 : decode cX1_init 13 = .ok (.bipush 30, 2) := by decide +kernel
theorem dX1_init_15 : decode cX1_init 15 = .ok (.newarray .int, 2) := by decide +kernel
theorem dX1_init_17 : decode cX1_init 17 = .ok (.putfield 15, 3) := by decide +kernel
theorem dX1_init_20 : decode cX1_init 20 = .ok (.aload_n 0, 1) := by decide +kernel
theorem dX1_init_21 : decode cX1_init 21 = .ok (.bipush 30, 2) := by decide +kernel
theorem dX1_init_23 : decode cX1_init 23 = .ok (.newarray .int, 2) := by decide +kernel
theorem dX1_init_25 : decode cX1_init 25 = .ok (.putfield 18, 3) := by decide +kernel
theorem dX1_init_28 : decode cX1_init 28 = .ok (.aload_n 0, 1) := by decide +kernel
theorem dX1_init_29 : decode cX1_init 29 = .ok (.iconst 0, 1) := by decide +kernel
theorem dX1_init_30 : decode cX1_init 30 = .ok (.putfield 21, 3) := by decide +kernel
theorem dX1_init_33 : decode cX1_init 33 = .ok (.return_, 1) := by decide +kernel
theorem dX1_copyFrom_0 : decode cX1_copyFrom 0 = .ok (.aload_n 1, 1) := by decide +kernel
theorem dX1_copyFrom_1 : decode cX1_copyFrom 1 = .ok (.getfield 9, 3) := by decide +kernel
theorem dX1_copyFrom_4 : decode cX1_copyFrom 4 = .ok (.iconst 0, 1) := by decide +kernel
theorem dX1_copyFrom_5 : decode cX1_copyFrom 5 = .ok (.aload_n 0, 1) := by decide +kernel
theorem dX1_copyFrom_6 : decode cX1_copyFrom 6 = .ok (.getfield 9, 3) := by decide +kernel
theorem dX1_copyFrom_9 : decode cX1_copyFrom 9 = .ok (.iconst 0, 1) := by decide +kernel
theorem dX1_copyFrom_10 : decode cX1_copyFrom 10 = .ok (.bipush 30, 2) := by decide +kernel
theorem dX1_copyFrom_12 : decode cX1_copyFrom 12 = .ok (.invokestatic 25, 3) := by decide +kernel
theorem dX1_copyFrom_15 : decode cX1_copyFrom 15 = .ok (.aload_n 1, 1) := by decide +kernel
theorem dX1_copyFrom_16 : decode cX1_copyFrom 16 = .ok (.getfield 15, 3) := by decide +kernel
theorem dX1_copyFrom_19 : decode cX1_copyFrom 19 = .ok (.iconst 0, 1) := by decide +kernel
theorem dX1_copyFrom_20 : decode cX1_copyFrom 20 = .ok (.aload_n 0, 1) := by decide +kernel
theorem dX1_copyFrom_21 : decode cX1_copyFrom 21 = .ok (.getfield 15, 3) := by decide +kernel
theorem dX1_copyFrom_24 : decode cX1_copyFrom 24 = .ok (.iconst 0, 1) := by decide +kernel
theorem dX1_copyFrom_25 : decode cX1_copyFrom 25 = .ok (.bipush 30, 2) := by decide +kernel
theorem dX1_copyFrom_27 : decode cX1_copyFrom 27 = .ok (.invokestatic 25, 3) := by decide +kernel
theorem dX1_copyFrom_30 : decode cX1_copyFrom 30 = .ok (.aload_n 1, 1) := by decide +kernel
theorem dX1_copyFrom_31 : decode cX1_copyFrom 31 = .ok (.getfield 18, 3) := by decide +kernel
theorem dX1_copyFrom_34 : decode cX1_copyFrom 34 = .ok (.iconst 0, 1) := by decide +kernel
theorem dX1_copyFrom_35 : decode cX1_copyFrom 35 = .ok (.aload_n 0, 1) := by decide +kernel
theorem dX1_copyFrom_36 : decode cX1_copyFrom 36 = .ok (.getfield 18, 3) := by decide +kernel
theorem dX1_copyFrom_39 : decode cX1_copyFrom 39 = .ok (.iconst 0, 1) := by decide +kernel
theorem dX1_copyFrom_40 : decode cX1_copyFrom 40 = .ok (.bipush 30, 2) := by decide +kernel
theorem dX1_copyFrom_42 : decode cX1_copyFrom 42 = .ok (.invokestatic 25, 3) := by decide +kernel
theorem dX1_copyFrom_45 : decode cX1_copyFrom 45 = .ok (.aload_n 0, 1) := by decide +kernel
theorem dX1_copyFrom_46 : decode cX1_copyFrom 46 = .ok (.aload_n 1, 1) := by decide +kernel
theorem dX1_copyFrom_47 : decode cX1_copyFrom 47 = .ok (.getfield 21, 3) := by decide +kernel
theorem dX1_copyFrom_50 : decode cX1_copyFrom 50 = .ok (.putfield 21, 3) := by decide +kernel
theorem dX1_copyFrom_53 : decode cX1_copyFrom 53 = .ok (.return_, 1) := by decide +kernel
theorem dX1_addChains_0 : decode cX1_addChains 0 = .ok (.iconst 0, 1) := by decide +kernel
theorem dX1_addChains_1 : decode cX1_addChains 1 = .ok (.istore 4, 2) := by decide +kernel
theorem dX1_addChains_3 : decode cX1_addChains 3 = .ok (.iload 4, 2) := by decide +kernel
theorem dX1_addChains_5 : decode cX1_addChains 5 = .ok (.iload_n 3, 1) := by decide +kernel
theorem dX1_addChains_6 : decode cX1_addChains 6 = .ok (.if_icmp .ge 40, 3) := by decide +kernel
theorem dX1_addChains_9 : decode cX1_addChains 9 = .ok (.aload_n 0, 1) := by decide +kernel
theorem dX1_addChains_10 : decode cX1_addChains 10 = .ok (.getfield 21, 3) := by decide +kernel
theorem dX1_addChains_13 : decode cX1_addChains 13 = .ok (.bipush 30, 2) := by decide +kernel
theorem dX1_addChains_15 : decode cX1_addChains 15 = .ok (.if_icmp .ge 31, 3) := by decide +kernel
theorem dX1_addChains_18 : decode cX1_addChains 18 = .ok (.aload_n 0, 1) := by decide +kernel
theorem dX1_addChains_19 : decode cX1_addChains 19 = .ok (.dup, 1) := by decide +kernel
theorem dX1_addChains_20 : decode cX1_addChains 20 = .ok (.getfield 21, 3) := by decide +kernel
theorem dX1_addChains_23 : decode cX1_addChains 23 = .ok (.iconst 1, 1) := by decide +kernel
theorem dX1_addChains_24 : decode cX1_addChains 24 = .ok (.iadd, 1) := by decide +kernel
theorem dX1_addChains_25 : decode cX1_addChains 25 = .ok (.putfield 21, 3) := by decide +kernel
theorem dX1_addChains_28 : decode cX1_addChains 28 = .ok (.aload_n 0, 1) := by decide +kernel
theorem dX1_addChains_29 : decode cX1_addChains 29 = .ok (.aload_n 0, 1) := by decide +kernel
theorem dX1_addChains_30 : decode cX1_addChains 30 = .ok (.getfield 21, 3) := by decide +kernel
theorem dX1_addChains_33 : decode cX1_addChains 33 = .ok (.iconst 1, 1) := by decide +kernel
theorem dX1_addChains_34 : decode cX1_addChains 34 = .ok (.isub, 1) := by decide +kernel
theorem dX1_addChains_35 : decode cX1_addChains 35 = .ok (.iload_n 1, 1) := by decide +kernel
theorem dX1_addChains_36 : decode cX1_addChains 36 = .ok (.iload_n 2, 1) := by decide +kernel
theorem dX1_addChains_37 : decode cX1_addChains 37 = .ok (.invokevirtual 31, 3) := by decide +kernel
theorem dX1_addChains_40 : decode cX1_addChains 40 = .ok (.iinc 4 1, 3) := by decide +kernel
theorem dX1_addChains_43 : decode cX1_addChains 43 = .ok (.goto (-40), 3) := by decide +kernel
theorem dX1_addChains_46 : decode cX1_addChains 46 = .ok (.return_, 1) := by decide +kernel
theorem dX1_changeChain_0 : decode cX1_changeChain 0 = .ok (.aload_n 0, 1) := by decide +kernel
theorem dX1_changeChain_1 : decode cX1_changeChain 1 = .ok (.iload_n 1, 1) := by decide +kernel
theorem dX1_changeChain_2 : decode cX1_changeChain 2 = .ok (.invokevirtual 35, 3) := by decide +kernel
theorem dX1_changeChain_5 : decode cX1_changeChain 5 = .ok (.ifCond .eq 24, 3) := by decide +kernel
theorem dX1_changeChain_8 : decode cX1_changeChain 8 = .ok (.aload_n 0, 1) := by decide +kernel
theorem dX1_changeChain_9 : decode cX1_changeChain 9 = .ok (.getfield 9, 3) := by decide +kernel
theorem dX1_changeChain_12 : decode cX1_changeChain 12 = .ok (.iload_n 1, 1) := by decide +kernel
theorem dX1_changeChain_13 : decode cX1_changeChain 13 = .ok (.iload_n 2, 1) := by decide +kernel
theorem dX1_changeChain_14 : decode cX1_changeChain 14 = .ok (.iastore, 1) := by decide +kernel
theorem dX1_changeChain_15 : decode cX1_changeChain 15 = .ok (.aload_n 0, 1) := by decide +kernel
theorem dX1_changeChain_16 : decode cX1_changeChain 16 = .ok (.getfield 15, 3) := by decide +kernel
theorem dX1_changeChain_19 : decode cX1_changeChain 19 = .ok (.iload_n 1, 1) := by decide +kernel
theorem dX1_changeChain_20 : decode cX1_changeChain 20 = .ok (.iload_n 3, 1) := by decide +kernel
theorem dX1_changeChain_21 : decode cX1_changeChain 21 = .ok (.iastore, 1) := by decide +kernel
theorem dX1_changeChain_22 : decode cX1_changeChain 22 = .ok (.aload_n 0, 1) := by decide +kernel
theorem dX1_changeChain_23 : decode cX1_changeChain 23 = .ok (.getfield 18, 3) := by decide +kernel
theorem dX1_changeChain_26 : decode cX1_changeChain 26 = .ok (.iload_n 1, 1) := by decide +kernel
theorem dX1_changeChain_27 : decode cX1_changeChain 27 = .ok (.iconst 0, 1) := by decide +kernel
theorem dX1_changeChain_28 : decode cX1_changeChain 28 = .ok (.iastore, 1) := by decide +kernel
theorem dX1_changeChain_29 : decode cX1_changeChain 29 = .ok (.return_, 1) := by decide +kernel
theorem dX1_has_0 : decode cX1_has 0 = .ok (.iload_n 1, 1) := by decide +kernel
theorem dX1_has_1 : decode cX1_has 1 = .ok (.ifCond .lt 15, 3) := by decide +kernel
theorem dX1_has_4 : decode cX1_has 4 = .ok (.iload_n 1, 1) := by decide +kernel
theorem dX1_has_5 : decode cX1_has 5 = .ok (.aload_n 0, 1) := by decide +kernel
theorem dX1_has_6 : decode cX1_has 6 = .ok (.getfield 21, 3) := by decide +kernel
theorem dX1_has_9 : decode cX1_has 9 = .ok (.if_icmp .ge 7, 3) := by decide +kernel
theorem dX1_has_12 : decode cX1_has 12 = .ok (.iconst 1, 1) := by decide +kernel
theorem dX1_has_13 : decode cX1_has 13 = .ok (.goto 4, 3) := by decide +kernel
theorem dX1_has_16 : decode cX1_has 16 = .ok (.iconst 0, 1) := by decide +kernel
theorem dX1_has_17 : decode cX1_has 17 = .ok (.ireturn, 1) := by decide +kernel
theorem dX1_kindOf_0 : decode cX1_kindOf 0 = .ok (.aload_n 0, 1) := by decide +kernel
theorem dX1_kindOf_1 : decode cX1_kindOf 1 = .ok (.iload_n 1, 1) := by decide +kernel
theorem dX1_kindOf_2 : decode cX1_kindOf 2 = .ok (.invokevirtual 35, 3) := by decide +kernel
theorem dX1_kindOf_5 : decode cX1_kindOf 5 = .ok (.ifCond .eq 12, 3) := by decide +kernel
theorem dX1_kindOf_8 : decode cX1_kindOf 8 = .ok (.aload_n 0, 1) := by decide +kernel
theorem dX1_kindOf_9 : decode cX1_kindOf 9 = .ok (.getfield 9, 3) := by decide +kernel
theorem dX1_kindOf_12 : decode cX1_kindOf 12 = .ok (.iload_n 1, 1) := by decide +kernel
theorem dX1_kindOf_13 : decode cX1_kindOf 13 = .ok (.iaload, 1) := by decide +kernel
theorem dX1_kindOf_14 : decode cX1_kindOf 14 = .ok (.goto 4, 3) := by decide +kernel
theorem dX1_kindOf_17 : decode cX1_kindOf 17 = .ok (.iconst (-1), 1) := by decide +kernel
theorem dX1_kindOf_18 : decode cX1_kindOf 18 = .ok (.ireturn, 1) := by decide +kernel
theorem dX1_thicknessOf_0 : decode cX1_thicknessOf 0 = .ok (.aload_n 0, 1) := by decide +kernel
theorem dX1_thicknessOf_1 : decode cX1_thicknessOf 1 = .ok (.iload_n 1, 1) := by decide +kernel
theorem dX1_thicknessOf_2 : decode cX1_thicknessOf 2 = .ok (.invokevirtual 35, 3) := by decide +kernel
theorem dX1_thicknessOf_5 : decode cX1_thicknessOf 5 = .ok (.ifCond .eq 12, 3) := by decide +kernel
theorem dX1_thicknessOf_8 : decode cX1_thicknessOf 8 = .ok (.aload_n 0, 1) := by decide +kernel
theorem dX1_thicknessOf_9 : decode cX1_thicknessOf 9 = .ok (.getfield 15, 3) := by decide +kernel
theorem dX1_thicknessOf_12 : decode cX1_thicknessOf 12 = .ok (.iload_n 1, 1) := by decide +kernel
theorem dX1_thicknessOf_13 : decode cX1_thicknessOf 13 = .ok (.iaload, 1) := by decide +kernel
theorem dX1_thicknessOf_14 : decode cX1_thicknessOf 14 = .ok (.goto 4, 3) := by decide +kernel
theorem dX1_thicknessOf_17 : decode cX1_thicknessOf 17 = .ok (.iconst 0, 1) := by decide +kernel
theorem dX1_thicknessOf_18 : decode cX1_thicknessOf 18 = .ok (.ireturn, 1) := by decide +kernel
theorem dX1_ageOf_0 : decode cX1_ageOf 0 = .ok (.aload_n 0, 1) := by decide +kernel
theorem dX1_ageOf_1 : decode cX1_ageOf 1 = .ok (.iload_n 1, 1) := by decide +kernel
theorem dX1_ageOf_2 : decode cX1_ageOf 2 = .ok (.invokevirtual 35, 3) := by decide +kernel
theorem dX1_ageOf_5 : decode cX1_ageOf 5 = .ok (.ifCond .eq 12, 3) := by decide +kernel
theorem dX1_ageOf_8 : decode cX1_ageOf 8 = .ok (.aload_n 0, 1) := by decide +kernel
theorem dX1_ageOf_9 : decode cX1_ageOf 9 = .ok (.getfield 18, 3) := by decide +kernel
theorem dX1_ageOf_12 : decode cX1_ageOf 12 = .ok (.iload_n 1, 1) := by decide +kernel
theorem dX1_ageOf_13 : decode cX1_ageOf 13 = .ok (.iaload, 1) := by decide +kernel
theorem dX1_ageOf_14 : decode cX1_ageOf 14 = .ok (.goto 4, 3) := by decide +kernel
theorem dX1_ageOf_17 : decode cX1_ageOf 17 = .ok (.iconst 0, 1) := by decide +kernel
theorem dX1_ageOf_18 : decode cX1_ageOf 18 = .ok (.ireturn, 1) := by decide +kernel
theorem dX1_isToLay_0 : decode cX1_isToLay 0 = .ok (.aload_n 0, 1) := by decide +kernel
theorem dX1_isToLay_1 : decode cX1_isToLay 1 = .ok (.iload_n 1, 1) := by decide +kernel
theorem dX1_isToLay_2 : decode cX1_isToLay 2 = .ok (.invokevirtual 35, 3) := by decide +kernel
theorem dX1_isToLay_5 : decode cX1_isToLay 5 = .ok (.ifCond .eq 26, 3) := by decide +kernel
theorem dX1_isToLay_8 : decode cX1_isToLay 8 = .ok (.aload_n 0, 1) := by decide +kernel
theorem dX1_isToLay_9 : decode cX1_isToLay 9 = .ok (.getfield 9, 3) := by decide +kernel
theorem dX1_isToLay_12 : decode cX1_isToLay 12 = .ok (.iload_n 1, 1) := by decide +kernel
theorem dX1_isToLay_13 : decode cX1_isToLay 13 = .ok (.iaload, 1) := by decide +kernel
theorem dX1_isToLay_14 : decode cX1_isToLay 14 = .ok (.ifCond .ne 17, 3) := by decide +kernel
theorem dX1_isToLay_17 : decode cX1_isToLay 17 = .ok (.aload_n 0, 1) := by decide +kernel
theorem dX1_isToLay_18 : decode cX1_isToLay 18 = .ok (.getfield 15, 3) := by decide +kernel
theorem dX1_isToLay_21 : decode cX1_isToLay 21 = .ok (.iload_n 1, 1) := by decide +kernel
theorem dX1_isToLay_22 : decode cX1_isToLay 22 = .ok (.iaload, 1) := by decide +kernel
theorem dX1_isToLay_23 : decode cX1_isToLay 23 = .ok (.iconst 2, 1) := by decide +kernel
theorem dX1_isToLay_24 : decode cX1_isToLay 24 = .ok (.if_icmp .lt 7, 3) := by decide +kernel
theorem dX1_isToLay_27 : decode cX1_isToLay 27 = .ok (.iconst 1, 1) := by decide +kernel
theorem dX1_isToLay_28 : decode cX1_isToLay 28 = .ok (.goto 4, 3) := by decide +kernel
theorem dX1_isToLay_31 : decode cX1_isToLay 31 = .ok (.iconst 0, 1) := by decide +kernel
theorem dX1_isToLay_32 : decode cX1_isToLay 32 = .ok (.ireturn, 1) := by decide +kernel
theorem dX1_isToCut_0 : decode cX1_isToCut 0 = .ok (.aload_n 0, 1) := by decide +kernel
theorem dX1_isToCut_1 : decode cX1_isToCut 1 = .ok (.iload_n 1, 1) := by decide +kernel
theorem dX1_isToCut_2 : decode cX1_isToCut 2 = .ok (.invokevirtual 35, 3) := by decide +kernel
theorem dX1_isToCut_5 : decode cX1_isToCut 5 = .ok (.ifCond .eq 26, 3) := by decide +kernel
theorem dX1_isToCut_8 : decode cX1_isToCut 8 = .ok (.aload_n 0, 1) := by decide +kernel
theorem dX1_isToCut_9 : decode cX1_isToCut 9 = .ok (.getfield 9, 3) := by decide +kernel
theorem dX1_isToCut_12 : decode cX1_isToCut 12 = .ok (.iload_n 1, 1) := by decide +kernel
theorem dX1_isToCut_13 : decode cX1_isToCut 13 = .ok (.iaload, 1) := by decide +kernel
theorem dX1_isToCut_14 : decode cX1_isToCut 14 = .ok (.ifCond .ne 17, 3) := by decide +kernel
theorem dX1_isToCut_17 : decode cX1_isToCut 17 = .ok (.aload_n 0, 1) := by decide +kernel
theorem dX1_isToCut_18 : decode cX1_isToCut 18 = .ok (.getfield 15, 3) := by decide +kernel
theorem dX1_isToCut_21 : decode cX1_isToCut 21 = .ok (.iload_n 1, 1) := by decide +kernel
theorem dX1_isToCut_22 : decode cX1_isToCut 22 = .ok (.iaload, 1) := by decide +kernel
theorem dX1_isToCut_23 : decode cX1_isToCut 23 = .ok (.iconst 3, 1) := by decide +kernel
theorem dX1_isToCut_24 : decode cX1_isToCut 24 = .ok (.if_icmp .lt 7, 3) := by decide +kernel
theorem dX1_isToCut_27 : decode cX1_isToCut 27 = .ok (.iconst 1, 1) := by decide +kernel
theorem dX1_isToCut_28 : decode cX1_isToCut 28 = .ok (.goto 4, 3) := by decide +kernel
theorem dX1_isToCut_31 : decode cX1_isToCut 31 = .ok (.iconst 0, 1) := by decide +kernel
theorem dX1_isToCut_32 : decode cX1_isToCut 32 = .ok (.ireturn, 1) := by decide +kernel
theorem dX1_numberOf_0 : decode cX1_numberOf 0 = .ok (.iconst 0, 1) := by decide +kernel
theorem dX1_numberOf_1 : decode cX1_numberOf 1 = .ok (.istore_n 2, 1) := by decide +kernel
theorem dX1_numberOf_2 : decode cX1_numberOf 2 = .ok (.iconst 0, 1) := by decide +kernel
theorem dX1_numberOf_3 : decode cX1_numberOf 3 = .ok (.istore_n 3, 1) := by decide +kernel
theorem dX1_numberOf_4 : decode cX1_numberOf 4 = .ok (.iload_n 3, 1) := by decide +kernel
theorem dX1_numberOf_5 : decode cX1_numberOf 5 = .ok (.aload_n 0, 1) := by decide +kernel
theorem dX1_numberOf_6 : decode cX1_numberOf 6 = .ok (.getfield 21, 3) := by decide +kernel
theorem dX1_numberOf_9 : decode cX1_numberOf 9 = .ok (.if_icmp .ge 21, 3) := by decide +kernel
theorem dX1_numberOf_12 : decode cX1_numberOf 12 = .ok (.aload_n 0, 1) := by decide +kernel
theorem dX1_numberOf_13 : decode cX1_numberOf 13 = .ok (.iload_n 3, 1) := by decide +kernel
theorem dX1_numberOf_14 : decode cX1_numberOf 14 = .ok (.invokevirtual 39, 3) := by decide +kernel
theorem dX1_numberOf_17 : decode cX1_numberOf 17 = .ok (.iload_n 1, 1) := by decide +kernel
theorem dX1_numberOf_18 : decode cX1_numberOf 18 = .ok (.if_icmp .ne 6, 3) := by decide +kernel
theorem dX1_numberOf_21 : decode cX1_numberOf 21 = .ok (.iinc 2 1, 3) := by decide +kernel
theorem dX1_numberOf_24 : decode cX1_numberOf 24 = .ok (.iinc 3 1, 3) := by decide +kernel
theorem dX1_numberOf_27 : decode cX1_numberOf 27 = .ok (.goto (-23), 3) := by decide +kernel
theorem dX1_numberOf_30 : decode cX1_numberOf 30 = .ok (.iload_n 2, 1) := by decide +kernel
theorem dX1_numberOf_31 : decode cX1_numberOf 31 = .ok (.ireturn, 1) := by decide +kernel
theorem dX1_longestRunBegin_0 : decode cX1_longestRunBegin 0 = .ok (.bipush (-9), 2) := by decide +kernel
theorem dX1_longestRunBegin_2 : decode cX1_longestRunBegin 2 = .ok (.istore_n 1, 1) := by decide +kernel
theorem dX1_longestRunBegin_3 : decode cX1_longestRunBegin 3 = .ok (.iconst 0, 1) := by decide +kernel
theorem dX1_longestRunBegin_4 : decode cX1_longestRunBegin 4 = .ok (.istore_n 2, 1) := by decide +kernel
theorem dX1_longestRunBegin_5 : decode cX1_longestRunBegin 5 = .ok (.iconst 0, 1) := by decide +kernel
theorem dX1_longestRunBegin_6 : decode cX1_longestRunBegin 6 = .ok (.istore_n 3, 1) := by decide +kernel
theorem dX1_longestRunBegin_7 : decode cX1_longestRunBegin 7 = .ok (.iload_n 3, 1) := by decide +kernel
theorem dX1_longestRunBegin_8 : decode cX1_longestRunBegin 8 = .ok (.aload_n 0, 1) := by decide +kernel
theorem dX1_longestRunBegin_9 : decode cX1_longestRunBegin 9 = .ok (.getfield 21, 3) := by decide +kernel
theorem dX1_longestRunBegin_12 : decode cX1_longestRunBegin 12 = .ok (.if_icmp .ge 27, 3) := by decide +kernel
theorem dX1_longestRunBegin_15 : decode cX1_longestRunBegin 15 = .ok (.aload_n 0, 1) := by decide +kernel
theorem dX1_longestRunBegin_16 : decode cX1_longestRunBegin 16 = .ok (.iload_n 3, 1) := by decide +kernel
theorem dX1_longestRunBegin_17 : decode cX1_longestRunBegin 17 = .ok (.invokevirtual 43, 3) := by decide +kernel
theorem dX1_longestRunBegin_20 : decode cX1_longestRunBegin 20 = .ok (.istore 4, 2) := by decide +kernel
theorem dX1_longestRunBegin_22 : decode cX1_longestRunBegin 22 = .ok (.iload 4, 2) := by decide +kernel
theorem dX1_longestRunBegin_24 : decode cX1_longestRunBegin 24 = .ok (.iload_n 2, 1) := by decide +kernel
theorem dX1_longestRunBegin_25 : decode cX1_longestRunBegin 25 = .ok (.if_icmp .le 8, 3) := by decide +kernel
theorem dX1_longestRunBegin_28 : decode cX1_longestRunBegin 28 = .ok (.iload 4, 2) := by decide +kernel
theorem dX1_longestRunBegin_30 : decode cX1_longestRunBegin 30 = .ok (.istore_n 2, 1) := by decide +kernel
theorem dX1_longestRunBegin_31 : decode cX1_longestRunBegin 31 = .ok (.iload_n 3, 1) := by decide +kernel
theorem dX1_longestRunBegin_32 : decode cX1_longestRunBegin 32 = .ok (.istore_n 1, 1) := by decide +kernel
theorem dX1_longestRunBegin_33 : decode cX1_longestRunBegin 33 = .ok (.iinc 3 1, 3) := by decide +kernel
theorem dX1_longestRunBegin_36 : decode cX1_longestRunBegin 36 = .ok (.goto (-29), 3) := by decide +kernel
theorem dX1_longestRunBegin_39 : decode cX1_longestRunBegin 39 = .ok (.iload_n 1, 1) := by decide +kernel
theorem dX1_longestRunBegin_40 : decode cX1_longestRunBegin 40 = .ok (.ireturn, 1) := by decide +kernel
theorem dX1_runFrom_0 : decode cX1_runFrom 0 = .ok (.iconst 0, 1) := by decide +kernel
theorem dX1_runFrom_1 : decode cX1_runFrom 1 = .ok (.istore_n 2, 1) := by decide +kernel
theorem dX1_runFrom_2 : decode cX1_runFrom 2 = .ok (.iload_n 2, 1) := by decide +kernel
theorem dX1_runFrom_3 : decode cX1_runFrom 3 = .ok (.aload_n 0, 1) := by decide +kernel
theorem dX1_runFrom_4 : decode cX1_runFrom 4 = .ok (.getfield 21, 3) := by decide +kernel
theorem dX1_runFrom_7 : decode cX1_runFrom 7 = .ok (.if_icmp .ge 20, 3) := by decide +kernel
theorem dX1_runFrom_10 : decode cX1_runFrom 10 = .ok (.aload_n 0, 1) := by decide +kernel
theorem dX1_runFrom_11 : decode cX1_runFrom 11 = .ok (.iload_n 1, 1) := by decide +kernel
theorem dX1_runFrom_12 : decode cX1_runFrom 12 = .ok (.iload_n 2, 1) := by decide +kernel
theorem dX1_runFrom_13 : decode cX1_runFrom 13 = .ok (.iadd, 1) := by decide +kernel
theorem dX1_runFrom_14 : decode cX1_runFrom 14 = .ok (.invokevirtual 39, 3) := by decide +kernel
theorem dX1_runFrom_17 : decode cX1_runFrom 17 = .ok (.iconst 1, 1) := by decide +kernel
theorem dX1_runFrom_18 : decode cX1_runFrom 18 = .ok (.if_icmp .ne 9, 3) := by decide +kernel
theorem dX1_runFrom_21 : decode cX1_runFrom 21 = .ok (.iinc 2 1, 3) := by decide +kernel
theorem dX1_runFrom_24 : decode cX1_runFrom 24 = .ok (.goto (-22), 3) := by decide +kernel
theorem dX1_runFrom_27 : decode cX1_runFrom 27 = .ok (.iload_n 2, 1) := by decide +kernel
theorem dX1_runFrom_28 : decode cX1_runFrom 28 = .ok (.ireturn, 1) := by decide +kernel
theorem dX1_grow_0 : decode cX1_grow 0 = .ok (.iconst 0, 1) := by decide +kernel
theorem dX1_grow_1 : decode cX1_grow 1 = .ok (.istore_n 2, 1) := by decide +kernel
theorem dX1_grow_2 : decode cX1_grow 2 = .ok (.iload_n 2, 1) := by decide +kernel
theorem dX1_grow_3 : decode cX1_grow 3 = .ok (.aload_n 0, 1) := by decide +kernel
theorem dX1_grow_4 : decode cX1_grow 4 = .ok (.getfield 21, 3) := by decide +kernel
theorem dX1_grow_7 : decode cX1_grow 7 = .ok (.if_icmp .ge 76, 3) := by decide +kernel
theorem dX1_grow_10 : decode cX1_grow 10 = .ok (.aload_n 0, 1) := by decide +kernel
theorem dX1_grow_11 : decode cX1_grow 11 = .ok (.iload_n 2, 1) := by decide +kernel
theorem dX1_grow_12 : decode cX1_grow 12 = .ok (.invokevirtual 39, 3) := by decide +kernel
theorem dX1_grow_15 : decode cX1_grow 15 = .ok (.istore_n 3, 1) := by decide +kernel
theorem dX1_grow_16 : decode cX1_grow 16 = .ok (.iload_n 3, 1) := by decide +kernel
theorem dX1_grow_17 : decode cX1_grow 17 = .ok (.iconst 3, 1) := by decide +kernel
theorem dX1_grow_18 : decode cX1_grow 18 = .ok (.if_icmp .ne 11, 3) := by decide +kernel
theorem dX1_grow_21 : decode cX1_grow 21 = .ok (.aload_n 0, 1) := by decide +kernel
theorem dX1_grow_22 : decode cX1_grow 22 = .ok (.iload_n 2, 1) := by decide +kernel
theorem dX1_grow_23 : decode cX1_grow 23 = .ok (.invokevirtual 46, 3) := by decide +kernel
theorem dX1_grow_26 : decode cX1_grow 26 = .ok (.goto 51, 3) := by decide +kernel
theorem dX1_grow_29 : decode cX1_grow 29 = .ok (.iload_n 3, 1) := by decide +kernel
theorem dX1_grow_30 : decode cX1_grow 30 = .ok (.ifCond .ne 30, 3) := by decide +kernel
theorem dX1_grow_33 : decode cX1_grow 33 = .ok (.iload_n 1, 1) := by decide +kernel
theorem dX1_grow_34 : decode cX1_grow 34 = .ok (.iconst 4, 1) := by decide +kernel
theorem dX1_grow_35 : decode cX1_grow 35 = .ok (.irem, 1) := by decide +kernel
theorem dX1_grow_36 : decode cX1_grow 36 = .ok (.ifCond .ne 24, 3) := by decide +kernel
theorem dX1_grow_39 : decode cX1_grow 39 = .ok (.aload_n 0, 1) := by decide +kernel
theorem dX1_grow_40 : decode cX1_grow 40 = .ok (.iload_n 2, 1) := by decide +kernel
theorem dX1_grow_41 : decode cX1_grow 41 = .ok (.iconst 0, 1) := by decide +kernel
theorem dX1_grow_42 : decode cX1_grow 42 = .ok (.aload_n 0, 1) := by decide +kernel
theorem dX1_grow_43 : decode cX1_grow 43 = .ok (.iload_n 2, 1) := by decide +kernel
theorem dX1_grow_44 : decode cX1_grow 44 = .ok (.invokevirtual 50, 3) := by decide +kernel
theorem dX1_grow_47 : decode cX1_grow 47 = .ok (.iconst 1, 1) := by decide +kernel
theorem dX1_grow_48 : decode cX1_grow 48 = .ok (.iadd, 1) := by decide +kernel
theorem dX1_grow_49 : decode cX1_grow 49 = .ok (.bipush 9, 2) := by decide +kernel
theorem dX1_grow_51 : decode cX1_grow 51 = .ok (.invokestatic 53, 3) := by decide +kernel
theorem dX1_grow_54 : decode cX1_grow 54 = .ok (.invokevirtual 31, 3) := by decide +kernel
theorem dX1_grow_57 : decode cX1_grow 57 = .ok (.goto 20, 3) := by decide +kernel
theorem dX1_grow_60 : decode cX1_grow 60 = .ok (.iload_n 3, 1) := by decide +kernel
theorem dX1_grow_61 : decode cX1_grow 61 = .ok (.iconst 1, 1) := by decide +kernel
theorem dX1_grow_62 : decode cX1_grow 62 = .ok (.if_icmp .ne 15, 3) := by decide +kernel
theorem dX1_grow_65 : decode cX1_grow 65 = .ok (.iload_n 1, 1) := by decide +kernel
theorem dX1_grow_66 : decode cX1_grow 66 = .ok (.bipush 52, 2) := by decide +kernel
theorem dX1_grow_68 : decode cX1_grow 68 = .ok (.irem, 1) := by decide +kernel
theorem dX1_grow_69 : decode cX1_grow 69 = .ok (.ifCond .ne 8, 3) := by decide +kernel
theorem dX1_grow_72 : decode cX1_grow 72 = .ok (.aload_n 0, 1) := by decide +kernel
theorem dX1_grow_73 : decode cX1_grow 73 = .ok (.iload_n 2, 1) := by decide +kernel
theorem dX1_grow_74 : decode cX1_grow 74 = .ok (.invokevirtual 59, 3) := by decide +kernel
theorem dX1_grow_77 : decode cX1_grow 77 = .ok (.iinc 2 1, 3) := by decide +kernel
theorem dX1_grow_80 : decode cX1_grow 80 = .ok (.goto (-78), 3) := by decide +kernel
theorem dX1_grow_83 : decode cX1_grow 83 = .ok (.return_, 1) := by decide +kernel
theorem dX1_growOlder_0 : decode cX1_growOlder 0 = .ok (.aload_n 0, 1) := by decide +kernel
theorem dX1_growOlder_1 : decode cX1_growOlder 1 = .ok (.iload_n 1, 1) := by decide +kernel
theorem dX1_growOlder_2 : decode cX1_growOlder 2 = .ok (.invokevirtual 62, 3) := by decide +kernel
theorem dX1_growOlder_5 : decode cX1_growOlder 5 = .ok (.iconst 1, 1) := by decide +kernel
theorem dX1_growOlder_6 : decode cX1_growOlder 6 = .ok (.iadd, 1) := by decide +kernel
theorem dX1_growOlder_7 : decode cX1_growOlder 7 = .ok (.bipush 6, 2) := by decide +kernel
theorem dX1_growOlder_9 : decode cX1_growOlder 9 = .ok (.if_icmp .lt 13, 3) := by decide +kernel
theorem dX1_growOlder_12 : decode cX1_growOlder 12 = .ok (.aload_n 0, 1) := by decide +kernel
theorem dX1_growOlder_13 : decode cX1_growOlder 13 = .ok (.iload_n 1, 1) := by decide +kernel
theorem dX1_growOlder_14 : decode cX1_growOlder 14 = .ok (.iconst 0, 1) := by decide +kernel
theorem dX1_growOlder_15 : decode cX1_growOlder 15 = .ok (.iconst 1, 1) := by decide +kernel
theorem dX1_growOlder_16 : decode cX1_growOlder 16 = .ok (.invokevirtual 31, 3) := by decide +kernel
theorem dX1_growOlder_19 : decode cX1_growOlder 19 = .ok (.goto 21, 3) := by decide +kernel
theorem dX1_growOlder_22 : decode cX1_growOlder 22 = .ok (.aload_n 0, 1) := by decide +kernel
theorem dX1_growOlder_23 : decode cX1_growOlder 23 = .ok (.iload_n 1, 1) := by decide +kernel
theorem dX1_growOlder_24 : decode cX1_growOlder 24 = .ok (.invokevirtual 35, 3) := by decide +kernel
theorem dX1_growOlder_27 : decode cX1_growOlder 27 = .ok (.ifCond .eq 13, 3) := by decide +kernel
theorem dX1_growOlder_30 : decode cX1_growOlder 30 = .ok (.aload_n 0, 1) := by decide +kernel
theorem dX1_growOlder_31 : decode cX1_growOlder 31 = .ok (.getfield 18, 3) := by decide +kernel
theorem dX1_growOlder_34 : decode cX1_growOlder 34 = .ok (.iload_n 1, 1) := by decide +kernel
theorem dX1_growOlder_35 : decode cX1_growOlder 35 = .ok (.dup2, 1) := by decide +kernel
theorem dX1_growOlder_36 : decode cX1_growOlder 36 = .ok (.iaload, 1) := by decide +kernel
theorem dX1_growOlder_37 : decode cX1_growOlder 37 = .ok (.iconst 1, 1) := by decide +kernel
theorem dX1_growOlder_38 : decode cX1_growOlder 38 = .ok (.iadd, 1) := by decide +kernel
theorem dX1_growOlder_39 : decode cX1_growOlder 39 = .ok (.iastore, 1) := by decide +kernel
theorem dX1_growOlder_40 : decode cX1_growOlder 40 = .ok (.return_, 1) := by decide +kernel
theorem dX1_growLaid_0 : decode cX1_growLaid 0 = .ok (.aload_n 0, 1) := by decide +kernel
theorem dX1_growLaid_1 : decode cX1_growLaid 1 = .ok (.iload_n 1, 1) := by decide +kernel
theorem dX1_growLaid_2 : decode cX1_growLaid 2 = .ok (.invokevirtual 50, 3) := by decide +kernel
theorem dX1_growLaid_5 : decode cX1_growLaid 5 = .ok (.iconst 2, 1) := by decide +kernel
theorem dX1_growLaid_6 : decode cX1_growLaid 6 = .ok (.iadd, 1) := by decide +kernel
theorem dX1_growLaid_7 : decode cX1_growLaid 7 = .ok (.istore_n 2, 1) := by decide +kernel
theorem dX1_growLaid_8 : decode cX1_growLaid 8 = .ok (.iload_n 2, 1) := by decide +kernel
theorem dX1_growLaid_9 : decode cX1_growLaid 9 = .ok (.bipush 9, 2) := by decide +kernel
theorem dX1_growLaid_11 : decode cX1_growLaid 11 = .ok (.if_icmp .le 14, 3) := by decide +kernel
theorem dX1_growLaid_14 : decode cX1_growLaid 14 = .ok (.aload_n 0, 1) := by decide +kernel
theorem dX1_growLaid_15 : decode cX1_growLaid 15 = .ok (.iload_n 1, 1) := by decide +kernel
theorem dX1_growLaid_16 : decode cX1_growLaid 16 = .ok (.iconst 0, 1) := by decide +kernel
theorem dX1_growLaid_17 : decode cX1_growLaid 17 = .ok (.bipush 9, 2) := by decide +kernel
theorem dX1_growLaid_19 : decode cX1_growLaid 19 = .ok (.invokevirtual 31, 3) := by decide +kernel
theorem dX1_growLaid_22 : decode cX1_growLaid 22 = .ok (.goto 10, 3) := by decide +kernel
theorem dX1_growLaid_25 : decode cX1_growLaid 25 = .ok (.aload_n 0, 1) := by decide +kernel
theorem dX1_growLaid_26 : decode cX1_growLaid 26 = .ok (.iload_n 1, 1) := by decide +kernel
theorem dX1_growLaid_27 : decode cX1_growLaid 27 = .ok (.iconst 1, 1) := by decide +kernel
theorem dX1_growLaid_28 : decode cX1_growLaid 28 = .ok (.iload_n 2, 1) := by decide +kernel
theorem dX1_growLaid_29 : decode cX1_growLaid 29 = .ok (.invokevirtual 31, 3) := by decide +kernel
theorem dX1_growLaid_32 : decode cX1_growLaid 32 = .ok (.return_, 1) := by decide +kernel
theorem dX1_workToLay_0 : decode cX1_workToLay 0 = .ok (.iconst 0, 1) := by decide +kernel
theorem dX1_workToLay_1 : decode cX1_workToLay 1 = .ok (.istore_n 1, 1) := by decide +kernel
theorem dX1_workToLay_2 : decode cX1_workToLay 2 = .ok (.iconst 0, 1) := by decide +kernel
theorem dX1_workToLay_3 : decode cX1_workToLay 3 = .ok (.istore_n 2, 1) := by decide +kernel
theorem dX1_workToLay_4 : decode cX1_workToLay 4 = .ok (.iload_n 2, 1) := by decide +kernel
theorem dX1_workToLay_5 : decode cX1_workToLay 5 = .ok (.aload_n 0, 1) := by decide +kernel
theorem dX1_workToLay_6 : decode cX1_workToLay 6 = .ok (.getfield 21, 3) := by decide +kernel
theorem dX1_workToLay_9 : decode cX1_workToLay 9 = .ok (.if_icmp .ge 25, 3) := by decide +kernel
theorem dX1_workToLay_12 : decode cX1_workToLay 12 = .ok (.aload_n 0, 1) := by decide +kernel
theorem dX1_workToLay_13 : decode cX1_workToLay 13 = .ok (.iload_n 2, 1) := by decide +kernel
theorem dX1_workToLay_14 : decode cX1_workToLay 14 = .ok (.invokevirtual 65, 3) := by decide +kernel
theorem dX1_workToLay_17 : decode cX1_workToLay 17 = .ok (.ifCond .eq 11, 3) := by decide +kernel
theorem dX1_workToLay_20 : decode cX1_workToLay 20 = .ok (.iload_n 1, 1) := by decide +kernel
theorem dX1_workToLay_21 : decode cX1_workToLay 21 = .ok (.aload_n 0, 1) := by decide +kernel
theorem dX1_workToLay_22 : decode cX1_workToLay 22 = .ok (.iload_n 2, 1) := by decide +kernel
theorem dX1_workToLay_23 : decode cX1_workToLay 23 = .ok (.invokevirtual 50, 3) := by decide +kernel
theorem dX1_workToLay_26 : decode cX1_workToLay 26 = .ok (.iadd, 1) := by decide +kernel
theorem dX1_workToLay_27 : decode cX1_workToLay 27 = .ok (.istore_n 1, 1) := by decide +kernel
theorem dX1_workToLay_28 : decode cX1_workToLay 28 = .ok (.iinc 2 1, 3) := by decide +kernel
theorem dX1_workToLay_31 : decode cX1_workToLay 31 = .ok (.goto (-27), 3) := by decide +kernel
theorem dX1_workToLay_34 : decode cX1_workToLay 34 = .ok (.iload_n 1, 1) := by decide +kernel
theorem dX1_workToLay_35 : decode cX1_workToLay 35 = .ok (.ireturn, 1) := by decide +kernel
theorem dX1_stakesToLay_0 : decode cX1_stakesToLay 0 = .ok (.iconst 0, 1) := by decide +kernel
theorem dX1_stakesToLay_1 : decode cX1_stakesToLay 1 = .ok (.istore_n 1, 1) := by decide +kernel
theorem dX1_stakesToLay_2 : decode cX1_stakesToLay 2 = .ok (.iconst 0, 1) := by decide +kernel
theorem dX1_stakesToLay_3 : decode cX1_stakesToLay 3 = .ok (.istore_n 2, 1) := by decide +kernel
theorem dX1_stakesToLay_4 : decode cX1_stakesToLay 4 = .ok (.iload_n 2, 1) := by decide +kernel
theorem dX1_stakesToLay_5 : decode cX1_stakesToLay 5 = .ok (.aload_n 0, 1) := by decide +kernel
theorem dX1_stakesToLay_6 : decode cX1_stakesToLay 6 = .ok (.getfield 21, 3) := by decide +kernel
theorem dX1_stakesToLay_9 : decode cX1_stakesToLay 9 = .ok (.if_icmp .ge 20, 3) := by decide +kernel
theorem dX1_stakesToLay_12 : decode cX1_stakesToLay 12 = .ok (.aload_n 0, 1) := by decide +kernel
theorem dX1_stakesToLay_13 : decode cX1_stakesToLay 13 = .ok (.iload_n 2, 1) := by decide +kernel
theorem dX1_stakesToLay_14 : decode cX1_stakesToLay 14 = .ok (.invokevirtual 65, 3) := by decide +kernel
theorem dX1_stakesToLay_17 : decode cX1_stakesToLay 17 = .ok (.ifCond .eq 6, 3) := by decide +kernel
theorem dX1_stakesToLay_20 : decode cX1_stakesToLay 20 = .ok (.iinc 1 2, 3) := by decide +kernel
theorem dX1_stakesToLay_23 : decode cX1_stakesToLay 23 = .ok (.iinc 2 1, 3) := by decide +kernel
theorem dX1_stakesToLay_26 : decode cX1_stakesToLay 26 = .ok (.goto (-22), 3) := by decide +kernel
theorem dX1_stakesToLay_29 : decode cX1_stakesToLay 29 = .ok (.iload_n 1, 1) := by decide +kernel
theorem dX1_stakesToLay_30 : decode cX1_stakesToLay 30 = .ok (.ireturn, 1) := by decide +kernel
theorem dX1_stakesToCut_0 : decode cX1_stakesToCut 0 = .ok (.iconst 0, 1) := by decide +kernel
theorem dX1_stakesToCut_1 : decode cX1_stakesToCut 1 = .ok (.istore_n 1, 1) := by decide +kernel
theorem dX1_stakesToCut_2 : decode cX1_stakesToCut 2 = .ok (.iconst 0, 1) := by decide +kernel
theorem dX1_stakesToCut_3 : decode cX1_stakesToCut 3 = .ok (.istore_n 2, 1) := by decide +kernel
theorem dX1_stakesToCut_4 : decode cX1_stakesToCut 4 = .ok (.iload_n 2, 1) := by decide +kernel
theorem dX1_stakesToCut_5 : decode cX1_stakesToCut 5 = .ok (.aload_n 0, 1) := by decide +kernel
theorem dX1_stakesToCut_6 : decode cX1_stakesToCut 6 = .ok (.getfield 21, 3) := by decide +kernel
theorem dX1_stakesToCut_9 : decode cX1_stakesToCut 9 = .ok (.if_icmp .ge 28, 3) := by decide +kernel
theorem dX1_stakesToCut_12 : decode cX1_stakesToCut 12 = .ok (.aload_n 0, 1) := by decide +kernel
theorem dX1_stakesToCut_13 : decode cX1_stakesToCut 13 = .ok (.iload_n 2, 1) := by decide +kernel
theorem dX1_stakesToCut_14 : decode cX1_stakesToCut 14 = .ok (.invokevirtual 39, 3) := by decide +kernel
theorem dX1_stakesToCut_17 : decode cX1_stakesToCut 17 = .ok (.ifCond .ne 14, 3) := by decide +kernel
theorem dX1_stakesToCut_20 : decode cX1_stakesToCut 20 = .ok (.iload_n 1, 1) := by decide +kernel
theorem dX1_stakesToCut_21 : decode cX1_stakesToCut 21 = .ok (.aload_n 0, 1) := by decide +kernel
theorem dX1_stakesToCut_22 : decode cX1_stakesToCut 22 = .ok (.iload_n 2, 1) := by decide +kernel
theorem dX1_stakesToCut_23 : decode cX1_stakesToCut 23 = .ok (.invokevirtual 50, 3) := by decide +kernel
theorem dX1_stakesToCut_26 : decode cX1_stakesToCut 26 = .ok (.invokestatic 68, 3) := by decide +kernel
theorem dX1_stakesToCut_29 : decode cX1_stakesToCut 29 = .ok (.iadd, 1) := by decide +kernel
theorem dX1_stakesToCut_30 : decode cX1_stakesToCut 30 = .ok (.istore_n 1, 1) := by decide +kernel
theorem dX1_stakesToCut_31 : decode cX1_stakesToCut 31 = .ok (.iinc 2 1, 3) := by decide +kernel
theorem dX1_stakesToCut_34 : decode cX1_stakesToCut 34 = .ok (.goto (-30), 3) := by decide +kernel
theorem dX1_stakesToCut_37 : decode cX1_stakesToCut 37 = .ok (.iload_n 1, 1) := by decide +kernel
theorem dX1_stakesToCut_38 : decode cX1_stakesToCut 38 = .ok (.ireturn, 1) := by decide +kernel
theorem dX1_stakesOf_0 : decode cX1_stakesOf 0 = .ok (.iconst 0, 1) := by decide +kernel
theorem dX1_stakesOf_1 : decode cX1_stakesOf 1 = .ok (.istore_n 1, 1) := by decide +kernel
theorem dX1_stakesOf_2 : decode cX1_stakesOf 2 = .ok (.iload_n 0, 1) := by decide +kernel
theorem dX1_stakesOf_3 : decode cX1_stakesOf 3 = .ok (.istore_n 2, 1) := by decide +kernel
theorem dX1_stakesOf_4 : decode cX1_stakesOf 4 = .ok (.iload_n 2, 1) := by decide +kernel
theorem dX1_stakesOf_5 : decode cX1_stakesOf 5 = .ok (.iconst 3, 1) := by decide +kernel
theorem dX1_stakesOf_6 : decode cX1_stakesOf 6 = .ok (.if_icmp .lt 13, 3) := by decide +kernel
theorem dX1_stakesOf_9 : decode cX1_stakesOf 9 = .ok (.iload_n 1, 1) := by decide +kernel
theorem dX1_stakesOf_10 : decode cX1_stakesOf 10 = .ok (.iload_n 2, 1) := by decide +kernel
theorem dX1_stakesOf_11 : decode cX1_stakesOf 11 = .ok (.iadd, 1) := by decide +kernel
theorem dX1_stakesOf_12 : decode cX1_stakesOf 12 = .ok (.istore_n 1, 1) := by decide +kernel
theorem dX1_stakesOf_13 : decode cX1_stakesOf 13 = .ok (.iinc 2 (-2), 3) := by decide +kernel
theorem dX1_stakesOf_16 : decode cX1_stakesOf 16 = .ok (.goto (-12), 3) := by decide +kernel
theorem dX1_stakesOf_19 : decode cX1_stakesOf 19 = .ok (.iload_n 1, 1) := by decide +kernel
theorem dX1_stakesOf_20 : decode cX1_stakesOf 20 = .ok (.ireturn, 1) := by decide +kernel
theorem dX2_init_0 : decode cX2_init 0 = .ok (.aload_n 0, 1) := by decide +kernel
theorem dX2_init_1 : decode cX2_init 1 = .ok (.invokespecial 3, 3) := by decide +kernel
theorem dX2_init_4 : decode cX2_init 4 = .ok (.aload_n 0, 1) := by decide +kernel
theorem dX2_init_5 : decode cX2_init 5 = .ok (.new 9, 3) := by decide +kernel
theorem dX2_init_8 : decode cX2_init 8 = .ok (.dup, 1) := by decide +kernel
theorem dX2_init_9 : decode cX2_init 9 = .ok (.invokespecial 11, 3) := by decide +kernel
theorem dX2_init_12 : decode cX2_init 12 = .ok (.putfield 12, 3) := by decide +kernel
theorem dX2_init_15 : decode cX2_init 15 = .ok (.aload_n 0, 1) := by decide +kernel
theorem dX2_init_16 : decode cX2_init 16 = .ok (.iconst 0, 1) := by decide +kernel
theorem dX2_init_17 : decode cX2_init 17 = .ok (.putfield 18, 3) := by decide +kernel
theorem dX2_init_20 : decode cX2_init 20 = .ok (.aload_n 0, 1) := by decide +kernel
theorem dX2_init_21 : decode cX2_init 21 = .ok (.iconst 0, 1) := by decide +kernel
theorem dX2_init_22 : decode cX2_init 22 = .ok (.putfield 22, 3) := by decide +kernel
theorem dX2_init_25 : decode cX2_init 25 = .ok (.return_, 1) := by decide +kernel
theorem dX2_faultOf_0 : decode cX2_faultOf 0 = .ok (.aload_n 0, 1) := by decide +kernel
theorem dX2_faultOf_1 : decode cX2_faultOf 1 = .ok (.getfield 12, 3) := by decide +kernel
theorem dX2_faultOf_4 : decode cX2_faultOf 4 = .ok (.iconst 0, 1) := by decide +kernel
theorem dX2_faultOf_5 : decode cX2_faultOf 5 = .ok (.putfield 25, 3) := by decide +kernel
theorem dX2_faultOf_8 : decode cX2_faultOf 8 = .ok (.aload_n 0, 1) := by decide +kernel
theorem dX2_faultOf_9 : decode cX2_faultOf 9 = .ok (.iconst 0, 1) := by decide +kernel
theorem dX2_faultOf_10 : decode cX2_faultOf 10 = .ok (.putfield 18, 3) := by decide +kernel
theorem dX2_faultOf_13 : decode cX2_faultOf 13 = .ok (.aload_n 0, 1) := by decide +kernel
theorem dX2_faultOf_14 : decode cX2_faultOf 14 = .ok (.iconst 0, 1) := by decide +kernel
theorem dX2_faultOf_15 : decode cX2_faultOf 15 = .ok (.putfield 22, 3) := by decide +kernel
theorem dX2_faultOf_18 : decode cX2_faultOf 18 = .ok (.iconst 0, 1) := by decide +kernel
theorem dX2_faultOf_19 : decode cX2_faultOf 19 = .ok (.istore_n 2, 1) := by decide +kernel
theorem dX2_faultOf_20 : decode cX2_faultOf 20 = .ok (.iload_n 2, 1) := by decide +kernel
theorem dX2_faultOf_21 : decode cX2_faultOf 21 = .ok (.bipush 80, 2) := by decide +kernel
theorem dX2_faultOf_23 : decode cX2_faultOf 23 = .ok (.if_icmp .ge 35, 3) := by decide +kernel
theorem dX2_faultOf_26 : decode cX2_faultOf 26 = .ok (.aload_n 0, 1) := by decide +kernel
theorem dX2_faultOf_27 : decode cX2_faultOf 27 = .ok (.aload_n 1, 1) := by decide +kernel
theorem dX2_faultOf_28 : decode cX2_faultOf 28 = .ok (.invokevirtual 28, 3) := by decide +kernel
theorem dX2_faultOf_31 : decode cX2_faultOf 31 = .ok (.ifCond .ne 8, 3) := by decide +kernel
theorem dX2_faultOf_34 : decode cX2_faultOf 34 = .ok (.aload_n 0, 1) := by decide +kernel
theorem dX2_faultOf_35 : decode cX2_faultOf 35 = .ok (.getfield 22, 3) := by decide +kernel
theorem dX2_faultOf_38 : decode cX2_faultOf 38 = .ok (.ireturn, 1) := by decide +kernel
theorem dX2_faultOf_39 : decode cX2_faultOf 39 = .ok (.aload_n 0, 1) := by decide +kernel
theorem dX2_faultOf_40 : decode cX2_faultOf 40 = .ok (.getfield 22, 3) := by decide +kernel
theorem dX2_faultOf_43 : decode cX2_faultOf 43 = .ok (.aload_n 1, 1) := by decide +kernel
theorem dX2_faultOf_44 : decode cX2_faultOf 44 = .ok (.getfield 32, 3) := by decide +kernel
theorem dX2_faultOf_47 : decode cX2_faultOf 47 = .ok (.if_icmp .lt 5, 3) := by decide +kernel
theorem dX2_faultOf_50 : decode cX2_faultOf 50 = .ok (.iconst (-1), 1) := by decide +kernel
theorem dX2_faultOf_51 : decode cX2_faultOf 51 = .ok (.ireturn, 1) := by decide +kernel
theorem dX2_faultOf_52 : decode cX2_faultOf 52 = .ok (.iinc 2 1, 3) := by decide +kernel
theorem dX2_faultOf_55 : decode cX2_faultOf 55 = .ok (.goto (-35), 3) := by decide +kernel
theorem dX2_faultOf_58 : decode cX2_faultOf 58 = .ok (.aload_n 0, 1) := by decide +kernel
theorem dX2_faultOf_59 : decode cX2_faultOf 59 = .ok (.getfield 22, 3) := by decide +kernel
theorem dX2_faultOf_62 : decode cX2_faultOf 62 = .ok (.ireturn, 1) := by decide +kernel
theorem dX2_readPart_0 : decode cX2_readPart 0 = .ok (.aload_n 1, 1) := by decide +kernel
theorem dX2_readPart_1 : decode cX2_readPart 1 = .ok (.aload_n 0, 1) := by decide +kernel
theorem dX2_readPart_2 : decode cX2_readPart 2 = .ok (.getfield 22, 3) := by decide +kernel
theorem dX2_readPart_5 : decode cX2_readPart 5 = .ok (.invokevirtual 35, 3) := by decide +kernel
theorem dX2_readPart_8 : decode cX2_readPart 8 = .ok (.invokestatic 39, 3) := by decide +kernel
theorem dX2_readPart_11 : decode cX2_readPart 11 = .ok (.istore_n 2, 1) := by decide +kernel
theorem dX2_readPart_12 : decode cX2_readPart 12 = .ok (.iload_n 2, 1) := by decide +kernel
theorem dX2_readPart_13 : decode cX2_readPart 13 = .ok (.iconst (-1), 1) := by decide +kernel
theorem dX2_readPart_14 : decode cX2_readPart 14 = .ok (.if_icmp .ne 5, 3) := by decide +kernel
theorem dX2_readPart_17 : decode cX2_readPart 17 = .ok (.iconst 0, 1) := by decide +kernel
theorem dX2_readPart_18 : decode cX2_readPart 18 = .ok (.ireturn, 1) := by decide +kernel
theorem dX2_readPart_19 : decode cX2_readPart 19 = .ok (.aload_n 0, 1) := by decide +kernel
theorem dX2_readPart_20 : decode cX2_readPart 20 = .ok (.dup, 1) := by decide +kernel
theorem dX2_readPart_21 : decode cX2_readPart 21 = .ok (.getfield 22, 3) := by decide +kernel
theorem dX2_readPart_24 : decode cX2_readPart 24 = .ok (.iconst 1, 1) := by decide +kernel
theorem dX2_readPart_25 : decode cX2_readPart 25 = .ok (.iadd, 1) := by decide +kernel
theorem dX2_readPart_26 : decode cX2_readPart 26 = .ok (.putfield 22, 3) := by decide +kernel
theorem dX2_readPart_29 : decode cX2_readPart 29 = .ok (.iconst 0, 1) := by decide +kernel
theorem dX2_readPart_30 : decode cX2_readPart 30 = .ok (.istore_n 3, 1) := by decide +kernel
theorem dX2_readPart_31 : decode cX2_readPart 31 = .ok (.iload_n 2, 1) := by decide +kernel
theorem dX2_readPart_32 : decode cX2_readPart 32 = .ok (.ifCond .eq 8, 3) := by decide +kernel
theorem dX2_readPart_35 : decode cX2_readPart 35 = .ok (.iload_n 2, 1) := by decide +kernel
theorem dX2_readPart_36 : decode cX2_readPart 36 = .ok (.iconst 1, 1) := by decide +kernel
theorem dX2_readPart_37 : decode cX2_readPart 37 = .ok (.if_icmp .ne 32, 3) := by decide +kernel
theorem dX2_readPart_40 : decode cX2_readPart 40 = .ok (.aload_n 1, 1) := by decide +kernel
theorem dX2_readPart_41 : decode cX2_readPart 41 = .ok (.aload_n 0, 1) := by decide +kernel
theorem dX2_readPart_42 : decode cX2_readPart 42 = .ok (.getfield 22, 3) := by decide +kernel
theorem dX2_readPart_45 : decode cX2_readPart 45 = .ok (.invokevirtual 35, 3) := by decide +kernel
theorem dX2_readPart_48 : decode cX2_readPart 48 = .ok (.invokestatic 43, 3) := by decide +kernel
theorem dX2_readPart_51 : decode cX2_readPart 51 = .ok (.istore_n 3, 1) := by decide +kernel
theorem dX2_readPart_52 : decode cX2_readPart 52 = .ok (.iload_n 3, 1) := by decide +kernel
theorem dX2_readPart_53 : decode cX2_readPart 53 = .ok (.iconst 1, 1) := by decide +kernel
theorem dX2_readPart_54 : decode cX2_readPart 54 = .ok (.if_icmp .ge 5, 3) := by decide +kernel
theorem dX2_readPart_57 : decode cX2_readPart 57 = .ok (.iconst 0, 1) := by decide +kernel
theorem dX2_readPart_58 : decode cX2_readPart 58 = .ok (.ireturn, 1) := by decide +kernel
theorem dX2_readPart_59 : decode cX2_readPart 59 = .ok (.aload_n 0, 1) := by decide +kernel
theorem dX2_readPart_60 : decode cX2_readPart 60 = .ok (.dup, 1) := by decide +kernel
theorem dX2_readPart_61 : decode cX2_readPart 61 = .ok (.getfield 22, 3) := by decide +kernel
theorem dX2_readPart_64 : decode cX2_readPart 64 = .ok (.iconst 1, 1) := by decide +kernel
theorem dX2_readPart_65 : decode cX2_readPart 65 = .ok (.iadd, 1) := by decide +kernel
theorem dX2_readPart_66 : decode cX2_readPart 66 = .ok (.putfield 22, 3) := by decide +kernel
theorem dX2_readPart_69 : decode cX2_readPart 69 = .ok (.iconst 1, 1) := by decide +kernel
theorem dX2_readPart_70 : decode cX2_readPart 70 = .ok (.istore 4, 2) := by decide +kernel
theorem dX2_readPart_72 : decode cX2_readPart 72 = .ok (.aload_n 1, 1) := by decide +kernel
theorem dX2_readPart_73 : decode cX2_readPart 73 = .ok (.aload_n 0, 1) := by decide +kernel
theorem dX2_readPart_74 : decode cX2_readPart 74 = .ok (.getfield 22, 3) := by decide +kernel
theorem dX2_readPart_77 : decode cX2_readPart 77 = .ok (.invokevirtual 35, 3) := by decide +kernel
theorem dX2_readPart_80 : decode cX2_readPart 80 = .ok (.bipush 42, 2) := by decide +kernel
theorem dX2_readPart_82 : decode cX2_readPart 82 = .ok (.if_icmp .ne 20, 3) := by decide +kernel
theorem dX2_readPart_85 : decode cX2_readPart 85 = .ok (.aload_n 0, 1) := by decide +kernel
theorem dX2_readPart_86 : decode cX2_readPart 86 = .ok (.dup, 1) := by decide +kernel
theorem dX2_readPart_87 : decode cX2_readPart 87 = .ok (.getfield 22, 3) := by decide +kernel
theorem dX2_readPart_90 : decode cX2_readPart 90 = .ok (.iconst 1, 1) := by decide +kernel
theorem dX2_readPart_91 : decode cX2_readPart 91 = .ok (.iadd, 1) := by decide +kernel
theorem dX2_readPart_92 : decode cX2_readPart 92 = .ok (.putfield 22, 3) := by decide +kernel
theorem dX2_readPart_95 : decode cX2_readPart 95 = .ok (.aload_n 0, 1) := by decide +kernel
theorem dX2_readPart_96 : decode cX2_readPart 96 = .ok (.aload_n 1, 1) := by decide +kernel
theorem dX2_readPart_97 : decode cX2_readPart 97 = .ok (.invokevirtual 46, 3) := by decide +kernel
theorem dX2_readPart_100 : decode cX2_readPart 100 = .ok (.istore 4, 2) := by decide +kernel
theorem dX2_readPart_102 : decode cX2_readPart 102 = .ok (.aload_n 0, 1) := by decide +kernel
theorem dX2_readPart_103 : decode cX2_readPart 103 = .ok (.dup, 1) := by decide +kernel
theorem dX2_readPart_104 : decode cX2_readPart 104 = .ok (.getfield 18, 3) := by decide +kernel
theorem dX2_readPart_107 : decode cX2_readPart 107 = .ok (.iload 4, 2) := by decide +kernel
theorem dX2_readPart_109 : decode cX2_readPart 109 = .ok (.iadd, 1) := by decide +kernel
theorem dX2_readPart_110 : decode cX2_readPart 110 = .ok (.putfield 18, 3) := by decide +kernel
theorem dX2_readPart_113 : decode cX2_readPart 113 = .ok (.aload_n 0, 1) := by decide +kernel
theorem dX2_readPart_114 : decode cX2_readPart 114 = .ok (.getfield 12, 3) := by decide +kernel
theorem dX2_readPart_117 : decode cX2_readPart 117 = .ok (.iload_n 2, 1) := by decide +kernel
theorem dX2_readPart_118 : decode cX2_readPart 118 = .ok (.iload_n 3, 1) := by decide +kernel
theorem dX2_readPart_119 : decode cX2_readPart 119 = .ok (.iload 4, 2) := by decide +kernel
theorem dX2_readPart_121 : decode cX2_readPart 121 = .ok (.invokevirtual 50, 3) := by decide +kernel
theorem dX2_readPart_124 : decode cX2_readPart 124 = .ok (.iload 4, 2) := by decide +kernel
theorem dX2_readPart_126 : decode cX2_readPart 126 = .ok (.ifCond .le 7, 3) := by decide +kernel
theorem dX2_readPart_129 : decode cX2_readPart 129 = .ok (.iconst 1, 1) := by decide +kernel
theorem dX2_readPart_130 : decode cX2_readPart 130 = .ok (.goto 4, 3) := by decide +kernel
theorem dX2_readPart_133 : decode cX2_readPart 133 = .ok (.iconst 0, 1) := by decide +kernel
theorem dX2_readPart_134 : decode cX2_readPart 134 = .ok (.ireturn, 1) := by decide +kernel
theorem dX2_readNumber_0 : decode cX2_readNumber 0 = .ok (.aload_n 1, 1) := by decide +kernel
theorem dX2_readNumber_1 : decode cX2_readNumber 1 = .ok (.aload_n 0, 1) := by decide +kernel
theorem dX2_readNumber_2 : decode cX2_readNumber 2 = .ok (.getfield 22, 3) := by decide +kernel
theorem dX2_readNumber_5 : decode cX2_readNumber 5 = .ok (.invokevirtual 35, 3) := by decide +kernel
theorem dX2_readNumber_8 : decode cX2_readNumber 8 = .ok (.invokestatic 43, 3) := by decide +kernel
theorem dX2_readNumber_11 : decode cX2_readNumber 11 = .ok (.istore_n 2, 1) := by decide +kernel
theorem dX2_readNumber_12 : decode cX2_readNumber 12 = .ok (.iload_n 2, 1) := by decide +kernel
theorem dX2_readNumber_13 : decode cX2_readNumber 13 = .ok (.iconst 1, 1) := by decide +kernel
theorem dX2_readNumber_14 : decode cX2_readNumber 14 = .ok (.if_icmp .ge 5, 3) := by decide +kernel
theorem dX2_readNumber_17 : decode cX2_readNumber 17 = .ok (.iconst 0, 1) := by decide +kernel
theorem dX2_readNumber_18 : decode cX2_readNumber 18 = .ok (.ireturn, 1) := by decide +kernel
theorem dX2_readNumber_19 : decode cX2_readNumber 19 = .ok (.aload_n 0, 1) := by decide +kernel
theorem dX2_readNumber_20 : decode cX2_readNumber 20 = .ok (.dup, 1) := by decide +kernel
theorem dX2_readNumber_21 : decode cX2_readNumber 21 = .ok (.getfield 22, 3) := by decide +kernel
theorem dX2_readNumber_24 : decode cX2_readNumber 24 = .ok (.iconst 1, 1) := by decide +kernel
theorem dX2_readNumber_25 : decode cX2_readNumber 25 = .ok (.iadd, 1) := by decide +kernel
theorem dX2_readNumber_26 : decode cX2_readNumber 26 = .ok (.putfield 22, 3) := by decide +kernel
theorem dX2_readNumber_29 : decode cX2_readNumber 29 = .ok (.aload_n 0, 1) := by decide +kernel
theorem dX2_readNumber_30 : decode cX2_readNumber 30 = .ok (.getfield 22, 3) := by decide +kernel
theorem dX2_readNumber_33 : decode cX2_readNumber 33 = .ok (.aload_n 1, 1) := by decide +kernel
theorem dX2_readNumber_34 : decode cX2_readNumber 34 = .ok (.getfield 32, 3) := by decide +kernel
theorem dX2_readNumber_37 : decode cX2_readNumber 37 = .ok (.if_icmp .ge 55, 3) := by decide +kernel
theorem dX2_readNumber_40 : decode cX2_readNumber 40 = .ok (.aload_n 1, 1) := by decide +kernel
theorem dX2_readNumber_41 : decode cX2_readNumber 41 = .ok (.aload_n 0, 1) := by decide +kernel
theorem dX2_readNumber_42 : decode cX2_readNumber 42 = .ok (.getfield 22, 3) := by decide +kernel
theorem dX2_readNumber_45 : decode cX2_readNumber 45 = .ok (.invokevirtual 35, 3) := by decide +kernel
theorem dX2_readNumber_48 : decode cX2_readNumber 48 = .ok (.invokestatic 43, 3) := by decide +kernel
theorem dX2_readNumber_51 : decode cX2_readNumber 51 = .ok (.ifCond .lt 41, 3) := by decide +kernel
theorem dX2_readNumber_54 : decode cX2_readNumber 54 = .ok (.iload_n 2, 1) := by decide +kernel
theorem dX2_readNumber_55 : decode cX2_readNumber 55 = .ok (.bipush 10, 2) := by decide +kernel
theorem dX2_readNumber_57 : decode cX2_readNumber 57 = .ok (.imul, 1) := by decide +kernel
theorem dX2_readNumber_58 : decode cX2_readNumber 58 = .ok (.aload_n 1, 1) := by decide +kernel
theorem dX2_readNumber_59 : decode cX2_readNumber 59 = .ok (.aload_n 0, 1) := by decide +kernel
theorem dX2_readNumber_60 : decode cX2_readNumber 60 = .ok (.getfield 22, 3) := by decide +kernel
theorem dX2_readNumber_63 : decode cX2_readNumber 63 = .ok (.invokevirtual 35, 3) := by decide +kernel
theorem dX2_readNumber_66 : decode cX2_readNumber 66 = .ok (.invokestatic 43, 3) := by decide +kernel
theorem dX2_readNumber_69 : decode cX2_readNumber 69 = .ok (.iadd, 1) := by decide +kernel
theorem dX2_readNumber_70 : decode cX2_readNumber 70 = .ok (.istore_n 2, 1) := by decide +kernel
theorem dX2_readNumber_71 : decode cX2_readNumber 71 = .ok (.iload_n 2, 1) := by decide +kernel
theorem dX2_readNumber_72 : decode cX2_readNumber 72 = .ok (.bipush 30, 2) := by decide +kernel
theorem dX2_readNumber_74 : decode cX2_readNumber 74 = .ok (.if_icmp .le 5, 3) := by decide +kernel
theorem dX2_readNumber_77 : decode cX2_readNumber 77 = .ok (.iconst 0, 1) := by decide +kernel
theorem dX2_readNumber_78 : decode cX2_readNumber 78 = .ok (.ireturn, 1) := by decide +kernel
theorem dX2_readNumber_79 : decode cX2_readNumber 79 = .ok (.aload_n 0, 1) := by decide +kernel
theorem dX2_readNumber_80 : decode cX2_readNumber 80 = .ok (.dup, 1) := by decide +kernel
theorem dX2_readNumber_81 : decode cX2_readNumber 81 = .ok (.getfield 22, 3) := by decide +kernel
theorem dX2_readNumber_84 : decode cX2_readNumber 84 = .ok (.iconst 1, 1) := by decide +kernel
theorem dX2_readNumber_85 : decode cX2_readNumber 85 = .ok (.iadd, 1) := by decide +kernel
theorem dX2_readNumber_86 : decode cX2_readNumber 86 = .ok (.putfield 22, 3) := by decide +kernel
theorem dX2_readNumber_89 : decode cX2_readNumber 89 = .ok (.goto (-60), 3) := by decide +kernel
theorem dX2_readNumber_92 : decode cX2_readNumber 92 = .ok (.iload_n 2, 1) := by decide +kernel
theorem dX2_readNumber_93 : decode cX2_readNumber 93 = .ok (.ireturn, 1) := by decide +kernel
theorem dX2_kindFor_0 : decode cX2_kindFor 0 = .ok (.iload_n 0, 1) := by decide +kernel
theorem dX2_kindFor_1 : decode cX2_kindFor 1 = .ok (.lookupswitch 51 #[(103, 47), (108, 45), (112, 49), (116, 43)], 43) := by decide +kernel
theorem dX2_kindFor_44 : decode cX2_kindFor 44 = .ok (.iconst 0, 1) := by decide +kernel
theorem dX2_kindFor_45 : decode cX2_kindFor 45 = .ok (.ireturn, 1) := by decide +kernel
theorem dX2_kindFor_46 : decode cX2_kindFor 46 = .ok (.iconst 1, 1) := by decide +kernel
theorem dX2_kindFor_47 : decode cX2_kindFor 47 = .ok (.ireturn, 1) := by decide +kernel
theorem dX2_kindFor_48 : decode cX2_kindFor 48 = .ok (.iconst 2, 1) := by decide +kernel
theorem dX2_kindFor_49 : decode cX2_kindFor 49 = .ok (.ireturn, 1) := by decide +kernel
theorem dX2_kindFor_50 : decode cX2_kindFor 50 = .ok (.iconst 3, 1) := by decide +kernel
theorem dX2_kindFor_51 : decode cX2_kindFor 51 = .ok (.ireturn, 1) := by decide +kernel
theorem dX2_kindFor_52 : decode cX2_kindFor 52 = .ok (.iconst (-1), 1) := by decide +kernel
theorem dX2_kindFor_53 : decode cX2_kindFor 53 = .ok (.ireturn, 1) := by decide +kernel
theorem dX2_digitFor_0 : decode cX2_digitFor 0 = .ok (.iload_n 0, 1) := by decide +kernel
theorem dX2_digitFor_1 : decode cX2_digitFor 1 = .ok (.bipush 48, 2) := by decide +kernel
theorem dX2_digitFor_3 : decode cX2_digitFor 3 = .ok (.if_icmp .lt 16, 3) := by decide +kernel
theorem dX2_digitFor_6 : decode cX2_digitFor 6 = .ok (.iload_n 0, 1) := by decide +kernel
theorem dX2_digitFor_7 : decode cX2_digitFor 7 = .ok (.bipush 57, 2) := by decide +kernel
theorem dX2_digitFor_9 : decode cX2_digitFor 9 = .ok (.if_icmp .gt 10, 3) := by decide +kernel
theorem dX2_digitFor_12 : decode cX2_digitFor 12 = .ok (.iload_n 0, 1) := by decide +kernel
theorem dX2_digitFor_13 : decode cX2_digitFor 13 = .ok (.bipush 48, 2) := by decide +kernel
theorem dX2_digitFor_15 : decode cX2_digitFor 15 = .ok (.isub, 1) := by decide +kernel
theorem dX2_digitFor_16 : decode cX2_digitFor 16 = .ok (.goto 4, 3) := by decide +kernel
theorem dX2_digitFor_19 : decode cX2_digitFor 19 = .ok (.iconst (-1), 1) := by decide +kernel
theorem dX2_digitFor_20 : decode cX2_digitFor 20 = .ok (.ireturn, 1) := by decide +kernel
theorem dX3_init_0 : decode cX3_init 0 = .ok (.aload_n 0, 1) := by decide +kernel
theorem dX3_init_1 : decode cX3_init 1 = .ok (.invokespecial 3, 3) := by decide +kernel
theorem dX3_init_4 : decode cX3_init 4 = .ok (.aload_n 0, 1) := by decide +kernel
theorem dX3_init_5 : decode cX3_init 5 = .ok (.iconst 5, 1) := by decide +kernel
theorem dX3_init_6 : decode cX3_init 6 = .ok (.anewarray 9, 3) := by decide +kernel
theorem dX3_init_9 : decode cX3_init 9 = .ok (.putfield 11, 3) := by decide +kernel
theorem dX3_init_12 : decode cX3_init 12 = .ok (.iconst 0, 1) := by decide +kernel
theorem dX3_init_13 : decode cX3_init 13 = .ok (.istore_n 1, 1) := by decide +kernel
theorem dX3_init_14 : decode cX3_init 14 = .ok (.iload_n 1, 1) := by decide +kernel
theorem dX3_init_15 : decode cX3_init 15 = .ok (.iconst 5, 1) := by decide +kernel
theorem dX3_init_16 : decode cX3_init 16 = .ok (.if_icmp .ge 22, 3) := by decide +kernel
theorem dX3_init_19 : decode cX3_init 19 = .ok (.aload_n 0, 1) := by decide +kernel
theorem dX3_init_20 : decode cX3_init 20 = .ok (.getfield 11, 3) := by decide +kernel
theorem dX3_init_23 : decode cX3_init 23 = .ok (.iload_n 1, 1) := by decide +kernel
theorem dX3_init_24 : decode cX3_init 24 = .ok (.new 9, 3) := by decide +kernel
theorem dX3_init_27 : decode cX3_init 27 = .ok (.dup, 1) := by decide +kernel
theorem dX3_init_28 : decode cX3_init 28 = .ok (.invokespecial 17, 3) := by decide +kernel
theorem dX3_init_31 : decode cX3_init 31 = .ok (.aastore, 1) := by decide +kernel
theorem dX3_init_32 : decode cX3_init 32 = .ok (.iinc 1 1, 3) := by decide +kernel
theorem dX3_init_35 : decode cX3_init 35 = .ok (.goto (-21), 3) := by decide +kernel
theorem dX3_init_38 : decode cX3_init 38 = .ok (.aload_n 0, 1) := by decide +kernel
theorem dX3_init_39 : decode cX3_init 39 = .ok (.iconst 0, 1) := by decide +kernel
theorem dX3_init_40 : decode cX3_init 40 = .ok (.putfield 18, 3) := by decide +kernel
theorem dX3_init_43 : decode cX3_init 43 = .ok (.aload_n 0, 1) := by decide +kernel
theorem dX3_init_44 : decode cX3_init 44 = .ok (.iconst 0, 1) := by decide +kernel
theorem dX3_init_45 : decode cX3_init 45 = .ok (.putfield 22, 3) := by decide +kernel
theorem dX3_init_48 : decode cX3_init 48 = .ok (.return_, 1) := by decide +kernel
theorem dX3_keep_0 : decode cX3_keep 0 = .ok (.aload_n 0, 1) := by decide +kernel
theorem dX3_keep_1 : decode cX3_keep 1 = .ok (.getfield 11, 3) := by decide +kernel
theorem dX3_keep_4 : decode cX3_keep 4 = .ok (.aload_n 0, 1) := by decide +kernel
theorem dX3_keep_5 : decode cX3_keep 5 = .ok (.getfield 18, 3) := by decide +kernel
theorem dX3_keep_8 : decode cX3_keep 8 = .ok (.aaload, 1) := by decide +kernel
theorem dX3_keep_9 : decode cX3_keep 9 = .ok (.aload_n 1, 1) := by decide +kernel
theorem dX3_keep_10 : decode cX3_keep 10 = .ok (.invokevirtual 25, 3) := by decide +kernel
theorem dX3_keep_13 : decode cX3_keep 13 = .ok (.aload_n 0, 1) := by decide +kernel
theorem dX3_keep_14 : decode cX3_keep 14 = .ok (.aload_n 0, 1) := by decide +kernel
theorem dX3_keep_15 : decode cX3_keep 15 = .ok (.getfield 18, 3) := by decide +kernel
theorem dX3_keep_18 : decode cX3_keep 18 = .ok (.iconst 1, 1) := by decide +kernel
theorem dX3_keep_19 : decode cX3_keep 19 = .ok (.iadd, 1) := by decide +kernel
theorem dX3_keep_20 : decode cX3_keep 20 = .ok (.iconst 5, 1) := by decide +kernel
theorem dX3_keep_21 : decode cX3_keep 21 = .ok (.irem, 1) := by decide +kernel
theorem dX3_keep_22 : decode cX3_keep 22 = .ok (.putfield 18, 3) := by decide +kernel
theorem dX3_keep_25 : decode cX3_keep 25 = .ok (.aload_n 0, 1) := by decide +kernel
theorem dX3_keep_26 : decode cX3_keep 26 = .ok (.aload_n 0, 1) := by decide +kernel
theorem dX3_keep_27 : decode cX3_keep 27 = .ok (.getfield 22, 3) := by decide +kernel
theorem dX3_keep_30 : decode cX3_keep 30 = .ok (.iconst 1, 1) := by decide +kernel
theorem dX3_keep_31 : decode cX3_keep 31 = .ok (.iadd, 1) := by decide +kernel
theorem dX3_keep_32 : decode cX3_keep 32 = .ok (.iconst 5, 1) := by decide +kernel
theorem dX3_keep_33 : decode cX3_keep 33 = .ok (.invokestatic 29, 3) := by decide +kernel
theorem dX3_keep_36 : decode cX3_keep 36 = .ok (.putfield 22, 3) := by decide +kernel
theorem dX3_keep_39 : decode cX3_keep 39 = .ok (.return_, 1) := by decide +kernel
theorem dX3_bringBack_0 : decode cX3_bringBack 0 = .ok (.aload_n 0, 1) := by decide +kernel
theorem dX3_bringBack_1 : decode cX3_bringBack 1 = .ok (.getfield 22, 3) := by decide +kernel
theorem dX3_bringBack_4 : decode cX3_bringBack 4 = .ok (.ifCond .le 40, 3) := by decide +kernel
theorem dX3_bringBack_7 : decode cX3_bringBack 7 = .ok (.aload_n 0, 1) := by decide +kernel
theorem dX3_bringBack_8 : decode cX3_bringBack 8 = .ok (.aload_n 0, 1) := by decide +kernel
theorem dX3_bringBack_9 : decode cX3_bringBack 9 = .ok (.getfield 18, 3) := by decide +kernel
theorem dX3_bringBack_12 : decode cX3_bringBack 12 = .ok (.iconst 5, 1) := by decide +kernel
theorem dX3_bringBack_13 : decode cX3_bringBack 13 = .ok (.iadd, 1) := by decide +kernel
theorem dX3_bringBack_14 : decode cX3_bringBack 14 = .ok (.iconst 1, 1) := by decide +kernel
theorem dX3_bringBack_15 : decode cX3_bringBack 15 = .ok (.isub, 1) := by decide +kernel
theorem dX3_bringBack_16 : decode cX3_bringBack 16 = .ok (.iconst 5, 1) := by decide +kernel
theorem dX3_bringBack_17 : decode cX3_bringBack 17 = .ok (.irem, 1) := by decide +kernel
theorem dX3_bringBack_18 : decode cX3_bringBack 18 = .ok (.putfield 18, 3) := by decide +kernel
theorem dX3_bringBack_21 : decode cX3_bringBack 21 = .ok (.aload_n 0, 1) := by decide +kernel
theorem dX3_bringBack_22 : decode cX3_bringBack 22 = .ok (.dup, 1) := by decide +kernel
theorem dX3_bringBack_23 : decode cX3_bringBack 23 = .ok (.getfield 22, 3) := by decide +kernel
theorem dX3_bringBack_26 : decode cX3_bringBack 26 = .ok (.iconst 1, 1) := by decide +kernel
theorem dX3_bringBack_27 : decode cX3_bringBack 27 = .ok (.isub, 1) := by decide +kernel
theorem dX3_bringBack_28 : decode cX3_bringBack 28 = .ok (.putfield 22, 3) := by decide +kernel
theorem dX3_bringBack_31 : decode cX3_bringBack 31 = .ok (.aload_n 1, 1) := by decide +kernel
theorem dX3_bringBack_32 : decode cX3_bringBack 32 = .ok (.aload_n 0, 1) := by decide +kernel
theorem dX3_bringBack_33 : decode cX3_bringBack 33 = .ok (.getfield 11, 3) := by decide +kernel
theorem dX3_bringBack_36 : decode cX3_bringBack 36 = .ok (.aload_n 0, 1) := by decide +kernel
theorem dX3_bringBack_37 : decode cX3_bringBack 37 = .ok (.getfield 18, 3) := by decide +kernel
theorem dX3_bringBack_40 : decode cX3_bringBack 40 = .ok (.aaload, 1) := by decide +kernel
theorem dX3_bringBack_41 : decode cX3_bringBack 41 = .ok (.invokevirtual 25, 3) := by decide +kernel
theorem dX3_bringBack_44 : decode cX3_bringBack 44 = .ok (.return_, 1) := by decide +kernel
theorem dX4_init_0 : decode cX4_init 0 = .ok (.aload_n 0, 1) := by decide +kernel
theorem dX4_init_1 : decode cX4_init 1 = .ok (.invokespecial 3, 3) := by decide +kernel
theorem dX4_init_4 : decode cX4_init 4 = .ok (.aload_n 0, 1) := by decide +kernel
theorem dX4_init_5 : decode cX4_init 5 = .ok (.bipush 6, 2) := by decide +kernel
theorem dX4_init_7 : decode cX4_init 7 = .ok (.anewarray 9, 3) := by decide +kernel
theorem dX4_init_10 : decode cX4_init 10 = .ok (.putfield 11, 3) := by decide +kernel
theorem dX4_init_13 : decode cX4_init 13 = .ok (.aload_n 0, 1) := by decide +kernel
theorem dX4_init_14 : decode cX4_init 14 = .ok (.bipush 6, 2) := by decide +kernel
theorem dX4_init_16 : decode cX4_init 16 = .ok (.anewarray 17, 3) := by decide +kernel
theorem dX4_init_19 : decode cX4_init 19 = .ok (.putfield 19, 3) := by decide +kernel
theorem dX4_init_22 : decode cX4_init 22 = .ok (.iconst 0, 1) := by decide +kernel
theorem dX4_init_23 : decode cX4_init 23 = .ok (.istore_n 1, 1) := by decide +kernel
theorem dX4_init_24 : decode cX4_init 24 = .ok (.iload_n 1, 1) := by decide +kernel
theorem dX4_init_25 : decode cX4_init 25 = .ok (.bipush 6, 2) := by decide +kernel
theorem dX4_init_27 : decode cX4_init 27 = .ok (.if_icmp .ge 48, 3) := by decide +kernel
theorem dX4_init_30 : decode cX4_init 30 = .ok (.aload_n 0, 1) := by decide +kernel
theorem dX4_init_31 : decode cX4_init 31 = .ok (.getfield 11, 3) := by decide +kernel
theorem dX4_init_34 : decode cX4_init 34 = .ok (.iload_n 1, 1) := by decide +kernel
theorem dX4_init_35 : decode cX4_init 35 = .ok (.new 9, 3) := by decide +kernel
theorem dX4_init_38 : decode cX4_init 38 = .ok (.dup, 1) := by decide +kernel
theorem dX4_init_39 : decode cX4_init 39 = .ok (.invokespecial 23, 3) := by decide +kernel
theorem dX4_init_42 : decode cX4_init 42 = .ok (.aastore, 1) := by decide +kernel
theorem dX4_init_43 : decode cX4_init 43 = .ok (.aload_n 0, 1) := by decide +kernel
theorem dX4_init_44 : decode cX4_init 44 = .ok (.getfield 11, 3) := by decide +kernel
theorem dX4_init_47 : decode cX4_init 47 = .ok (.iload_n 1, 1) := by decide +kernel
theorem dX4_init_48 : decode cX4_init 48 = .ok (.aaload, 1) := by decide +kernel
theorem dX4_init_49 : decode cX4_init 49 = .ok (.iconst 0, 1) := by decide +kernel
theorem dX4_init_50 : decode cX4_init 50 = .ok (.iconst 4, 1) := by decide +kernel
theorem dX4_init_51 : decode cX4_init 51 = .ok (.bipush 10, 2) := by decide +kernel
theorem dX4_init_53 : decode cX4_init 53 = .ok (.invokevirtual 24, 3) := by decide +kernel
theorem dX4_init_56 : decode cX4_init 56 = .ok (.aload_n 0, 1) := by decide +kernel
theorem dX4_init_57 : decode cX4_init 57 = .ok (.getfield 19, 3) := by decide +kernel
theorem dX4_init_60 : decode cX4_init 60 = .ok (.iload_n 1, 1) := by decide +kernel
theorem dX4_init_61 : decode cX4_init 61 = .ok (.new 17, 3) := by decide +kernel
theorem dX4_init_64 : decode cX4_init 64 = .ok (.dup, 1) := by decide +kernel
theorem dX4_init_65 : decode cX4_init 65 = .ok (.invokespecial 28, 3) := by decide +kernel
theorem dX4_init_68 : decode cX4_init 68 = .ok (.aastore, 1) := by decide +kernel
theorem dX4_init_69 : decode cX4_init 69 = .ok (.iinc 1 1, 3) := by decide +kernel
theorem dX4_init_72 : decode cX4_init 72 = .ok (.goto (-48), 3) := by decide +kernel
theorem dX4_init_75 : decode cX4_init 75 = .ok (.aload_n 0, 1) := by decide +kernel
theorem dX4_init_76 : decode cX4_init 76 = .ok (.bipush 10, 2) := by decide +kernel
theorem dX4_init_78 : decode cX4_init 78 = .ok (.putfield 29, 3) := by decide +kernel
theorem dX4_init_81 : decode cX4_init 81 = .ok (.aload_n 0, 1) := by decide +kernel
theorem dX4_init_82 : decode cX4_init 82 = .ok (.bipush 30, 2) := by decide +kernel
theorem dX4_init_84 : decode cX4_init 84 = .ok (.putfield 33, 3) := by decide +kernel
theorem dX4_init_87 : decode cX4_init 87 = .ok (.aload_n 0, 1) := by decide +kernel
theorem dX4_init_88 : decode cX4_init 88 = .ok (.bipush 30, 2) := by decide +kernel
theorem dX4_init_90 : decode cX4_init 90 = .ok (.putfield 36, 3) := by decide +kernel
theorem dX4_init_93 : decode cX4_init 93 = .ok (.aload_n 0, 1) := by decide +kernel
theorem dX4_init_94 : decode cX4_init 94 = .ok (.bipush 30, 2) := by decide +kernel
theorem dX4_init_96 : decode cX4_init 96 = .ok (.putfield 39, 3) := by decide +kernel
theorem dX4_init_99 : decode cX4_init 99 = .ok (.aload_n 0, 1) := by decide +kernel
theorem dX4_init_100 : decode cX4_init 100 = .ok (.bipush 10, 2) := by decide +kernel
theorem dX4_init_102 : decode cX4_init 102 = .ok (.putfield 42, 3) := by decide +kernel
theorem dX4_init_105 : decode cX4_init 105 = .ok (.aload_n 0, 1) := by decide +kernel
theorem dX4_init_106 : decode cX4_init 106 = .ok (.bipush 50, 2) := by decide +kernel
theorem dX4_init_108 : decode cX4_init 108 = .ok (.putfield 45, 3) := by decide +kernel
theorem dX4_init_111 : decode cX4_init 111 = .ok (.return_, 1) := by decide +kernel
theorem dX4_copyFrom_0 : decode cX4_copyFrom 0 = .ok (.iconst 0, 1) := by decide +kernel
theorem dX4_copyFrom_1 : decode cX4_copyFrom 1 = .ok (.istore_n 2, 1) := by decide +kernel
theorem dX4_copyFrom_2 : decode cX4_copyFrom 2 = .ok (.iload_n 2, 1) := by decide +kernel
theorem dX4_copyFrom_3 : decode cX4_copyFrom 3 = .ok (.bipush 6, 2) := by decide +kernel
theorem dX4_copyFrom_5 : decode cX4_copyFrom 5 = .ok (.if_icmp .ge 39, 3) := by decide +kernel
theorem dX4_copyFrom_8 : decode cX4_copyFrom 8 = .ok (.aload_n 0, 1) := by decide +kernel
theorem dX4_copyFrom_9 : decode cX4_copyFrom 9 = .ok (.getfield 11, 3) := by decide +kernel
theorem dX4_copyFrom_12 : decode cX4_copyFrom 12 = .ok (.iload_n 2, 1) := by decide +kernel
theorem dX4_copyFrom_13 : decode cX4_copyFrom 13 = .ok (.aaload, 1) := by decide +kernel
theorem dX4_copyFrom_14 : decode cX4_copyFrom 14 = .ok (.aload_n 1, 1) := by decide +kernel
theorem dX4_copyFrom_15 : decode cX4_copyFrom 15 = .ok (.getfield 11, 3) := by decide +kernel
theorem dX4_copyFrom_18 : decode cX4_copyFrom 18 = .ok (.iload_n 2, 1) := by decide +kernel
theorem dX4_copyFrom_19 : decode cX4_copyFrom 19 = .ok (.aaload, 1) := by decide +kernel
theorem dX4_copyFrom_20 : decode cX4_copyFrom 20 = .ok (.invokevirtual 48, 3) := by decide +kernel
theorem dX4_copyFrom_23 : decode cX4_copyFrom 23 = .ok (.aload_n 0, 1) := by decide +kernel
theorem dX4_copyFrom_24 : decode cX4_copyFrom 24 = .ok (.getfield 19, 3) := by decide +kernel
theorem dX4_copyFrom_27 : decode cX4_copyFrom 27 = .ok (.iload_n 2, 1) := by decide +kernel
theorem dX4_copyFrom_28 : decode cX4_copyFrom 28 = .ok (.aaload, 1) := by decide +kernel
theorem dX4_copyFrom_29 : decode cX4_copyFrom 29 = .ok (.aload_n 1, 1) := by decide +kernel
theorem dX4_copyFrom_30 : decode cX4_copyFrom 30 = .ok (.getfield 19, 3) := by decide +kernel
theorem dX4_copyFrom_33 : decode cX4_copyFrom 33 = .ok (.iload_n 2, 1) := by decide +kernel
theorem dX4_copyFrom_34 : decode cX4_copyFrom 34 = .ok (.aaload, 1) := by decide +kernel
theorem dX4_copyFrom_35 : decode cX4_copyFrom 35 = .ok (.invokevirtual 52, 3) := by decide +kernel
theorem dX4_copyFrom_38 : decode cX4_copyFrom 38 = .ok (.iinc 2 1, 3) := by decide +kernel
theorem dX4_copyFrom_41 : decode cX4_copyFrom 41 = .ok (.goto (-39), 3) := by decide +kernel
theorem dX4_copyFrom_44 : decode cX4_copyFrom 44 = .ok (.aload_n 0, 1) := by decide +kernel
theorem dX4_copyFrom_45 : decode cX4_copyFrom 45 = .ok (.aload_n 1, 1) := by decide +kernel
theorem dX4_copyFrom_46 : decode cX4_copyFrom 46 = .ok (.getfield 55, 3) := by decide +kernel
theorem dX4_copyFrom_49 : decode cX4_copyFrom 49 = .ok (.putfield 55, 3) := by decide +kernel
theorem dX4_copyFrom_52 : decode cX4_copyFrom 52 = .ok (.aload_n 0, 1) := by decide +kernel
theorem dX4_copyFrom_53 : decode cX4_copyFrom 53 = .ok (.aload_n 1, 1) := by decide +kernel
theorem dX4_copyFrom_54 : decode cX4_copyFrom 54 = .ok (.getfield 29, 3) := by decide +kernel
theorem dX4_copyFrom_57 : decode cX4_copyFrom 57 = .ok (.putfield 29, 3) := by decide +kernel
theorem dX4_copyFrom_60 : decode cX4_copyFrom 60 = .ok (.aload_n 0, 1) := by decide +kernel
theorem dX4_copyFrom_61 : decode cX4_copyFrom 61 = .ok (.aload_n 1, 1) := by decide +kernel
theorem dX4_copyFrom_62 : decode cX4_copyFrom 62 = .ok (.getfield 33, 3) := by decide +kernel
theorem dX4_copyFrom_65 : decode cX4_copyFrom 65 = .ok (.putfield 33, 3) := by decide +kernel
theorem dX4_copyFrom_68 : decode cX4_copyFrom 68 = .ok (.aload_n 0, 1) := by decide +kernel
theorem dX4_copyFrom_69 : decode cX4_copyFrom 69 = .ok (.aload_n 1, 1) := by decide +kernel
theorem dX4_copyFrom_70 : decode cX4_copyFrom 70 = .ok (.getfield 36, 3) := by decide +kernel
theorem dX4_copyFrom_73 : decode cX4_copyFrom 73 = .ok (.putfield 36, 3) := by decide +kernel
theorem dX4_copyFrom_76 : decode cX4_copyFrom 76 = .ok (.aload_n 0, 1) := by decide +kernel
theorem dX4_copyFrom_77 : decode cX4_copyFrom 77 = .ok (.aload_n 1, 1) := by decide +kernel
theorem dX4_copyFrom_78 : decode cX4_copyFrom 78 = .ok (.getfield 39, 3) := by decide +kernel
theorem dX4_copyFrom_81 : decode cX4_copyFrom 81 = .ok (.putfield 39, 3) := by decide +kernel
theorem dX4_copyFrom_84 : decode cX4_copyFrom 84 = .ok (.aload_n 0, 1) := by decide +kernel
theorem dX4_copyFrom_85 : decode cX4_copyFrom 85 = .ok (.aload_n 1, 1) := by decide +kernel
theorem dX4_copyFrom_86 : decode cX4_copyFrom 86 = .ok (.getfield 42, 3) := by decide +kernel
theorem dX4_copyFrom_89 : decode cX4_copyFrom 89 = .ok (.putfield 42, 3) := by decide +kernel
theorem dX4_copyFrom_92 : decode cX4_copyFrom 92 = .ok (.aload_n 0, 1) := by decide +kernel
theorem dX4_copyFrom_93 : decode cX4_copyFrom 93 = .ok (.aload_n 1, 1) := by decide +kernel
theorem dX4_copyFrom_94 : decode cX4_copyFrom 94 = .ok (.getfield 45, 3) := by decide +kernel
theorem dX4_copyFrom_97 : decode cX4_copyFrom 97 = .ok (.putfield 45, 3) := by decide +kernel
theorem dX4_copyFrom_100 : decode cX4_copyFrom 100 = .ok (.aload_n 0, 1) := by decide +kernel
theorem dX4_copyFrom_101 : decode cX4_copyFrom 101 = .ok (.aload_n 1, 1) := by decide +kernel
theorem dX4_copyFrom_102 : decode cX4_copyFrom 102 = .ok (.getfield 58, 3) := by decide +kernel
theorem dX4_copyFrom_105 : decode cX4_copyFrom 105 = .ok (.putfield 58, 3) := by decide +kernel
theorem dX4_copyFrom_108 : decode cX4_copyFrom 108 = .ok (.aload_n 0, 1) := by decide +kernel
theorem dX4_copyFrom_109 : decode cX4_copyFrom 109 = .ok (.aload_n 1, 1) := by decide +kernel
theorem dX4_copyFrom_110 : decode cX4_copyFrom 110 = .ok (.getfield 61, 3) := by decide +kernel
theorem dX4_copyFrom_113 : decode cX4_copyFrom 113 = .ok (.putfield 61, 3) := by decide +kernel
theorem dX4_copyFrom_116 : decode cX4_copyFrom 116 = .ok (.aload_n 0, 1) := by decide +kernel
theorem dX4_copyFrom_117 : decode cX4_copyFrom 117 = .ok (.aload_n 1, 1) := by decide +kernel
theorem dX4_copyFrom_118 : decode cX4_copyFrom 118 = .ok (.getfield 64, 3) := by decide +kernel
theorem dX4_copyFrom_121 : decode cX4_copyFrom 121 = .ok (.putfield 64, 3) := by decide +kernel
theorem dX4_copyFrom_124 : decode cX4_copyFrom 124 = .ok (.aload_n 0, 1) := by decide +kernel
theorem dX4_copyFrom_125 : decode cX4_copyFrom 125 = .ok (.aload_n 1, 1) := by decide +kernel
theorem dX4_copyFrom_126 : decode cX4_copyFrom 126 = .ok (.getfield 67, 3) := by decide +kernel
theorem dX4_copyFrom_129 : decode cX4_copyFrom 129 = .ok (.putfield 67, 3) := by decide +kernel
theorem dX4_copyFrom_132 : decode cX4_copyFrom 132 = .ok (.aload_n 0, 1) := by decide +kernel
theorem dX4_copyFrom_133 : decode cX4_copyFrom 133 = .ok (.aload_n 1, 1) := by decide +kernel
theorem dX4_copyFrom_134 : decode cX4_copyFrom 134 = .ok (.getfield 70, 3) := by decide +kernel
theorem dX4_copyFrom_137 : decode cX4_copyFrom 137 = .ok (.putfield 70, 3) := by decide +kernel
theorem dX4_copyFrom_140 : decode cX4_copyFrom 140 = .ok (.return_, 1) := by decide +kernel
theorem dX4_isClosed_0 : decode cX4_isClosed 0 = .ok (.iload_n 1, 1) := by decide +kernel
theorem dX4_isClosed_1 : decode cX4_isClosed 1 = .ok (.bipush 52, 2) := by decide +kernel
theorem dX4_isClosed_3 : decode cX4_isClosed 3 = .ok (.irem, 1) := by decide +kernel
theorem dX4_isClosed_4 : decode cX4_isClosed 4 = .ok (.istore_n 2, 1) := by decide +kernel
theorem dX4_isClosed_5 : decode cX4_isClosed 5 = .ok (.aload_n 0, 1) := by decide +kernel
theorem dX4_isClosed_6 : decode cX4_isClosed 6 = .ok (.getfield 29, 3) := by decide +kernel
theorem dX4_isClosed_9 : decode cX4_isClosed 9 = .ok (.aload_n 0, 1) := by decide +kernel
theorem dX4_isClosed_10 : decode cX4_isClosed 10 = .ok (.getfield 33, 3) := by decide +kernel
theorem dX4_isClosed_13 : decode cX4_isClosed 13 = .ok (.if_icmp .le 25, 3) := by decide +kernel
theorem dX4_isClosed_16 : decode cX4_isClosed 16 = .ok (.iload_n 2, 1) := by decide +kernel
theorem dX4_isClosed_17 : decode cX4_isClosed 17 = .ok (.aload_n 0, 1) := by decide +kernel
theorem dX4_isClosed_18 : decode cX4_isClosed 18 = .ok (.getfield 29, 3) := by decide +kernel
theorem dX4_isClosed_21 : decode cX4_isClosed 21 = .ok (.if_icmp .ge 11, 3) := by decide +kernel
theorem dX4_isClosed_24 : decode cX4_isClosed 24 = .ok (.iload_n 2, 1) := by decide +kernel
theorem dX4_isClosed_25 : decode cX4_isClosed 25 = .ok (.aload_n 0, 1) := by decide +kernel
theorem dX4_isClosed_26 : decode cX4_isClosed 26 = .ok (.getfield 33, 3) := by decide +kernel
theorem dX4_isClosed_29 : decode cX4_isClosed 29 = .ok (.if_icmp .gt 7, 3) := by decide +kernel
theorem dX4_isClosed_32 : decode cX4_isClosed 32 = .ok (.iconst 1, 1) := by decide +kernel
theorem dX4_isClosed_33 : decode cX4_isClosed 33 = .ok (.goto 4, 3) := by decide +kernel
theorem dX4_isClosed_36 : decode cX4_isClosed 36 = .ok (.iconst 0, 1) := by decide +kernel
theorem dX4_isClosed_37 : decode cX4_isClosed 37 = .ok (.ireturn, 1) := by decide +kernel
theorem dX4_isClosed_38 : decode cX4_isClosed 38 = .ok (.iload_n 2, 1) := by decide +kernel
theorem dX4_isClosed_39 : decode cX4_isClosed 39 = .ok (.aload_n 0, 1) := by decide +kernel
theorem dX4_isClosed_40 : decode cX4_isClosed 40 = .ok (.getfield 29, 3) := by decide +kernel
theorem dX4_isClosed_43 : decode cX4_isClosed 43 = .ok (.if_icmp .lt 15, 3) := by decide +kernel
theorem dX4_isClosed_46 : decode cX4_isClosed 46 = .ok (.iload_n 2, 1) := by decide +kernel
theorem dX4_isClosed_47 : decode cX4_isClosed 47 = .ok (.aload_n 0, 1) := by decide +kernel
theorem dX4_isClosed_48 : decode cX4_isClosed 48 = .ok (.getfield 33, 3) := by decide +kernel
theorem dX4_isClosed_51 : decode cX4_isClosed 51 = .ok (.if_icmp .gt 7, 3) := by decide +kernel
theorem dX4_isClosed_54 : decode cX4_isClosed 54 = .ok (.iconst 1, 1) := by decide +kernel
theorem dX4_isClosed_55 : decode cX4_isClosed 55 = .ok (.goto 4, 3) := by decide +kernel
theorem dX4_isClosed_58 : decode cX4_isClosed 58 = .ok (.iconst 0, 1) := by decide +kernel
theorem dX4_isClosed_59 : decode cX4_isClosed 59 = .ok (.ireturn, 1) := by decide +kernel
theorem dX4_canLay_0 : decode cX4_canLay 0 = .ok (.aload_n 0, 1) := by decide +kernel
theorem dX4_canLay_1 : decode cX4_canLay 1 = .ok (.getfield 11, 3) := by decide +kernel
theorem dX4_canLay_4 : decode cX4_canLay 4 = .ok (.iload_n 1, 1) := by decide +kernel
theorem dX4_canLay_5 : decode cX4_canLay 5 = .ok (.aaload, 1) := by decide +kernel
theorem dX4_canLay_6 : decode cX4_canLay 6 = .ok (.astore_n 3, 1) := by decide +kernel
theorem dX4_canLay_7 : decode cX4_canLay 7 = .ok (.aload_n 3, 1) := by decide +kernel
theorem dX4_canLay_8 : decode cX4_canLay 8 = .ok (.iload_n 2, 1) := by decide +kernel
theorem dX4_canLay_9 : decode cX4_canLay 9 = .ok (.invokevirtual 73, 3) := by decide +kernel
theorem dX4_canLay_12 : decode cX4_canLay 12 = .ok (.ifCond .eq 27, 3) := by decide +kernel
theorem dX4_canLay_15 : decode cX4_canLay 15 = .ok (.aload_n 0, 1) := by decide +kernel
theorem dX4_canLay_16 : decode cX4_canLay 16 = .ok (.getfield 39, 3) := by decide +kernel
theorem dX4_canLay_19 : decode cX4_canLay 19 = .ok (.aload_n 3, 1) := by decide +kernel
theorem dX4_canLay_20 : decode cX4_canLay 20 = .ok (.iload_n 2, 1) := by decide +kernel
theorem dX4_canLay_21 : decode cX4_canLay 21 = .ok (.invokevirtual 77, 3) := by decide +kernel
theorem dX4_canLay_24 : decode cX4_canLay 24 = .ok (.if_icmp .lt 15, 3) := by decide +kernel
theorem dX4_canLay_27 : decode cX4_canLay 27 = .ok (.aload_n 0, 1) := by decide +kernel
theorem dX4_canLay_28 : decode cX4_canLay 28 = .ok (.getfield 42, 3) := by decide +kernel
theorem dX4_canLay_31 : decode cX4_canLay 31 = .ok (.iconst 2, 1) := by decide +kernel
theorem dX4_canLay_32 : decode cX4_canLay 32 = .ok (.if_icmp .lt 7, 3) := by decide +kernel
theorem dX4_canLay_35 : decode cX4_canLay 35 = .ok (.iconst 1, 1) := by decide +kernel
theorem dX4_canLay_36 : decode cX4_canLay 36 = .ok (.goto 4, 3) := by decide +kernel
theorem dX4_canLay_39 : decode cX4_canLay 39 = .ok (.iconst 0, 1) := by decide +kernel
theorem dX4_canLay_40 : decode cX4_canLay 40 = .ok (.ireturn, 1) := by decide +kernel
theorem dX4_layChain_0 : decode cX4_layChain 0 = .ok (.aload_n 0, 1) := by decide +kernel
theorem dX4_layChain_1 : decode cX4_layChain 1 = .ok (.getfield 11, 3) := by decide +kernel
theorem dX4_layChain_4 : decode cX4_layChain 4 = .ok (.iload_n 1, 1) := by decide +kernel
theorem dX4_layChain_5 : decode cX4_layChain 5 = .ok (.aaload, 1) := by decide +kernel
theorem dX4_layChain_6 : decode cX4_layChain 6 = .ok (.astore_n 3, 1) := by decide +kernel
theorem dX4_layChain_7 : decode cX4_layChain 7 = .ok (.aload_n 3, 1) := by decide +kernel
theorem dX4_layChain_8 : decode cX4_layChain 8 = .ok (.iload_n 2, 1) := by decide +kernel
theorem dX4_layChain_9 : decode cX4_layChain 9 = .ok (.invokevirtual 77, 3) := by decide +kernel
theorem dX4_layChain_12 : decode cX4_layChain 12 = .ok (.istore 4, 2) := by decide +kernel
theorem dX4_layChain_14 : decode cX4_layChain 14 = .ok (.aload_n 0, 1) := by decide +kernel
theorem dX4_layChain_15 : decode cX4_layChain 15 = .ok (.dup, 1) := by decide +kernel
theorem dX4_layChain_16 : decode cX4_layChain 16 = .ok (.getfield 39, 3) := by decide +kernel
theorem dX4_layChain_19 : decode cX4_layChain 19 = .ok (.iload 4, 2) := by decide +kernel
theorem dX4_layChain_21 : decode cX4_layChain 21 = .ok (.isub, 1) := by decide +kernel
theorem dX4_layChain_22 : decode cX4_layChain 22 = .ok (.putfield 39, 3) := by decide +kernel
theorem dX4_layChain_25 : decode cX4_layChain 25 = .ok (.aload_n 0, 1) := by decide +kernel
theorem dX4_layChain_26 : decode cX4_layChain 26 = .ok (.dup, 1) := by decide +kernel
theorem dX4_layChain_27 : decode cX4_layChain 27 = .ok (.getfield 42, 3) := by decide +kernel
theorem dX4_layChain_30 : decode cX4_layChain 30 = .ok (.iconst 2, 1) := by decide +kernel
theorem dX4_layChain_31 : decode cX4_layChain 31 = .ok (.isub, 1) := by decide +kernel
theorem dX4_layChain_32 : decode cX4_layChain 32 = .ok (.putfield 42, 3) := by decide +kernel
theorem dX4_layChain_35 : decode cX4_layChain 35 = .ok (.aload_n 3, 1) := by decide +kernel
theorem dX4_layChain_36 : decode cX4_layChain 36 = .ok (.iload_n 2, 1) := by decide +kernel
theorem dX4_layChain_37 : decode cX4_layChain 37 = .ok (.iconst 1, 1) := by decide +kernel
theorem dX4_layChain_38 : decode cX4_layChain 38 = .ok (.iload 4, 2) := by decide +kernel
theorem dX4_layChain_40 : decode cX4_layChain 40 = .ok (.invokevirtual 81, 3) := by decide +kernel
theorem dX4_layChain_43 : decode cX4_layChain 43 = .ok (.aload_n 0, 1) := by decide +kernel
theorem dX4_layChain_44 : decode cX4_layChain 44 = .ok (.dup, 1) := by decide +kernel
theorem dX4_layChain_45 : decode cX4_layChain 45 = .ok (.getfield 67, 3) := by decide +kernel
theorem dX4_layChain_48 : decode cX4_layChain 48 = .ok (.iconst 1, 1) := by decide +kernel
theorem dX4_layChain_49 : decode cX4_layChain 49 = .ok (.iadd, 1) := by decide +kernel
theorem dX4_layChain_50 : decode cX4_layChain 50 = .ok (.putfield 67, 3) := by decide +kernel
theorem dX4_layChain_53 : decode cX4_layChain 53 = .ok (.aload_n 0, 1) := by decide +kernel
theorem dX4_layChain_54 : decode cX4_layChain 54 = .ok (.getfield 19, 3) := by decide +kernel
theorem dX4_layChain_57 : decode cX4_layChain 57 = .ok (.iload_n 1, 1) := by decide +kernel
theorem dX4_layChain_58 : decode cX4_layChain 58 = .ok (.aaload, 1) := by decide +kernel
theorem dX4_layChain_59 : decode cX4_layChain 59 = .ok (.getfield 84, 3) := by decide +kernel
theorem dX4_layChain_62 : decode cX4_layChain 62 = .ok (.ifCond .eq 39, 3) := by decide +kernel
theorem dX4_layChain_65 : decode cX4_layChain 65 = .ok (.aload_n 0, 1) := by decide +kernel
theorem dX4_layChain_66 : decode cX4_layChain 66 = .ok (.dup, 1) := by decide +kernel
theorem dX4_layChain_67 : decode cX4_layChain 67 = .ok (.getfield 45, 3) := by decide +kernel
theorem dX4_layChain_70 : decode cX4_layChain 70 = .ok (.aload_n 0, 1) := by decide +kernel
theorem dX4_layChain_71 : decode cX4_layChain 71 = .ok (.getfield 19, 3) := by decide +kernel
theorem dX4_layChain_74 : decode cX4_layChain 74 = .ok (.iload_n 1, 1) := by decide +kernel
theorem dX4_layChain_75 : decode cX4_layChain 75 = .ok (.aaload, 1) := by decide +kernel
theorem dX4_layChain_76 : decode cX4_layChain 76 = .ok (.getfield 88, 3) := by decide +kernel
theorem dX4_layChain_79 : decode cX4_layChain 79 = .ok (.iadd, 1) := by decide +kernel
theorem dX4_layChain_80 : decode cX4_layChain 80 = .ok (.putfield 45, 3) := by decide +kernel
theorem dX4_layChain_83 : decode cX4_layChain 83 = .ok (.aload_n 0, 1) := by decide +kernel
theorem dX4_layChain_84 : decode cX4_layChain 84 = .ok (.dup, 1) := by decide +kernel
theorem dX4_layChain_85 : decode cX4_layChain 85 = .ok (.getfield 61, 3) := by decide +kernel
theorem dX4_layChain_88 : decode cX4_layChain 88 = .ok (.aload_n 0, 1) := by decide +kernel
theorem dX4_layChain_89 : decode cX4_layChain 89 = .ok (.getfield 19, 3) := by decide +kernel
theorem dX4_layChain_92 : decode cX4_layChain 92 = .ok (.iload_n 1, 1) := by decide +kernel
theorem dX4_layChain_93 : decode cX4_layChain 93 = .ok (.aaload, 1) := by decide +kernel
theorem dX4_layChain_94 : decode cX4_layChain 94 = .ok (.getfield 88, 3) := by decide +kernel
theorem dX4_layChain_97 : decode cX4_layChain 97 = .ok (.iadd, 1) := by decide +kernel
theorem dX4_layChain_98 : decode cX4_layChain 98 = .ok (.putfield 61, 3) := by decide +kernel
theorem dX4_layChain_101 : decode cX4_layChain 101 = .ok (.aload_n 0, 1) := by decide +kernel
theorem dX4_layChain_102 : decode cX4_layChain 102 = .ok (.iload_n 1, 1) := by decide +kernel
theorem dX4_layChain_103 : decode cX4_layChain 103 = .ok (.invokevirtual 91, 3) := by decide +kernel
theorem dX4_layChain_106 : decode cX4_layChain 106 = .ok (.return_, 1) := by decide +kernel
theorem dX4_canCut_0 : decode cX4_canCut 0 = .ok (.aload_n 0, 1) := by decide +kernel
theorem dX4_canCut_1 : decode cX4_canCut 1 = .ok (.getfield 11, 3) := by decide +kernel
theorem dX4_canCut_4 : decode cX4_canCut 4 = .ok (.iload_n 1, 1) := by decide +kernel
theorem dX4_canCut_5 : decode cX4_canCut 5 = .ok (.aaload, 1) := by decide +kernel
theorem dX4_canCut_6 : decode cX4_canCut 6 = .ok (.iload_n 2, 1) := by decide +kernel
theorem dX4_canCut_7 : decode cX4_canCut 7 = .ok (.invokevirtual 95, 3) := by decide +kernel
theorem dX4_canCut_10 : decode cX4_canCut 10 = .ok (.ifCond .eq 15, 3) := by decide +kernel
theorem dX4_canCut_13 : decode cX4_canCut 13 = .ok (.aload_n 0, 1) := by decide +kernel
theorem dX4_canCut_14 : decode cX4_canCut 14 = .ok (.getfield 39, 3) := by decide +kernel
theorem dX4_canCut_17 : decode cX4_canCut 17 = .ok (.iconst 1, 1) := by decide +kernel
theorem dX4_canCut_18 : decode cX4_canCut 18 = .ok (.if_icmp .lt 7, 3) := by decide +kernel
theorem dX4_canCut_21 : decode cX4_canCut 21 = .ok (.iconst 1, 1) := by decide +kernel
theorem dX4_canCut_22 : decode cX4_canCut 22 = .ok (.goto 4, 3) := by decide +kernel
theorem dX4_canCut_25 : decode cX4_canCut 25 = .ok (.iconst 0, 1) := by decide +kernel
theorem dX4_canCut_26 : decode cX4_canCut 26 = .ok (.ireturn, 1) := by decide +kernel
theorem dX4_cutChain_0 : decode cX4_cutChain 0 = .ok (.aload_n 0, 1) := by decide +kernel
theorem dX4_cutChain_1 : decode cX4_cutChain 1 = .ok (.getfield 11, 3) := by decide +kernel
theorem dX4_cutChain_4 : decode cX4_cutChain 4 = .ok (.iload_n 1, 1) := by decide +kernel
theorem dX4_cutChain_5 : decode cX4_cutChain 5 = .ok (.aaload, 1) := by decide +kernel
theorem dX4_cutChain_6 : decode cX4_cutChain 6 = .ok (.iload_n 2, 1) := by decide +kernel
theorem dX4_cutChain_7 : decode cX4_cutChain 7 = .ok (.invokevirtual 77, 3) := by decide +kernel
theorem dX4_cutChain_10 : decode cX4_cutChain 10 = .ok (.istore_n 3, 1) := by decide +kernel
theorem dX4_cutChain_11 : decode cX4_cutChain 11 = .ok (.aload_n 0, 1) := by decide +kernel
theorem dX4_cutChain_12 : decode cX4_cutChain 12 = .ok (.dup, 1) := by decide +kernel
theorem dX4_cutChain_13 : decode cX4_cutChain 13 = .ok (.getfield 39, 3) := by decide +kernel
theorem dX4_cutChain_16 : decode cX4_cutChain 16 = .ok (.iconst 1, 1) := by decide +kernel
theorem dX4_cutChain_17 : decode cX4_cutChain 17 = .ok (.isub, 1) := by decide +kernel
theorem dX4_cutChain_18 : decode cX4_cutChain 18 = .ok (.putfield 39, 3) := by decide +kernel
theorem dX4_cutChain_21 : decode cX4_cutChain 21 = .ok (.aload_n 0, 1) := by decide +kernel
theorem dX4_cutChain_22 : decode cX4_cutChain 22 = .ok (.dup, 1) := by decide +kernel
theorem dX4_cutChain_23 : decode cX4_cutChain 23 = .ok (.getfield 42, 3) := by decide +kernel
theorem dX4_cutChain_26 : decode cX4_cutChain 26 = .ok (.iload_n 3, 1) := by decide +kernel
theorem dX4_cutChain_27 : decode cX4_cutChain 27 = .ok (.iadd, 1) := by decide +kernel
theorem dX4_cutChain_28 : decode cX4_cutChain 28 = .ok (.putfield 42, 3) := by decide +kernel
theorem dX4_cutChain_31 : decode cX4_cutChain 31 = .ok (.aload_n 0, 1) := by decide +kernel
theorem dX4_cutChain_32 : decode cX4_cutChain 32 = .ok (.getfield 11, 3) := by decide +kernel
theorem dX4_cutChain_35 : decode cX4_cutChain 35 = .ok (.iload_n 1, 1) := by decide +kernel
theorem dX4_cutChain_36 : decode cX4_cutChain 36 = .ok (.aaload, 1) := by decide +kernel
theorem dX4_cutChain_37 : decode cX4_cutChain 37 = .ok (.iload_n 2, 1) := by decide +kernel
theorem dX4_cutChain_38 : decode cX4_cutChain 38 = .ok (.iconst 0, 1) := by decide +kernel
theorem dX4_cutChain_39 : decode cX4_cutChain 39 = .ok (.iload_n 3, 1) := by decide +kernel
theorem dX4_cutChain_40 : decode cX4_cutChain 40 = .ok (.iconst 2, 1) := by decide +kernel
theorem dX4_cutChain_41 : decode cX4_cutChain 41 = .ok (.isub, 1) := by decide +kernel
theorem dX4_cutChain_42 : decode cX4_cutChain 42 = .ok (.invokevirtual 81, 3) := by decide +kernel
theorem dX4_cutChain_45 : decode cX4_cutChain 45 = .ok (.return_, 1) := by decide +kernel
theorem dX4_canPlant_0 : decode cX4_canPlant 0 = .ok (.aload_n 0, 1) := by decide +kernel
theorem dX4_canPlant_1 : decode cX4_canPlant 1 = .ok (.getfield 11, 3) := by decide +kernel
theorem dX4_canPlant_4 : decode cX4_canPlant 4 = .ok (.iload_n 1, 1) := by decide +kernel
theorem dX4_canPlant_5 : decode cX4_canPlant 5 = .ok (.aaload, 1) := by decide +kernel
theorem dX4_canPlant_6 : decode cX4_canPlant 6 = .ok (.iload_n 2, 1) := by decide +kernel
theorem dX4_canPlant_7 : decode cX4_canPlant 7 = .ok (.invokevirtual 98, 3) := by decide +kernel
theorem dX4_canPlant_10 : decode cX4_canPlant 10 = .ok (.iconst 2, 1) := by decide +kernel
theorem dX4_canPlant_11 : decode cX4_canPlant 11 = .ok (.if_icmp .ne 23, 3) := by decide +kernel
theorem dX4_canPlant_14 : decode cX4_canPlant 14 = .ok (.aload_n 0, 1) := by decide +kernel
theorem dX4_canPlant_15 : decode cX4_canPlant 15 = .ok (.getfield 39, 3) := by decide +kernel
theorem dX4_canPlant_18 : decode cX4_canPlant 18 = .ok (.iconst 2, 1) := by decide +kernel
theorem dX4_canPlant_19 : decode cX4_canPlant 19 = .ok (.if_icmp .lt 15, 3) := by decide +kernel
theorem dX4_canPlant_22 : decode cX4_canPlant 22 = .ok (.aload_n 0, 1) := by decide +kernel
theorem dX4_canPlant_23 : decode cX4_canPlant 23 = .ok (.getfield 45, 3) := by decide +kernel
theorem dX4_canPlant_26 : decode cX4_canPlant 26 = .ok (.iconst 3, 1) := by decide +kernel
theorem dX4_canPlant_27 : decode cX4_canPlant 27 = .ok (.if_icmp .lt 7, 3) := by decide +kernel
theorem dX4_canPlant_30 : decode cX4_canPlant 30 = .ok (.iconst 1, 1) := by decide +kernel
theorem dX4_canPlant_31 : decode cX4_canPlant 31 = .ok (.goto 4, 3) := by decide +kernel
theorem dX4_canPlant_34 : decode cX4_canPlant 34 = .ok (.iconst 0, 1) := by decide +kernel
theorem dX4_canPlant_35 : decode cX4_canPlant 35 = .ok (.ireturn, 1) := by decide +kernel
theorem dX4_plantChain_0 : decode cX4_plantChain 0 = .ok (.aload_n 0, 1) := by decide +kernel
theorem dX4_plantChain_1 : decode cX4_plantChain 1 = .ok (.dup, 1) := by decide +kernel
theorem dX4_plantChain_2 : decode cX4_plantChain 2 = .ok (.getfield 39, 3) := by decide +kernel
theorem dX4_plantChain_5 : decode cX4_plantChain 5 = .ok (.iconst 2, 1) := by decide +kernel
theorem dX4_plantChain_6 : decode cX4_plantChain 6 = .ok (.isub, 1) := by decide +kernel
theorem dX4_plantChain_7 : decode cX4_plantChain 7 = .ok (.putfield 39, 3) := by decide +kernel
theorem dX4_plantChain_10 : decode cX4_plantChain 10 = .ok (.aload_n 0, 1) := by decide +kernel
theorem dX4_plantChain_11 : decode cX4_plantChain 11 = .ok (.dup, 1) := by decide +kernel
theorem dX4_plantChain_12 : decode cX4_plantChain 12 = .ok (.getfield 45, 3) := by decide +kernel
theorem dX4_plantChain_15 : decode cX4_plantChain 15 = .ok (.iconst 3, 1) := by decide +kernel
theorem dX4_plantChain_16 : decode cX4_plantChain 16 = .ok (.isub, 1) := by decide +kernel
theorem dX4_plantChain_17 : decode cX4_plantChain 17 = .ok (.putfield 45, 3) := by decide +kernel
theorem dX4_plantChain_20 : decode cX4_plantChain 20 = .ok (.aload_n 0, 1) := by decide +kernel
theorem dX4_plantChain_21 : decode cX4_plantChain 21 = .ok (.getfield 11, 3) := by decide +kernel
theorem dX4_plantChain_24 : decode cX4_plantChain 24 = .ok (.iload_n 1, 1) := by decide +kernel
theorem dX4_plantChain_25 : decode cX4_plantChain 25 = .ok (.aaload, 1) := by decide +kernel
theorem dX4_plantChain_26 : decode cX4_plantChain 26 = .ok (.iload_n 2, 1) := by decide +kernel
theorem dX4_plantChain_27 : decode cX4_plantChain 27 = .ok (.iconst 3, 1) := by decide +kernel
theorem dX4_plantChain_28 : decode cX4_plantChain 28 = .ok (.iconst 0, 1) := by decide +kernel
theorem dX4_plantChain_29 : decode cX4_plantChain 29 = .ok (.invokevirtual 81, 3) := by decide +kernel
theorem dX4_plantChain_32 : decode cX4_plantChain 32 = .ok (.aload_n 0, 1) := by decide +kernel
theorem dX4_plantChain_33 : decode cX4_plantChain 33 = .ok (.dup, 1) := by decide +kernel
theorem dX4_plantChain_34 : decode cX4_plantChain 34 = .ok (.getfield 70, 3) := by decide +kernel
theorem dX4_plantChain_37 : decode cX4_plantChain 37 = .ok (.iconst 1, 1) := by decide +kernel
theorem dX4_plantChain_38 : decode cX4_plantChain 38 = .ok (.iadd, 1) := by decide +kernel
theorem dX4_plantChain_39 : decode cX4_plantChain 39 = .ok (.putfield 70, 3) := by decide +kernel
theorem dX4_plantChain_42 : decode cX4_plantChain 42 = .ok (.return_, 1) := by decide +kernel
theorem dX4_grubChain_0 : decode cX4_grubChain 0 = .ok (.aload_n 0, 1) := by decide +kernel
theorem dX4_grubChain_1 : decode cX4_grubChain 1 = .ok (.getfield 11, 3) := by decide +kernel
theorem dX4_grubChain_4 : decode cX4_grubChain 4 = .ok (.iload_n 1, 1) := by decide +kernel
theorem dX4_grubChain_5 : decode cX4_grubChain 5 = .ok (.aaload, 1) := by decide +kernel
theorem dX4_grubChain_6 : decode cX4_grubChain 6 = .ok (.iload_n 2, 1) := by decide +kernel
theorem dX4_grubChain_7 : decode cX4_grubChain 7 = .ok (.iconst 2, 1) := by decide +kernel
theorem dX4_grubChain_8 : decode cX4_grubChain 8 = .ok (.iconst 0, 1) := by decide +kernel
theorem dX4_grubChain_9 : decode cX4_grubChain 9 = .ok (.invokevirtual 81, 3) := by decide +kernel
theorem dX4_grubChain_12 : decode cX4_grubChain 12 = .ok (.aload_n 0, 1) := by decide +kernel
theorem dX4_grubChain_13 : decode cX4_grubChain 13 = .ok (.iload_n 1, 1) := by decide +kernel
theorem dX4_grubChain_14 : decode cX4_grubChain 14 = .ok (.invokevirtual 91, 3) := by decide +kernel
theorem dX4_grubChain_17 : decode cX4_grubChain 17 = .ok (.return_, 1) := by decide +kernel
theorem dX4_replaceHedge_0 : decode cX4_replaceHedge 0 = .ok (.aload_n 0, 1) := by decide +kernel
theorem dX4_replaceHedge_1 : decode cX4_replaceHedge 1 = .ok (.getfield 11, 3) := by decide +kernel
theorem dX4_replaceHedge_4 : decode cX4_replaceHedge 4 = .ok (.iload_n 1, 1) := by decide +kernel
theorem dX4_replaceHedge_5 : decode cX4_replaceHedge 5 = .ok (.aaload, 1) := by decide +kernel
theorem dX4_replaceHedge_6 : decode cX4_replaceHedge 6 = .ok (.aload_n 2, 1) := by decide +kernel
theorem dX4_replaceHedge_7 : decode cX4_replaceHedge 7 = .ok (.invokevirtual 48, 3) := by decide +kernel
theorem dX4_replaceHedge_10 : decode cX4_replaceHedge 10 = .ok (.aload_n 0, 1) := by decide +kernel
theorem dX4_replaceHedge_11 : decode cX4_replaceHedge 11 = .ok (.iload_n 1, 1) := by decide +kernel
theorem dX4_replaceHedge_12 : decode cX4_replaceHedge 12 = .ok (.invokevirtual 91, 3) := by decide +kernel
theorem dX4_replaceHedge_15 : decode cX4_replaceHedge 15 = .ok (.return_, 1) := by decide +kernel
theorem dX4_endContractIfNoneStands_0 : decode cX4_endContractIfNoneStands 0 = .ok (.aload_n 0, 1) := by decide +kernel
theorem dX4_endContractIfNoneStands_1 : decode cX4_endContractIfNoneStands 1 = .ok (.getfield 11, 3) := by decide +kernel
theorem dX4_endContractIfNoneStands_4 : decode cX4_endContractIfNoneStands 4 = .ok (.iload_n 1, 1) := by decide +kernel
theorem dX4_endContractIfNoneStands_5 : decode cX4_endContractIfNoneStands 5 = .ok (.aaload, 1) := by decide +kernel
theorem dX4_endContractIfNoneStands_6 : decode cX4_endContractIfNoneStands 6 = .ok (.iconst 0, 1) := by decide +kernel
theorem dX4_endContractIfNoneStands_7 : decode cX4_endContractIfNoneStands 7 = .ok (.invokevirtual 101, 3) := by decide +kernel
theorem dX4_endContractIfNoneStands_10 : decode cX4_endContractIfNoneStands 10 = .ok (.ifCond .ne 13, 3) := by decide +kernel
theorem dX4_endContractIfNoneStands_13 : decode cX4_endContractIfNoneStands 13 = .ok (.aload_n 0, 1) := by decide +kernel
theorem dX4_endContractIfNoneStands_14 : decode cX4_endContractIfNoneStands 14 = .ok (.getfield 19, 3) := by decide +kernel
theorem dX4_endContractIfNoneStands_17 : decode cX4_endContractIfNoneStands 17 = .ok (.iload_n 1, 1) := by decide +kernel
theorem dX4_endContractIfNoneStands_18 : decode cX4_endContractIfNoneStands 18 = .ok (.aaload, 1) := by decide +kernel
theorem dX4_endContractIfNoneStands_19 : decode cX4_endContractIfNoneStands 19 = .ok (.iconst 0, 1) := by decide +kernel
theorem dX4_endContractIfNoneStands_20 : decode cX4_endContractIfNoneStands 20 = .ok (.putfield 84, 3) := by decide +kernel
theorem dX4_endContractIfNoneStands_23 : decode cX4_endContractIfNoneStands 23 = .ok (.return_, 1) := by decide +kernel
theorem dX4_numberOfContracts_0 : decode cX4_numberOfContracts 0 = .ok (.iconst 0, 1) := by decide +kernel
theorem dX4_numberOfContracts_1 : decode cX4_numberOfContracts 1 = .ok (.istore_n 1, 1) := by decide +kernel
theorem dX4_numberOfContracts_2 : decode cX4_numberOfContracts 2 = .ok (.iconst 0, 1) := by decide +kernel
theorem dX4_numberOfContracts_3 : decode cX4_numberOfContracts 3 = .ok (.istore_n 2, 1) := by decide +kernel
theorem dX4_numberOfContracts_4 : decode cX4_numberOfContracts 4 = .ok (.iload_n 2, 1) := by decide +kernel
theorem dX4_numberOfContracts_5 : decode cX4_numberOfContracts 5 = .ok (.bipush 6, 2) := by decide +kernel
theorem dX4_numberOfContracts_7 : decode cX4_numberOfContracts 7 = .ok (.if_icmp .ge 24, 3) := by decide +kernel
theorem dX4_numberOfContracts_10 : decode cX4_numberOfContracts 10 = .ok (.aload_n 0, 1) := by decide +kernel
theorem dX4_numberOfContracts_11 : decode cX4_numberOfContracts 11 = .ok (.getfield 19, 3) := by decide +kernel
theorem dX4_numberOfContracts_14 : decode cX4_numberOfContracts 14 = .ok (.iload_n 2, 1) := by decide +kernel
theorem dX4_numberOfContracts_15 : decode cX4_numberOfContracts 15 = .ok (.aaload, 1) := by decide +kernel
theorem dX4_numberOfContracts_16 : decode cX4_numberOfContracts 16 = .ok (.getfield 84, 3) := by decide +kernel
theorem dX4_numberOfContracts_19 : decode cX4_numberOfContracts 19 = .ok (.ifCond .eq 6, 3) := by decide +kernel
theorem dX4_numberOfContracts_22 : decode cX4_numberOfContracts 22 = .ok (.iinc 1 1, 3) := by decide +kernel
theorem dX4_numberOfContracts_25 : decode cX4_numberOfContracts 25 = .ok (.iinc 2 1, 3) := by decide +kernel
theorem dX4_numberOfContracts_28 : decode cX4_numberOfContracts 28 = .ok (.goto (-24), 3) := by decide +kernel
theorem dX4_numberOfContracts_31 : decode cX4_numberOfContracts 31 = .ok (.iload_n 1, 1) := by decide +kernel
theorem dX4_numberOfContracts_32 : decode cX4_numberOfContracts 32 = .ok (.ireturn, 1) := by decide +kernel
theorem dX4_passWeek_0 : decode cX4_passWeek 0 = .ok (.aload_n 0, 1) := by decide +kernel
theorem dX4_passWeek_1 : decode cX4_passWeek 1 = .ok (.dup, 1) := by decide +kernel
theorem dX4_passWeek_2 : decode cX4_passWeek 2 = .ok (.getfield 55, 3) := by decide +kernel
theorem dX4_passWeek_5 : decode cX4_passWeek 5 = .ok (.iconst 1, 1) := by decide +kernel
theorem dX4_passWeek_6 : decode cX4_passWeek 6 = .ok (.iadd, 1) := by decide +kernel
theorem dX4_passWeek_7 : decode cX4_passWeek 7 = .ok (.putfield 55, 3) := by decide +kernel
theorem dX4_passWeek_10 : decode cX4_passWeek 10 = .ok (.aload_n 0, 1) := by decide +kernel
theorem dX4_passWeek_11 : decode cX4_passWeek 11 = .ok (.aload_n 0, 1) := by decide +kernel
theorem dX4_passWeek_12 : decode cX4_passWeek 12 = .ok (.getfield 36, 3) := by decide +kernel
theorem dX4_passWeek_15 : decode cX4_passWeek 15 = .ok (.putfield 39, 3) := by decide +kernel
theorem dX4_passWeek_18 : decode cX4_passWeek 18 = .ok (.iconst 0, 1) := by decide +kernel
theorem dX4_passWeek_19 : decode cX4_passWeek 19 = .ok (.istore_n 1, 1) := by decide +kernel
theorem dX4_passWeek_20 : decode cX4_passWeek 20 = .ok (.iload_n 1, 1) := by decide +kernel
theorem dX4_passWeek_21 : decode cX4_passWeek 21 = .ok (.bipush 6, 2) := by decide +kernel
theorem dX4_passWeek_23 : decode cX4_passWeek 23 = .ok (.if_icmp .ge 22, 3) := by decide +kernel
theorem dX4_passWeek_26 : decode cX4_passWeek 26 = .ok (.aload_n 0, 1) := by decide +kernel
theorem dX4_passWeek_27 : decode cX4_passWeek 27 = .ok (.getfield 11, 3) := by decide +kernel
theorem dX4_passWeek_30 : decode cX4_passWeek 30 = .ok (.iload_n 1, 1) := by decide +kernel
theorem dX4_passWeek_31 : decode cX4_passWeek 31 = .ok (.aaload, 1) := by decide +kernel
theorem dX4_passWeek_32 : decode cX4_passWeek 32 = .ok (.aload_n 0, 1) := by decide +kernel
theorem dX4_passWeek_33 : decode cX4_passWeek 33 = .ok (.getfield 55, 3) := by decide +kernel
theorem dX4_passWeek_36 : decode cX4_passWeek 36 = .ok (.invokevirtual 104, 3) := by decide +kernel
theorem dX4_passWeek_39 : decode cX4_passWeek 39 = .ok (.iinc 1 1, 3) := by decide +kernel
theorem dX4_passWeek_42 : decode cX4_passWeek 42 = .ok (.goto (-22), 3) := by decide +kernel
theorem dX4_passWeek_45 : decode cX4_passWeek 45 = .ok (.aload_n 0, 1) := by decide +kernel
theorem dX4_passWeek_46 : decode cX4_passWeek 46 = .ok (.invokevirtual 107, 3) := by decide +kernel
theorem dX4_passWeek_49 : decode cX4_passWeek 49 = .ok (.istore_n 1, 1) := by decide +kernel
theorem dX4_passWeek_50 : decode cX4_passWeek 50 = .ok (.aload_n 0, 1) := by decide +kernel
theorem dX4_passWeek_51 : decode cX4_passWeek 51 = .ok (.dup, 1) := by decide +kernel
theorem dX4_passWeek_52 : decode cX4_passWeek 52 = .ok (.getfield 64, 3) := by decide +kernel
theorem dX4_passWeek_55 : decode cX4_passWeek 55 = .ok (.iload_n 1, 1) := by decide +kernel
theorem dX4_passWeek_56 : decode cX4_passWeek 56 = .ok (.iadd, 1) := by decide +kernel
theorem dX4_passWeek_57 : decode cX4_passWeek 57 = .ok (.putfield 64, 3) := by decide +kernel
theorem dX4_passWeek_60 : decode cX4_passWeek 60 = .ok (.aload_n 0, 1) := by decide +kernel
theorem dX4_passWeek_61 : decode cX4_passWeek 61 = .ok (.iload_n 1, 1) := by decide +kernel
theorem dX4_passWeek_62 : decode cX4_passWeek 62 = .ok (.invokevirtual 111, 3) := by decide +kernel
theorem dX4_passWeek_65 : decode cX4_passWeek 65 = .ok (.iload_n 1, 1) := by decide +kernel
theorem dX4_passWeek_66 : decode cX4_passWeek 66 = .ok (.ireturn, 1) := by decide +kernel
theorem dX4_finesDue_0 : decode cX4_finesDue 0 = .ok (.iconst 0, 1) := by decide +kernel
theorem dX4_finesDue_1 : decode cX4_finesDue 1 = .ok (.istore_n 1, 1) := by decide +kernel
theorem dX4_finesDue_2 : decode cX4_finesDue 2 = .ok (.iconst 0, 1) := by decide +kernel
theorem dX4_finesDue_3 : decode cX4_finesDue 3 = .ok (.istore_n 2, 1) := by decide +kernel
theorem dX4_finesDue_4 : decode cX4_finesDue 4 = .ok (.iload_n 2, 1) := by decide +kernel
theorem dX4_finesDue_5 : decode cX4_finesDue 5 = .ok (.bipush 6, 2) := by decide +kernel
theorem dX4_finesDue_7 : decode cX4_finesDue 7 = .ok (.if_icmp .ge 45, 3) := by decide +kernel
theorem dX4_finesDue_10 : decode cX4_finesDue 10 = .ok (.aload_n 0, 1) := by decide +kernel
theorem dX4_finesDue_11 : decode cX4_finesDue 11 = .ok (.getfield 19, 3) := by decide +kernel
theorem dX4_finesDue_14 : decode cX4_finesDue 14 = .ok (.iload_n 2, 1) := by decide +kernel
theorem dX4_finesDue_15 : decode cX4_finesDue 15 = .ok (.aaload, 1) := by decide +kernel
theorem dX4_finesDue_16 : decode cX4_finesDue 16 = .ok (.getfield 84, 3) := by decide +kernel
theorem dX4_finesDue_19 : decode cX4_finesDue 19 = .ok (.ifCond .eq 27, 3) := by decide +kernel
theorem dX4_finesDue_22 : decode cX4_finesDue 22 = .ok (.aload_n 0, 1) := by decide +kernel
theorem dX4_finesDue_23 : decode cX4_finesDue 23 = .ok (.getfield 19, 3) := by decide +kernel
theorem dX4_finesDue_26 : decode cX4_finesDue 26 = .ok (.iload_n 2, 1) := by decide +kernel
theorem dX4_finesDue_27 : decode cX4_finesDue 27 = .ok (.aaload, 1) := by decide +kernel
theorem dX4_finesDue_28 : decode cX4_finesDue 28 = .ok (.getfield 114, 3) := by decide +kernel
theorem dX4_finesDue_31 : decode cX4_finesDue 31 = .ok (.aload_n 0, 1) := by decide +kernel
theorem dX4_finesDue_32 : decode cX4_finesDue 32 = .ok (.getfield 55, 3) := by decide +kernel
theorem dX4_finesDue_35 : decode cX4_finesDue 35 = .ok (.if_icmp .ge 11, 3) := by decide +kernel
theorem dX4_finesDue_38 : decode cX4_finesDue 38 = .ok (.iload_n 1, 1) := by decide +kernel
theorem dX4_finesDue_39 : decode cX4_finesDue 39 = .ok (.aload_n 0, 1) := by decide +kernel
theorem dX4_finesDue_40 : decode cX4_finesDue 40 = .ok (.iload_n 2, 1) := by decide +kernel
theorem dX4_finesDue_41 : decode cX4_finesDue 41 = .ok (.invokevirtual 117, 3) := by decide +kernel
theorem dX4_finesDue_44 : decode cX4_finesDue 44 = .ok (.iadd, 1) := by decide +kernel
theorem dX4_finesDue_45 : decode cX4_finesDue 45 = .ok (.istore_n 1, 1) := by decide +kernel
theorem dX4_finesDue_46 : decode cX4_finesDue 46 = .ok (.iinc 2 1, 3) := by decide +kernel
theorem dX4_finesDue_49 : decode cX4_finesDue 49 = .ok (.goto (-45), 3) := by decide +kernel
theorem dX4_finesDue_52 : decode cX4_finesDue 52 = .ok (.iload_n 1, 1) := by decide +kernel
theorem dX4_finesDue_53 : decode cX4_finesDue 53 = .ok (.ireturn, 1) := by decide +kernel
theorem dX4_finePerWeek_0 : decode cX4_finePerWeek 0 = .ok (.aload_n 0, 1) := by decide +kernel
theorem dX4_finePerWeek_1 : decode cX4_finePerWeek 1 = .ok (.getfield 19, 3) := by decide +kernel
theorem dX4_finePerWeek_4 : decode cX4_finePerWeek 4 = .ok (.iload_n 1, 1) := by decide +kernel
theorem dX4_finePerWeek_5 : decode cX4_finePerWeek 5 = .ok (.aaload, 1) := by decide +kernel
theorem dX4_finePerWeek_6 : decode cX4_finePerWeek 6 = .ok (.getfield 120, 3) := by decide +kernel
theorem dX4_finePerWeek_9 : decode cX4_finePerWeek 9 = .ok (.aload_n 0, 1) := by decide +kernel
theorem dX4_finePerWeek_10 : decode cX4_finePerWeek 10 = .ok (.getfield 11, 3) := by decide +kernel
theorem dX4_finePerWeek_13 : decode cX4_finePerWeek 13 = .ok (.iload_n 1, 1) := by decide +kernel
theorem dX4_finePerWeek_14 : decode cX4_finePerWeek 14 = .ok (.aaload, 1) := by decide +kernel
theorem dX4_finePerWeek_15 : decode cX4_finePerWeek 15 = .ok (.iconst 0, 1) := by decide +kernel
theorem dX4_finePerWeek_16 : decode cX4_finePerWeek 16 = .ok (.invokevirtual 101, 3) := by decide +kernel
theorem dX4_finePerWeek_19 : decode cX4_finePerWeek 19 = .ok (.imul, 1) := by decide +kernel
theorem dX4_finePerWeek_20 : decode cX4_finePerWeek 20 = .ok (.ireturn, 1) := by decide +kernel
theorem dX4_spend_0 : decode cX4_spend 0 = .ok (.aload_n 0, 1) := by decide +kernel
theorem dX4_spend_1 : decode cX4_spend 1 = .ok (.getfield 45, 3) := by decide +kernel
theorem dX4_spend_4 : decode cX4_spend 4 = .ok (.iload_n 1, 1) := by decide +kernel
theorem dX4_spend_5 : decode cX4_spend 5 = .ok (.invokestatic 123, 3) := by decide +kernel
theorem dX4_spend_8 : decode cX4_spend 8 = .ok (.istore_n 2, 1) := by decide +kernel
theorem dX4_spend_9 : decode cX4_spend 9 = .ok (.aload_n 0, 1) := by decide +kernel
theorem dX4_spend_10 : decode cX4_spend 10 = .ok (.dup, 1) := by decide +kernel
theorem dX4_spend_11 : decode cX4_spend 11 = .ok (.getfield 45, 3) := by decide +kernel
theorem dX4_spend_14 : decode cX4_spend 14 = .ok (.iload_n 2, 1) := by decide +kernel
theorem dX4_spend_15 : decode cX4_spend 15 = .ok (.isub, 1) := by decide +kernel
theorem dX4_spend_16 : decode cX4_spend 16 = .ok (.putfield 45, 3) := by decide +kernel
theorem dX4_spend_19 : decode cX4_spend 19 = .ok (.aload_n 0, 1) := by decide +kernel
theorem dX4_spend_20 : decode cX4_spend 20 = .ok (.dup, 1) := by decide +kernel
theorem dX4_spend_21 : decode cX4_spend 21 = .ok (.getfield 58, 3) := by decide +kernel
theorem dX4_spend_24 : decode cX4_spend 24 = .ok (.iload_n 1, 1) := by decide +kernel
theorem dX4_spend_25 : decode cX4_spend 25 = .ok (.iload_n 2, 1) := by decide +kernel
theorem dX4_spend_26 : decode cX4_spend 26 = .ok (.isub, 1) := by decide +kernel
theorem dX4_spend_27 : decode cX4_spend 27 = .ok (.iadd, 1) := by decide +kernel
theorem dX4_spend_28 : decode cX4_spend 28 = .ok (.putfield 58, 3) := by decide +kernel
theorem dX4_spend_31 : decode cX4_spend 31 = .ok (.return_, 1) := by decide +kernel
theorem dX4_settingOf_0 : decode cX4_settingOf 0 = .ok (.iload_n 1, 1) := by decide +kernel
theorem dX4_settingOf_1 : decode cX4_settingOf 1 = .ok (.lookupswitch 37 #[(0, 27), (1, 32)], 27) := by decide +kernel
theorem dX4_settingOf_28 : decode cX4_settingOf 28 = .ok (.aload_n 0, 1) := by decide +kernel
theorem dX4_settingOf_29 : decode cX4_settingOf 29 = .ok (.getfield 29, 3) := by decide +kernel
theorem dX4_settingOf_32 : decode cX4_settingOf 32 = .ok (.ireturn, 1) := by decide +kernel
theorem dX4_settingOf_33 : decode cX4_settingOf 33 = .ok (.aload_n 0, 1) := by decide +kernel
theorem dX4_settingOf_34 : decode cX4_settingOf 34 = .ok (.getfield 33, 3) := by decide +kernel
theorem dX4_settingOf_37 : decode cX4_settingOf 37 = .ok (.ireturn, 1) := by decide +kernel
theorem dX4_settingOf_38 : decode cX4_settingOf 38 = .ok (.aload_n 0, 1) := by decide +kernel
theorem dX4_settingOf_39 : decode cX4_settingOf 39 = .ok (.getfield 36, 3) := by decide +kernel
theorem dX4_settingOf_42 : decode cX4_settingOf 42 = .ok (.ireturn, 1) := by decide +kernel
theorem dX4_changeSetting_0 : decode cX4_changeSetting 0 = .ok (.iload_n 1, 1) := by decide +kernel
theorem dX4_changeSetting_1 : decode cX4_changeSetting 1 = .ok (.lookupswitch 43 #[(0, 27), (1, 35)], 27) := by decide +kernel
theorem dX4_changeSetting_28 : decode cX4_changeSetting 28 = .ok (.aload_n 0, 1) := by decide +kernel
theorem dX4_changeSetting_29 : decode cX4_changeSetting 29 = .ok (.iload_n 2, 1) := by decide +kernel
theorem dX4_changeSetting_30 : decode cX4_changeSetting 30 = .ok (.putfield 29, 3) := by decide +kernel
theorem dX4_changeSetting_33 : decode cX4_changeSetting 33 = .ok (.goto 35, 3) := by decide +kernel
theorem dX4_changeSetting_36 : decode cX4_changeSetting 36 = .ok (.aload_n 0, 1) := by decide +kernel
theorem dX4_changeSetting_37 : decode cX4_changeSetting 37 = .ok (.iload_n 2, 1) := by decide +kernel
theorem dX4_changeSetting_38 : decode cX4_changeSetting 38 = .ok (.putfield 33, 3) := by decide +kernel
theorem dX4_changeSetting_41 : decode cX4_changeSetting 41 = .ok (.goto 27, 3) := by decide +kernel
theorem dX4_changeSetting_44 : decode cX4_changeSetting 44 = .ok (.aload_n 0, 1) := by decide +kernel
theorem dX4_changeSetting_45 : decode cX4_changeSetting 45 = .ok (.aload_n 0, 1) := by decide +kernel
theorem dX4_changeSetting_46 : decode cX4_changeSetting 46 = .ok (.getfield 39, 3) := by decide +kernel
theorem dX4_changeSetting_49 : decode cX4_changeSetting 49 = .ok (.iload_n 2, 1) := by decide +kernel
theorem dX4_changeSetting_50 : decode cX4_changeSetting 50 = .ok (.iadd, 1) := by decide +kernel
theorem dX4_changeSetting_51 : decode cX4_changeSetting 51 = .ok (.aload_n 0, 1) := by decide +kernel
theorem dX4_changeSetting_52 : decode cX4_changeSetting 52 = .ok (.getfield 36, 3) := by decide +kernel
theorem dX4_changeSetting_55 : decode cX4_changeSetting 55 = .ok (.isub, 1) := by decide +kernel
theorem dX4_changeSetting_56 : decode cX4_changeSetting 56 = .ok (.iconst 0, 1) := by decide +kernel
theorem dX4_changeSetting_57 : decode cX4_changeSetting 57 = .ok (.invokestatic 129, 3) := by decide +kernel
theorem dX4_changeSetting_60 : decode cX4_changeSetting 60 = .ok (.putfield 39, 3) := by decide +kernel
theorem dX4_changeSetting_63 : decode cX4_changeSetting 63 = .ok (.aload_n 0, 1) := by decide +kernel
theorem dX4_changeSetting_64 : decode cX4_changeSetting 64 = .ok (.iload_n 2, 1) := by decide +kernel
theorem dX4_changeSetting_65 : decode cX4_changeSetting 65 = .ok (.putfield 36, 3) := by decide +kernel
theorem dX4_changeSetting_68 : decode cX4_changeSetting 68 = .ok (.return_, 1) := by decide +kernel
theorem dX4_weeksUntilLaid_0 : decode cX4_weeksUntilLaid 0 = .ok (.aload_n 0, 1) := by decide +kernel
theorem dX4_weeksUntilLaid_1 : decode cX4_weeksUntilLaid 1 = .ok (.getfield 11, 3) := by decide +kernel
theorem dX4_weeksUntilLaid_4 : decode cX4_weeksUntilLaid 4 = .ok (.iload_n 1, 1) := by decide +kernel
theorem dX4_weeksUntilLaid_5 : decode cX4_weeksUntilLaid 5 = .ok (.aaload, 1) := by decide +kernel
theorem dX4_weeksUntilLaid_6 : decode cX4_weeksUntilLaid 6 = .ok (.astore_n 2, 1) := by decide +kernel
theorem dX4_weeksUntilLaid_7 : decode cX4_weeksUntilLaid 7 = .ok (.iconst 0, 1) := by decide +kernel
theorem dX4_weeksUntilLaid_8 : decode cX4_weeksUntilLaid 8 = .ok (.istore_n 3, 1) := by decide +kernel
theorem dX4_weeksUntilLaid_9 : decode cX4_weeksUntilLaid 9 = .ok (.aload_n 0, 1) := by decide +kernel
theorem dX4_weeksUntilLaid_10 : decode cX4_weeksUntilLaid 10 = .ok (.iconst 0, 1) := by decide +kernel
theorem dX4_weeksUntilLaid_11 : decode cX4_weeksUntilLaid 11 = .ok (.invokevirtual 132, 3) := by decide +kernel
theorem dX4_weeksUntilLaid_14 : decode cX4_weeksUntilLaid 14 = .ok (.istore 4, 2) := by decide +kernel
theorem dX4_weeksUntilLaid_16 : decode cX4_weeksUntilLaid 16 = .ok (.iconst 0, 1) := by decide +kernel
theorem dX4_weeksUntilLaid_17 : decode cX4_weeksUntilLaid 17 = .ok (.istore 5, 2) := by decide +kernel
theorem dX4_weeksUntilLaid_19 : decode cX4_weeksUntilLaid 19 = .ok (.iload 5, 2) := by decide +kernel
theorem dX4_weeksUntilLaid_21 : decode cX4_weeksUntilLaid 21 = .ok (.aload_n 2, 1) := by decide +kernel
theorem dX4_weeksUntilLaid_22 : decode cX4_weeksUntilLaid 22 = .ok (.getfield 135, 3) := by decide +kernel
theorem dX4_weeksUntilLaid_25 : decode cX4_weeksUntilLaid 25 = .ok (.if_icmp .ge 74, 3) := by decide +kernel
theorem dX4_weeksUntilLaid_28 : decode cX4_weeksUntilLaid 28 = .ok (.aload_n 2, 1) := by decide +kernel
theorem dX4_weeksUntilLaid_29 : decode cX4_weeksUntilLaid 29 = .ok (.iload 5, 2) := by decide +kernel
theorem dX4_weeksUntilLaid_31 : decode cX4_weeksUntilLaid 31 = .ok (.invokevirtual 73, 3) := by decide +kernel
theorem dX4_weeksUntilLaid_34 : decode cX4_weeksUntilLaid 34 = .ok (.ifCond .eq 12, 3) := by decide +kernel
theorem dX4_weeksUntilLaid_37 : decode cX4_weeksUntilLaid 37 = .ok (.aload_n 2, 1) := by decide +kernel
theorem dX4_weeksUntilLaid_38 : decode cX4_weeksUntilLaid 38 = .ok (.iload 5, 2) := by decide +kernel
theorem dX4_weeksUntilLaid_40 : decode cX4_weeksUntilLaid 40 = .ok (.invokevirtual 77, 3) := by decide +kernel
theorem dX4_weeksUntilLaid_43 : decode cX4_weeksUntilLaid 43 = .ok (.goto 4, 3) := by decide +kernel
theorem dX4_weeksUntilLaid_46 : decode cX4_weeksUntilLaid 46 = .ok (.iconst 0, 1) := by decide +kernel
theorem dX4_weeksUntilLaid_47 : decode cX4_weeksUntilLaid 47 = .ok (.istore 6, 2) := by decide +kernel
theorem dX4_weeksUntilLaid_49 : decode cX4_weeksUntilLaid 49 = .ok (.iload 4, 2) := by decide +kernel
theorem dX4_weeksUntilLaid_51 : decode cX4_weeksUntilLaid 51 = .ok (.iload 6, 2) := by decide +kernel
theorem dX4_weeksUntilLaid_53 : decode cX4_weeksUntilLaid 53 = .ok (.if_icmp .ge 23, 3) := by decide +kernel
theorem dX4_weeksUntilLaid_56 : decode cX4_weeksUntilLaid 56 = .ok (.iload_n 3, 1) := by decide +kernel
theorem dX4_weeksUntilLaid_57 : decode cX4_weeksUntilLaid 57 = .ok (.sipush 200, 3) := by decide +kernel
theorem dX4_weeksUntilLaid_60 : decode cX4_weeksUntilLaid 60 = .ok (.if_icmp .ge 16, 3) := by decide +kernel
theorem dX4_weeksUntilLaid_63 : decode cX4_weeksUntilLaid 63 = .ok (.iinc 3 1, 3) := by decide +kernel
theorem dX4_weeksUntilLaid_66 : decode cX4_weeksUntilLaid 66 = .ok (.aload_n 0, 1) := by decide +kernel
theorem dX4_weeksUntilLaid_67 : decode cX4_weeksUntilLaid 67 = .ok (.iload_n 3, 1) := by decide +kernel
theorem dX4_weeksUntilLaid_68 : decode cX4_weeksUntilLaid 68 = .ok (.invokevirtual 132, 3) := by decide +kernel
theorem dX4_weeksUntilLaid_71 : decode cX4_weeksUntilLaid 71 = .ok (.istore 4, 2) := by decide +kernel
theorem dX4_weeksUntilLaid_73 : decode cX4_weeksUntilLaid 73 = .ok (.goto (-24), 3) := by decide +kernel
theorem dX4_weeksUntilLaid_76 : decode cX4_weeksUntilLaid 76 = .ok (.iload 4, 2) := by decide +kernel
theorem dX4_weeksUntilLaid_78 : decode cX4_weeksUntilLaid 78 = .ok (.iload 6, 2) := by decide +kernel
theorem dX4_weeksUntilLaid_80 : decode cX4_weeksUntilLaid 80 = .ok (.if_icmp .ge 6, 3) := by decide +kernel
theorem dX4_weeksUntilLaid_83 : decode cX4_weeksUntilLaid 83 = .ok (.bipush (-9), 2) := by decide +kernel
theorem dX4_weeksUntilLaid_85 : decode cX4_weeksUntilLaid 85 = .ok (.ireturn, 1) := by decide +kernel
theorem dX4_weeksUntilLaid_86 : decode cX4_weeksUntilLaid 86 = .ok (.iload 4, 2) := by decide +kernel
theorem dX4_weeksUntilLaid_88 : decode cX4_weeksUntilLaid 88 = .ok (.iload 6, 2) := by decide +kernel
theorem dX4_weeksUntilLaid_90 : decode cX4_weeksUntilLaid 90 = .ok (.isub, 1) := by decide +kernel
theorem dX4_weeksUntilLaid_91 : decode cX4_weeksUntilLaid 91 = .ok (.istore 4, 2) := by decide +kernel
theorem dX4_weeksUntilLaid_93 : decode cX4_weeksUntilLaid 93 = .ok (.iinc 5 1, 3) := by decide +kernel
theorem dX4_weeksUntilLaid_96 : decode cX4_weeksUntilLaid 96 = .ok (.goto (-77), 3) := by decide +kernel
theorem dX4_weeksUntilLaid_99 : decode cX4_weeksUntilLaid 99 = .ok (.iload_n 3, 1) := by decide +kernel
theorem dX4_weeksUntilLaid_100 : decode cX4_weeksUntilLaid 100 = .ok (.ireturn, 1) := by decide +kernel
theorem dX4_workAfter_0 : decode cX4_workAfter 0 = .ok (.aload_n 0, 1) := by decide +kernel
theorem dX4_workAfter_1 : decode cX4_workAfter 1 = .ok (.aload_n 0, 1) := by decide +kernel
theorem dX4_workAfter_2 : decode cX4_workAfter 2 = .ok (.getfield 55, 3) := by decide +kernel
theorem dX4_workAfter_5 : decode cX4_workAfter 5 = .ok (.iload_n 1, 1) := by decide +kernel
theorem dX4_workAfter_6 : decode cX4_workAfter 6 = .ok (.iadd, 1) := by decide +kernel
theorem dX4_workAfter_7 : decode cX4_workAfter 7 = .ok (.invokevirtual 138, 3) := by decide +kernel
theorem dX4_workAfter_10 : decode cX4_workAfter 10 = .ok (.ifCond .eq 5, 3) := by decide +kernel
theorem dX4_workAfter_13 : decode cX4_workAfter 13 = .ok (.iconst 0, 1) := by decide +kernel
theorem dX4_workAfter_14 : decode cX4_workAfter 14 = .ok (.ireturn, 1) := by decide +kernel
theorem dX4_workAfter_15 : decode cX4_workAfter 15 = .ok (.iload_n 1, 1) := by decide +kernel
theorem dX4_workAfter_16 : decode cX4_workAfter 16 = .ok (.ifCond .ne 10, 3) := by decide +kernel
theorem dX4_workAfter_19 : decode cX4_workAfter 19 = .ok (.aload_n 0, 1) := by decide +kernel
theorem dX4_workAfter_20 : decode cX4_workAfter 20 = .ok (.getfield 39, 3) := by decide +kernel
theorem dX4_workAfter_23 : decode cX4_workAfter 23 = .ok (.goto 7, 3) := by decide +kernel
theorem dX4_workAfter_26 : decode cX4_workAfter 26 = .ok (.aload_n 0, 1) := by decide +kernel
theorem dX4_workAfter_27 : decode cX4_workAfter 27 = .ok (.getfield 36, 3) := by decide +kernel
theorem dX4_workAfter_30 : decode cX4_workAfter 30 = .ok (.ireturn, 1) := by decide +kernel
theorem dX4_weeksOfWork_0 : decode cX4_weeksOfWork 0 = .ok (.aload_n 0, 1) := by decide +kernel
theorem dX4_weeksOfWork_1 : decode cX4_weeksOfWork 1 = .ok (.getfield 11, 3) := by decide +kernel
theorem dX4_weeksOfWork_4 : decode cX4_weeksOfWork 4 = .ok (.iload_n 1, 1) := by decide +kernel
theorem dX4_weeksOfWork_5 : decode cX4_weeksOfWork 5 = .ok (.aaload, 1) := by decide +kernel
theorem dX4_weeksOfWork_6 : decode cX4_weeksOfWork 6 = .ok (.invokevirtual 141, 3) := by decide +kernel
theorem dX4_weeksOfWork_9 : decode cX4_weeksOfWork 9 = .ok (.aload_n 0, 1) := by decide +kernel
theorem dX4_weeksOfWork_10 : decode cX4_weeksOfWork 10 = .ok (.getfield 36, 3) := by decide +kernel
theorem dX4_weeksOfWork_13 : decode cX4_weeksOfWork 13 = .ok (.iadd, 1) := by decide +kernel
theorem dX4_weeksOfWork_14 : decode cX4_weeksOfWork 14 = .ok (.iconst 1, 1) := by decide +kernel
theorem dX4_weeksOfWork_15 : decode cX4_weeksOfWork 15 = .ok (.isub, 1) := by decide +kernel
theorem dX4_weeksOfWork_16 : decode cX4_weeksOfWork 16 = .ok (.aload_n 0, 1) := by decide +kernel
theorem dX4_weeksOfWork_17 : decode cX4_weeksOfWork 17 = .ok (.getfield 36, 3) := by decide +kernel
theorem dX4_weeksOfWork_20 : decode cX4_weeksOfWork 20 = .ok (.iconst 1, 1) := by decide +kernel
theorem dX4_weeksOfWork_21 : decode cX4_weeksOfWork 21 = .ok (.invokestatic 129, 3) := by decide +kernel
theorem dX4_weeksOfWork_24 : decode cX4_weeksOfWork 24 = .ok (.idiv, 1) := by decide +kernel
theorem dX4_weeksOfWork_25 : decode cX4_weeksOfWork 25 = .ok (.ireturn, 1) := by decide +kernel
theorem dX5_init_0 : decode cX5_init 0 = .ok (.aload_n 0, 1) := by decide +kernel
theorem dX5_init_1 : decode cX5_init 1 = .ok (.invokespecial 3, 3) := by decide +kernel
theorem dX5_init_4 : decode cX5_init 4 = .ok (.aload_n 0, 1) := by decide +kernel
theorem dX5_init_5 : decode cX5_init 5 = .ok (.bipush 6, 2) := by decide +kernel
theorem dX5_init_7 : decode cX5_init 7 = .ok (.newarray .int, 2) := by decide +kernel
theorem dX5_init_9 : decode cX5_init 9 = .ok (.putfield 9, 3) := by decide +kernel
theorem dX5_init_12 : decode cX5_init 12 = .ok (.aload_n 0, 1) := by decide +kernel
theorem dX5_init_13 : decode cX5_init 13 = .ok (.bipush 6, 2) := by decide +kernel
theorem dX5_init_15 : decode cX5_init 15 = .ok (.newarray .int, 2) := by decide +kernel
theorem dX5_init_17 : decode cX5_init 17 = .ok (.putfield 15, 3) := by decide +kernel
theorem dX5_init_20 : decode cX5_init 20 = .ok (.aload_n 0, 1) := by decide +kernel
theorem dX5_init_21 : decode cX5_init 21 = .ok (.bipush 6, 2) := by decide +kernel
theorem dX5_init_23 : decode cX5_init 23 = .ok (.newarray .int, 2) := by decide +kernel
theorem dX5_init_25 : decode cX5_init 25 = .ok (.putfield 18, 3) := by decide +kernel
theorem dX5_init_28 : decode cX5_init 28 = .ok (.aload_n 0, 1) := by decide +kernel
theorem dX5_init_29 : decode cX5_init 29 = .ok (.bipush 64, 2) := by decide +kernel
theorem dX5_init_31 : decode cX5_init 31 = .ok (.newarray .int, 2) := by decide +kernel
theorem dX5_init_33 : decode cX5_init 33 = .ok (.putfield 21, 3) := by decide +kernel
theorem dX5_init_36 : decode cX5_init 36 = .ok (.return_, 1) := by decide +kernel
theorem dX5_reckon_0 : decode cX5_reckon 0 = .ok (.aload_n 0, 1) := by decide +kernel
theorem dX5_reckon_1 : decode cX5_reckon 1 = .ok (.aload_n 1, 1) := by decide +kernel
theorem dX5_reckon_2 : decode cX5_reckon 2 = .ok (.invokevirtual 24, 3) := by decide +kernel
theorem dX5_reckon_5 : decode cX5_reckon 5 = .ok (.aload_n 0, 1) := by decide +kernel
theorem dX5_reckon_6 : decode cX5_reckon 6 = .ok (.getfield 21, 3) := by decide +kernel
theorem dX5_reckon_9 : decode cX5_reckon 9 = .ok (.iconst 0, 1) := by decide +kernel
theorem dX5_reckon_10 : decode cX5_reckon 10 = .ok (.iconst 0, 1) := by decide +kernel
theorem dX5_reckon_11 : decode cX5_reckon 11 = .ok (.iastore, 1) := by decide +kernel
theorem dX5_reckon_12 : decode cX5_reckon 12 = .ok (.iconst 1, 1) := by decide +kernel
theorem dX5_reckon_13 : decode cX5_reckon 13 = .ok (.istore_n 2, 1) := by decide +kernel
theorem dX5_reckon_14 : decode cX5_reckon 14 = .ok (.iload_n 2, 1) := by decide +kernel
theorem dX5_reckon_15 : decode cX5_reckon 15 = .ok (.aload_n 0, 1) := by decide +kernel
theorem dX5_reckon_16 : decode cX5_reckon 16 = .ok (.getfield 21, 3) := by decide +kernel
theorem dX5_reckon_19 : decode cX5_reckon 19 = .ok (.arraylength, 1) := by decide +kernel
theorem dX5_reckon_20 : decode cX5_reckon 20 = .ok (.if_icmp .ge 31, 3) := by decide +kernel
theorem dX5_reckon_23 : decode cX5_reckon 23 = .ok (.iload_n 2, 1) := by decide +kernel
theorem dX5_reckon_24 : decode cX5_reckon 24 = .ok (.aload_n 0, 1) := by decide +kernel
theorem dX5_reckon_25 : decode cX5_reckon 25 = .ok (.getfield 28, 3) := by decide +kernel
theorem dX5_reckon_28 : decode cX5_reckon 28 = .ok (.iconst (-1), 1) := by decide +kernel
theorem dX5_reckon_29 : decode cX5_reckon 29 = .ok (.ixor, 1) := by decide +kernel
theorem dX5_reckon_30 : decode cX5_reckon 30 = .ok (.iand, 1) := by decide +kernel
theorem dX5_reckon_31 : decode cX5_reckon 31 = .ok (.ifCond .ne 14, 3) := by decide +kernel
theorem dX5_reckon_34 : decode cX5_reckon 34 = .ok (.aload_n 0, 1) := by decide +kernel
theorem dX5_reckon_35 : decode cX5_reckon 35 = .ok (.getfield 21, 3) := by decide +kernel
theorem dX5_reckon_38 : decode cX5_reckon 38 = .ok (.iload_n 2, 1) := by decide +kernel
theorem dX5_reckon_39 : decode cX5_reckon 39 = .ok (.aload_n 0, 1) := by decide +kernel
theorem dX5_reckon_40 : decode cX5_reckon 40 = .ok (.iload_n 2, 1) := by decide +kernel
theorem dX5_reckon_41 : decode cX5_reckon 41 = .ok (.invokevirtual 32, 3) := by decide +kernel
theorem dX5_reckon_44 : decode cX5_reckon 44 = .ok (.iastore, 1) := by decide +kernel
theorem dX5_reckon_45 : decode cX5_reckon 45 = .ok (.iinc 2 1, 3) := by decide +kernel
theorem dX5_reckon_48 : decode cX5_reckon 48 = .ok (.goto (-34), 3) := by decide +kernel
theorem dX5_reckon_51 : decode cX5_reckon 51 = .ok (.return_, 1) := by decide +kernel
theorem dX5_lookAt_0 : decode cX5_lookAt 0 = .ok (.aload_n 0, 1) := by decide +kernel
theorem dX5_lookAt_1 : decode cX5_lookAt 1 = .ok (.iconst 0, 1) := by decide +kernel
theorem dX5_lookAt_2 : decode cX5_lookAt 2 = .ok (.putfield 28, 3) := by decide +kernel
theorem dX5_lookAt_5 : decode cX5_lookAt 5 = .ok (.aload_n 0, 1) := by decide +kernel
theorem dX5_lookAt_6 : decode cX5_lookAt 6 = .ok (.aload_n 1, 1) := by decide +kernel
theorem dX5_lookAt_7 : decode cX5_lookAt 7 = .ok (.getfield 36, 3) := by decide +kernel
theorem dX5_lookAt_10 : decode cX5_lookAt 10 = .ok (.putfield 41, 3) := by decide +kernel
theorem dX5_lookAt_13 : decode cX5_lookAt 13 = .ok (.iconst 0, 1) := by decide +kernel
theorem dX5_lookAt_14 : decode cX5_lookAt 14 = .ok (.istore_n 2, 1) := by decide +kernel
theorem dX5_lookAt_15 : decode cX5_lookAt 15 = .ok (.iload_n 2, 1) := by decide +kernel
theorem dX5_lookAt_16 : decode cX5_lookAt 16 = .ok (.bipush 6, 2) := by decide +kernel
theorem dX5_lookAt_18 : decode cX5_lookAt 18 = .ok (.if_icmp .ge 70, 3) := by decide +kernel
theorem dX5_lookAt_21 : decode cX5_lookAt 21 = .ok (.aload_n 1, 1) := by decide +kernel
theorem dX5_lookAt_22 : decode cX5_lookAt 22 = .ok (.getfield 44, 3) := by decide +kernel
theorem dX5_lookAt_25 : decode cX5_lookAt 25 = .ok (.iload_n 2, 1) := by decide +kernel
theorem dX5_lookAt_26 : decode cX5_lookAt 26 = .ok (.aaload, 1) := by decide +kernel
theorem dX5_lookAt_27 : decode cX5_lookAt 27 = .ok (.getfield 48, 3) := by decide +kernel
theorem dX5_lookAt_30 : decode cX5_lookAt 30 = .ok (.ifCond .eq 15, 3) := by decide +kernel
theorem dX5_lookAt_33 : decode cX5_lookAt 33 = .ok (.aload_n 0, 1) := by decide +kernel
theorem dX5_lookAt_34 : decode cX5_lookAt 34 = .ok (.dup, 1) := by decide +kernel
theorem dX5_lookAt_35 : decode cX5_lookAt 35 = .ok (.getfield 28, 3) := by decide +kernel
theorem dX5_lookAt_38 : decode cX5_lookAt 38 = .ok (.iconst 1, 1) := by decide +kernel
theorem dX5_lookAt_39 : decode cX5_lookAt 39 = .ok (.iload_n 2, 1) := by decide +kernel
theorem dX5_lookAt_40 : decode cX5_lookAt 40 = .ok (.ishl, 1) := by decide +kernel
theorem dX5_lookAt_41 : decode cX5_lookAt 41 = .ok (.ior, 1) := by decide +kernel
theorem dX5_lookAt_42 : decode cX5_lookAt 42 = .ok (.putfield 28, 3) := by decide +kernel
theorem dX5_lookAt_45 : decode cX5_lookAt 45 = .ok (.aload_n 0, 1) := by decide +kernel
theorem dX5_lookAt_46 : decode cX5_lookAt 46 = .ok (.getfield 9, 3) := by decide +kernel
theorem dX5_lookAt_49 : decode cX5_lookAt 49 = .ok (.iload_n 2, 1) := by decide +kernel
theorem dX5_lookAt_50 : decode cX5_lookAt 50 = .ok (.aload_n 1, 1) := by decide +kernel
theorem dX5_lookAt_51 : decode cX5_lookAt 51 = .ok (.iload_n 2, 1) := by decide +kernel
theorem dX5_lookAt_52 : decode cX5_lookAt 52 = .ok (.invokevirtual 54, 3) := by decide +kernel
theorem dX5_lookAt_55 : decode cX5_lookAt 55 = .ok (.iastore, 1) := by decide +kernel
theorem dX5_lookAt_56 : decode cX5_lookAt 56 = .ok (.aload_n 0, 1) := by decide +kernel
theorem dX5_lookAt_57 : decode cX5_lookAt 57 = .ok (.getfield 15, 3) := by decide +kernel
theorem dX5_lookAt_60 : decode cX5_lookAt 60 = .ok (.iload_n 2, 1) := by decide +kernel
theorem dX5_lookAt_61 : decode cX5_lookAt 61 = .ok (.aload_n 1, 1) := by decide +kernel
theorem dX5_lookAt_62 : decode cX5_lookAt 62 = .ok (.getfield 44, 3) := by decide +kernel
theorem dX5_lookAt_65 : decode cX5_lookAt 65 = .ok (.iload_n 2, 1) := by decide +kernel
theorem dX5_lookAt_66 : decode cX5_lookAt 66 = .ok (.aaload, 1) := by decide +kernel
theorem dX5_lookAt_67 : decode cX5_lookAt 67 = .ok (.getfield 57, 3) := by decide +kernel
theorem dX5_lookAt_70 : decode cX5_lookAt 70 = .ok (.iastore, 1) := by decide +kernel
theorem dX5_lookAt_71 : decode cX5_lookAt 71 = .ok (.aload_n 0, 1) := by decide +kernel
theorem dX5_lookAt_72 : decode cX5_lookAt 72 = .ok (.getfield 18, 3) := by decide +kernel
theorem dX5_lookAt_75 : decode cX5_lookAt 75 = .ok (.iload_n 2, 1) := by decide +kernel
theorem dX5_lookAt_76 : decode cX5_lookAt 76 = .ok (.aload_n 1, 1) := by decide +kernel
theorem dX5_lookAt_77 : decode cX5_lookAt 77 = .ok (.iload_n 2, 1) := by decide +kernel
theorem dX5_lookAt_78 : decode cX5_lookAt 78 = .ok (.invokevirtual 60, 3) := by decide +kernel
theorem dX5_lookAt_81 : decode cX5_lookAt 81 = .ok (.iastore, 1) := by decide +kernel
theorem dX5_lookAt_82 : decode cX5_lookAt 82 = .ok (.iinc 2 1, 3) := by decide +kernel
theorem dX5_lookAt_85 : decode cX5_lookAt 85 = .ok (.goto (-70), 3) := by decide +kernel
theorem dX5_lookAt_88 : decode cX5_lookAt 88 = .ok (.return_, 1) := by decide +kernel
theorem dX5_leastOf_0 : decode cX5_leastOf 0 = .ok (.ldc 63, 2) := by decide +kernel
theorem dX5_leastOf_2 : decode cX5_leastOf 2 = .ok (.istore_n 2, 1) := by decide +kernel
theorem dX5_leastOf_3 : decode cX5_leastOf 3 = .ok (.iconst 0, 1) := by decide +kernel
theorem dX5_leastOf_4 : decode cX5_leastOf 4 = .ok (.istore_n 3, 1) := by decide +kernel
theorem dX5_leastOf_5 : decode cX5_leastOf 5 = .ok (.iload_n 3, 1) := by decide +kernel
theorem dX5_leastOf_6 : decode cX5_leastOf 6 = .ok (.bipush 6, 2) := by decide +kernel
theorem dX5_leastOf_8 : decode cX5_leastOf 8 = .ok (.if_icmp .ge 28, 3) := by decide +kernel
theorem dX5_leastOf_11 : decode cX5_leastOf 11 = .ok (.iload_n 3, 1) := by decide +kernel
theorem dX5_leastOf_12 : decode cX5_leastOf 12 = .ok (.iload_n 1, 1) := by decide +kernel
theorem dX5_leastOf_13 : decode cX5_leastOf 13 = .ok (.invokestatic 64, 3) := by decide +kernel
theorem dX5_leastOf_16 : decode cX5_leastOf 16 = .ok (.ifCond .eq 14, 3) := by decide +kernel
theorem dX5_leastOf_19 : decode cX5_leastOf 19 = .ok (.iload_n 2, 1) := by decide +kernel
theorem dX5_leastOf_20 : decode cX5_leastOf 20 = .ok (.aload_n 0, 1) := by decide +kernel
theorem dX5_leastOf_21 : decode cX5_leastOf 21 = .ok (.iload_n 3, 1) := by decide +kernel
theorem dX5_leastOf_22 : decode cX5_leastOf 22 = .ok (.iload_n 1, 1) := by decide +kernel
theorem dX5_leastOf_23 : decode cX5_leastOf 23 = .ok (.invokevirtual 68, 3) := by decide +kernel
theorem dX5_leastOf_26 : decode cX5_leastOf 26 = .ok (.invokestatic 72, 3) := by decide +kernel
theorem dX5_leastOf_29 : decode cX5_leastOf 29 = .ok (.istore_n 2, 1) := by decide +kernel
theorem dX5_leastOf_30 : decode cX5_leastOf 30 = .ok (.iinc 3 1, 3) := by decide +kernel
theorem dX5_leastOf_33 : decode cX5_leastOf 33 = .ok (.goto (-28), 3) := by decide +kernel
theorem dX5_leastOf_36 : decode cX5_leastOf 36 = .ok (.iload_n 2, 1) := by decide +kernel
theorem dX5_leastOf_37 : decode cX5_leastOf 37 = .ok (.ireturn, 1) := by decide +kernel
theorem dX5_finesIfNext_0 : decode cX5_finesIfNext 0 = .ok (.aload_n 0, 1) := by decide +kernel
theorem dX5_finesIfNext_1 : decode cX5_finesIfNext 1 = .ok (.getfield 41, 3) := by decide +kernel
theorem dX5_finesIfNext_4 : decode cX5_finesIfNext 4 = .ok (.aload_n 0, 1) := by decide +kernel
theorem dX5_finesIfNext_5 : decode cX5_finesIfNext 5 = .ok (.getfield 9, 3) := by decide +kernel
theorem dX5_finesIfNext_8 : decode cX5_finesIfNext 8 = .ok (.iload_n 1, 1) := by decide +kernel
theorem dX5_finesIfNext_9 : decode cX5_finesIfNext 9 = .ok (.iaload, 1) := by decide +kernel
theorem dX5_finesIfNext_10 : decode cX5_finesIfNext 10 = .ok (.iadd, 1) := by decide +kernel
theorem dX5_finesIfNext_11 : decode cX5_finesIfNext 11 = .ok (.istore_n 3, 1) := by decide +kernel
theorem dX5_finesIfNext_12 : decode cX5_finesIfNext 12 = .ok (.iconst 0, 1) := by decide +kernel
theorem dX5_finesIfNext_13 : decode cX5_finesIfNext 13 = .ok (.istore 4, 2) := by decide +kernel
theorem dX5_finesIfNext_15 : decode cX5_finesIfNext 15 = .ok (.iload 4, 2) := by decide +kernel
theorem dX5_finesIfNext_17 : decode cX5_finesIfNext 17 = .ok (.bipush 6, 2) := by decide +kernel
theorem dX5_finesIfNext_19 : decode cX5_finesIfNext 19 = .ok (.if_icmp .ge 40, 3) := by decide +kernel
theorem dX5_finesIfNext_22 : decode cX5_finesIfNext 22 = .ok (.iload 4, 2) := by decide +kernel
theorem dX5_finesIfNext_24 : decode cX5_finesIfNext 24 = .ok (.aload_n 0, 1) := by decide +kernel
theorem dX5_finesIfNext_25 : decode cX5_finesIfNext 25 = .ok (.getfield 28, 3) := by decide +kernel
theorem dX5_finesIfNext_28 : decode cX5_finesIfNext 28 = .ok (.invokestatic 64, 3) := by decide +kernel
theorem dX5_finesIfNext_31 : decode cX5_finesIfNext 31 = .ok (.ifCond .eq 22, 3) := by decide +kernel
theorem dX5_finesIfNext_34 : decode cX5_finesIfNext 34 = .ok (.iload 4, 2) := by decide +kernel
theorem dX5_finesIfNext_36 : decode cX5_finesIfNext 36 = .ok (.iload_n 2, 1) := by decide +kernel
theorem dX5_finesIfNext_37 : decode cX5_finesIfNext 37 = .ok (.invokestatic 64, 3) := by decide +kernel
theorem dX5_finesIfNext_40 : decode cX5_finesIfNext 40 = .ok (.ifCond .ne 13, 3) := by decide +kernel
theorem dX5_finesIfNext_43 : decode cX5_finesIfNext 43 = .ok (.iload_n 3, 1) := by decide +kernel
theorem dX5_finesIfNext_44 : decode cX5_finesIfNext 44 = .ok (.aload_n 0, 1) := by decide +kernel
theorem dX5_finesIfNext_45 : decode cX5_finesIfNext 45 = .ok (.getfield 9, 3) := by decide +kernel
theorem dX5_finesIfNext_48 : decode cX5_finesIfNext 48 = .ok (.iload 4, 2) := by decide +kernel
theorem dX5_finesIfNext_50 : decode cX5_finesIfNext 50 = .ok (.iaload, 1) := by decide +kernel
theorem dX5_finesIfNext_51 : decode cX5_finesIfNext 51 = .ok (.iadd, 1) := by decide +kernel
theorem dX5_finesIfNext_52 : decode cX5_finesIfNext 52 = .ok (.istore_n 3, 1) := by decide +kernel
theorem dX5_finesIfNext_53 : decode cX5_finesIfNext 53 = .ok (.iinc 4 1, 3) := by decide +kernel
theorem dX5_finesIfNext_56 : decode cX5_finesIfNext 56 = .ok (.goto (-41), 3) := by decide +kernel
theorem dX5_finesIfNext_59 : decode cX5_finesIfNext 59 = .ok (.iload_n 3, 1) := by decide +kernel
theorem dX5_finesIfNext_60 : decode cX5_finesIfNext 60 = .ok (.aload_n 0, 1) := by decide +kernel
theorem dX5_finesIfNext_61 : decode cX5_finesIfNext 61 = .ok (.getfield 15, 3) := by decide +kernel
theorem dX5_finesIfNext_64 : decode cX5_finesIfNext 64 = .ok (.iload_n 1, 1) := by decide +kernel
theorem dX5_finesIfNext_65 : decode cX5_finesIfNext 65 = .ok (.iaload, 1) := by decide +kernel
theorem dX5_finesIfNext_66 : decode cX5_finesIfNext 66 = .ok (.isub, 1) := by decide +kernel
theorem dX5_finesIfNext_67 : decode cX5_finesIfNext 67 = .ok (.iconst 0, 1) := by decide +kernel
theorem dX5_finesIfNext_68 : decode cX5_finesIfNext 68 = .ok (.invokestatic 77, 3) := by decide +kernel
theorem dX5_finesIfNext_71 : decode cX5_finesIfNext 71 = .ok (.istore 4, 2) := by decide +kernel
theorem dX5_finesIfNext_73 : decode cX5_finesIfNext 73 = .ok (.aload_n 0, 1) := by decide +kernel
theorem dX5_finesIfNext_74 : decode cX5_finesIfNext 74 = .ok (.getfield 18, 3) := by decide +kernel
theorem dX5_finesIfNext_77 : decode cX5_finesIfNext 77 = .ok (.iload_n 1, 1) := by decide +kernel
theorem dX5_finesIfNext_78 : decode cX5_finesIfNext 78 = .ok (.iaload, 1) := by decide +kernel
theorem dX5_finesIfNext_79 : decode cX5_finesIfNext 79 = .ok (.iload 4, 2) := by decide +kernel
theorem dX5_finesIfNext_81 : decode cX5_finesIfNext 81 = .ok (.imul, 1) := by decide +kernel
theorem dX5_finesIfNext_82 : decode cX5_finesIfNext 82 = .ok (.aload_n 0, 1) := by decide +kernel
theorem dX5_finesIfNext_83 : decode cX5_finesIfNext 83 = .ok (.getfield 21, 3) := by decide +kernel
theorem dX5_finesIfNext_86 : decode cX5_finesIfNext 86 = .ok (.iload_n 2, 1) := by decide +kernel
theorem dX5_finesIfNext_87 : decode cX5_finesIfNext 87 = .ok (.iconst 1, 1) := by decide +kernel
theorem dX5_finesIfNext_88 : decode cX5_finesIfNext 88 = .ok (.iload_n 1, 1) := by decide +kernel
theorem dX5_finesIfNext_89 : decode cX5_finesIfNext 89 = .ok (.ishl, 1) := by decide +kernel
theorem dX5_finesIfNext_90 : decode cX5_finesIfNext 90 = .ok (.iconst (-1), 1) := by decide +kernel
theorem dX5_finesIfNext_91 : decode cX5_finesIfNext 91 = .ok (.ixor, 1) := by decide +kernel
theorem dX5_finesIfNext_92 : decode cX5_finesIfNext 92 = .ok (.iand, 1) := by decide +kernel
theorem dX5_finesIfNext_93 : decode cX5_finesIfNext 93 = .ok (.iaload, 1) := by decide +kernel
theorem dX5_finesIfNext_94 : decode cX5_finesIfNext 94 = .ok (.iadd, 1) := by decide +kernel
theorem dX5_finesIfNext_95 : decode cX5_finesIfNext 95 = .ok (.ireturn, 1) := by decide +kernel
theorem dX5_isIn_0 : decode cX5_isIn 0 = .ok (.iload_n 1, 1) := by decide +kernel
theorem dX5_isIn_1 : decode cX5_isIn 1 = .ok (.iconst 1, 1) := by decide +kernel
theorem dX5_isIn_2 : decode cX5_isIn 2 = .ok (.iload_n 0, 1) := by decide +kernel
theorem dX5_isIn_3 : decode cX5_isIn 3 = .ok (.ishl, 1) := by decide +kernel
theorem dX5_isIn_4 : decode cX5_isIn 4 = .ok (.iand, 1) := by decide +kernel
theorem dX5_isIn_5 : decode cX5_isIn 5 = .ok (.ifCond .eq 7, 3) := by decide +kernel
theorem dX5_isIn_8 : decode cX5_isIn 8 = .ok (.iconst 1, 1) := by decide +kernel
theorem dX5_isIn_9 : decode cX5_isIn 9 = .ok (.goto 4, 3) := by decide +kernel
theorem dX5_isIn_12 : decode cX5_isIn 12 = .ok (.iconst 0, 1) := by decide +kernel
theorem dX5_isIn_13 : decode cX5_isIn 13 = .ok (.ireturn, 1) := by decide +kernel
theorem dX5_leastFines_0 : decode cX5_leastFines 0 = .ok (.aload_n 0, 1) := by decide +kernel
theorem dX5_leastFines_1 : decode cX5_leastFines 1 = .ok (.getfield 21, 3) := by decide +kernel
theorem dX5_leastFines_4 : decode cX5_leastFines 4 = .ok (.aload_n 0, 1) := by decide +kernel
theorem dX5_leastFines_5 : decode cX5_leastFines 5 = .ok (.getfield 28, 3) := by decide +kernel
theorem dX5_leastFines_8 : decode cX5_leastFines 8 = .ok (.iaload, 1) := by decide +kernel
theorem dX5_leastFines_9 : decode cX5_leastFines 9 = .ok (.ireturn, 1) := by decide +kernel
theorem dX5_firstField_0 : decode cX5_firstField 0 = .ok (.iconst 0, 1) := by decide +kernel
theorem dX5_firstField_1 : decode cX5_firstField 1 = .ok (.istore_n 1, 1) := by decide +kernel
theorem dX5_firstField_2 : decode cX5_firstField 2 = .ok (.iload_n 1, 1) := by decide +kernel
theorem dX5_firstField_3 : decode cX5_firstField 3 = .ok (.bipush 6, 2) := by decide +kernel
theorem dX5_firstField_5 : decode cX5_firstField 5 = .ok (.if_icmp .ge 43, 3) := by decide +kernel
theorem dX5_firstField_8 : decode cX5_firstField 8 = .ok (.iload_n 1, 1) := by decide +kernel
theorem dX5_firstField_9 : decode cX5_firstField 9 = .ok (.aload_n 0, 1) := by decide +kernel
theorem dX5_firstField_10 : decode cX5_firstField 10 = .ok (.getfield 28, 3) := by decide +kernel
theorem dX5_firstField_13 : decode cX5_firstField 13 = .ok (.invokestatic 64, 3) := by decide +kernel
theorem dX5_firstField_16 : decode cX5_firstField 16 = .ok (.ifCond .eq 26, 3) := by decide +kernel
theorem dX5_firstField_19 : decode cX5_firstField 19 = .ok (.aload_n 0, 1) := by decide +kernel
theorem dX5_firstField_20 : decode cX5_firstField 20 = .ok (.iload_n 1, 1) := by decide +kernel
theorem dX5_firstField_21 : decode cX5_firstField 21 = .ok (.aload_n 0, 1) := by decide +kernel
theorem dX5_firstField_22 : decode cX5_firstField 22 = .ok (.getfield 28, 3) := by decide +kernel
theorem dX5_firstField_25 : decode cX5_firstField 25 = .ok (.invokevirtual 68, 3) := by decide +kernel
theorem dX5_firstField_28 : decode cX5_firstField 28 = .ok (.aload_n 0, 1) := by decide +kernel
theorem dX5_firstField_29 : decode cX5_firstField 29 = .ok (.getfield 21, 3) := by decide +kernel
theorem dX5_firstField_32 : decode cX5_firstField 32 = .ok (.aload_n 0, 1) := by decide +kernel
theorem dX5_firstField_33 : decode cX5_firstField 33 = .ok (.getfield 28, 3) := by decide +kernel
theorem dX5_firstField_36 : decode cX5_firstField 36 = .ok (.iaload, 1) := by decide +kernel
theorem dX5_firstField_37 : decode cX5_firstField 37 = .ok (.if_icmp .ne 5, 3) := by decide +kernel
theorem dX5_firstField_40 : decode cX5_firstField 40 = .ok (.iload_n 1, 1) := by decide +kernel
theorem dX5_firstField_41 : decode cX5_firstField 41 = .ok (.ireturn, 1) := by decide +kernel
theorem dX5_firstField_42 : decode cX5_firstField 42 = .ok (.iinc 1 1, 3) := by decide +kernel
theorem dX5_firstField_45 : decode cX5_firstField 45 = .ok (.goto (-43), 3) := by decide +kernel
theorem dX5_firstField_48 : decode cX5_firstField 48 = .ok (.bipush (-9), 2) := by decide +kernel
theorem dX5_firstField_50 : decode cX5_firstField 50 = .ok (.ireturn, 1) := by decide +kernel
theorem dX6_init_0 : decode cX6_init 0 = .ok (.aload_n 0, 1) := by decide +kernel
theorem dX6_init_1 : decode cX6_init 1 = .ok (.invokespecial 3, 3) := by decide +kernel
theorem dX6_init_4 : decode cX6_init 4 = .ok (.aload_n 0, 1) := by decide +kernel
theorem dX6_init_5 : decode cX6_init 5 = .ok (.new 9, 3) := by decide +kernel
theorem dX6_init_8 : decode cX6_init 8 = .ok (.dup, 1) := by decide +kernel
theorem dX6_init_9 : decode cX6_init 9 = .ok (.invokespecial 11, 3) := by decide +kernel
theorem dX6_init_12 : decode cX6_init 12 = .ok (.putfield 12, 3) := by decide +kernel
theorem dX6_init_15 : decode cX6_init 15 = .ok (.aload_n 0, 1) := by decide +kernel
theorem dX6_init_16 : decode cX6_init 16 = .ok (.iconst 2, 1) := by decide +kernel
theorem dX6_init_17 : decode cX6_init 17 = .ok (.anewarray 9, 3) := by decide +kernel
theorem dX6_init_20 : decode cX6_init 20 = .ok (.putfield 18, 3) := by decide +kernel
theorem dX6_init_23 : decode cX6_init 23 = .ok (.aload_n 0, 1) := by decide +kernel
theorem dX6_init_24 : decode cX6_init 24 = .ok (.iconst 2, 1) := by decide +kernel
theorem dX6_init_25 : decode cX6_init 25 = .ok (.newarray .boolean, 2) := by decide +kernel
theorem dX6_init_27 : decode cX6_init 27 = .ok (.putfield 22, 3) := by decide +kernel
theorem dX6_init_30 : decode cX6_init 30 = .ok (.iconst 0, 1) := by decide +kernel
theorem dX6_init_31 : decode cX6_init 31 = .ok (.istore_n 1, 1) := by decide +kernel
theorem dX6_init_32 : decode cX6_init 32 = .ok (.iload_n 1, 1) := by decide +kernel
theorem dX6_init_33 : decode cX6_init 33 = .ok (.iconst 2, 1) := by decide +kernel
theorem dX6_init_34 : decode cX6_init 34 = .ok (.if_icmp .ge 22, 3) := by decide +kernel
theorem dX6_init_37 : decode cX6_init 37 = .ok (.aload_n 0, 1) := by decide +kernel
theorem dX6_init_38 : decode cX6_init 38 = .ok (.getfield 18, 3) := by decide +kernel
theorem dX6_init_41 : decode cX6_init 41 = .ok (.iload_n 1, 1) := by decide +kernel
theorem dX6_init_42 : decode cX6_init 42 = .ok (.new 9, 3) := by decide +kernel
theorem dX6_init_45 : decode cX6_init 45 = .ok (.dup, 1) := by decide +kernel
theorem dX6_init_46 : decode cX6_init 46 = .ok (.invokespecial 11, 3) := by decide +kernel
theorem dX6_init_49 : decode cX6_init 49 = .ok (.aastore, 1) := by decide +kernel
theorem dX6_init_50 : decode cX6_init 50 = .ok (.iinc 1 1, 3) := by decide +kernel
theorem dX6_init_53 : decode cX6_init 53 = .ok (.goto (-21), 3) := by decide +kernel
theorem dX6_init_56 : decode cX6_init 56 = .ok (.return_, 1) := by decide +kernel
theorem dX6_copyFrom_0 : decode cX6_copyFrom 0 = .ok (.aload_n 0, 1) := by decide +kernel
theorem dX6_copyFrom_1 : decode cX6_copyFrom 1 = .ok (.getfield 12, 3) := by decide +kernel
theorem dX6_copyFrom_4 : decode cX6_copyFrom 4 = .ok (.aload_n 1, 1) := by decide +kernel
theorem dX6_copyFrom_5 : decode cX6_copyFrom 5 = .ok (.getfield 12, 3) := by decide +kernel
theorem dX6_copyFrom_8 : decode cX6_copyFrom 8 = .ok (.invokevirtual 26, 3) := by decide +kernel
theorem dX6_copyFrom_11 : decode cX6_copyFrom 11 = .ok (.iconst 0, 1) := by decide +kernel
theorem dX6_copyFrom_12 : decode cX6_copyFrom 12 = .ok (.istore_n 2, 1) := by decide +kernel
theorem dX6_copyFrom_13 : decode cX6_copyFrom 13 = .ok (.iload_n 2, 1) := by decide +kernel
theorem dX6_copyFrom_14 : decode cX6_copyFrom 14 = .ok (.iconst 2, 1) := by decide +kernel
theorem dX6_copyFrom_15 : decode cX6_copyFrom 15 = .ok (.if_icmp .ge 45, 3) := by decide +kernel
theorem dX6_copyFrom_18 : decode cX6_copyFrom 18 = .ok (.aload_n 0, 1) := by decide +kernel
theorem dX6_copyFrom_19 : decode cX6_copyFrom 19 = .ok (.getfield 22, 3) := by decide +kernel
theorem dX6_copyFrom_22 : decode cX6_copyFrom 22 = .ok (.iload_n 2, 1) := by decide +kernel
theorem dX6_copyFrom_23 : decode cX6_copyFrom 23 = .ok (.aload_n 1, 1) := by decide +kernel
theorem dX6_copyFrom_24 : decode cX6_copyFrom 24 = .ok (.getfield 22, 3) := by decide +kernel
theorem dX6_copyFrom_27 : decode cX6_copyFrom 27 = .ok (.iload_n 2, 1) := by decide +kernel
theorem dX6_copyFrom_28 : decode cX6_copyFrom 28 = .ok (.baload, 1) := by decide +kernel
theorem dX6_copyFrom_29 : decode cX6_copyFrom 29 = .ok (.bastore, 1) := by decide +kernel
theorem dX6_copyFrom_30 : decode cX6_copyFrom 30 = .ok (.aload_n 0, 1) := by decide +kernel
theorem dX6_copyFrom_31 : decode cX6_copyFrom 31 = .ok (.getfield 22, 3) := by decide +kernel
theorem dX6_copyFrom_34 : decode cX6_copyFrom 34 = .ok (.iload_n 2, 1) := by decide +kernel
theorem dX6_copyFrom_35 : decode cX6_copyFrom 35 = .ok (.baload, 1) := by decide +kernel
theorem dX6_copyFrom_36 : decode cX6_copyFrom 36 = .ok (.ifCond .eq 18, 3) := by decide +kernel
theorem dX6_copyFrom_39 : decode cX6_copyFrom 39 = .ok (.aload_n 0, 1) := by decide +kernel
theorem dX6_copyFrom_40 : decode cX6_copyFrom 40 = .ok (.getfield 18, 3) := by decide +kernel
theorem dX6_copyFrom_43 : decode cX6_copyFrom 43 = .ok (.iload_n 2, 1) := by decide +kernel
theorem dX6_copyFrom_44 : decode cX6_copyFrom 44 = .ok (.aaload, 1) := by decide +kernel
theorem dX6_copyFrom_45 : decode cX6_copyFrom 45 = .ok (.aload_n 1, 1) := by decide +kernel
theorem dX6_copyFrom_46 : decode cX6_copyFrom 46 = .ok (.getfield 18, 3) := by decide +kernel
theorem dX6_copyFrom_49 : decode cX6_copyFrom 49 = .ok (.iload_n 2, 1) := by decide +kernel
theorem dX6_copyFrom_50 : decode cX6_copyFrom 50 = .ok (.aaload, 1) := by decide +kernel
theorem dX6_copyFrom_51 : decode cX6_copyFrom 51 = .ok (.invokevirtual 26, 3) := by decide +kernel
theorem dX6_copyFrom_54 : decode cX6_copyFrom 54 = .ok (.iinc 2 1, 3) := by decide +kernel
theorem dX6_copyFrom_57 : decode cX6_copyFrom 57 = .ok (.goto (-44), 3) := by decide +kernel
theorem dX6_copyFrom_60 : decode cX6_copyFrom 60 = .ok (.return_, 1) := by decide +kernel
theorem dX6_fillSlot_0 : decode cX6_fillSlot 0 = .ok (.aload_n 0, 1) := by decide +kernel
theorem dX6_fillSlot_1 : decode cX6_fillSlot 1 = .ok (.getfield 18, 3) := by decide +kernel
theorem dX6_fillSlot_4 : decode cX6_fillSlot 4 = .ok (.iload_n 1, 1) := by decide +kernel
theorem dX6_fillSlot_5 : decode cX6_fillSlot 5 = .ok (.aaload, 1) := by decide +kernel
theorem dX6_fillSlot_6 : decode cX6_fillSlot 6 = .ok (.aload_n 0, 1) := by decide +kernel
theorem dX6_fillSlot_7 : decode cX6_fillSlot 7 = .ok (.getfield 12, 3) := by decide +kernel
theorem dX6_fillSlot_10 : decode cX6_fillSlot 10 = .ok (.invokevirtual 26, 3) := by decide +kernel
theorem dX6_fillSlot_13 : decode cX6_fillSlot 13 = .ok (.aload_n 0, 1) := by decide +kernel
theorem dX6_fillSlot_14 : decode cX6_fillSlot 14 = .ok (.getfield 22, 3) := by decide +kernel
theorem dX6_fillSlot_17 : decode cX6_fillSlot 17 = .ok (.iload_n 1, 1) := by decide +kernel
theorem dX6_fillSlot_18 : decode cX6_fillSlot 18 = .ok (.iconst 1, 1) := by decide +kernel
theorem dX6_fillSlot_19 : decode cX6_fillSlot 19 = .ok (.bastore, 1) := by decide +kernel
theorem dX6_fillSlot_20 : decode cX6_fillSlot 20 = .ok (.return_, 1) := by decide +kernel
theorem dX6_numberOfSnapshots_0 : decode cX6_numberOfSnapshots 0 = .ok (.iconst 0, 1) := by decide +kernel
theorem dX6_numberOfSnapshots_1 : decode cX6_numberOfSnapshots 1 = .ok (.istore_n 1, 1) := by decide +kernel
theorem dX6_numberOfSnapshots_2 : decode cX6_numberOfSnapshots 2 = .ok (.iconst 0, 1) := by decide +kernel
theorem dX6_numberOfSnapshots_3 : decode cX6_numberOfSnapshots 3 = .ok (.istore_n 2, 1) := by decide +kernel
theorem dX6_numberOfSnapshots_4 : decode cX6_numberOfSnapshots 4 = .ok (.iload_n 2, 1) := by decide +kernel
theorem dX6_numberOfSnapshots_5 : decode cX6_numberOfSnapshots 5 = .ok (.iconst 2, 1) := by decide +kernel
theorem dX6_numberOfSnapshots_6 : decode cX6_numberOfSnapshots 6 = .ok (.if_icmp .ge 21, 3) := by decide +kernel
theorem dX6_numberOfSnapshots_9 : decode cX6_numberOfSnapshots 9 = .ok (.aload_n 0, 1) := by decide +kernel
theorem dX6_numberOfSnapshots_10 : decode cX6_numberOfSnapshots 10 = .ok (.getfield 22, 3) := by decide +kernel
theorem dX6_numberOfSnapshots_13 : decode cX6_numberOfSnapshots 13 = .ok (.iload_n 2, 1) := by decide +kernel
theorem dX6_numberOfSnapshots_14 : decode cX6_numberOfSnapshots 14 = .ok (.baload, 1) := by decide +kernel
theorem dX6_numberOfSnapshots_15 : decode cX6_numberOfSnapshots 15 = .ok (.ifCond .eq 6, 3) := by decide +kernel
theorem dX6_numberOfSnapshots_18 : decode cX6_numberOfSnapshots 18 = .ok (.iinc 1 1, 3) := by decide +kernel
theorem dX6_numberOfSnapshots_21 : decode cX6_numberOfSnapshots 21 = .ok (.iinc 2 1, 3) := by decide +kernel
theorem dX6_numberOfSnapshots_24 : decode cX6_numberOfSnapshots 24 = .ok (.goto (-20), 3) := by decide +kernel
theorem dX6_numberOfSnapshots_27 : decode cX6_numberOfSnapshots 27 = .ok (.iload_n 1, 1) := by decide +kernel
theorem dX6_numberOfSnapshots_28 : decode cX6_numberOfSnapshots 28 = .ok (.ireturn, 1) := by decide +kernel
theorem dX7_init_0 : decode cX7_init 0 = .ok (.aload_n 0, 1) := by decide +kernel
theorem dX7_init_1 : decode cX7_init 1 = .ok (.invokespecial 3, 3) := by decide +kernel
theorem dX7_init_4 : decode cX7_init 4 = .ok (.aload_n 0, 1) := by decide +kernel
theorem dX7_init_5 : decode cX7_init 5 = .ok (.bipush 80, 2) := by decide +kernel
theorem dX7_init_7 : decode cX7_init 7 = .ok (.newarray .char, 2) := by decide +kernel
theorem dX7_init_9 : decode cX7_init 9 = .ok (.putfield 9, 3) := by decide +kernel
theorem dX7_init_12 : decode cX7_init 12 = .ok (.aload_n 0, 1) := by decide +kernel
theorem dX7_init_13 : decode cX7_init 13 = .ok (.iconst 0, 1) := by decide +kernel
theorem dX7_init_14 : decode cX7_init 14 = .ok (.putfield 15, 3) := by decide +kernel
theorem dX7_init_17 : decode cX7_init 17 = .ok (.return_, 1) := by decide +kernel
theorem dX7_addSign_0 : decode cX7_addSign 0 = .ok (.aload_n 0, 1) := by decide +kernel
theorem dX7_addSign_1 : decode cX7_addSign 1 = .ok (.getfield 15, 3) := by decide +kernel
theorem dX7_addSign_4 : decode cX7_addSign 4 = .ok (.bipush 80, 2) := by decide +kernel
theorem dX7_addSign_6 : decode cX7_addSign 6 = .ok (.if_icmp .ge 23, 3) := by decide +kernel
theorem dX7_addSign_9 : decode cX7_addSign 9 = .ok (.aload_n 0, 1) := by decide +kernel
theorem dX7_addSign_10 : decode cX7_addSign 10 = .ok (.getfield 9, 3) := by decide +kernel
theorem dX7_addSign_13 : decode cX7_addSign 13 = .ok (.aload_n 0, 1) := by decide +kernel
theorem dX7_addSign_14 : decode cX7_addSign 14 = .ok (.getfield 15, 3) := by decide +kernel
theorem dX7_addSign_17 : decode cX7_addSign 17 = .ok (.iload_n 1, 1) := by decide +kernel
theorem dX7_addSign_18 : decode cX7_addSign 18 = .ok (.castore, 1) := by decide +kernel
theorem dX7_addSign_19 : decode cX7_addSign 19 = .ok (.aload_n 0, 1) := by decide +kernel
theorem dX7_addSign_20 : decode cX7_addSign 20 = .ok (.dup, 1) := by decide +kernel
theorem dX7_addSign_21 : decode cX7_addSign 21 = .ok (.getfield 15, 3) := by decide +kernel
theorem dX7_addSign_24 : decode cX7_addSign 24 = .ok (.iconst 1, 1) := by decide +kernel
theorem dX7_addSign_25 : decode cX7_addSign 25 = .ok (.iadd, 1) := by decide +kernel
theorem dX7_addSign_26 : decode cX7_addSign 26 = .ok (.putfield 15, 3) := by decide +kernel
theorem dX7_addSign_29 : decode cX7_addSign 29 = .ok (.return_, 1) := by decide +kernel
theorem dX7_signAt_0 : decode cX7_signAt 0 = .ok (.iload_n 1, 1) := by decide +kernel
theorem dX7_signAt_1 : decode cX7_signAt 1 = .ok (.ifCond .lt 20, 3) := by decide +kernel
theorem dX7_signAt_4 : decode cX7_signAt 4 = .ok (.iload_n 1, 1) := by decide +kernel
theorem dX7_signAt_5 : decode cX7_signAt 5 = .ok (.aload_n 0, 1) := by decide +kernel
theorem dX7_signAt_6 : decode cX7_signAt 6 = .ok (.getfield 15, 3) := by decide +kernel
theorem dX7_signAt_9 : decode cX7_signAt 9 = .ok (.if_icmp .ge 12, 3) := by decide +kernel
theorem dX7_signAt_12 : decode cX7_signAt 12 = .ok (.aload_n 0, 1) := by decide +kernel
theorem dX7_signAt_13 : decode cX7_signAt 13 = .ok (.getfield 9, 3) := by decide +kernel
theorem dX7_signAt_16 : decode cX7_signAt 16 = .ok (.iload_n 1, 1) := by decide +kernel
theorem dX7_signAt_17 : decode cX7_signAt 17 = .ok (.caload, 1) := by decide +kernel
theorem dX7_signAt_18 : decode cX7_signAt 18 = .ok (.goto 4, 3) := by decide +kernel
theorem dX7_signAt_21 : decode cX7_signAt 21 = .ok (.iconst 0, 1) := by decide +kernel
theorem dX7_signAt_22 : decode cX7_signAt 22 = .ok (.ireturn, 1) := by decide +kernel
theorem dX8_init_0 : decode cX8_init 0 = .ok (.aload_n 0, 1) := by decide +kernel
theorem dX8_init_1 : decode cX8_init 1 = .ok (.invokespecial 1, 3) := by decide +kernel
theorem dX8_init_4 : decode cX8_init 4 = .ok (.aload_n 0, 1) := by decide +kernel
theorem dX8_init_5 : decode cX8_init 5 = .ok (.new 7, 3) := by decide +kernel
theorem dX8_init_8 : decode cX8_init 8 = .ok (.dup, 1) := by decide +kernel
theorem dX8_init_9 : decode cX8_init 9 = .ok (.invokespecial 9, 3) := by decide +kernel
theorem dX8_init_12 : decode cX8_init 12 = .ok (.putfield 10, 3) := by decide +kernel
theorem dX8_init_15 : decode cX8_init 15 = .ok (.aload_n 0, 1) := by decide +kernel
theorem dX8_init_16 : decode cX8_init 16 = .ok (.aload_n 0, 1) := by decide +kernel
theorem dX8_init_17 : decode cX8_init 17 = .ok (.getfield 10, 3) := by decide +kernel
theorem dX8_init_20 : decode cX8_init 20 = .ok (.getfield 16, 3) := by decide +kernel
theorem dX8_init_23 : decode cX8_init 23 = .ok (.putfield 20, 3) := by decide +kernel
theorem dX8_init_26 : decode cX8_init 26 = .ok (.aload_n 0, 1) := by decide +kernel
theorem dX8_init_27 : decode cX8_init 27 = .ok (.new 21, 3) := by decide +kernel
theorem dX8_init_30 : decode cX8_init 30 = .ok (.dup, 1) := by decide +kernel
theorem dX8_init_31 : decode cX8_init 31 = .ok (.invokespecial 23, 3) := by decide +kernel
theorem dX8_init_34 : decode cX8_init 34 = .ok (.putfield 24, 3) := by decide +kernel
theorem dX8_init_37 : decode cX8_init 37 = .ok (.aload_n 0, 1) := by decide +kernel
theorem dX8_init_38 : decode cX8_init 38 = .ok (.new 28, 3) := by decide +kernel
theorem dX8_init_41 : decode cX8_init 41 = .ok (.dup, 1) := by decide +kernel
theorem dX8_init_42 : decode cX8_init 42 = .ok (.invokespecial 30, 3) := by decide +kernel
theorem dX8_init_45 : decode cX8_init 45 = .ok (.putfield 31, 3) := by decide +kernel
theorem dX8_init_48 : decode cX8_init 48 = .ok (.aload_n 0, 1) := by decide +kernel
theorem dX8_init_49 : decode cX8_init 49 = .ok (.new 35, 3) := by decide +kernel
theorem dX8_init_52 : decode cX8_init 52 = .ok (.dup, 1) := by decide +kernel
theorem dX8_init_53 : decode cX8_init 53 = .ok (.invokespecial 37, 3) := by decide +kernel
theorem dX8_init_56 : decode cX8_init 56 = .ok (.putfield 38, 3) := by decide +kernel
theorem dX8_init_59 : decode cX8_init 59 = .ok (.aload_n 0, 1) := by decide +kernel
theorem dX8_init_60 : decode cX8_init 60 = .ok (.new 42, 3) := by decide +kernel
theorem dX8_init_63 : decode cX8_init 63 = .ok (.dup, 1) := by decide +kernel
theorem dX8_init_64 : decode cX8_init 64 = .ok (.invokespecial 44, 3) := by decide +kernel
theorem dX8_init_67 : decode cX8_init 67 = .ok (.putfield 45, 3) := by decide +kernel
theorem dX8_init_70 : decode cX8_init 70 = .ok (.return_, 1) := by decide +kernel
theorem dX8_lay_0 : decode cX8_lay 0 = .ok (.aload_n 0, 1) := by decide +kernel
theorem dX8_lay_1 : decode cX8_lay 1 = .ok (.iload_n 1, 1) := by decide +kernel
theorem dX8_lay_2 : decode cX8_lay 2 = .ok (.iload_n 2, 1) := by decide +kernel
theorem dX8_lay_3 : decode cX8_lay 3 = .ok (.invokevirtual 49, 3) := by decide +kernel
theorem dX8_lay_6 : decode cX8_lay 6 = .ok (.ifCond .eq 13, 3) := by decide +kernel
theorem dX8_lay_9 : decode cX8_lay 9 = .ok (.iload_n 3, 1) := by decide +kernel
theorem dX8_lay_10 : decode cX8_lay 10 = .ok (.iconst 1, 1) := by decide +kernel
theorem dX8_lay_11 : decode cX8_lay 11 = .ok (.bipush 30, 2) := by decide +kernel
theorem dX8_lay_13 : decode cX8_lay 13 = .ok (.invokestatic 53, 3) := by decide +kernel
theorem dX8_lay_16 : decode cX8_lay 16 = .ok (.ifCond .ne 5, 3) := by decide +kernel
theorem dX8_lay_19 : decode cX8_lay 19 = .ok (.iconst (-1), 1) := by decide +kernel
theorem dX8_lay_20 : decode cX8_lay 20 = .ok (.ireturn, 1) := by decide +kernel
theorem dX8_lay_21 : decode cX8_lay 21 = .ok (.aload_n 0, 1) := by decide +kernel
theorem dX8_lay_22 : decode cX8_lay 22 = .ok (.getfield 20, 3) := by decide +kernel
theorem dX8_lay_25 : decode cX8_lay 25 = .ok (.aload_n 0, 1) := by decide +kernel
theorem dX8_lay_26 : decode cX8_lay 26 = .ok (.getfield 20, 3) := by decide +kernel
theorem dX8_lay_29 : decode cX8_lay 29 = .ok (.getfield 57, 3) := by decide +kernel
theorem dX8_lay_32 : decode cX8_lay 32 = .ok (.invokevirtual 63, 3) := by decide +kernel
theorem dX8_lay_35 : decode cX8_lay 35 = .ok (.ifCond .ne 15, 3) := by decide +kernel
theorem dX8_lay_38 : decode cX8_lay 38 = .ok (.aload_n 0, 1) := by decide +kernel
theorem dX8_lay_39 : decode cX8_lay 39 = .ok (.getfield 20, 3) := by decide +kernel
theorem dX8_lay_42 : decode cX8_lay 42 = .ok (.iload_n 1, 1) := by decide +kernel
theorem dX8_lay_43 : decode cX8_lay 43 = .ok (.iload_n 2, 1) := by decide +kernel
theorem dX8_lay_44 : decode cX8_lay 44 = .ok (.invokevirtual 67, 3) := by decide +kernel
theorem dX8_lay_47 : decode cX8_lay 47 = .ok (.ifCond .ne 6, 3) := by decide +kernel
theorem dX8_lay_50 : decode cX8_lay 50 = .ok (.bipush (-2), 2) := by decide +kernel
theorem dX8_lay_52 : decode cX8_lay 52 = .ok (.ireturn, 1) := by decide +kernel
theorem dX8_lay_53 : decode cX8_lay 53 = .ok (.aload_n 0, 1) := by decide +kernel
theorem dX8_lay_54 : decode cX8_lay 54 = .ok (.getfield 24, 3) := by decide +kernel
theorem dX8_lay_57 : decode cX8_lay 57 = .ok (.aload_n 0, 1) := by decide +kernel
theorem dX8_lay_58 : decode cX8_lay 58 = .ok (.getfield 10, 3) := by decide +kernel
theorem dX8_lay_61 : decode cX8_lay 61 = .ok (.invokevirtual 70, 3) := by decide +kernel
theorem dX8_lay_64 : decode cX8_lay 64 = .ok (.iconst 0, 1) := by decide +kernel
theorem dX8_lay_65 : decode cX8_lay 65 = .ok (.istore 4, 2) := by decide +kernel
theorem dX8_lay_67 : decode cX8_lay 67 = .ok (.iload 4, 2) := by decide +kernel
theorem dX8_lay_69 : decode cX8_lay 69 = .ok (.iload_n 3, 1) := by decide +kernel
theorem dX8_lay_70 : decode cX8_lay 70 = .ok (.if_icmp .ge 36, 3) := by decide +kernel
theorem dX8_lay_73 : decode cX8_lay 73 = .ok (.aload_n 0, 1) := by decide +kernel
theorem dX8_lay_74 : decode cX8_lay 74 = .ok (.getfield 20, 3) := by decide +kernel
theorem dX8_lay_77 : decode cX8_lay 77 = .ok (.iload_n 1, 1) := by decide +kernel
theorem dX8_lay_78 : decode cX8_lay 78 = .ok (.iload_n 2, 1) := by decide +kernel
theorem dX8_lay_79 : decode cX8_lay 79 = .ok (.iload 4, 2) := by decide +kernel
theorem dX8_lay_81 : decode cX8_lay 81 = .ok (.iadd, 1) := by decide +kernel
theorem dX8_lay_82 : decode cX8_lay 82 = .ok (.invokevirtual 67, 3) := by decide +kernel
theorem dX8_lay_85 : decode cX8_lay 85 = .ok (.ifCond .eq 21, 3) := by decide +kernel
theorem dX8_lay_88 : decode cX8_lay 88 = .ok (.aload_n 0, 1) := by decide +kernel
theorem dX8_lay_89 : decode cX8_lay 89 = .ok (.getfield 20, 3) := by decide +kernel
theorem dX8_lay_92 : decode cX8_lay 92 = .ok (.iload_n 1, 1) := by decide +kernel
theorem dX8_lay_93 : decode cX8_lay 93 = .ok (.iload_n 2, 1) := by decide +kernel
theorem dX8_lay_94 : decode cX8_lay 94 = .ok (.iload 4, 2) := by decide +kernel
theorem dX8_lay_96 : decode cX8_lay 96 = .ok (.iadd, 1) := by decide +kernel
theorem dX8_lay_97 : decode cX8_lay 97 = .ok (.invokevirtual 74, 3) := by decide +kernel
theorem dX8_lay_100 : decode cX8_lay 100 = .ok (.iinc 4 1, 3) := by decide +kernel
theorem dX8_lay_103 : decode cX8_lay 103 = .ok (.goto (-36), 3) := by decide +kernel
theorem dX8_lay_106 : decode cX8_lay 106 = .ok (.iload 4, 2) := by decide +kernel
theorem dX8_lay_108 : decode cX8_lay 108 = .ok (.ireturn, 1) := by decide +kernel
theorem dX8_cut_0 : decode cX8_cut 0 = .ok (.aload_n 0, 1) := by decide +kernel
theorem dX8_cut_1 : decode cX8_cut 1 = .ok (.iload_n 1, 1) := by decide +kernel
theorem dX8_cut_2 : decode cX8_cut 2 = .ok (.iload_n 2, 1) := by decide +kernel
theorem dX8_cut_3 : decode cX8_cut 3 = .ok (.invokevirtual 49, 3) := by decide +kernel
theorem dX8_cut_6 : decode cX8_cut 6 = .ok (.ifCond .ne 5, 3) := by decide +kernel
theorem dX8_cut_9 : decode cX8_cut 9 = .ok (.iconst (-1), 1) := by decide +kernel
theorem dX8_cut_10 : decode cX8_cut 10 = .ok (.ireturn, 1) := by decide +kernel
theorem dX8_cut_11 : decode cX8_cut 11 = .ok (.aload_n 0, 1) := by decide +kernel
theorem dX8_cut_12 : decode cX8_cut 12 = .ok (.getfield 20, 3) := by decide +kernel
theorem dX8_cut_15 : decode cX8_cut 15 = .ok (.aload_n 0, 1) := by decide +kernel
theorem dX8_cut_16 : decode cX8_cut 16 = .ok (.getfield 20, 3) := by decide +kernel
theorem dX8_cut_19 : decode cX8_cut 19 = .ok (.getfield 57, 3) := by decide +kernel
theorem dX8_cut_22 : decode cX8_cut 22 = .ok (.invokevirtual 63, 3) := by decide +kernel
theorem dX8_cut_25 : decode cX8_cut 25 = .ok (.ifCond .ne 15, 3) := by decide +kernel
theorem dX8_cut_28 : decode cX8_cut 28 = .ok (.aload_n 0, 1) := by decide +kernel
theorem dX8_cut_29 : decode cX8_cut 29 = .ok (.getfield 20, 3) := by decide +kernel
theorem dX8_cut_32 : decode cX8_cut 32 = .ok (.iload_n 1, 1) := by decide +kernel
theorem dX8_cut_33 : decode cX8_cut 33 = .ok (.iload_n 2, 1) := by decide +kernel
theorem dX8_cut_34 : decode cX8_cut 34 = .ok (.invokevirtual 78, 3) := by decide +kernel
theorem dX8_cut_37 : decode cX8_cut 37 = .ok (.ifCond .ne 6, 3) := by decide +kernel
theorem dX8_cut_40 : decode cX8_cut 40 = .ok (.bipush (-2), 2) := by decide +kernel
theorem dX8_cut_42 : decode cX8_cut 42 = .ok (.ireturn, 1) := by decide +kernel
theorem dX8_cut_43 : decode cX8_cut 43 = .ok (.aload_n 0, 1) := by decide +kernel
theorem dX8_cut_44 : decode cX8_cut 44 = .ok (.getfield 24, 3) := by decide +kernel
theorem dX8_cut_47 : decode cX8_cut 47 = .ok (.aload_n 0, 1) := by decide +kernel
theorem dX8_cut_48 : decode cX8_cut 48 = .ok (.getfield 10, 3) := by decide +kernel
theorem dX8_cut_51 : decode cX8_cut 51 = .ok (.invokevirtual 70, 3) := by decide +kernel
theorem dX8_cut_54 : decode cX8_cut 54 = .ok (.aload_n 0, 1) := by decide +kernel
theorem dX8_cut_55 : decode cX8_cut 55 = .ok (.getfield 20, 3) := by decide +kernel
theorem dX8_cut_58 : decode cX8_cut 58 = .ok (.iload_n 1, 1) := by decide +kernel
theorem dX8_cut_59 : decode cX8_cut 59 = .ok (.iload_n 2, 1) := by decide +kernel
theorem dX8_cut_60 : decode cX8_cut 60 = .ok (.invokevirtual 81, 3) := by decide +kernel
theorem dX8_cut_63 : decode cX8_cut 63 = .ok (.aload_n 0, 1) := by decide +kernel
theorem dX8_cut_64 : decode cX8_cut 64 = .ok (.getfield 20, 3) := by decide +kernel
theorem dX8_cut_67 : decode cX8_cut 67 = .ok (.getfield 84, 3) := by decide +kernel
theorem dX8_cut_70 : decode cX8_cut 70 = .ok (.ireturn, 1) := by decide +kernel
theorem dX8_plant_0 : decode cX8_plant 0 = .ok (.aload_n 0, 1) := by decide +kernel
theorem dX8_plant_1 : decode cX8_plant 1 = .ok (.iload_n 1, 1) := by decide +kernel
theorem dX8_plant_2 : decode cX8_plant 2 = .ok (.iload_n 2, 1) := by decide +kernel
theorem dX8_plant_3 : decode cX8_plant 3 = .ok (.invokevirtual 49, 3) := by decide +kernel
theorem dX8_plant_6 : decode cX8_plant 6 = .ok (.ifCond .ne 5, 3) := by decide +kernel
theorem dX8_plant_9 : decode cX8_plant 9 = .ok (.iconst (-1), 1) := by decide +kernel
theorem dX8_plant_10 : decode cX8_plant 10 = .ok (.ireturn, 1) := by decide +kernel
theorem dX8_plant_11 : decode cX8_plant 11 = .ok (.aload_n 0, 1) := by decide +kernel
theorem dX8_plant_12 : decode cX8_plant 12 = .ok (.getfield 20, 3) := by decide +kernel
theorem dX8_plant_15 : decode cX8_plant 15 = .ok (.iload_n 1, 1) := by decide +kernel
theorem dX8_plant_16 : decode cX8_plant 16 = .ok (.iload_n 2, 1) := by decide +kernel
theorem dX8_plant_17 : decode cX8_plant 17 = .ok (.invokevirtual 87, 3) := by decide +kernel
theorem dX8_plant_20 : decode cX8_plant 20 = .ok (.ifCond .ne 6, 3) := by decide +kernel
theorem dX8_plant_23 : decode cX8_plant 23 = .ok (.bipush (-2), 2) := by decide +kernel
theorem dX8_plant_25 : decode cX8_plant 25 = .ok (.ireturn, 1) := by decide +kernel
theorem dX8_plant_26 : decode cX8_plant 26 = .ok (.aload_n 0, 1) := by decide +kernel
theorem dX8_plant_27 : decode cX8_plant 27 = .ok (.getfield 24, 3) := by decide +kernel
theorem dX8_plant_30 : decode cX8_plant 30 = .ok (.aload_n 0, 1) := by decide +kernel
theorem dX8_plant_31 : decode cX8_plant 31 = .ok (.getfield 10, 3) := by decide +kernel
theorem dX8_plant_34 : decode cX8_plant 34 = .ok (.invokevirtual 70, 3) := by decide +kernel
theorem dX8_plant_37 : decode cX8_plant 37 = .ok (.aload_n 0, 1) := by decide +kernel
theorem dX8_plant_38 : decode cX8_plant 38 = .ok (.getfield 20, 3) := by decide +kernel
theorem dX8_plant_41 : decode cX8_plant 41 = .ok (.iload_n 1, 1) := by decide +kernel
theorem dX8_plant_42 : decode cX8_plant 42 = .ok (.iload_n 2, 1) := by decide +kernel
theorem dX8_plant_43 : decode cX8_plant 43 = .ok (.invokevirtual 90, 3) := by decide +kernel
theorem dX8_plant_46 : decode cX8_plant 46 = .ok (.aload_n 0, 1) := by decide +kernel
theorem dX8_plant_47 : decode cX8_plant 47 = .ok (.getfield 20, 3) := by decide +kernel
theorem dX8_plant_50 : decode cX8_plant 50 = .ok (.getfield 93, 3) := by decide +kernel
theorem dX8_plant_53 : decode cX8_plant 53 = .ok (.ireturn, 1) := by decide +kernel
theorem dX8_grub_0 : decode cX8_grub 0 = .ok (.aload_n 0, 1) := by decide +kernel
theorem dX8_grub_1 : decode cX8_grub 1 = .ok (.iload_n 1, 1) := by decide +kernel
theorem dX8_grub_2 : decode cX8_grub 2 = .ok (.iload_n 2, 1) := by decide +kernel
theorem dX8_grub_3 : decode cX8_grub 3 = .ok (.invokevirtual 49, 3) := by decide +kernel
theorem dX8_grub_6 : decode cX8_grub 6 = .ok (.ifCond .ne 5, 3) := by decide +kernel
theorem dX8_grub_9 : decode cX8_grub 9 = .ok (.iconst (-1), 1) := by decide +kernel
theorem dX8_grub_10 : decode cX8_grub 10 = .ok (.ireturn, 1) := by decide +kernel
theorem dX8_grub_11 : decode cX8_grub 11 = .ok (.aload_n 0, 1) := by decide +kernel
theorem dX8_grub_12 : decode cX8_grub 12 = .ok (.getfield 20, 3) := by decide +kernel
theorem dX8_grub_15 : decode cX8_grub 15 = .ok (.getfield 96, 3) := by decide +kernel
theorem dX8_grub_18 : decode cX8_grub 18 = .ok (.iload_n 1, 1) := by decide +kernel
theorem dX8_grub_19 : decode cX8_grub 19 = .ok (.aaload, 1) := by decide +kernel
theorem dX8_grub_20 : decode cX8_grub 20 = .ok (.iload_n 2, 1) := by decide +kernel
theorem dX8_grub_21 : decode cX8_grub 21 = .ok (.invokevirtual 100, 3) := by decide +kernel
theorem dX8_grub_24 : decode cX8_grub 24 = .ok (.istore_n 3, 1) := by decide +kernel
theorem dX8_grub_25 : decode cX8_grub 25 = .ok (.iload_n 3, 1) := by decide +kernel
theorem dX8_grub_26 : decode cX8_grub 26 = .ok (.iconst 2, 1) := by decide +kernel
theorem dX8_grub_27 : decode cX8_grub 27 = .ok (.if_icmp .ne 6, 3) := by decide +kernel
theorem dX8_grub_30 : decode cX8_grub 30 = .ok (.bipush (-2), 2) := by decide +kernel
theorem dX8_grub_32 : decode cX8_grub 32 = .ok (.ireturn, 1) := by decide +kernel
theorem dX8_grub_33 : decode cX8_grub 33 = .ok (.aload_n 0, 1) := by decide +kernel
theorem dX8_grub_34 : decode cX8_grub 34 = .ok (.getfield 24, 3) := by decide +kernel
theorem dX8_grub_37 : decode cX8_grub 37 = .ok (.aload_n 0, 1) := by decide +kernel
theorem dX8_grub_38 : decode cX8_grub 38 = .ok (.getfield 10, 3) := by decide +kernel
theorem dX8_grub_41 : decode cX8_grub 41 = .ok (.invokevirtual 70, 3) := by decide +kernel
theorem dX8_grub_44 : decode cX8_grub 44 = .ok (.aload_n 0, 1) := by decide +kernel
theorem dX8_grub_45 : decode cX8_grub 45 = .ok (.getfield 20, 3) := by decide +kernel
theorem dX8_grub_48 : decode cX8_grub 48 = .ok (.iload_n 1, 1) := by decide +kernel
theorem dX8_grub_49 : decode cX8_grub 49 = .ok (.iload_n 2, 1) := by decide +kernel
theorem dX8_grub_50 : decode cX8_grub 50 = .ok (.invokevirtual 106, 3) := by decide +kernel
theorem dX8_grub_53 : decode cX8_grub 53 = .ok (.iload_n 3, 1) := by decide +kernel
theorem dX8_grub_54 : decode cX8_grub 54 = .ok (.ireturn, 1) := by decide +kernel
theorem dX8_pass_0 : decode cX8_pass 0 = .ok (.iload_n 1, 1) := by decide +kernel
theorem dX8_pass_1 : decode cX8_pass 1 = .ok (.iconst 1, 1) := by decide +kernel
theorem dX8_pass_2 : decode cX8_pass 2 = .ok (.bipush 60, 2) := by decide +kernel
theorem dX8_pass_4 : decode cX8_pass 4 = .ok (.invokestatic 53, 3) := by decide +kernel
theorem dX8_pass_7 : decode cX8_pass 7 = .ok (.ifCond .ne 5, 3) := by decide +kernel
theorem dX8_pass_10 : decode cX8_pass 10 = .ok (.iconst (-1), 1) := by decide +kernel
theorem dX8_pass_11 : decode cX8_pass 11 = .ok (.ireturn, 1) := by decide +kernel
theorem dX8_pass_12 : decode cX8_pass 12 = .ok (.aload_n 0, 1) := by decide +kernel
theorem dX8_pass_13 : decode cX8_pass 13 = .ok (.getfield 20, 3) := by decide +kernel
theorem dX8_pass_16 : decode cX8_pass 16 = .ok (.getfield 57, 3) := by decide +kernel
theorem dX8_pass_19 : decode cX8_pass 19 = .ok (.iload_n 1, 1) := by decide +kernel
theorem dX8_pass_20 : decode cX8_pass 20 = .ok (.iadd, 1) := by decide +kernel
theorem dX8_pass_21 : decode cX8_pass 21 = .ok (.sipush 1000, 3) := by decide +kernel
theorem dX8_pass_24 : decode cX8_pass 24 = .ok (.if_icmp .le 6, 3) := by decide +kernel
theorem dX8_pass_27 : decode cX8_pass 27 = .ok (.bipush (-3), 2) := by decide +kernel
theorem dX8_pass_29 : decode cX8_pass 29 = .ok (.ireturn, 1) := by decide +kernel
theorem dX8_pass_30 : decode cX8_pass 30 = .ok (.aload_n 0, 1) := by decide +kernel
theorem dX8_pass_31 : decode cX8_pass 31 = .ok (.getfield 24, 3) := by decide +kernel
theorem dX8_pass_34 : decode cX8_pass 34 = .ok (.aload_n 0, 1) := by decide +kernel
theorem dX8_pass_35 : decode cX8_pass 35 = .ok (.getfield 10, 3) := by decide +kernel
theorem dX8_pass_38 : decode cX8_pass 38 = .ok (.invokevirtual 70, 3) := by decide +kernel
theorem dX8_pass_41 : decode cX8_pass 41 = .ok (.iconst 0, 1) := by decide +kernel
theorem dX8_pass_42 : decode cX8_pass 42 = .ok (.istore_n 2, 1) := by decide +kernel
theorem dX8_pass_43 : decode cX8_pass 43 = .ok (.iconst 0, 1) := by decide +kernel
theorem dX8_pass_44 : decode cX8_pass 44 = .ok (.istore_n 3, 1) := by decide +kernel
theorem dX8_pass_45 : decode cX8_pass 45 = .ok (.iload_n 3, 1) := by decide +kernel
theorem dX8_pass_46 : decode cX8_pass 46 = .ok (.iload_n 1, 1) := by decide +kernel
theorem dX8_pass_47 : decode cX8_pass 47 = .ok (.if_icmp .ge 19, 3) := by decide +kernel
theorem dX8_pass_50 : decode cX8_pass 50 = .ok (.iload_n 2, 1) := by decide +kernel
theorem dX8_pass_51 : decode cX8_pass 51 = .ok (.aload_n 0, 1) := by decide +kernel
theorem dX8_pass_52 : decode cX8_pass 52 = .ok (.getfield 20, 3) := by decide +kernel
theorem dX8_pass_55 : decode cX8_pass 55 = .ok (.invokevirtual 109, 3) := by decide +kernel
theorem dX8_pass_58 : decode cX8_pass 58 = .ok (.iadd, 1) := by decide +kernel
theorem dX8_pass_59 : decode cX8_pass 59 = .ok (.istore_n 2, 1) := by decide +kernel
theorem dX8_pass_60 : decode cX8_pass 60 = .ok (.iinc 3 1, 3) := by decide +kernel
theorem dX8_pass_63 : decode cX8_pass 63 = .ok (.goto (-18), 3) := by decide +kernel
theorem dX8_pass_66 : decode cX8_pass 66 = .ok (.iload_n 2, 1) := by decide +kernel
theorem dX8_pass_67 : decode cX8_pass 67 = .ok (.ireturn, 1) := by decide +kernel
theorem dX8_set_0 : decode cX8_set 0 = .ok (.iload_n 1, 1) := by decide +kernel
theorem dX8_set_1 : decode cX8_set 1 = .ok (.iload_n 2, 1) := by decide +kernel
theorem dX8_set_2 : decode cX8_set 2 = .ok (.invokestatic 113, 3) := by decide +kernel
theorem dX8_set_5 : decode cX8_set 5 = .ok (.ifCond .ne 5, 3) := by decide +kernel
theorem dX8_set_8 : decode cX8_set 8 = .ok (.iconst (-1), 1) := by decide +kernel
theorem dX8_set_9 : decode cX8_set 9 = .ok (.ireturn, 1) := by decide +kernel
theorem dX8_set_10 : decode cX8_set 10 = .ok (.aload_n 0, 1) := by decide +kernel
theorem dX8_set_11 : decode cX8_set 11 = .ok (.getfield 24, 3) := by decide +kernel
theorem dX8_set_14 : decode cX8_set 14 = .ok (.aload_n 0, 1) := by decide +kernel
theorem dX8_set_15 : decode cX8_set 15 = .ok (.getfield 10, 3) := by decide +kernel
theorem dX8_set_18 : decode cX8_set 18 = .ok (.invokevirtual 70, 3) := by decide +kernel
theorem dX8_set_21 : decode cX8_set 21 = .ok (.aload_n 0, 1) := by decide +kernel
theorem dX8_set_22 : decode cX8_set 22 = .ok (.getfield 20, 3) := by decide +kernel
theorem dX8_set_25 : decode cX8_set 25 = .ok (.iload_n 1, 1) := by decide +kernel
theorem dX8_set_26 : decode cX8_set 26 = .ok (.invokevirtual 116, 3) := by decide +kernel
theorem dX8_set_29 : decode cX8_set 29 = .ok (.istore_n 3, 1) := by decide +kernel
theorem dX8_set_30 : decode cX8_set 30 = .ok (.aload_n 0, 1) := by decide +kernel
theorem dX8_set_31 : decode cX8_set 31 = .ok (.getfield 20, 3) := by decide +kernel
theorem dX8_set_34 : decode cX8_set 34 = .ok (.iload_n 1, 1) := by decide +kernel
theorem dX8_set_35 : decode cX8_set 35 = .ok (.iload_n 2, 1) := by decide +kernel
theorem dX8_set_36 : decode cX8_set 36 = .ok (.invokevirtual 119, 3) := by decide +kernel
theorem dX8_set_39 : decode cX8_set 39 = .ok (.iload_n 3, 1) := by decide +kernel
theorem dX8_set_40 : decode cX8_set 40 = .ok (.ireturn, 1) := by decide +kernel
theorem dX8_contract_0 : decode cX8_contract 0 = .ok (.iload_n 1, 1) := by decide +kernel
theorem dX8_contract_1 : decode cX8_contract 1 = .ok (.invokestatic 122, 3) := by decide +kernel
theorem dX8_contract_4 : decode cX8_contract 4 = .ok (.ifCond .eq 34, 3) := by decide +kernel
theorem dX8_contract_7 : decode cX8_contract 7 = .ok (.iload_n 2, 1) := by decide +kernel
theorem dX8_contract_8 : decode cX8_contract 8 = .ok (.iconst 0, 1) := by decide +kernel
theorem dX8_contract_9 : decode cX8_contract 9 = .ok (.bipush 20, 2) := by decide +kernel
theorem dX8_contract_11 : decode cX8_contract 11 = .ok (.invokestatic 53, 3) := by decide +kernel
theorem dX8_contract_14 : decode cX8_contract 14 = .ok (.ifCond .eq 24, 3) := by decide +kernel
theorem dX8_contract_17 : decode cX8_contract 17 = .ok (.iload_n 3, 1) := by decide +kernel
theorem dX8_contract_18 : decode cX8_contract 18 = .ok (.iconst 0, 1) := by decide +kernel
theorem dX8_contract_19 : decode cX8_contract 19 = .ok (.bipush 100, 2) := by decide +kernel
theorem dX8_contract_21 : decode cX8_contract 21 = .ok (.invokestatic 53, 3) := by decide +kernel
theorem dX8_contract_24 : decode cX8_contract 24 = .ok (.ifCond .eq 14, 3) := by decide +kernel
theorem dX8_contract_27 : decode cX8_contract 27 = .ok (.iload 4, 2) := by decide +kernel
theorem dX8_contract_29 : decode cX8_contract 29 = .ok (.iconst 0, 1) := by decide +kernel
theorem dX8_contract_30 : decode cX8_contract 30 = .ok (.bipush 9, 2) := by decide +kernel
theorem dX8_contract_32 : decode cX8_contract 32 = .ok (.invokestatic 53, 3) := by decide +kernel
theorem dX8_contract_35 : decode cX8_contract 35 = .ok (.ifCond .ne 5, 3) := by decide +kernel
theorem dX8_contract_38 : decode cX8_contract 38 = .ok (.iconst (-1), 1) := by decide +kernel
theorem dX8_contract_39 : decode cX8_contract 39 = .ok (.ireturn, 1) := by decide +kernel
theorem dX8_contract_40 : decode cX8_contract 40 = .ok (.aload_n 0, 1) := by decide +kernel
theorem dX8_contract_41 : decode cX8_contract 41 = .ok (.getfield 20, 3) := by decide +kernel
theorem dX8_contract_44 : decode cX8_contract 44 = .ok (.getfield 96, 3) := by decide +kernel
theorem dX8_contract_47 : decode cX8_contract 47 = .ok (.iload_n 1, 1) := by decide +kernel
theorem dX8_contract_48 : decode cX8_contract 48 = .ok (.aaload, 1) := by decide +kernel
theorem dX8_contract_49 : decode cX8_contract 49 = .ok (.iconst 0, 1) := by decide +kernel
theorem dX8_contract_50 : decode cX8_contract 50 = .ok (.invokevirtual 125, 3) := by decide +kernel
theorem dX8_contract_53 : decode cX8_contract 53 = .ok (.istore 5, 2) := by decide +kernel
theorem dX8_contract_55 : decode cX8_contract 55 = .ok (.aload_n 0, 1) := by decide +kernel
theorem dX8_contract_56 : decode cX8_contract 56 = .ok (.getfield 20, 3) := by decide +kernel
theorem dX8_contract_59 : decode cX8_contract 59 = .ok (.getfield 128, 3) := by decide +kernel
theorem dX8_contract_62 : decode cX8_contract 62 = .ok (.iload_n 1, 1) := by decide +kernel
theorem dX8_contract_63 : decode cX8_contract 63 = .ok (.aaload, 1) := by decide +kernel
theorem dX8_contract_64 : decode cX8_contract 64 = .ok (.getfield 132, 3) := by decide +kernel
theorem dX8_contract_67 : decode cX8_contract 67 = .ok (.ifCond .ne 8, 3) := by decide +kernel
theorem dX8_contract_70 : decode cX8_contract 70 = .ok (.iload 5, 2) := by decide +kernel
theorem dX8_contract_72 : decode cX8_contract 72 = .ok (.ifCond .ne 6, 3) := by decide +kernel
theorem dX8_contract_75 : decode cX8_contract 75 = .ok (.bipush (-2), 2) := by decide +kernel
theorem dX8_contract_77 : decode cX8_contract 77 = .ok (.ireturn, 1) := by decide +kernel
theorem dX8_contract_78 : decode cX8_contract 78 = .ok (.aload_n 0, 1) := by decide +kernel
theorem dX8_contract_79 : decode cX8_contract 79 = .ok (.getfield 24, 3) := by decide +kernel
theorem dX8_contract_82 : decode cX8_contract 82 = .ok (.aload_n 0, 1) := by decide +kernel
theorem dX8_contract_83 : decode cX8_contract 83 = .ok (.getfield 10, 3) := by decide +kernel
theorem dX8_contract_86 : decode cX8_contract 86 = .ok (.invokevirtual 70, 3) := by decide +kernel
theorem dX8_contract_89 : decode cX8_contract 89 = .ok (.aload_n 0, 1) := by decide +kernel
theorem dX8_contract_90 : decode cX8_contract 90 = .ok (.getfield 20, 3) := by decide +kernel
theorem dX8_contract_93 : decode cX8_contract 93 = .ok (.getfield 128, 3) := by decide +kernel
theorem dX8_contract_96 : decode cX8_contract 96 = .ok (.iload_n 1, 1) := by decide +kernel
theorem dX8_contract_97 : decode cX8_contract 97 = .ok (.aaload, 1) := by decide +kernel
theorem dX8_contract_98 : decode cX8_contract 98 = .ok (.iload_n 2, 1) := by decide +kernel
theorem dX8_contract_99 : decode cX8_contract 99 = .ok (.aload_n 0, 1) := by decide +kernel
theorem dX8_contract_100 : decode cX8_contract 100 = .ok (.getfield 20, 3) := by decide +kernel
theorem dX8_contract_103 : decode cX8_contract 103 = .ok (.getfield 57, 3) := by decide +kernel
theorem dX8_contract_106 : decode cX8_contract 106 = .ok (.iload_n 3, 1) := by decide +kernel
theorem dX8_contract_107 : decode cX8_contract 107 = .ok (.iadd, 1) := by decide +kernel
theorem dX8_contract_108 : decode cX8_contract 108 = .ok (.iload 4, 2) := by decide +kernel
theorem dX8_contract_110 : decode cX8_contract 110 = .ok (.invokevirtual 138, 3) := by decide +kernel
theorem dX8_contract_113 : decode cX8_contract 113 = .ok (.iload 5, 2) := by decide +kernel
theorem dX8_contract_115 : decode cX8_contract 115 = .ok (.ireturn, 1) := by decide +kernel
theorem dX8_giveBack_0 : decode cX8_giveBack 0 = .ok (.iload_n 1, 1) := by decide +kernel
theorem dX8_giveBack_1 : decode cX8_giveBack 1 = .ok (.invokestatic 122, 3) := by decide +kernel
theorem dX8_giveBack_4 : decode cX8_giveBack 4 = .ok (.ifCond .ne 5, 3) := by decide +kernel
theorem dX8_giveBack_7 : decode cX8_giveBack 7 = .ok (.iconst (-1), 1) := by decide +kernel
theorem dX8_giveBack_8 : decode cX8_giveBack 8 = .ok (.ireturn, 1) := by decide +kernel
theorem dX8_giveBack_9 : decode cX8_giveBack 9 = .ok (.aload_n 0, 1) := by decide +kernel
theorem dX8_giveBack_10 : decode cX8_giveBack 10 = .ok (.getfield 20, 3) := by decide +kernel
theorem dX8_giveBack_13 : decode cX8_giveBack 13 = .ok (.getfield 128, 3) := by decide +kernel
theorem dX8_giveBack_16 : decode cX8_giveBack 16 = .ok (.iload_n 1, 1) := by decide +kernel
theorem dX8_giveBack_17 : decode cX8_giveBack 17 = .ok (.aaload, 1) := by decide +kernel
theorem dX8_giveBack_18 : decode cX8_giveBack 18 = .ok (.astore_n 2, 1) := by decide +kernel
theorem dX8_giveBack_19 : decode cX8_giveBack 19 = .ok (.aload_n 2, 1) := by decide +kernel
theorem dX8_giveBack_20 : decode cX8_giveBack 20 = .ok (.getfield 132, 3) := by decide +kernel
theorem dX8_giveBack_23 : decode cX8_giveBack 23 = .ok (.ifCond .ne 6, 3) := by decide +kernel
theorem dX8_giveBack_26 : decode cX8_giveBack 26 = .ok (.bipush (-2), 2) := by decide +kernel
theorem dX8_giveBack_28 : decode cX8_giveBack 28 = .ok (.ireturn, 1) := by decide +kernel
theorem dX8_giveBack_29 : decode cX8_giveBack 29 = .ok (.aload_n 0, 1) := by decide +kernel
theorem dX8_giveBack_30 : decode cX8_giveBack 30 = .ok (.getfield 24, 3) := by decide +kernel
theorem dX8_giveBack_33 : decode cX8_giveBack 33 = .ok (.aload_n 0, 1) := by decide +kernel
theorem dX8_giveBack_34 : decode cX8_giveBack 34 = .ok (.getfield 10, 3) := by decide +kernel
theorem dX8_giveBack_37 : decode cX8_giveBack 37 = .ok (.invokevirtual 70, 3) := by decide +kernel
theorem dX8_giveBack_40 : decode cX8_giveBack 40 = .ok (.iconst 5, 1) := by decide +kernel
theorem dX8_giveBack_41 : decode cX8_giveBack 41 = .ok (.aload_n 2, 1) := by decide +kernel
theorem dX8_giveBack_42 : decode cX8_giveBack 42 = .ok (.getfield 142, 3) := by decide +kernel
theorem dX8_giveBack_45 : decode cX8_giveBack 45 = .ok (.imul, 1) := by decide +kernel
theorem dX8_giveBack_46 : decode cX8_giveBack 46 = .ok (.istore_n 3, 1) := by decide +kernel
theorem dX8_giveBack_47 : decode cX8_giveBack 47 = .ok (.aload_n 0, 1) := by decide +kernel
theorem dX8_giveBack_48 : decode cX8_giveBack 48 = .ok (.getfield 20, 3) := by decide +kernel
theorem dX8_giveBack_51 : decode cX8_giveBack 51 = .ok (.iload_n 3, 1) := by decide +kernel
theorem dX8_giveBack_52 : decode cX8_giveBack 52 = .ok (.invokevirtual 145, 3) := by decide +kernel
theorem dX8_giveBack_55 : decode cX8_giveBack 55 = .ok (.aload_n 2, 1) := by decide +kernel
theorem dX8_giveBack_56 : decode cX8_giveBack 56 = .ok (.iconst 0, 1) := by decide +kernel
theorem dX8_giveBack_57 : decode cX8_giveBack 57 = .ok (.putfield 132, 3) := by decide +kernel
theorem dX8_giveBack_60 : decode cX8_giveBack 60 = .ok (.iload_n 3, 1) := by decide +kernel
theorem dX8_giveBack_61 : decode cX8_giveBack 61 = .ok (.ireturn, 1) := by decide +kernel
theorem dX8_payDebt_0 : decode cX8_payDebt 0 = .ok (.aload_n 0, 1) := by decide +kernel
theorem dX8_payDebt_1 : decode cX8_payDebt 1 = .ok (.getfield 20, 3) := by decide +kernel
theorem dX8_payDebt_4 : decode cX8_payDebt 4 = .ok (.getfield 149, 3) := by decide +kernel
theorem dX8_payDebt_7 : decode cX8_payDebt 7 = .ok (.aload_n 0, 1) := by decide +kernel
theorem dX8_payDebt_8 : decode cX8_payDebt 8 = .ok (.getfield 20, 3) := by decide +kernel
theorem dX8_payDebt_11 : decode cX8_payDebt 11 = .ok (.getfield 152, 3) := by decide +kernel
theorem dX8_payDebt_14 : decode cX8_payDebt 14 = .ok (.invokestatic 155, 3) := by decide +kernel
theorem dX8_payDebt_17 : decode cX8_payDebt 17 = .ok (.istore_n 1, 1) := by decide +kernel
theorem dX8_payDebt_18 : decode cX8_payDebt 18 = .ok (.iload_n 1, 1) := by decide +kernel
theorem dX8_payDebt_19 : decode cX8_payDebt 19 = .ok (.ifCond .ne 6, 3) := by decide +kernel
theorem dX8_payDebt_22 : decode cX8_payDebt 22 = .ok (.bipush (-2), 2) := by decide +kernel
theorem dX8_payDebt_24 : decode cX8_payDebt 24 = .ok (.ireturn, 1) := by decide +kernel
theorem dX8_payDebt_25 : decode cX8_payDebt 25 = .ok (.aload_n 0, 1) := by decide +kernel
theorem dX8_payDebt_26 : decode cX8_payDebt 26 = .ok (.getfield 24, 3) := by decide +kernel
theorem dX8_payDebt_29 : decode cX8_payDebt 29 = .ok (.aload_n 0, 1) := by decide +kernel
theorem dX8_payDebt_30 : decode cX8_payDebt 30 = .ok (.getfield 10, 3) := by decide +kernel
theorem dX8_payDebt_33 : decode cX8_payDebt 33 = .ok (.invokevirtual 70, 3) := by decide +kernel
theorem dX8_payDebt_36 : decode cX8_payDebt 36 = .ok (.aload_n 0, 1) := by decide +kernel
theorem dX8_payDebt_37 : decode cX8_payDebt 37 = .ok (.getfield 20, 3) := by decide +kernel
theorem dX8_payDebt_40 : decode cX8_payDebt 40 = .ok (.dup, 1) := by decide +kernel
theorem dX8_payDebt_41 : decode cX8_payDebt 41 = .ok (.getfield 149, 3) := by decide +kernel
theorem dX8_payDebt_44 : decode cX8_payDebt 44 = .ok (.iload_n 1, 1) := by decide +kernel
theorem dX8_payDebt_45 : decode cX8_payDebt 45 = .ok (.isub, 1) := by decide +kernel
theorem dX8_payDebt_46 : decode cX8_payDebt 46 = .ok (.putfield 149, 3) := by decide +kernel
theorem dX8_payDebt_49 : decode cX8_payDebt 49 = .ok (.aload_n 0, 1) := by decide +kernel
theorem dX8_payDebt_50 : decode cX8_payDebt 50 = .ok (.getfield 20, 3) := by decide +kernel
theorem dX8_payDebt_53 : decode cX8_payDebt 53 = .ok (.dup, 1) := by decide +kernel
theorem dX8_payDebt_54 : decode cX8_payDebt 54 = .ok (.getfield 152, 3) := by decide +kernel
theorem dX8_payDebt_57 : decode cX8_payDebt 57 = .ok (.iload_n 1, 1) := by decide +kernel
theorem dX8_payDebt_58 : decode cX8_payDebt 58 = .ok (.isub, 1) := by decide +kernel
theorem dX8_payDebt_59 : decode cX8_payDebt 59 = .ok (.putfield 152, 3) := by decide +kernel
theorem dX8_payDebt_62 : decode cX8_payDebt 62 = .ok (.iload_n 1, 1) := by decide +kernel
theorem dX8_payDebt_63 : decode cX8_payDebt 63 = .ok (.ireturn, 1) := by decide +kernel
theorem dX8_take_0 : decode cX8_take 0 = .ok (.iload_n 1, 1) := by decide +kernel
theorem dX8_take_1 : decode cX8_take 1 = .ok (.invokestatic 161, 3) := by decide +kernel
theorem dX8_take_4 : decode cX8_take 4 = .ok (.ifCond .ne 5, 3) := by decide +kernel
theorem dX8_take_7 : decode cX8_take 7 = .ok (.iconst (-1), 1) := by decide +kernel
theorem dX8_take_8 : decode cX8_take 8 = .ok (.ireturn, 1) := by decide +kernel
theorem dX8_take_9 : decode cX8_take 9 = .ok (.aload_n 0, 1) := by decide +kernel
theorem dX8_take_10 : decode cX8_take 10 = .ok (.getfield 24, 3) := by decide +kernel
theorem dX8_take_13 : decode cX8_take 13 = .ok (.aload_n 0, 1) := by decide +kernel
theorem dX8_take_14 : decode cX8_take 14 = .ok (.getfield 10, 3) := by decide +kernel
theorem dX8_take_17 : decode cX8_take 17 = .ok (.invokevirtual 70, 3) := by decide +kernel
theorem dX8_take_20 : decode cX8_take 20 = .ok (.aload_n 0, 1) := by decide +kernel
theorem dX8_take_21 : decode cX8_take 21 = .ok (.getfield 10, 3) := by decide +kernel
theorem dX8_take_24 : decode cX8_take 24 = .ok (.iload_n 1, 1) := by decide +kernel
theorem dX8_take_25 : decode cX8_take 25 = .ok (.invokevirtual 164, 3) := by decide +kernel
theorem dX8_take_28 : decode cX8_take 28 = .ok (.aload_n 0, 1) := by decide +kernel
theorem dX8_take_29 : decode cX8_take 29 = .ok (.getfield 20, 3) := by decide +kernel
theorem dX8_take_32 : decode cX8_take 32 = .ok (.getfield 57, 3) := by decide +kernel
theorem dX8_take_35 : decode cX8_take 35 = .ok (.ireturn, 1) := by decide +kernel
theorem dX8_restore_0 : decode cX8_restore 0 = .ok (.iload_n 1, 1) := by decide +kernel
theorem dX8_restore_1 : decode cX8_restore 1 = .ok (.invokestatic 161, 3) := by decide +kernel
theorem dX8_restore_4 : decode cX8_restore 4 = .ok (.ifCond .ne 5, 3) := by decide +kernel
theorem dX8_restore_7 : decode cX8_restore 7 = .ok (.iconst (-1), 1) := by decide +kernel
theorem dX8_restore_8 : decode cX8_restore 8 = .ok (.ireturn, 1) := by decide +kernel
theorem dX8_restore_9 : decode cX8_restore 9 = .ok (.aload_n 0, 1) := by decide +kernel
theorem dX8_restore_10 : decode cX8_restore 10 = .ok (.getfield 10, 3) := by decide +kernel
theorem dX8_restore_13 : decode cX8_restore 13 = .ok (.getfield 167, 3) := by decide +kernel
theorem dX8_restore_16 : decode cX8_restore 16 = .ok (.iload_n 1, 1) := by decide +kernel
theorem dX8_restore_17 : decode cX8_restore 17 = .ok (.baload, 1) := by decide +kernel
theorem dX8_restore_18 : decode cX8_restore 18 = .ok (.ifCond .ne 6, 3) := by decide +kernel
theorem dX8_restore_21 : decode cX8_restore 21 = .ok (.bipush (-2), 2) := by decide +kernel
theorem dX8_restore_23 : decode cX8_restore 23 = .ok (.ireturn, 1) := by decide +kernel
theorem dX8_restore_24 : decode cX8_restore 24 = .ok (.aload_n 0, 1) := by decide +kernel
theorem dX8_restore_25 : decode cX8_restore 25 = .ok (.getfield 24, 3) := by decide +kernel
theorem dX8_restore_28 : decode cX8_restore 28 = .ok (.aload_n 0, 1) := by decide +kernel
theorem dX8_restore_29 : decode cX8_restore 29 = .ok (.getfield 10, 3) := by decide +kernel
theorem dX8_restore_32 : decode cX8_restore 32 = .ok (.invokevirtual 70, 3) := by decide +kernel
theorem dX8_restore_35 : decode cX8_restore 35 = .ok (.aload_n 0, 1) := by decide +kernel
theorem dX8_restore_36 : decode cX8_restore 36 = .ok (.getfield 20, 3) := by decide +kernel
theorem dX8_restore_39 : decode cX8_restore 39 = .ok (.aload_n 0, 1) := by decide +kernel
theorem dX8_restore_40 : decode cX8_restore 40 = .ok (.getfield 10, 3) := by decide +kernel
theorem dX8_restore_43 : decode cX8_restore 43 = .ok (.getfield 171, 3) := by decide +kernel
theorem dX8_restore_46 : decode cX8_restore 46 = .ok (.iload_n 1, 1) := by decide +kernel
theorem dX8_restore_47 : decode cX8_restore 47 = .ok (.aaload, 1) := by decide +kernel
theorem dX8_restore_48 : decode cX8_restore 48 = .ok (.invokevirtual 175, 3) := by decide +kernel
theorem dX8_restore_51 : decode cX8_restore 51 = .ok (.aload_n 0, 1) := by decide +kernel
theorem dX8_restore_52 : decode cX8_restore 52 = .ok (.getfield 20, 3) := by decide +kernel
theorem dX8_restore_55 : decode cX8_restore 55 = .ok (.getfield 57, 3) := by decide +kernel
theorem dX8_restore_58 : decode cX8_restore 58 = .ok (.ireturn, 1) := by decide +kernel
theorem dX8_undo_0 : decode cX8_undo 0 = .ok (.aload_n 0, 1) := by decide +kernel
theorem dX8_undo_1 : decode cX8_undo 1 = .ok (.getfield 24, 3) := by decide +kernel
theorem dX8_undo_4 : decode cX8_undo 4 = .ok (.getfield 179, 3) := by decide +kernel
theorem dX8_undo_7 : decode cX8_undo 7 = .ok (.ifCond .ne 6, 3) := by decide +kernel
theorem dX8_undo_10 : decode cX8_undo 10 = .ok (.bipush (-2), 2) := by decide +kernel
theorem dX8_undo_12 : decode cX8_undo 12 = .ok (.ireturn, 1) := by decide +kernel
theorem dX8_undo_13 : decode cX8_undo 13 = .ok (.aload_n 0, 1) := by decide +kernel
theorem dX8_undo_14 : decode cX8_undo 14 = .ok (.getfield 24, 3) := by decide +kernel
theorem dX8_undo_17 : decode cX8_undo 17 = .ok (.aload_n 0, 1) := by decide +kernel
theorem dX8_undo_18 : decode cX8_undo 18 = .ok (.getfield 10, 3) := by decide +kernel
theorem dX8_undo_21 : decode cX8_undo 21 = .ok (.invokevirtual 182, 3) := by decide +kernel
theorem dX8_undo_24 : decode cX8_undo 24 = .ok (.aload_n 0, 1) := by decide +kernel
theorem dX8_undo_25 : decode cX8_undo 25 = .ok (.getfield 24, 3) := by decide +kernel
theorem dX8_undo_28 : decode cX8_undo 28 = .ok (.getfield 179, 3) := by decide +kernel
theorem dX8_undo_31 : decode cX8_undo 31 = .ok (.ireturn, 1) := by decide +kernel
theorem dX8_append_0 : decode cX8_append 0 = .ok (.iload_n 1, 1) := by decide +kernel
theorem dX8_append_1 : decode cX8_append 1 = .ok (.iconst 1, 1) := by decide +kernel
theorem dX8_append_2 : decode cX8_append 2 = .ok (.sipush 255, 3) := by decide +kernel
theorem dX8_append_5 : decode cX8_append 5 = .ok (.invokestatic 53, 3) := by decide +kernel
theorem dX8_append_8 : decode cX8_append 8 = .ok (.ifCond .ne 5, 3) := by decide +kernel
theorem dX8_append_11 : decode cX8_append 11 = .ok (.iconst (-1), 1) := by decide +kernel
theorem dX8_append_12 : decode cX8_append 12 = .ok (.ireturn, 1) := by decide +kernel
theorem dX8_append_13 : decode cX8_append 13 = .ok (.aload_n 0, 1) := by decide +kernel
theorem dX8_append_14 : decode cX8_append 14 = .ok (.getfield 31, 3) := by decide +kernel
theorem dX8_append_17 : decode cX8_append 17 = .ok (.getfield 185, 3) := by decide +kernel
theorem dX8_append_20 : decode cX8_append 20 = .ok (.bipush 80, 2) := by decide +kernel
theorem dX8_append_22 : decode cX8_append 22 = .ok (.if_icmp .lt 6, 3) := by decide +kernel
theorem dX8_append_25 : decode cX8_append 25 = .ok (.bipush (-3), 2) := by decide +kernel
theorem dX8_append_27 : decode cX8_append 27 = .ok (.ireturn, 1) := by decide +kernel
theorem dX8_append_28 : decode cX8_append 28 = .ok (.aload_n 0, 1) := by decide +kernel
theorem dX8_append_29 : decode cX8_append 29 = .ok (.getfield 31, 3) := by decide +kernel
theorem dX8_append_32 : decode cX8_append 32 = .ok (.iload_n 1, 1) := by decide +kernel
theorem dX8_append_33 : decode cX8_append 33 = .ok (.i2c, 1) := by decide +kernel
theorem dX8_append_34 : decode cX8_append 34 = .ok (.invokevirtual 188, 3) := by decide +kernel
theorem dX8_append_37 : decode cX8_append 37 = .ok (.aload_n 0, 1) := by decide +kernel
theorem dX8_append_38 : decode cX8_append 38 = .ok (.getfield 31, 3) := by decide +kernel
theorem dX8_append_41 : decode cX8_append 41 = .ok (.getfield 185, 3) := by decide +kernel
theorem dX8_append_44 : decode cX8_append 44 = .ok (.ireturn, 1) := by decide +kernel
theorem dX8_clearText_0 : decode cX8_clearText 0 = .ok (.aload_n 0, 1) := by decide +kernel
theorem dX8_clearText_1 : decode cX8_clearText 1 = .ok (.getfield 31, 3) := by decide +kernel
theorem dX8_clearText_4 : decode cX8_clearText 4 = .ok (.getfield 185, 3) := by decide +kernel
theorem dX8_clearText_7 : decode cX8_clearText 7 = .ok (.istore_n 1, 1) := by decide +kernel
theorem dX8_clearText_8 : decode cX8_clearText 8 = .ok (.aload_n 0, 1) := by decide +kernel
theorem dX8_clearText_9 : decode cX8_clearText 9 = .ok (.getfield 31, 3) := by decide +kernel
theorem dX8_clearText_12 : decode cX8_clearText 12 = .ok (.iconst 0, 1) := by decide +kernel
theorem dX8_clearText_13 : decode cX8_clearText 13 = .ok (.putfield 185, 3) := by decide +kernel
theorem dX8_clearText_16 : decode cX8_clearText 16 = .ok (.iload_n 1, 1) := by decide +kernel
theorem dX8_clearText_17 : decode cX8_clearText 17 = .ok (.ireturn, 1) := by decide +kernel
theorem dX8_read_0 : decode cX8_read 0 = .ok (.iload_n 1, 1) := by decide +kernel
theorem dX8_read_1 : decode cX8_read 1 = .ok (.invokestatic 122, 3) := by decide +kernel
theorem dX8_read_4 : decode cX8_read 4 = .ok (.ifCond .ne 5, 3) := by decide +kernel
theorem dX8_read_7 : decode cX8_read 7 = .ok (.iconst (-1), 1) := by decide +kernel
theorem dX8_read_8 : decode cX8_read 8 = .ok (.ireturn, 1) := by decide +kernel
theorem dX8_read_9 : decode cX8_read 9 = .ok (.aload_n 0, 1) := by decide +kernel
theorem dX8_read_10 : decode cX8_read 10 = .ok (.getfield 38, 3) := by decide +kernel
theorem dX8_read_13 : decode cX8_read 13 = .ok (.aload_n 0, 1) := by decide +kernel
theorem dX8_read_14 : decode cX8_read 14 = .ok (.getfield 31, 3) := by decide +kernel
theorem dX8_read_17 : decode cX8_read 17 = .ok (.invokevirtual 192, 3) := by decide +kernel
theorem dX8_read_20 : decode cX8_read 20 = .ok (.istore_n 2, 1) := by decide +kernel
theorem dX8_read_21 : decode cX8_read 21 = .ok (.iload_n 2, 1) := by decide +kernel
theorem dX8_read_22 : decode cX8_read 22 = .ok (.iconst (-1), 1) := by decide +kernel
theorem dX8_read_23 : decode cX8_read 23 = .ok (.if_icmp .eq 9, 3) := by decide +kernel
theorem dX8_read_26 : decode cX8_read 26 = .ok (.sipush (-1000), 3) := by decide +kernel
theorem dX8_read_29 : decode cX8_read 29 = .ok (.iload_n 2, 1) := by decide +kernel
theorem dX8_read_30 : decode cX8_read 30 = .ok (.isub, 1) := by decide +kernel
theorem dX8_read_31 : decode cX8_read 31 = .ok (.ireturn, 1) := by decide +kernel
theorem dX8_read_32 : decode cX8_read 32 = .ok (.aload_n 0, 1) := by decide +kernel
theorem dX8_read_33 : decode cX8_read 33 = .ok (.getfield 38, 3) := by decide +kernel
theorem dX8_read_36 : decode cX8_read 36 = .ok (.getfield 196, 3) := by decide +kernel
theorem dX8_read_39 : decode cX8_read 39 = .ok (.bipush 30, 2) := by decide +kernel
theorem dX8_read_41 : decode cX8_read 41 = .ok (.if_icmp .le 6, 3) := by decide +kernel
theorem dX8_read_44 : decode cX8_read 44 = .ok (.bipush (-3), 2) := by decide +kernel
theorem dX8_read_46 : decode cX8_read 46 = .ok (.ireturn, 1) := by decide +kernel
theorem dX8_read_47 : decode cX8_read 47 = .ok (.aload_n 0, 1) := by decide +kernel
theorem dX8_read_48 : decode cX8_read 48 = .ok (.getfield 24, 3) := by decide +kernel
theorem dX8_read_51 : decode cX8_read 51 = .ok (.aload_n 0, 1) := by decide +kernel
theorem dX8_read_52 : decode cX8_read 52 = .ok (.getfield 10, 3) := by decide +kernel
theorem dX8_read_55 : decode cX8_read 55 = .ok (.invokevirtual 70, 3) := by decide +kernel
theorem dX8_read_58 : decode cX8_read 58 = .ok (.aload_n 0, 1) := by decide +kernel
theorem dX8_read_59 : decode cX8_read 59 = .ok (.getfield 20, 3) := by decide +kernel
theorem dX8_read_62 : decode cX8_read 62 = .ok (.iload_n 1, 1) := by decide +kernel
theorem dX8_read_63 : decode cX8_read 63 = .ok (.aload_n 0, 1) := by decide +kernel
theorem dX8_read_64 : decode cX8_read 64 = .ok (.getfield 38, 3) := by decide +kernel
theorem dX8_read_67 : decode cX8_read 67 = .ok (.getfield 199, 3) := by decide +kernel
theorem dX8_read_70 : decode cX8_read 70 = .ok (.invokevirtual 203, 3) := by decide +kernel
theorem dX8_read_73 : decode cX8_read 73 = .ok (.aload_n 0, 1) := by decide +kernel
theorem dX8_read_74 : decode cX8_read 74 = .ok (.getfield 31, 3) := by decide +kernel
theorem dX8_read_77 : decode cX8_read 77 = .ok (.iconst 0, 1) := by decide +kernel
theorem dX8_read_78 : decode cX8_read 78 = .ok (.putfield 185, 3) := by decide +kernel
theorem dX8_read_81 : decode cX8_read 81 = .ok (.aload_n 0, 1) := by decide +kernel
theorem dX8_read_82 : decode cX8_read 82 = .ok (.getfield 20, 3) := by decide +kernel
theorem dX8_read_85 : decode cX8_read 85 = .ok (.getfield 96, 3) := by decide +kernel
theorem dX8_read_88 : decode cX8_read 88 = .ok (.iload_n 1, 1) := by decide +kernel
theorem dX8_read_89 : decode cX8_read 89 = .ok (.aaload, 1) := by decide +kernel
theorem dX8_read_90 : decode cX8_read 90 = .ok (.getfield 207, 3) := by decide +kernel
theorem dX8_read_93 : decode cX8_read 93 = .ok (.ireturn, 1) := by decide +kernel
theorem dX8_count_0 : decode cX8_count 0 = .ok (.iload_n 1, 1) := by decide +kernel
theorem dX8_count_1 : decode cX8_count 1 = .ok (.tableswitch 252 0 17 #[87, 95, 106, 129, 137, 145, 153, 161, 169, 177, 185, 193, 201, 210, 219, 228, 236, 244], 87) := by decide +kernel
theorem dX8_count_88 : decode cX8_count 88 = .ok (.aload_n 0, 1) := by decide +kernel
theorem dX8_count_89 : decode cX8_count 89 = .ok (.getfield 20, 3) := by decide +kernel
theorem dX8_count_92 : decode cX8_count 92 = .ok (.getfield 57, 3) := by decide +kernel
theorem dX8_count_95 : decode cX8_count 95 = .ok (.ireturn, 1) := by decide +kernel
theorem dX8_count_96 : decode cX8_count 96 = .ok (.aload_n 0, 1) := by decide +kernel
theorem dX8_count_97 : decode cX8_count 97 = .ok (.getfield 20, 3) := by decide +kernel
theorem dX8_count_100 : decode cX8_count 100 = .ok (.getfield 57, 3) := by decide +kernel
theorem dX8_count_103 : decode cX8_count 103 = .ok (.bipush 52, 2) := by decide +kernel
theorem dX8_count_105 : decode cX8_count 105 = .ok (.irem, 1) := by decide +kernel
theorem dX8_count_106 : decode cX8_count 106 = .ok (.ireturn, 1) := by decide +kernel
theorem dX8_count_107 : decode cX8_count 107 = .ok (.aload_n 0, 1) := by decide +kernel
theorem dX8_count_108 : decode cX8_count 108 = .ok (.getfield 20, 3) := by decide +kernel
theorem dX8_count_111 : decode cX8_count 111 = .ok (.aload_n 0, 1) := by decide +kernel
theorem dX8_count_112 : decode cX8_count 112 = .ok (.getfield 20, 3) := by decide +kernel
theorem dX8_count_115 : decode cX8_count 115 = .ok (.getfield 57, 3) := by decide +kernel
theorem dX8_count_118 : decode cX8_count 118 = .ok (.invokevirtual 63, 3) := by decide +kernel
theorem dX8_count_121 : decode cX8_count 121 = .ok (.ifCond .eq 7, 3) := by decide +kernel
theorem dX8_count_124 : decode cX8_count 124 = .ok (.iconst 1, 1) := by decide +kernel
theorem dX8_count_125 : decode cX8_count 125 = .ok (.goto 4, 3) := by decide +kernel
theorem dX8_count_128 : decode cX8_count 128 = .ok (.iconst 0, 1) := by decide +kernel
theorem dX8_count_129 : decode cX8_count 129 = .ok (.ireturn, 1) := by decide +kernel
theorem dX8_count_130 : decode cX8_count 130 = .ok (.aload_n 0, 1) := by decide +kernel
theorem dX8_count_131 : decode cX8_count 131 = .ok (.getfield 20, 3) := by decide +kernel
theorem dX8_count_134 : decode cX8_count 134 = .ok (.getfield 93, 3) := by decide +kernel
theorem dX8_count_137 : decode cX8_count 137 = .ok (.ireturn, 1) := by decide +kernel
theorem dX8_count_138 : decode cX8_count 138 = .ok (.aload_n 0, 1) := by decide +kernel
theorem dX8_count_139 : decode cX8_count 139 = .ok (.getfield 20, 3) := by decide +kernel
theorem dX8_count_142 : decode cX8_count 142 = .ok (.getfield 84, 3) := by decide +kernel
theorem dX8_count_145 : decode cX8_count 145 = .ok (.ireturn, 1) := by decide +kernel
theorem dX8_count_146 : decode cX8_count 146 = .ok (.aload_n 0, 1) := by decide +kernel
theorem dX8_count_147 : decode cX8_count 147 = .ok (.getfield 20, 3) := by decide +kernel
theorem dX8_count_150 : decode cX8_count 150 = .ok (.getfield 149, 3) := by decide +kernel
theorem dX8_count_153 : decode cX8_count 153 = .ok (.ireturn, 1) := by decide +kernel
theorem dX8_count_154 : decode cX8_count 154 = .ok (.aload_n 0, 1) := by decide +kernel
theorem dX8_count_155 : decode cX8_count 155 = .ok (.getfield 20, 3) := by decide +kernel
theorem dX8_count_158 : decode cX8_count 158 = .ok (.getfield 152, 3) := by decide +kernel
theorem dX8_count_161 : decode cX8_count 161 = .ok (.ireturn, 1) := by decide +kernel
theorem dX8_count_162 : decode cX8_count 162 = .ok (.aload_n 0, 1) := by decide +kernel
theorem dX8_count_163 : decode cX8_count 163 = .ok (.getfield 20, 3) := by decide +kernel
theorem dX8_count_166 : decode cX8_count 166 = .ok (.getfield 208, 3) := by decide +kernel
theorem dX8_count_169 : decode cX8_count 169 = .ok (.ireturn, 1) := by decide +kernel
theorem dX8_count_170 : decode cX8_count 170 = .ok (.aload_n 0, 1) := by decide +kernel
theorem dX8_count_171 : decode cX8_count 171 = .ok (.getfield 20, 3) := by decide +kernel
theorem dX8_count_174 : decode cX8_count 174 = .ok (.getfield 211, 3) := by decide +kernel
theorem dX8_count_177 : decode cX8_count 177 = .ok (.ireturn, 1) := by decide +kernel
theorem dX8_count_178 : decode cX8_count 178 = .ok (.aload_n 0, 1) := by decide +kernel
theorem dX8_count_179 : decode cX8_count 179 = .ok (.getfield 20, 3) := by decide +kernel
theorem dX8_count_182 : decode cX8_count 182 = .ok (.invokevirtual 214, 3) := by decide +kernel
theorem dX8_count_185 : decode cX8_count 185 = .ok (.ireturn, 1) := by decide +kernel
theorem dX8_count_186 : decode cX8_count 186 = .ok (.aload_n 0, 1) := by decide +kernel
theorem dX8_count_187 : decode cX8_count 187 = .ok (.getfield 20, 3) := by decide +kernel
theorem dX8_count_190 : decode cX8_count 190 = .ok (.getfield 217, 3) := by decide +kernel
theorem dX8_count_193 : decode cX8_count 193 = .ok (.ireturn, 1) := by decide +kernel
theorem dX8_count_194 : decode cX8_count 194 = .ok (.aload_n 0, 1) := by decide +kernel
theorem dX8_count_195 : decode cX8_count 195 = .ok (.getfield 20, 3) := by decide +kernel
theorem dX8_count_198 : decode cX8_count 198 = .ok (.getfield 220, 3) := by decide +kernel
theorem dX8_count_201 : decode cX8_count 201 = .ok (.ireturn, 1) := by decide +kernel
theorem dX8_count_202 : decode cX8_count 202 = .ok (.aload_n 0, 1) := by decide +kernel
theorem dX8_count_203 : decode cX8_count 203 = .ok (.getfield 20, 3) := by decide +kernel
theorem dX8_count_206 : decode cX8_count 206 = .ok (.iconst 0, 1) := by decide +kernel
theorem dX8_count_207 : decode cX8_count 207 = .ok (.invokevirtual 116, 3) := by decide +kernel
theorem dX8_count_210 : decode cX8_count 210 = .ok (.ireturn, 1) := by decide +kernel
theorem dX8_count_211 : decode cX8_count 211 = .ok (.aload_n 0, 1) := by decide +kernel
theorem dX8_count_212 : decode cX8_count 212 = .ok (.getfield 20, 3) := by decide +kernel
theorem dX8_count_215 : decode cX8_count 215 = .ok (.iconst 1, 1) := by decide +kernel
theorem dX8_count_216 : decode cX8_count 216 = .ok (.invokevirtual 116, 3) := by decide +kernel
theorem dX8_count_219 : decode cX8_count 219 = .ok (.ireturn, 1) := by decide +kernel
theorem dX8_count_220 : decode cX8_count 220 = .ok (.aload_n 0, 1) := by decide +kernel
theorem dX8_count_221 : decode cX8_count 221 = .ok (.getfield 20, 3) := by decide +kernel
theorem dX8_count_224 : decode cX8_count 224 = .ok (.iconst 2, 1) := by decide +kernel
theorem dX8_count_225 : decode cX8_count 225 = .ok (.invokevirtual 116, 3) := by decide +kernel
theorem dX8_count_228 : decode cX8_count 228 = .ok (.ireturn, 1) := by decide +kernel
theorem dX8_count_229 : decode cX8_count 229 = .ok (.aload_n 0, 1) := by decide +kernel
theorem dX8_count_230 : decode cX8_count 230 = .ok (.getfield 10, 3) := by decide +kernel
theorem dX8_count_233 : decode cX8_count 233 = .ok (.invokevirtual 223, 3) := by decide +kernel
theorem dX8_count_236 : decode cX8_count 236 = .ok (.ireturn, 1) := by decide +kernel
theorem dX8_count_237 : decode cX8_count 237 = .ok (.aload_n 0, 1) := by decide +kernel
theorem dX8_count_238 : decode cX8_count 238 = .ok (.getfield 24, 3) := by decide +kernel
theorem dX8_count_241 : decode cX8_count 241 = .ok (.getfield 179, 3) := by decide +kernel
theorem dX8_count_244 : decode cX8_count 244 = .ok (.ireturn, 1) := by decide +kernel
theorem dX8_count_245 : decode cX8_count 245 = .ok (.aload_n 0, 1) := by decide +kernel
theorem dX8_count_246 : decode cX8_count 246 = .ok (.getfield 31, 3) := by decide +kernel
theorem dX8_count_249 : decode cX8_count 249 = .ok (.getfield 185, 3) := by decide +kernel
theorem dX8_count_252 : decode cX8_count 252 = .ok (.ireturn, 1) := by decide +kernel
theorem dX8_count_253 : decode cX8_count 253 = .ok (.iconst (-1), 1) := by decide +kernel
theorem dX8_count_254 : decode cX8_count 254 = .ok (.ireturn, 1) := by decide +kernel
theorem dX8_field_0 : decode cX8_field 0 = .ok (.iload_n 1, 1) := by decide +kernel
theorem dX8_field_1 : decode cX8_field 1 = .ok (.invokestatic 122, 3) := by decide +kernel
theorem dX8_field_4 : decode cX8_field 4 = .ok (.ifCond .ne 5, 3) := by decide +kernel
theorem dX8_field_7 : decode cX8_field 7 = .ok (.iconst (-1), 1) := by decide +kernel
theorem dX8_field_8 : decode cX8_field 8 = .ok (.ireturn, 1) := by decide +kernel
theorem dX8_field_9 : decode cX8_field 9 = .ok (.aload_n 0, 1) := by decide +kernel
theorem dX8_field_10 : decode cX8_field 10 = .ok (.getfield 20, 3) := by decide +kernel
theorem dX8_field_13 : decode cX8_field 13 = .ok (.getfield 96, 3) := by decide +kernel
theorem dX8_field_16 : decode cX8_field 16 = .ok (.iload_n 1, 1) := by decide +kernel
theorem dX8_field_17 : decode cX8_field 17 = .ok (.aaload, 1) := by decide +kernel
theorem dX8_field_18 : decode cX8_field 18 = .ok (.astore_n 3, 1) := by decide +kernel
theorem dX8_field_19 : decode cX8_field 19 = .ok (.aload_n 0, 1) := by decide +kernel
theorem dX8_field_20 : decode cX8_field 20 = .ok (.getfield 20, 3) := by decide +kernel
theorem dX8_field_23 : decode cX8_field 23 = .ok (.getfield 128, 3) := by decide +kernel
theorem dX8_field_26 : decode cX8_field 26 = .ok (.iload_n 1, 1) := by decide +kernel
theorem dX8_field_27 : decode cX8_field 27 = .ok (.aaload, 1) := by decide +kernel
theorem dX8_field_28 : decode cX8_field 28 = .ok (.astore 4, 2) := by decide +kernel
theorem dX8_field_30 : decode cX8_field 30 = .ok (.iload_n 2, 1) := by decide +kernel
theorem dX8_field_31 : decode cX8_field 31 = .ok (.tableswitch 171 0 10 #[57, 62, 68, 74, 80, 86, 95, 100, 114, 133, 152], 57) := by decide +kernel
theorem dX8_field_88 : decode cX8_field 88 = .ok (.aload_n 3, 1) := by decide +kernel
theorem dX8_field_89 : decode cX8_field 89 = .ok (.getfield 207, 3) := by decide +kernel
theorem dX8_field_92 : decode cX8_field 92 = .ok (.ireturn, 1) := by decide +kernel
theorem dX8_field_93 : decode cX8_field 93 = .ok (.aload_n 3, 1) := by decide +kernel
theorem dX8_field_94 : decode cX8_field 94 = .ok (.iconst 0, 1) := by decide +kernel
theorem dX8_field_95 : decode cX8_field 95 = .ok (.invokevirtual 125, 3) := by decide +kernel
theorem dX8_field_98 : decode cX8_field 98 = .ok (.ireturn, 1) := by decide +kernel
theorem dX8_field_99 : decode cX8_field 99 = .ok (.aload_n 3, 1) := by decide +kernel
theorem dX8_field_100 : decode cX8_field 100 = .ok (.iconst 1, 1) := by decide +kernel
theorem dX8_field_101 : decode cX8_field 101 = .ok (.invokevirtual 125, 3) := by decide +kernel
theorem dX8_field_104 : decode cX8_field 104 = .ok (.ireturn, 1) := by decide +kernel
theorem dX8_field_105 : decode cX8_field 105 = .ok (.aload_n 3, 1) := by decide +kernel
theorem dX8_field_106 : decode cX8_field 106 = .ok (.iconst 2, 1) := by decide +kernel
theorem dX8_field_107 : decode cX8_field 107 = .ok (.invokevirtual 125, 3) := by decide +kernel
theorem dX8_field_110 : decode cX8_field 110 = .ok (.ireturn, 1) := by decide +kernel
theorem dX8_field_111 : decode cX8_field 111 = .ok (.aload_n 3, 1) := by decide +kernel
theorem dX8_field_112 : decode cX8_field 112 = .ok (.iconst 3, 1) := by decide +kernel
theorem dX8_field_113 : decode cX8_field 113 = .ok (.invokevirtual 125, 3) := by decide +kernel
theorem dX8_field_116 : decode cX8_field 116 = .ok (.ireturn, 1) := by decide +kernel
theorem dX8_field_117 : decode cX8_field 117 = .ok (.aload_n 3, 1) := by decide +kernel
theorem dX8_field_118 : decode cX8_field 118 = .ok (.aload_n 3, 1) := by decide +kernel
theorem dX8_field_119 : decode cX8_field 119 = .ok (.invokevirtual 226, 3) := by decide +kernel
theorem dX8_field_122 : decode cX8_field 122 = .ok (.invokevirtual 229, 3) := by decide +kernel
theorem dX8_field_125 : decode cX8_field 125 = .ok (.ireturn, 1) := by decide +kernel
theorem dX8_field_126 : decode cX8_field 126 = .ok (.aload_n 3, 1) := by decide +kernel
theorem dX8_field_127 : decode cX8_field 127 = .ok (.invokevirtual 226, 3) := by decide +kernel
theorem dX8_field_130 : decode cX8_field 130 = .ok (.ireturn, 1) := by decide +kernel
theorem dX8_field_131 : decode cX8_field 131 = .ok (.aload 4, 2) := by decide +kernel
theorem dX8_field_133 : decode cX8_field 133 = .ok (.getfield 132, 3) := by decide +kernel
theorem dX8_field_136 : decode cX8_field 136 = .ok (.ifCond .eq 7, 3) := by decide +kernel
theorem dX8_field_139 : decode cX8_field 139 = .ok (.iconst 1, 1) := by decide +kernel
theorem dX8_field_140 : decode cX8_field 140 = .ok (.goto 4, 3) := by decide +kernel
theorem dX8_field_143 : decode cX8_field 143 = .ok (.iconst 0, 1) := by decide +kernel
theorem dX8_field_144 : decode cX8_field 144 = .ok (.ireturn, 1) := by decide +kernel
theorem dX8_field_145 : decode cX8_field 145 = .ok (.aload 4, 2) := by decide +kernel
theorem dX8_field_147 : decode cX8_field 147 = .ok (.getfield 132, 3) := by decide +kernel
theorem dX8_field_150 : decode cX8_field 150 = .ok (.ifCond .eq 11, 3) := by decide +kernel
theorem dX8_field_153 : decode cX8_field 153 = .ok (.aload 4, 2) := by decide +kernel
theorem dX8_field_155 : decode cX8_field 155 = .ok (.getfield 232, 3) := by decide +kernel
theorem dX8_field_158 : decode cX8_field 158 = .ok (.goto 5, 3) := by decide +kernel
theorem dX8_field_161 : decode cX8_field 161 = .ok (.bipush (-9), 2) := by decide +kernel
theorem dX8_field_163 : decode cX8_field 163 = .ok (.ireturn, 1) := by decide +kernel
theorem dX8_field_164 : decode cX8_field 164 = .ok (.aload 4, 2) := by decide +kernel
theorem dX8_field_166 : decode cX8_field 166 = .ok (.getfield 132, 3) := by decide +kernel
theorem dX8_field_169 : decode cX8_field 169 = .ok (.ifCond .eq 11, 3) := by decide +kernel
theorem dX8_field_172 : decode cX8_field 172 = .ok (.aload 4, 2) := by decide +kernel
theorem dX8_field_174 : decode cX8_field 174 = .ok (.getfield 235, 3) := by decide +kernel
theorem dX8_field_177 : decode cX8_field 177 = .ok (.goto 5, 3) := by decide +kernel
theorem dX8_field_180 : decode cX8_field 180 = .ok (.bipush (-9), 2) := by decide +kernel
theorem dX8_field_182 : decode cX8_field 182 = .ok (.ireturn, 1) := by decide +kernel
theorem dX8_field_183 : decode cX8_field 183 = .ok (.aload 4, 2) := by decide +kernel
theorem dX8_field_185 : decode cX8_field 185 = .ok (.getfield 132, 3) := by decide +kernel
theorem dX8_field_188 : decode cX8_field 188 = .ok (.ifCond .eq 11, 3) := by decide +kernel
theorem dX8_field_191 : decode cX8_field 191 = .ok (.aload 4, 2) := by decide +kernel
theorem dX8_field_193 : decode cX8_field 193 = .ok (.getfield 142, 3) := by decide +kernel
theorem dX8_field_196 : decode cX8_field 196 = .ok (.goto 5, 3) := by decide +kernel
theorem dX8_field_199 : decode cX8_field 199 = .ok (.bipush (-9), 2) := by decide +kernel
theorem dX8_field_201 : decode cX8_field 201 = .ok (.ireturn, 1) := by decide +kernel
theorem dX8_field_202 : decode cX8_field 202 = .ok (.iconst (-1), 1) := by decide +kernel
theorem dX8_field_203 : decode cX8_field 203 = .ok (.ireturn, 1) := by decide +kernel
theorem dX8_chain_0 : decode cX8_chain 0 = .ok (.aload_n 0, 1) := by decide +kernel
theorem dX8_chain_1 : decode cX8_chain 1 = .ok (.iload_n 1, 1) := by decide +kernel
theorem dX8_chain_2 : decode cX8_chain 2 = .ok (.iload_n 2, 1) := by decide +kernel
theorem dX8_chain_3 : decode cX8_chain 3 = .ok (.invokevirtual 49, 3) := by decide +kernel
theorem dX8_chain_6 : decode cX8_chain 6 = .ok (.ifCond .ne 5, 3) := by decide +kernel
theorem dX8_chain_9 : decode cX8_chain 9 = .ok (.iconst (-1), 1) := by decide +kernel
theorem dX8_chain_10 : decode cX8_chain 10 = .ok (.ireturn, 1) := by decide +kernel
theorem dX8_chain_11 : decode cX8_chain 11 = .ok (.aload_n 0, 1) := by decide +kernel
theorem dX8_chain_12 : decode cX8_chain 12 = .ok (.getfield 20, 3) := by decide +kernel
theorem dX8_chain_15 : decode cX8_chain 15 = .ok (.getfield 96, 3) := by decide +kernel
theorem dX8_chain_18 : decode cX8_chain 18 = .ok (.iload_n 1, 1) := by decide +kernel
theorem dX8_chain_19 : decode cX8_chain 19 = .ok (.aaload, 1) := by decide +kernel
theorem dX8_chain_20 : decode cX8_chain 20 = .ok (.astore 4, 2) := by decide +kernel
theorem dX8_chain_22 : decode cX8_chain 22 = .ok (.iload_n 3, 1) := by decide +kernel
theorem dX8_chain_23 : decode cX8_chain 23 = .ok (.tableswitch 46 0 2 #[25, 32, 39], 25) := by decide +kernel
theorem dX8_chain_48 : decode cX8_chain 48 = .ok (.aload 4, 2) := by decide +kernel
theorem dX8_chain_50 : decode cX8_chain 50 = .ok (.iload_n 2, 1) := by decide +kernel
theorem dX8_chain_51 : decode cX8_chain 51 = .ok (.invokevirtual 100, 3) := by decide +kernel
theorem dX8_chain_54 : decode cX8_chain 54 = .ok (.ireturn, 1) := by decide +kernel
theorem dX8_chain_55 : decode cX8_chain 55 = .ok (.aload 4, 2) := by decide +kernel
theorem dX8_chain_57 : decode cX8_chain 57 = .ok (.iload_n 2, 1) := by decide +kernel
theorem dX8_chain_58 : decode cX8_chain 58 = .ok (.invokevirtual 238, 3) := by decide +kernel
theorem dX8_chain_61 : decode cX8_chain 61 = .ok (.ireturn, 1) := by decide +kernel
theorem dX8_chain_62 : decode cX8_chain 62 = .ok (.aload 4, 2) := by decide +kernel
theorem dX8_chain_64 : decode cX8_chain 64 = .ok (.iload_n 2, 1) := by decide +kernel
theorem dX8_chain_65 : decode cX8_chain 65 = .ok (.invokevirtual 241, 3) := by decide +kernel
theorem dX8_chain_68 : decode cX8_chain 68 = .ok (.ireturn, 1) := by decide +kernel
theorem dX8_chain_69 : decode cX8_chain 69 = .ok (.iconst (-1), 1) := by decide +kernel
theorem dX8_chain_70 : decode cX8_chain 70 = .ok (.ireturn, 1) := by decide +kernel
theorem dX8_toLay_0 : decode cX8_toLay 0 = .ok (.iload_n 1, 1) := by decide +kernel
theorem dX8_toLay_1 : decode cX8_toLay 1 = .ok (.invokestatic 122, 3) := by decide +kernel
theorem dX8_toLay_4 : decode cX8_toLay 4 = .ok (.ifCond .eq 12, 3) := by decide +kernel
theorem dX8_toLay_7 : decode cX8_toLay 7 = .ok (.iload_n 2, 1) := by decide +kernel
theorem dX8_toLay_8 : decode cX8_toLay 8 = .ok (.iconst 0, 1) := by decide +kernel
theorem dX8_toLay_9 : decode cX8_toLay 9 = .ok (.iconst 1, 1) := by decide +kernel
theorem dX8_toLay_10 : decode cX8_toLay 10 = .ok (.invokestatic 53, 3) := by decide +kernel
theorem dX8_toLay_13 : decode cX8_toLay 13 = .ok (.ifCond .ne 5, 3) := by decide +kernel
theorem dX8_toLay_16 : decode cX8_toLay 16 = .ok (.iconst (-1), 1) := by decide +kernel
theorem dX8_toLay_17 : decode cX8_toLay 17 = .ok (.ireturn, 1) := by decide +kernel
theorem dX8_toLay_18 : decode cX8_toLay 18 = .ok (.aload_n 0, 1) := by decide +kernel
theorem dX8_toLay_19 : decode cX8_toLay 19 = .ok (.getfield 20, 3) := by decide +kernel
theorem dX8_toLay_22 : decode cX8_toLay 22 = .ok (.getfield 96, 3) := by decide +kernel
theorem dX8_toLay_25 : decode cX8_toLay 25 = .ok (.iload_n 1, 1) := by decide +kernel
theorem dX8_toLay_26 : decode cX8_toLay 26 = .ok (.aaload, 1) := by decide +kernel
theorem dX8_toLay_27 : decode cX8_toLay 27 = .ok (.astore_n 3, 1) := by decide +kernel
theorem dX8_toLay_28 : decode cX8_toLay 28 = .ok (.iload_n 2, 1) := by decide +kernel
theorem dX8_toLay_29 : decode cX8_toLay 29 = .ok (.ifCond .ne 10, 3) := by decide +kernel
theorem dX8_toLay_32 : decode cX8_toLay 32 = .ok (.aload_n 3, 1) := by decide +kernel
theorem dX8_toLay_33 : decode cX8_toLay 33 = .ok (.invokevirtual 244, 3) := by decide +kernel
theorem dX8_toLay_36 : decode cX8_toLay 36 = .ok (.goto 7, 3) := by decide +kernel
theorem dX8_toLay_39 : decode cX8_toLay 39 = .ok (.aload_n 3, 1) := by decide +kernel
theorem dX8_toLay_40 : decode cX8_toLay 40 = .ok (.invokevirtual 247, 3) := by decide +kernel
theorem dX8_toLay_43 : decode cX8_toLay 43 = .ok (.ireturn, 1) := by decide +kernel
theorem dX8_stakesIn_0 : decode cX8_stakesIn 0 = .ok (.iload_n 1, 1) := by decide +kernel
theorem dX8_stakesIn_1 : decode cX8_stakesIn 1 = .ok (.invokestatic 122, 3) := by decide +kernel
theorem dX8_stakesIn_4 : decode cX8_stakesIn 4 = .ok (.ifCond .eq 18, 3) := by decide +kernel
theorem dX8_stakesIn_7 : decode cX8_stakesIn 7 = .ok (.aload_n 0, 1) := by decide +kernel
theorem dX8_stakesIn_8 : decode cX8_stakesIn 8 = .ok (.getfield 20, 3) := by decide +kernel
theorem dX8_stakesIn_11 : decode cX8_stakesIn 11 = .ok (.getfield 96, 3) := by decide +kernel
theorem dX8_stakesIn_14 : decode cX8_stakesIn 14 = .ok (.iload_n 1, 1) := by decide +kernel
theorem dX8_stakesIn_15 : decode cX8_stakesIn 15 = .ok (.aaload, 1) := by decide +kernel
theorem dX8_stakesIn_16 : decode cX8_stakesIn 16 = .ok (.invokevirtual 250, 3) := by decide +kernel
theorem dX8_stakesIn_19 : decode cX8_stakesIn 19 = .ok (.goto 4, 3) := by decide +kernel
theorem dX8_stakesIn_22 : decode cX8_stakesIn 22 = .ok (.iconst (-1), 1) := by decide +kernel
theorem dX8_stakesIn_23 : decode cX8_stakesIn 23 = .ok (.ireturn, 1) := by decide +kernel
theorem dX8_doneIn_0 : decode cX8_doneIn 0 = .ok (.iload_n 1, 1) := by decide +kernel
theorem dX8_doneIn_1 : decode cX8_doneIn 1 = .ok (.invokestatic 122, 3) := by decide +kernel
theorem dX8_doneIn_4 : decode cX8_doneIn 4 = .ok (.ifCond .eq 14, 3) := by decide +kernel
theorem dX8_doneIn_7 : decode cX8_doneIn 7 = .ok (.aload_n 0, 1) := by decide +kernel
theorem dX8_doneIn_8 : decode cX8_doneIn 8 = .ok (.getfield 20, 3) := by decide +kernel
theorem dX8_doneIn_11 : decode cX8_doneIn 11 = .ok (.iload_n 1, 1) := by decide +kernel
theorem dX8_doneIn_12 : decode cX8_doneIn 12 = .ok (.invokevirtual 253, 3) := by decide +kernel
theorem dX8_doneIn_15 : decode cX8_doneIn 15 = .ok (.goto 4, 3) := by decide +kernel
theorem dX8_doneIn_18 : decode cX8_doneIn 18 = .ok (.iconst (-1), 1) := by decide +kernel
theorem dX8_doneIn_19 : decode cX8_doneIn 19 = .ok (.ireturn, 1) := by decide +kernel
theorem dX8_bestOrder_0 : decode cX8_bestOrder 0 = .ok (.iload_n 1, 1) := by decide +kernel
theorem dX8_bestOrder_1 : decode cX8_bestOrder 1 = .ok (.iconst 0, 1) := by decide +kernel
theorem dX8_bestOrder_2 : decode cX8_bestOrder 2 = .ok (.iconst 1, 1) := by decide +kernel
theorem dX8_bestOrder_3 : decode cX8_bestOrder 3 = .ok (.invokestatic 53, 3) := by decide +kernel
theorem dX8_bestOrder_6 : decode cX8_bestOrder 6 = .ok (.ifCond .ne 5, 3) := by decide +kernel
theorem dX8_bestOrder_9 : decode cX8_bestOrder 9 = .ok (.iconst (-1), 1) := by decide +kernel
theorem dX8_bestOrder_10 : decode cX8_bestOrder 10 = .ok (.ireturn, 1) := by decide +kernel
theorem dX8_bestOrder_11 : decode cX8_bestOrder 11 = .ok (.aload_n 0, 1) := by decide +kernel
theorem dX8_bestOrder_12 : decode cX8_bestOrder 12 = .ok (.getfield 20, 3) := by decide +kernel
theorem dX8_bestOrder_15 : decode cX8_bestOrder 15 = .ok (.invokevirtual 214, 3) := by decide +kernel
theorem dX8_bestOrder_18 : decode cX8_bestOrder 18 = .ok (.ifCond .ne 6, 3) := by decide +kernel
theorem dX8_bestOrder_21 : decode cX8_bestOrder 21 = .ok (.bipush (-9), 2) := by decide +kernel
theorem dX8_bestOrder_23 : decode cX8_bestOrder 23 = .ok (.ireturn, 1) := by decide +kernel
theorem dX8_bestOrder_24 : decode cX8_bestOrder 24 = .ok (.aload_n 0, 1) := by decide +kernel
theorem dX8_bestOrder_25 : decode cX8_bestOrder 25 = .ok (.getfield 45, 3) := by decide +kernel
theorem dX8_bestOrder_28 : decode cX8_bestOrder 28 = .ok (.aload_n 0, 1) := by decide +kernel
theorem dX8_bestOrder_29 : decode cX8_bestOrder 29 = .ok (.getfield 20, 3) := by decide +kernel
theorem dX8_bestOrder_32 : decode cX8_bestOrder 32 = .ok (.invokevirtual 256, 3) := by decide +kernel
theorem dX8_bestOrder_35 : decode cX8_bestOrder 35 = .ok (.iload_n 1, 1) := by decide +kernel
theorem dX8_bestOrder_36 : decode cX8_bestOrder 36 = .ok (.ifCond .ne 13, 3) := by decide +kernel
theorem dX8_bestOrder_39 : decode cX8_bestOrder 39 = .ok (.aload_n 0, 1) := by decide +kernel
theorem dX8_bestOrder_40 : decode cX8_bestOrder 40 = .ok (.getfield 45, 3) := by decide +kernel
theorem dX8_bestOrder_43 : decode cX8_bestOrder 43 = .ok (.invokevirtual 259, 3) := by decide +kernel
theorem dX8_bestOrder_46 : decode cX8_bestOrder 46 = .ok (.goto 10, 3) := by decide +kernel
theorem dX8_bestOrder_49 : decode cX8_bestOrder 49 = .ok (.aload_n 0, 1) := by decide +kernel
theorem dX8_bestOrder_50 : decode cX8_bestOrder 50 = .ok (.getfield 45, 3) := by decide +kernel
theorem dX8_bestOrder_53 : decode cX8_bestOrder 53 = .ok (.invokevirtual 262, 3) := by decide +kernel
theorem dX8_bestOrder_56 : decode cX8_bestOrder 56 = .ok (.ireturn, 1) := by decide +kernel
theorem dX8_isWithin_0 : decode cX8_isWithin 0 = .ok (.iload_n 0, 1) := by decide +kernel
theorem dX8_isWithin_1 : decode cX8_isWithin 1 = .ok (.iload_n 1, 1) := by decide +kernel
theorem dX8_isWithin_2 : decode cX8_isWithin 2 = .ok (.if_icmp .lt 12, 3) := by decide +kernel
theorem dX8_isWithin_5 : decode cX8_isWithin 5 = .ok (.iload_n 0, 1) := by decide +kernel
theorem dX8_isWithin_6 : decode cX8_isWithin 6 = .ok (.iload_n 2, 1) := by decide +kernel
theorem dX8_isWithin_7 : decode cX8_isWithin 7 = .ok (.if_icmp .gt 7, 3) := by decide +kernel
theorem dX8_isWithin_10 : decode cX8_isWithin 10 = .ok (.iconst 1, 1) := by decide +kernel
theorem dX8_isWithin_11 : decode cX8_isWithin 11 = .ok (.goto 4, 3) := by decide +kernel
theorem dX8_isWithin_14 : decode cX8_isWithin 14 = .ok (.iconst 0, 1) := by decide +kernel
theorem dX8_isWithin_15 : decode cX8_isWithin 15 = .ok (.ireturn, 1) := by decide +kernel
theorem dX8_isField_0 : decode cX8_isField 0 = .ok (.iload_n 0, 1) := by decide +kernel
theorem dX8_isField_1 : decode cX8_isField 1 = .ok (.iconst 0, 1) := by decide +kernel
theorem dX8_isField_2 : decode cX8_isField 2 = .ok (.iconst 5, 1) := by decide +kernel
theorem dX8_isField_3 : decode cX8_isField 3 = .ok (.invokestatic 53, 3) := by decide +kernel
theorem dX8_isField_6 : decode cX8_isField 6 = .ok (.ireturn, 1) := by decide +kernel
theorem dX8_isSlot_0 : decode cX8_isSlot 0 = .ok (.iload_n 0, 1) := by decide +kernel
theorem dX8_isSlot_1 : decode cX8_isSlot 1 = .ok (.iconst 0, 1) := by decide +kernel
theorem dX8_isSlot_2 : decode cX8_isSlot 2 = .ok (.iconst 1, 1) := by decide +kernel
theorem dX8_isSlot_3 : decode cX8_isSlot 3 = .ok (.invokestatic 53, 3) := by decide +kernel
theorem dX8_isSlot_6 : decode cX8_isSlot 6 = .ok (.ireturn, 1) := by decide +kernel
theorem dX8_isChain_0 : decode cX8_isChain 0 = .ok (.iload_n 1, 1) := by decide +kernel
theorem dX8_isChain_1 : decode cX8_isChain 1 = .ok (.invokestatic 122, 3) := by decide +kernel
theorem dX8_isChain_4 : decode cX8_isChain 4 = .ok (.ifCond .eq 23, 3) := by decide +kernel
theorem dX8_isChain_7 : decode cX8_isChain 7 = .ok (.aload_n 0, 1) := by decide +kernel
theorem dX8_isChain_8 : decode cX8_isChain 8 = .ok (.getfield 20, 3) := by decide +kernel
theorem dX8_isChain_11 : decode cX8_isChain 11 = .ok (.getfield 96, 3) := by decide +kernel
theorem dX8_isChain_14 : decode cX8_isChain 14 = .ok (.iload_n 1, 1) := by decide +kernel
theorem dX8_isChain_15 : decode cX8_isChain 15 = .ok (.aaload, 1) := by decide +kernel
theorem dX8_isChain_16 : decode cX8_isChain 16 = .ok (.iload_n 2, 1) := by decide +kernel
theorem dX8_isChain_17 : decode cX8_isChain 17 = .ok (.invokevirtual 265, 3) := by decide +kernel
theorem dX8_isChain_20 : decode cX8_isChain 20 = .ok (.ifCond .eq 7, 3) := by decide +kernel
theorem dX8_isChain_23 : decode cX8_isChain 23 = .ok (.iconst 1, 1) := by decide +kernel
theorem dX8_isChain_24 : decode cX8_isChain 24 = .ok (.goto 4, 3) := by decide +kernel
theorem dX8_isChain_27 : decode cX8_isChain 27 = .ok (.iconst 0, 1) := by decide +kernel
theorem dX8_isChain_28 : decode cX8_isChain 28 = .ok (.ireturn, 1) := by decide +kernel
theorem dX8_canBeSet_0 : decode cX8_canBeSet 0 = .ok (.iload_n 0, 1) := by decide +kernel
theorem dX8_canBeSet_1 : decode cX8_canBeSet 1 = .ok (.tableswitch 51 0 2 #[27, 35, 43], 27) := by decide +kernel
theorem dX8_canBeSet_28 : decode cX8_canBeSet 28 = .ok (.iload_n 1, 1) := by decide +kernel
theorem dX8_canBeSet_29 : decode cX8_canBeSet 29 = .ok (.iconst 0, 1) := by decide +kernel
theorem dX8_canBeSet_30 : decode cX8_canBeSet 30 = .ok (.bipush 51, 2) := by decide +kernel
theorem dX8_canBeSet_32 : decode cX8_canBeSet 32 = .ok (.invokestatic 53, 3) := by decide +kernel
theorem dX8_canBeSet_35 : decode cX8_canBeSet 35 = .ok (.ireturn, 1) := by decide +kernel
theorem dX8_canBeSet_36 : decode cX8_canBeSet 36 = .ok (.iload_n 1, 1) := by decide +kernel
theorem dX8_canBeSet_37 : decode cX8_canBeSet 37 = .ok (.iconst 0, 1) := by decide +kernel
theorem dX8_canBeSet_38 : decode cX8_canBeSet 38 = .ok (.bipush 51, 2) := by decide +kernel
theorem dX8_canBeSet_40 : decode cX8_canBeSet 40 = .ok (.invokestatic 53, 3) := by decide +kernel
theorem dX8_canBeSet_43 : decode cX8_canBeSet 43 = .ok (.ireturn, 1) := by decide +kernel
theorem dX8_canBeSet_44 : decode cX8_canBeSet 44 = .ok (.iload_n 1, 1) := by decide +kernel
theorem dX8_canBeSet_45 : decode cX8_canBeSet 45 = .ok (.iconst 1, 1) := by decide +kernel
theorem dX8_canBeSet_46 : decode cX8_canBeSet 46 = .ok (.bipush 100, 2) := by decide +kernel
theorem dX8_canBeSet_48 : decode cX8_canBeSet 48 = .ok (.invokestatic 53, 3) := by decide +kernel
theorem dX8_canBeSet_51 : decode cX8_canBeSet 51 = .ok (.ireturn, 1) := by decide +kernel
theorem dX8_canBeSet_52 : decode cX8_canBeSet 52 = .ok (.iconst 0, 1) := by decide +kernel
theorem dX8_canBeSet_53 : decode cX8_canBeSet 53 = .ok (.ireturn, 1) := by decide +kernel
