theorem dX9_init_0 : decode cX9_init 0 = .ok (.aload_n 0, 1) := by decide +kernel
theorem dX9_init_1 : decode cX9_init 1 = .ok (.invokespecial 1, 3) := by decide +kernel
theorem dX9_init_4 : decode cX9_init 4 = .ok (.aload_n 0, 1) := by decide +kernel
theorem dX9_init_5 : decode cX9_init 5 = .ok (.sipush 668, 3) := by decide +kernel
theorem dX9_init_8 : decode cX9_init 8 = .ok (.newarray .int, 2) := by decide +kernel
theorem dX9_init_10 : decode cX9_init 10 = .ok (.putfield 7, 3) := by decide +kernel
theorem dX9_init_13 : decode cX9_init 13 = .ok (.aload_n 0, 1) := by decide +kernel
theorem dX9_init_14 : decode cX9_init 14 = .ok (.sipush 3340, 3) := by decide +kernel
theorem dX9_init_17 : decode cX9_init 17 = .ok (.newarray .int, 2) := by decide +kernel
theorem dX9_init_19 : decode cX9_init 19 = .ok (.putfield 13, 3) := by decide +kernel
theorem dX9_init_22 : decode cX9_init 22 = .ok (.aload_n 0, 1) := by decide +kernel
theorem dX9_init_23 : decode cX9_init 23 = .ok (.sipush 668, 3) := by decide +kernel
theorem dX9_init_26 : decode cX9_init 26 = .ok (.newarray .int, 2) := by decide +kernel
theorem dX9_init_28 : decode cX9_init 28 = .ok (.putfield 16, 3) := by decide +kernel
theorem dX9_init_31 : decode cX9_init 31 = .ok (.aload_n 0, 1) := by decide +kernel
theorem dX9_init_32 : decode cX9_init 32 = .ok (.bipush 64, 2) := by decide +kernel
theorem dX9_init_34 : decode cX9_init 34 = .ok (.newarray .int, 2) := by decide +kernel
theorem dX9_init_36 : decode cX9_init 36 = .ok (.putfield 19, 3) := by decide +kernel
theorem dX9_init_39 : decode cX9_init 39 = .ok (.aload_n 0, 1) := by decide +kernel
theorem dX9_init_40 : decode cX9_init 40 = .ok (.bipush 80, 2) := by decide +kernel
theorem dX9_init_42 : decode cX9_init 42 = .ok (.newarray .int, 2) := by decide +kernel
theorem dX9_init_44 : decode cX9_init 44 = .ok (.putfield 22, 3) := by decide +kernel
theorem dX9_init_47 : decode cX9_init 47 = .ok (.aload_n 0, 1) := by decide +kernel
theorem dX9_init_48 : decode cX9_init 48 = .ok (.getfield 7, 3) := by decide +kernel
theorem dX9_init_51 : decode cX9_init 51 = .ok (.iconst 1, 1) := by decide +kernel
theorem dX9_init_52 : decode cX9_init 52 = .ok (.bipush 30, 2) := by decide +kernel
theorem dX9_init_54 : decode cX9_init 54 = .ok (.iastore, 1) := by decide +kernel
theorem dX9_init_55 : decode cX9_init 55 = .ok (.aload_n 0, 1) := by decide +kernel
theorem dX9_init_56 : decode cX9_init 56 = .ok (.getfield 7, 3) := by decide +kernel
theorem dX9_init_59 : decode cX9_init 59 = .ok (.iconst 2, 1) := by decide +kernel
theorem dX9_init_60 : decode cX9_init 60 = .ok (.bipush 10, 2) := by decide +kernel
theorem dX9_init_62 : decode cX9_init 62 = .ok (.iastore, 1) := by decide +kernel
theorem dX9_init_63 : decode cX9_init 63 = .ok (.aload_n 0, 1) := by decide +kernel
theorem dX9_init_64 : decode cX9_init 64 = .ok (.getfield 7, 3) := by decide +kernel
theorem dX9_init_67 : decode cX9_init 67 = .ok (.iconst 3, 1) := by decide +kernel
theorem dX9_init_68 : decode cX9_init 68 = .ok (.bipush 50, 2) := by decide +kernel
theorem dX9_init_70 : decode cX9_init 70 = .ok (.iastore, 1) := by decide +kernel
theorem dX9_init_71 : decode cX9_init 71 = .ok (.aload_n 0, 1) := by decide +kernel
theorem dX9_init_72 : decode cX9_init 72 = .ok (.getfield 7, 3) := by decide +kernel
theorem dX9_init_75 : decode cX9_init 75 = .ok (.bipush 9, 2) := by decide +kernel
theorem dX9_init_77 : decode cX9_init 77 = .ok (.bipush 10, 2) := by decide +kernel
theorem dX9_init_79 : decode cX9_init 79 = .ok (.iastore, 1) := by decide +kernel
theorem dX9_init_80 : decode cX9_init 80 = .ok (.aload_n 0, 1) := by decide +kernel
theorem dX9_init_81 : decode cX9_init 81 = .ok (.getfield 7, 3) := by decide +kernel
theorem dX9_init_84 : decode cX9_init 84 = .ok (.bipush 10, 2) := by decide +kernel
theorem dX9_init_86 : decode cX9_init 86 = .ok (.bipush 30, 2) := by decide +kernel
theorem dX9_init_88 : decode cX9_init 88 = .ok (.iastore, 1) := by decide +kernel
theorem dX9_init_89 : decode cX9_init 89 = .ok (.aload_n 0, 1) := by decide +kernel
theorem dX9_init_90 : decode cX9_init 90 = .ok (.getfield 7, 3) := by decide +kernel
theorem dX9_init_93 : decode cX9_init 93 = .ok (.bipush 11, 2) := by decide +kernel
theorem dX9_init_95 : decode cX9_init 95 = .ok (.bipush 30, 2) := by decide +kernel
theorem dX9_init_97 : decode cX9_init 97 = .ok (.iastore, 1) := by decide +kernel
theorem dX9_init_98 : decode cX9_init 98 = .ok (.iconst 0, 1) := by decide +kernel
theorem dX9_init_99 : decode cX9_init 99 = .ok (.istore_n 1, 1) := by decide +kernel
theorem dX9_init_100 : decode cX9_init 100 = .ok (.iload_n 1, 1) := by decide +kernel
theorem dX9_init_101 : decode cX9_init 101 = .ok (.bipush 6, 2) := by decide +kernel
theorem dX9_init_103 : decode cX9_init 103 = .ok (.if_icmp .ge 42, 3) := by decide +kernel
theorem dX9_init_106 : decode cX9_init 106 = .ok (.aload_n 0, 1) := by decide +kernel
theorem dX9_init_107 : decode cX9_init 107 = .ok (.getfield 7, 3) := by decide +kernel
theorem dX9_init_110 : decode cX9_init 110 = .ok (.bipush 12, 2) := by decide +kernel
theorem dX9_init_112 : decode cX9_init 112 = .ok (.iload_n 1, 1) := by decide +kernel
theorem dX9_init_113 : decode cX9_init 113 = .ok (.iadd, 1) := by decide +kernel
theorem dX9_init_114 : decode cX9_init 114 = .ok (.bipush 10, 2) := by decide +kernel
theorem dX9_init_116 : decode cX9_init 116 = .ok (.iastore, 1) := by decide +kernel
theorem dX9_init_117 : decode cX9_init 117 = .ok (.iconst 0, 1) := by decide +kernel
theorem dX9_init_118 : decode cX9_init 118 = .ok (.istore_n 2, 1) := by decide +kernel
theorem dX9_init_119 : decode cX9_init 119 = .ok (.iload_n 2, 1) := by decide +kernel
theorem dX9_init_120 : decode cX9_init 120 = .ok (.bipush 10, 2) := by decide +kernel
theorem dX9_init_122 : decode cX9_init 122 = .ok (.if_icmp .ge 17, 3) := by decide +kernel
theorem dX9_init_125 : decode cX9_init 125 = .ok (.aload_n 0, 1) := by decide +kernel
theorem dX9_init_126 : decode cX9_init 126 = .ok (.iload_n 1, 1) := by decide +kernel
theorem dX9_init_127 : decode cX9_init 127 = .ok (.iload_n 2, 1) := by decide +kernel
theorem dX9_init_128 : decode cX9_init 128 = .ok (.iconst 0, 1) := by decide +kernel
theorem dX9_init_129 : decode cX9_init 129 = .ok (.iconst 4, 1) := by decide +kernel
theorem dX9_init_130 : decode cX9_init 130 = .ok (.invokevirtual 25, 3) := by decide +kernel
theorem dX9_init_133 : decode cX9_init 133 = .ok (.iinc 2 1, 3) := by decide +kernel
theorem dX9_init_136 : decode cX9_init 136 = .ok (.goto (-17), 3) := by decide +kernel
theorem dX9_init_139 : decode cX9_init 139 = .ok (.iinc 1 1, 3) := by decide +kernel
theorem dX9_init_142 : decode cX9_init 142 = .ok (.goto (-42), 3) := by decide +kernel
theorem dX9_init_145 : decode cX9_init 145 = .ok (.return_, 1) := by decide +kernel
theorem dX9_in_0 : decode cX9_in 0 = .ok (.iload_n 0, 1) := by decide +kernel
theorem dX9_in_1 : decode cX9_in 1 = .ok (.iload_n 1, 1) := by decide +kernel
theorem dX9_in_2 : decode cX9_in 2 = .ok (.if_icmp .lt 12, 3) := by decide +kernel
theorem dX9_in_5 : decode cX9_in 5 = .ok (.iload_n 0, 1) := by decide +kernel
theorem dX9_in_6 : decode cX9_in 6 = .ok (.iload_n 2, 1) := by decide +kernel
theorem dX9_in_7 : decode cX9_in 7 = .ok (.if_icmp .gt 7, 3) := by decide +kernel
theorem dX9_in_10 : decode cX9_in 10 = .ok (.iconst 1, 1) := by decide +kernel
theorem dX9_in_11 : decode cX9_in 11 = .ok (.goto 4, 3) := by decide +kernel
theorem dX9_in_14 : decode cX9_in 14 = .ok (.iconst 0, 1) := by decide +kernel
theorem dX9_in_15 : decode cX9_in 15 = .ok (.ireturn, 1) := by decide +kernel
theorem dX9_lays_0 : decode cX9_lays 0 = .ok (.aload_n 0, 1) := by decide +kernel
theorem dX9_lays_1 : decode cX9_lays 1 = .ok (.getfield 7, 3) := by decide +kernel
theorem dX9_lays_4 : decode cX9_lays 4 = .ok (.bipush 42, 2) := by decide +kernel
theorem dX9_lays_6 : decode cX9_lays 6 = .ok (.bipush 30, 2) := by decide +kernel
theorem dX9_lays_8 : decode cX9_lays 8 = .ok (.iload_n 1, 1) := by decide +kernel
theorem dX9_lays_9 : decode cX9_lays 9 = .ok (.imul, 1) := by decide +kernel
theorem dX9_lays_10 : decode cX9_lays 10 = .ok (.iadd, 1) := by decide +kernel
theorem dX9_lays_11 : decode cX9_lays 11 = .ok (.iload_n 2, 1) := by decide +kernel
theorem dX9_lays_12 : decode cX9_lays 12 = .ok (.iadd, 1) := by decide +kernel
theorem dX9_lays_13 : decode cX9_lays 13 = .ok (.iload_n 3, 1) := by decide +kernel
theorem dX9_lays_14 : decode cX9_lays 14 = .ok (.iconst 4, 1) := by decide +kernel
theorem dX9_lays_15 : decode cX9_lays 15 = .ok (.iload 4, 2) := by decide +kernel
theorem dX9_lays_17 : decode cX9_lays 17 = .ok (.imul, 1) := by decide +kernel
theorem dX9_lays_18 : decode cX9_lays 18 = .ok (.iadd, 1) := by decide +kernel
theorem dX9_lays_19 : decode cX9_lays 19 = .ok (.iastore, 1) := by decide +kernel
theorem dX9_lays_20 : decode cX9_lays 20 = .ok (.return_, 1) := by decide +kernel
theorem dX9_kindOf_0 : decode cX9_kindOf 0 = .ok (.aload_n 0, 1) := by decide +kernel
theorem dX9_kindOf_1 : decode cX9_kindOf 1 = .ok (.getfield 7, 3) := by decide +kernel
theorem dX9_kindOf_4 : decode cX9_kindOf 4 = .ok (.bipush 42, 2) := by decide +kernel
theorem dX9_kindOf_6 : decode cX9_kindOf 6 = .ok (.bipush 30, 2) := by decide +kernel
theorem dX9_kindOf_8 : decode cX9_kindOf 8 = .ok (.iload_n 1, 1) := by decide +kernel
theorem dX9_kindOf_9 : decode cX9_kindOf 9 = .ok (.imul, 1) := by decide +kernel
theorem dX9_kindOf_10 : decode cX9_kindOf 10 = .ok (.iadd, 1) := by decide +kernel
theorem dX9_kindOf_11 : decode cX9_kindOf 11 = .ok (.iload_n 2, 1) := by decide +kernel
theorem dX9_kindOf_12 : decode cX9_kindOf 12 = .ok (.iadd, 1) := by decide +kernel
theorem dX9_kindOf_13 : decode cX9_kindOf 13 = .ok (.iaload, 1) := by decide +kernel
theorem dX9_kindOf_14 : decode cX9_kindOf 14 = .ok (.iconst 4, 1) := by decide +kernel
theorem dX9_kindOf_15 : decode cX9_kindOf 15 = .ok (.irem, 1) := by decide +kernel
theorem dX9_kindOf_16 : decode cX9_kindOf 16 = .ok (.ireturn, 1) := by decide +kernel
theorem dX9_thickness_0 : decode cX9_thickness 0 = .ok (.aload_n 0, 1) := by decide +kernel
theorem dX9_thickness_1 : decode cX9_thickness 1 = .ok (.getfield 7, 3) := by decide +kernel
theorem dX9_thickness_4 : decode cX9_thickness 4 = .ok (.bipush 42, 2) := by decide +kernel
theorem dX9_thickness_6 : decode cX9_thickness 6 = .ok (.bipush 30, 2) := by decide +kernel
theorem dX9_thickness_8 : decode cX9_thickness 8 = .ok (.iload_n 1, 1) := by decide +kernel
theorem dX9_thickness_9 : decode cX9_thickness 9 = .ok (.imul, 1) := by decide +kernel
theorem dX9_thickness_10 : decode cX9_thickness 10 = .ok (.iadd, 1) := by decide +kernel
theorem dX9_thickness_11 : decode cX9_thickness 11 = .ok (.iload_n 2, 1) := by decide +kernel
theorem dX9_thickness_12 : decode cX9_thickness 12 = .ok (.iadd, 1) := by decide +kernel
theorem dX9_thickness_13 : decode cX9_thickness 13 = .ok (.iaload, 1) := by decide +kernel
theorem dX9_thickness_14 : decode cX9_thickness 14 = .ok (.iconst 4, 1) := by decide +kernel
theorem dX9_thickness_15 : decode cX9_thickness 15 = .ok (.idiv, 1) := by decide +kernel
theorem dX9_thickness_16 : decode cX9_thickness 16 = .ok (.bipush 16, 2) := by decide +kernel
theorem dX9_thickness_18 : decode cX9_thickness 18 = .ok (.irem, 1) := by decide +kernel
theorem dX9_thickness_19 : decode cX9_thickness 19 = .ok (.ireturn, 1) := by decide +kernel
theorem dX9_age_0 : decode cX9_age 0 = .ok (.aload_n 0, 1) := by decide +kernel
theorem dX9_age_1 : decode cX9_age 1 = .ok (.getfield 7, 3) := by decide +kernel
theorem dX9_age_4 : decode cX9_age 4 = .ok (.bipush 42, 2) := by decide +kernel
theorem dX9_age_6 : decode cX9_age 6 = .ok (.bipush 30, 2) := by decide +kernel
theorem dX9_age_8 : decode cX9_age 8 = .ok (.iload_n 1, 1) := by decide +kernel
theorem dX9_age_9 : decode cX9_age 9 = .ok (.imul, 1) := by decide +kernel
theorem dX9_age_10 : decode cX9_age 10 = .ok (.iadd, 1) := by decide +kernel
theorem dX9_age_11 : decode cX9_age 11 = .ok (.iload_n 2, 1) := by decide +kernel
theorem dX9_age_12 : decode cX9_age 12 = .ok (.iadd, 1) := by decide +kernel
theorem dX9_age_13 : decode cX9_age 13 = .ok (.iaload, 1) := by decide +kernel
theorem dX9_age_14 : decode cX9_age 14 = .ok (.bipush 64, 2) := by decide +kernel
theorem dX9_age_16 : decode cX9_age 16 = .ok (.idiv, 1) := by decide +kernel
theorem dX9_age_17 : decode cX9_age 17 = .ok (.ireturn, 1) := by decide +kernel
theorem dX9_isField_0 : decode cX9_isField 0 = .ok (.iload_n 0, 1) := by decide +kernel
theorem dX9_isField_1 : decode cX9_isField 1 = .ok (.iconst 0, 1) := by decide +kernel
theorem dX9_isField_2 : decode cX9_isField 2 = .ok (.iconst 5, 1) := by decide +kernel
theorem dX9_isField_3 : decode cX9_isField 3 = .ok (.invokestatic 29, 3) := by decide +kernel
theorem dX9_isField_6 : decode cX9_isField 6 = .ok (.ireturn, 1) := by decide +kernel
theorem dX9_isChain_0 : decode cX9_isChain 0 = .ok (.iload_n 1, 1) := by decide +kernel
theorem dX9_isChain_1 : decode cX9_isChain 1 = .ok (.invokestatic 33, 3) := by decide +kernel
theorem dX9_isChain_4 : decode cX9_isChain 4 = .ok (.ifCond .eq 26, 3) := by decide +kernel
theorem dX9_isChain_7 : decode cX9_isChain 7 = .ok (.iload_n 2, 1) := by decide +kernel
theorem dX9_isChain_8 : decode cX9_isChain 8 = .ok (.iconst 0, 1) := by decide +kernel
theorem dX9_isChain_9 : decode cX9_isChain 9 = .ok (.aload_n 0, 1) := by decide +kernel
theorem dX9_isChain_10 : decode cX9_isChain 10 = .ok (.getfield 7, 3) := by decide +kernel
theorem dX9_isChain_13 : decode cX9_isChain 13 = .ok (.bipush 12, 2) := by decide +kernel
theorem dX9_isChain_15 : decode cX9_isChain 15 = .ok (.iload_n 1, 1) := by decide +kernel
theorem dX9_isChain_16 : decode cX9_isChain 16 = .ok (.iadd, 1) := by decide +kernel
theorem dX9_isChain_17 : decode cX9_isChain 17 = .ok (.iaload, 1) := by decide +kernel
theorem dX9_isChain_18 : decode cX9_isChain 18 = .ok (.iconst 1, 1) := by decide +kernel
theorem dX9_isChain_19 : decode cX9_isChain 19 = .ok (.isub, 1) := by decide +kernel
theorem dX9_isChain_20 : decode cX9_isChain 20 = .ok (.invokestatic 29, 3) := by decide +kernel
theorem dX9_isChain_23 : decode cX9_isChain 23 = .ok (.ifCond .eq 7, 3) := by decide +kernel
theorem dX9_isChain_26 : decode cX9_isChain 26 = .ok (.iconst 1, 1) := by decide +kernel
theorem dX9_isChain_27 : decode cX9_isChain 27 = .ok (.goto 4, 3) := by decide +kernel
theorem dX9_isChain_30 : decode cX9_isChain 30 = .ok (.iconst 0, 1) := by decide +kernel
theorem dX9_isChain_31 : decode cX9_isChain 31 = .ok (.ireturn, 1) := by decide +kernel
theorem dX9_ofKind_0 : decode cX9_ofKind 0 = .ok (.iconst 0, 1) := by decide +kernel
theorem dX9_ofKind_1 : decode cX9_ofKind 1 = .ok (.istore_n 3, 1) := by decide +kernel
theorem dX9_ofKind_2 : decode cX9_ofKind 2 = .ok (.iconst 0, 1) := by decide +kernel
theorem dX9_ofKind_3 : decode cX9_ofKind 3 = .ok (.istore 4, 2) := by decide +kernel
theorem dX9_ofKind_5 : decode cX9_ofKind 5 = .ok (.iload 4, 2) := by decide +kernel
theorem dX9_ofKind_7 : decode cX9_ofKind 7 = .ok (.aload_n 0, 1) := by decide +kernel
theorem dX9_ofKind_8 : decode cX9_ofKind 8 = .ok (.getfield 7, 3) := by decide +kernel
theorem dX9_ofKind_11 : decode cX9_ofKind 11 = .ok (.bipush 12, 2) := by decide +kernel
theorem dX9_ofKind_13 : decode cX9_ofKind 13 = .ok (.iload_n 1, 1) := by decide +kernel
theorem dX9_ofKind_14 : decode cX9_ofKind 14 = .ok (.iadd, 1) := by decide +kernel
theorem dX9_ofKind_15 : decode cX9_ofKind 15 = .ok (.iaload, 1) := by decide +kernel
theorem dX9_ofKind_16 : decode cX9_ofKind 16 = .ok (.if_icmp .ge 28, 3) := by decide +kernel
theorem dX9_ofKind_19 : decode cX9_ofKind 19 = .ok (.iload_n 3, 1) := by decide +kernel
theorem dX9_ofKind_20 : decode cX9_ofKind 20 = .ok (.aload_n 0, 1) := by decide +kernel
theorem dX9_ofKind_21 : decode cX9_ofKind 21 = .ok (.iload_n 1, 1) := by decide +kernel
theorem dX9_ofKind_22 : decode cX9_ofKind 22 = .ok (.iload 4, 2) := by decide +kernel
theorem dX9_ofKind_24 : decode cX9_ofKind 24 = .ok (.invokevirtual 37, 3) := by decide +kernel
theorem dX9_ofKind_27 : decode cX9_ofKind 27 = .ok (.iload_n 2, 1) := by decide +kernel
theorem dX9_ofKind_28 : decode cX9_ofKind 28 = .ok (.if_icmp .ne 7, 3) := by decide +kernel
theorem dX9_ofKind_31 : decode cX9_ofKind 31 = .ok (.iconst 1, 1) := by decide +kernel
theorem dX9_ofKind_32 : decode cX9_ofKind 32 = .ok (.goto 4, 3) := by decide +kernel
theorem dX9_ofKind_35 : decode cX9_ofKind 35 = .ok (.iconst 0, 1) := by decide +kernel
theorem dX9_ofKind_36 : decode cX9_ofKind 36 = .ok (.iadd, 1) := by decide +kernel
theorem dX9_ofKind_37 : decode cX9_ofKind 37 = .ok (.istore_n 3, 1) := by decide +kernel
theorem dX9_ofKind_38 : decode cX9_ofKind 38 = .ok (.iinc 4 1, 3) := by decide +kernel
theorem dX9_ofKind_41 : decode cX9_ofKind 41 = .ok (.goto (-36), 3) := by decide +kernel
theorem dX9_ofKind_44 : decode cX9_ofKind 44 = .ok (.iload_n 3, 1) := by decide +kernel
theorem dX9_ofKind_45 : decode cX9_ofKind 45 = .ok (.ireturn, 1) := by decide +kernel
theorem dX9_con_0 : decode cX9_con 0 = .ok (.aload_n 0, 1) := by decide +kernel
theorem dX9_con_1 : decode cX9_con 1 = .ok (.getfield 7, 3) := by decide +kernel
theorem dX9_con_4 : decode cX9_con 4 = .ok (.bipush 18, 2) := by decide +kernel
theorem dX9_con_6 : decode cX9_con 6 = .ok (.iconst 4, 1) := by decide +kernel
theorem dX9_con_7 : decode cX9_con 7 = .ok (.iload_n 1, 1) := by decide +kernel
theorem dX9_con_8 : decode cX9_con 8 = .ok (.imul, 1) := by decide +kernel
theorem dX9_con_9 : decode cX9_con 9 = .ok (.iadd, 1) := by decide +kernel
theorem dX9_con_10 : decode cX9_con 10 = .ok (.iload_n 2, 1) := by decide +kernel
theorem dX9_con_11 : decode cX9_con 11 = .ok (.iadd, 1) := by decide +kernel
theorem dX9_con_12 : decode cX9_con 12 = .ok (.iaload, 1) := by decide +kernel
theorem dX9_con_13 : decode cX9_con 13 = .ok (.ireturn, 1) := by decide +kernel
theorem dX9_keeps_0 : decode cX9_keeps 0 = .ok (.iconst 0, 1) := by decide +kernel
theorem dX9_keeps_1 : decode cX9_keeps 1 = .ok (.istore_n 1, 1) := by decide +kernel
theorem dX9_keeps_2 : decode cX9_keeps 2 = .ok (.iload_n 1, 1) := by decide +kernel
theorem dX9_keeps_3 : decode cX9_keeps 3 = .ok (.sipush 668, 3) := by decide +kernel
theorem dX9_keeps_6 : decode cX9_keeps 6 = .ok (.if_icmp .ge 21, 3) := by decide +kernel
theorem dX9_keeps_9 : decode cX9_keeps 9 = .ok (.aload_n 0, 1) := by decide +kernel
theorem dX9_keeps_10 : decode cX9_keeps 10 = .ok (.getfield 16, 3) := by decide +kernel
theorem dX9_keeps_13 : decode cX9_keeps 13 = .ok (.iload_n 1, 1) := by decide +kernel
theorem dX9_keeps_14 : decode cX9_keeps 14 = .ok (.aload_n 0, 1) := by decide +kernel
theorem dX9_keeps_15 : decode cX9_keeps 15 = .ok (.getfield 7, 3) := by decide +kernel
theorem dX9_keeps_18 : decode cX9_keeps 18 = .ok (.iload_n 1, 1) := by decide +kernel
theorem dX9_keeps_19 : decode cX9_keeps 19 = .ok (.iaload, 1) := by decide +kernel
theorem dX9_keeps_20 : decode cX9_keeps 20 = .ok (.iastore, 1) := by decide +kernel
theorem dX9_keeps_21 : decode cX9_keeps 21 = .ok (.iinc 1 1, 3) := by decide +kernel
theorem dX9_keeps_24 : decode cX9_keeps 24 = .ok (.goto (-22), 3) := by decide +kernel
theorem dX9_keeps_27 : decode cX9_keeps 27 = .ok (.return_, 1) := by decide +kernel
theorem dX9_acted_0 : decode cX9_acted 0 = .ok (.iload_n 1, 1) := by decide +kernel
theorem dX9_acted_1 : decode cX9_acted 1 = .ok (.ifCond .lt 98, 3) := by decide +kernel
theorem dX9_acted_4 : decode cX9_acted 4 = .ok (.aload_n 0, 1) := by decide +kernel
theorem dX9_acted_5 : decode cX9_acted 5 = .ok (.getfield 41, 3) := by decide +kernel
theorem dX9_acted_8 : decode cX9_acted 8 = .ok (.iconst 5, 1) := by decide +kernel
theorem dX9_acted_9 : decode cX9_acted 9 = .ok (.if_icmp .ne 44, 3) := by decide +kernel
theorem dX9_acted_12 : decode cX9_acted 12 = .ok (.iconst 0, 1) := by decide +kernel
theorem dX9_acted_13 : decode cX9_acted 13 = .ok (.istore_n 2, 1) := by decide +kernel
theorem dX9_acted_14 : decode cX9_acted 14 = .ok (.iload_n 2, 1) := by decide +kernel
theorem dX9_acted_15 : decode cX9_acted 15 = .ok (.sipush 2672, 3) := by decide +kernel
theorem dX9_acted_18 : decode cX9_acted 18 = .ok (.if_icmp .ge 25, 3) := by decide +kernel
theorem dX9_acted_21 : decode cX9_acted 21 = .ok (.aload_n 0, 1) := by decide +kernel
theorem dX9_acted_22 : decode cX9_acted 22 = .ok (.getfield 13, 3) := by decide +kernel
theorem dX9_acted_25 : decode cX9_acted 25 = .ok (.iload_n 2, 1) := by decide +kernel
theorem dX9_acted_26 : decode cX9_acted 26 = .ok (.aload_n 0, 1) := by decide +kernel
theorem dX9_acted_27 : decode cX9_acted 27 = .ok (.getfield 13, 3) := by decide +kernel
theorem dX9_acted_30 : decode cX9_acted 30 = .ok (.iload_n 2, 1) := by decide +kernel
theorem dX9_acted_31 : decode cX9_acted 31 = .ok (.sipush 668, 3) := by decide +kernel
theorem dX9_acted_34 : decode cX9_acted 34 = .ok (.iadd, 1) := by decide +kernel
theorem dX9_acted_35 : decode cX9_acted 35 = .ok (.iaload, 1) := by decide +kernel
theorem dX9_acted_36 : decode cX9_acted 36 = .ok (.iastore, 1) := by decide +kernel
theorem dX9_acted_37 : decode cX9_acted 37 = .ok (.iinc 2 1, 3) := by decide +kernel
theorem dX9_acted_40 : decode cX9_acted 40 = .ok (.goto (-26), 3) := by decide +kernel
theorem dX9_acted_43 : decode cX9_acted 43 = .ok (.aload_n 0, 1) := by decide +kernel
theorem dX9_acted_44 : decode cX9_acted 44 = .ok (.dup, 1) := by decide +kernel
theorem dX9_acted_45 : decode cX9_acted 45 = .ok (.getfield 41, 3) := by decide +kernel
theorem dX9_acted_48 : decode cX9_acted 48 = .ok (.iconst 1, 1) := by decide +kernel
theorem dX9_acted_49 : decode cX9_acted 49 = .ok (.isub, 1) := by decide +kernel
theorem dX9_acted_50 : decode cX9_acted 50 = .ok (.putfield 41, 3) := by decide +kernel
theorem dX9_acted_53 : decode cX9_acted 53 = .ok (.iconst 0, 1) := by decide +kernel
theorem dX9_acted_54 : decode cX9_acted 54 = .ok (.istore_n 2, 1) := by decide +kernel
theorem dX9_acted_55 : decode cX9_acted 55 = .ok (.iload_n 2, 1) := by decide +kernel
theorem dX9_acted_56 : decode cX9_acted 56 = .ok (.sipush 668, 3) := by decide +kernel
theorem dX9_acted_59 : decode cX9_acted 59 = .ok (.if_icmp .ge 30, 3) := by decide +kernel
theorem dX9_acted_62 : decode cX9_acted 62 = .ok (.aload_n 0, 1) := by decide +kernel
theorem dX9_acted_63 : decode cX9_acted 63 = .ok (.getfield 13, 3) := by decide +kernel
theorem dX9_acted_66 : decode cX9_acted 66 = .ok (.sipush 668, 3) := by decide +kernel
theorem dX9_acted_69 : decode cX9_acted 69 = .ok (.aload_n 0, 1) := by decide +kernel
theorem dX9_acted_70 : decode cX9_acted 70 = .ok (.getfield 41, 3) := by decide +kernel
theorem dX9_acted_73 : decode cX9_acted 73 = .ok (.imul, 1) := by decide +kernel
theorem dX9_acted_74 : decode cX9_acted 74 = .ok (.iload_n 2, 1) := by decide +kernel
theorem dX9_acted_75 : decode cX9_acted 75 = .ok (.iadd, 1) := by decide +kernel
theorem dX9_acted_76 : decode cX9_acted 76 = .ok (.aload_n 0, 1) := by decide +kernel
theorem dX9_acted_77 : decode cX9_acted 77 = .ok (.getfield 16, 3) := by decide +kernel
theorem dX9_acted_80 : decode cX9_acted 80 = .ok (.iload_n 2, 1) := by decide +kernel
theorem dX9_acted_81 : decode cX9_acted 81 = .ok (.iaload, 1) := by decide +kernel
theorem dX9_acted_82 : decode cX9_acted 82 = .ok (.iastore, 1) := by decide +kernel
theorem dX9_acted_83 : decode cX9_acted 83 = .ok (.iinc 2 1, 3) := by decide +kernel
theorem dX9_acted_86 : decode cX9_acted 86 = .ok (.goto (-31), 3) := by decide +kernel
theorem dX9_acted_89 : decode cX9_acted 89 = .ok (.aload_n 0, 1) := by decide +kernel
theorem dX9_acted_90 : decode cX9_acted 90 = .ok (.dup, 1) := by decide +kernel
theorem dX9_acted_91 : decode cX9_acted 91 = .ok (.getfield 41, 3) := by decide +kernel
theorem dX9_acted_94 : decode cX9_acted 94 = .ok (.iconst 1, 1) := by decide +kernel
theorem dX9_acted_95 : decode cX9_acted 95 = .ok (.iadd, 1) := by decide +kernel
theorem dX9_acted_96 : decode cX9_acted 96 = .ok (.putfield 41, 3) := by decide +kernel
theorem dX9_acted_99 : decode cX9_acted 99 = .ok (.iload_n 1, 1) := by decide +kernel
theorem dX9_acted_100 : decode cX9_acted 100 = .ok (.ireturn, 1) := by decide +kernel
theorem dX9_isClosed_0 : decode cX9_isClosed 0 = .ok (.iload_n 1, 1) := by decide +kernel
theorem dX9_isClosed_1 : decode cX9_isClosed 1 = .ok (.bipush 52, 2) := by decide +kernel
theorem dX9_isClosed_3 : decode cX9_isClosed 3 = .ok (.irem, 1) := by decide +kernel
theorem dX9_isClosed_4 : decode cX9_isClosed 4 = .ok (.istore_n 2, 1) := by decide +kernel
theorem dX9_isClosed_5 : decode cX9_isClosed 5 = .ok (.aload_n 0, 1) := by decide +kernel
theorem dX9_isClosed_6 : decode cX9_isClosed 6 = .ok (.getfield 7, 3) := by decide +kernel
theorem dX9_isClosed_9 : decode cX9_isClosed 9 = .ok (.bipush 9, 2) := by decide +kernel
theorem dX9_isClosed_11 : decode cX9_isClosed 11 = .ok (.iaload, 1) := by decide +kernel
theorem dX9_isClosed_12 : decode cX9_isClosed 12 = .ok (.aload_n 0, 1) := by decide +kernel
theorem dX9_isClosed_13 : decode cX9_isClosed 13 = .ok (.getfield 7, 3) := by decide +kernel
theorem dX9_isClosed_16 : decode cX9_isClosed 16 = .ok (.bipush 10, 2) := by decide +kernel
theorem dX9_isClosed_18 : decode cX9_isClosed 18 = .ok (.iaload, 1) := by decide +kernel
theorem dX9_isClosed_19 : decode cX9_isClosed 19 = .ok (.if_icmp .gt 33, 3) := by decide +kernel
theorem dX9_isClosed_22 : decode cX9_isClosed 22 = .ok (.iload_n 2, 1) := by decide +kernel
theorem dX9_isClosed_23 : decode cX9_isClosed 23 = .ok (.aload_n 0, 1) := by decide +kernel
theorem dX9_isClosed_24 : decode cX9_isClosed 24 = .ok (.getfield 7, 3) := by decide +kernel
theorem dX9_isClosed_27 : decode cX9_isClosed 27 = .ok (.bipush 9, 2) := by decide +kernel
theorem dX9_isClosed_29 : decode cX9_isClosed 29 = .ok (.iaload, 1) := by decide +kernel
theorem dX9_isClosed_30 : decode cX9_isClosed 30 = .ok (.if_icmp .lt 18, 3) := by decide +kernel
theorem dX9_isClosed_33 : decode cX9_isClosed 33 = .ok (.iload_n 2, 1) := by decide +kernel
theorem dX9_isClosed_34 : decode cX9_isClosed 34 = .ok (.aload_n 0, 1) := by decide +kernel
theorem dX9_isClosed_35 : decode cX9_isClosed 35 = .ok (.getfield 7, 3) := by decide +kernel
theorem dX9_isClosed_38 : decode cX9_isClosed 38 = .ok (.bipush 10, 2) := by decide +kernel
theorem dX9_isClosed_40 : decode cX9_isClosed 40 = .ok (.iaload, 1) := by decide +kernel
theorem dX9_isClosed_41 : decode cX9_isClosed 41 = .ok (.if_icmp .gt 7, 3) := by decide +kernel
theorem dX9_isClosed_44 : decode cX9_isClosed 44 = .ok (.iconst 1, 1) := by decide +kernel
theorem dX9_isClosed_45 : decode cX9_isClosed 45 = .ok (.goto 34, 3) := by decide +kernel
theorem dX9_isClosed_48 : decode cX9_isClosed 48 = .ok (.iconst 0, 1) := by decide +kernel
theorem dX9_isClosed_49 : decode cX9_isClosed 49 = .ok (.goto 30, 3) := by decide +kernel
theorem dX9_isClosed_52 : decode cX9_isClosed 52 = .ok (.iload_n 2, 1) := by decide +kernel
theorem dX9_isClosed_53 : decode cX9_isClosed 53 = .ok (.aload_n 0, 1) := by decide +kernel
theorem dX9_isClosed_54 : decode cX9_isClosed 54 = .ok (.getfield 7, 3) := by decide +kernel
theorem dX9_isClosed_57 : decode cX9_isClosed 57 = .ok (.bipush 9, 2) := by decide +kernel
theorem dX9_isClosed_59 : decode cX9_isClosed 59 = .ok (.iaload, 1) := by decide +kernel
theorem dX9_isClosed_60 : decode cX9_isClosed 60 = .ok (.if_icmp .ge 14, 3) := by decide +kernel
theorem dX9_isClosed_63 : decode cX9_isClosed 63 = .ok (.iload_n 2, 1) := by decide +kernel
theorem dX9_isClosed_64 : decode cX9_isClosed 64 = .ok (.aload_n 0, 1) := by decide +kernel
theorem dX9_isClosed_65 : decode cX9_isClosed 65 = .ok (.getfield 7, 3) := by decide +kernel
theorem dX9_isClosed_68 : decode cX9_isClosed 68 = .ok (.bipush 10, 2) := by decide +kernel
theorem dX9_isClosed_70 : decode cX9_isClosed 70 = .ok (.iaload, 1) := by decide +kernel
theorem dX9_isClosed_71 : decode cX9_isClosed 71 = .ok (.if_icmp .gt 7, 3) := by decide +kernel
theorem dX9_isClosed_74 : decode cX9_isClosed 74 = .ok (.iconst 1, 1) := by decide +kernel
theorem dX9_isClosed_75 : decode cX9_isClosed 75 = .ok (.goto 4, 3) := by decide +kernel
theorem dX9_isClosed_78 : decode cX9_isClosed 78 = .ok (.iconst 0, 1) := by decide +kernel
theorem dX9_isClosed_79 : decode cX9_isClosed 79 = .ok (.ireturn, 1) := by decide +kernel
theorem dX9_ends_0 : decode cX9_ends 0 = .ok (.iconst 0, 1) := by decide +kernel
theorem dX9_ends_1 : decode cX9_ends 1 = .ok (.istore_n 2, 1) := by decide +kernel
theorem dX9_ends_2 : decode cX9_ends 2 = .ok (.iload_n 2, 1) := by decide +kernel
theorem dX9_ends_3 : decode cX9_ends 3 = .ok (.iconst 4, 1) := by decide +kernel
theorem dX9_ends_4 : decode cX9_ends 4 = .ok (.if_icmp .ge 32, 3) := by decide +kernel
theorem dX9_ends_7 : decode cX9_ends 7 = .ok (.aload_n 0, 1) := by decide +kernel
theorem dX9_ends_8 : decode cX9_ends 8 = .ok (.iload_n 1, 1) := by decide +kernel
theorem dX9_ends_9 : decode cX9_ends 9 = .ok (.iconst 0, 1) := by decide +kernel
theorem dX9_ends_10 : decode cX9_ends 10 = .ok (.invokevirtual 45, 3) := by decide +kernel
theorem dX9_ends_13 : decode cX9_ends 13 = .ok (.ifCond .ne 23, 3) := by decide +kernel
theorem dX9_ends_16 : decode cX9_ends 16 = .ok (.aload_n 0, 1) := by decide +kernel
theorem dX9_ends_17 : decode cX9_ends 17 = .ok (.getfield 7, 3) := by decide +kernel
theorem dX9_ends_20 : decode cX9_ends 20 = .ok (.bipush 18, 2) := by decide +kernel
theorem dX9_ends_22 : decode cX9_ends 22 = .ok (.iconst 4, 1) := by decide +kernel
theorem dX9_ends_23 : decode cX9_ends 23 = .ok (.iload_n 1, 1) := by decide +kernel
theorem dX9_ends_24 : decode cX9_ends 24 = .ok (.imul, 1) := by decide +kernel
theorem dX9_ends_25 : decode cX9_ends 25 = .ok (.iadd, 1) := by decide +kernel
theorem dX9_ends_26 : decode cX9_ends 26 = .ok (.iload_n 2, 1) := by decide +kernel
theorem dX9_ends_27 : decode cX9_ends 27 = .ok (.iadd, 1) := by decide +kernel
theorem dX9_ends_28 : decode cX9_ends 28 = .ok (.iconst 0, 1) := by decide +kernel
theorem dX9_ends_29 : decode cX9_ends 29 = .ok (.iastore, 1) := by decide +kernel
theorem dX9_ends_30 : decode cX9_ends 30 = .ok (.iinc 2 1, 3) := by decide +kernel
theorem dX9_ends_33 : decode cX9_ends 33 = .ok (.goto (-31), 3) := by decide +kernel
theorem dX9_ends_36 : decode cX9_ends 36 = .ok (.return_, 1) := by decide +kernel
theorem dX9_canLay_0 : decode cX9_canLay 0 = .ok (.aload_n 0, 1) := by decide +kernel
theorem dX9_canLay_1 : decode cX9_canLay 1 = .ok (.iload_n 1, 1) := by decide +kernel
theorem dX9_canLay_2 : decode cX9_canLay 2 = .ok (.iload_n 2, 1) := by decide +kernel
theorem dX9_canLay_3 : decode cX9_canLay 3 = .ok (.invokevirtual 48, 3) := by decide +kernel
theorem dX9_canLay_6 : decode cX9_canLay 6 = .ok (.istore_n 3, 1) := by decide +kernel
theorem dX9_canLay_7 : decode cX9_canLay 7 = .ok (.aload_n 0, 1) := by decide +kernel
theorem dX9_canLay_8 : decode cX9_canLay 8 = .ok (.iload_n 1, 1) := by decide +kernel
theorem dX9_canLay_9 : decode cX9_canLay 9 = .ok (.iload_n 2, 1) := by decide +kernel
theorem dX9_canLay_10 : decode cX9_canLay 10 = .ok (.invokevirtual 37, 3) := by decide +kernel
theorem dX9_canLay_13 : decode cX9_canLay 13 = .ok (.ifCond .ne 32, 3) := by decide +kernel
theorem dX9_canLay_16 : decode cX9_canLay 16 = .ok (.iload_n 3, 1) := by decide +kernel
theorem dX9_canLay_17 : decode cX9_canLay 17 = .ok (.iconst 2, 1) := by decide +kernel
theorem dX9_canLay_18 : decode cX9_canLay 18 = .ok (.if_icmp .lt 27, 3) := by decide +kernel
theorem dX9_canLay_21 : decode cX9_canLay 21 = .ok (.aload_n 0, 1) := by decide +kernel
theorem dX9_canLay_22 : decode cX9_canLay 22 = .ok (.getfield 7, 3) := by decide +kernel
theorem dX9_canLay_25 : decode cX9_canLay 25 = .ok (.iconst 1, 1) := by decide +kernel
theorem dX9_canLay_26 : decode cX9_canLay 26 = .ok (.iaload, 1) := by decide +kernel
theorem dX9_canLay_27 : decode cX9_canLay 27 = .ok (.iload_n 3, 1) := by decide +kernel
theorem dX9_canLay_28 : decode cX9_canLay 28 = .ok (.if_icmp .lt 17, 3) := by decide +kernel
theorem dX9_canLay_31 : decode cX9_canLay 31 = .ok (.aload_n 0, 1) := by decide +kernel
theorem dX9_canLay_32 : decode cX9_canLay 32 = .ok (.getfield 7, 3) := by decide +kernel
theorem dX9_canLay_35 : decode cX9_canLay 35 = .ok (.iconst 2, 1) := by decide +kernel
theorem dX9_canLay_36 : decode cX9_canLay 36 = .ok (.iaload, 1) := by decide +kernel
theorem dX9_canLay_37 : decode cX9_canLay 37 = .ok (.iconst 2, 1) := by decide +kernel
theorem dX9_canLay_38 : decode cX9_canLay 38 = .ok (.if_icmp .lt 7, 3) := by decide +kernel
theorem dX9_canLay_41 : decode cX9_canLay 41 = .ok (.iconst 1, 1) := by decide +kernel
theorem dX9_canLay_42 : decode cX9_canLay 42 = .ok (.goto 4, 3) := by decide +kernel
theorem dX9_canLay_45 : decode cX9_canLay 45 = .ok (.iconst 0, 1) := by decide +kernel
theorem dX9_canLay_46 : decode cX9_canLay 46 = .ok (.ireturn, 1) := by decide +kernel
theorem dX9_lay_0 : decode cX9_lay 0 = .ok (.aload_n 0, 1) := by decide +kernel
theorem dX9_lay_1 : decode cX9_lay 1 = .ok (.iload_n 1, 1) := by decide +kernel
theorem dX9_lay_2 : decode cX9_lay 2 = .ok (.iload_n 2, 1) := by decide +kernel
theorem dX9_lay_3 : decode cX9_lay 3 = .ok (.invokevirtual 51, 3) := by decide +kernel
theorem dX9_lay_6 : decode cX9_lay 6 = .ok (.ifCond .eq 13, 3) := by decide +kernel
theorem dX9_lay_9 : decode cX9_lay 9 = .ok (.iload_n 3, 1) := by decide +kernel
theorem dX9_lay_10 : decode cX9_lay 10 = .ok (.iconst 1, 1) := by decide +kernel
theorem dX9_lay_11 : decode cX9_lay 11 = .ok (.bipush 30, 2) := by decide +kernel
theorem dX9_lay_13 : decode cX9_lay 13 = .ok (.invokestatic 29, 3) := by decide +kernel
theorem dX9_lay_16 : decode cX9_lay 16 = .ok (.ifCond .ne 5, 3) := by decide +kernel
theorem dX9_lay_19 : decode cX9_lay 19 = .ok (.iconst (-1), 1) := by decide +kernel
theorem dX9_lay_20 : decode cX9_lay 20 = .ok (.ireturn, 1) := by decide +kernel
theorem dX9_lay_21 : decode cX9_lay 21 = .ok (.aload_n 0, 1) := by decide +kernel
theorem dX9_lay_22 : decode cX9_lay 22 = .ok (.aload_n 0, 1) := by decide +kernel
theorem dX9_lay_23 : decode cX9_lay 23 = .ok (.getfield 7, 3) := by decide +kernel
theorem dX9_lay_26 : decode cX9_lay 26 = .ok (.iconst 0, 1) := by decide +kernel
theorem dX9_lay_27 : decode cX9_lay 27 = .ok (.iaload, 1) := by decide +kernel
theorem dX9_lay_28 : decode cX9_lay 28 = .ok (.invokevirtual 55, 3) := by decide +kernel
theorem dX9_lay_31 : decode cX9_lay 31 = .ok (.ifCond .ne 12, 3) := by decide +kernel
theorem dX9_lay_34 : decode cX9_lay 34 = .ok (.aload_n 0, 1) := by decide +kernel
theorem dX9_lay_35 : decode cX9_lay 35 = .ok (.iload_n 1, 1) := by decide +kernel
theorem dX9_lay_36 : decode cX9_lay 36 = .ok (.iload_n 2, 1) := by decide +kernel
theorem dX9_lay_37 : decode cX9_lay 37 = .ok (.invokevirtual 58, 3) := by decide +kernel
theorem dX9_lay_40 : decode cX9_lay 40 = .ok (.ifCond .ne 6, 3) := by decide +kernel
theorem dX9_lay_43 : decode cX9_lay 43 = .ok (.bipush (-2), 2) := by decide +kernel
theorem dX9_lay_45 : decode cX9_lay 45 = .ok (.ireturn, 1) := by decide +kernel
theorem dX9_lay_46 : decode cX9_lay 46 = .ok (.aload_n 0, 1) := by decide +kernel
theorem dX9_lay_47 : decode cX9_lay 47 = .ok (.invokevirtual 61, 3) := by decide +kernel
theorem dX9_lay_50 : decode cX9_lay 50 = .ok (.iconst 0, 1) := by decide +kernel
theorem dX9_lay_51 : decode cX9_lay 51 = .ok (.istore 4, 2) := by decide +kernel
theorem dX9_lay_53 : decode cX9_lay 53 = .ok (.iload_n 2, 1) := by decide +kernel
theorem dX9_lay_54 : decode cX9_lay 54 = .ok (.istore 5, 2) := by decide +kernel
theorem dX9_lay_56 : decode cX9_lay 56 = .ok (.iload 5, 2) := by decide +kernel
theorem dX9_lay_58 : decode cX9_lay 58 = .ok (.aload_n 0, 1) := by decide +kernel
theorem dX9_lay_59 : decode cX9_lay 59 = .ok (.getfield 7, 3) := by decide +kernel
theorem dX9_lay_62 : decode cX9_lay 62 = .ok (.bipush 12, 2) := by decide +kernel
theorem dX9_lay_64 : decode cX9_lay 64 = .ok (.iload_n 1, 1) := by decide +kernel
theorem dX9_lay_65 : decode cX9_lay 65 = .ok (.iadd, 1) := by decide +kernel
theorem dX9_lay_66 : decode cX9_lay 66 = .ok (.iaload, 1) := by decide +kernel
theorem dX9_lay_67 : decode cX9_lay 67 = .ok (.if_icmp .ge 124, 3) := by decide +kernel
theorem dX9_lay_70 : decode cX9_lay 70 = .ok (.iload 4, 2) := by decide +kernel
theorem dX9_lay_72 : decode cX9_lay 72 = .ok (.iload_n 3, 1) := by decide +kernel
theorem dX9_lay_73 : decode cX9_lay 73 = .ok (.if_icmp .ge 118, 3) := by decide +kernel
theorem dX9_lay_76 : decode cX9_lay 76 = .ok (.aload_n 0, 1) := by decide +kernel
theorem dX9_lay_77 : decode cX9_lay 77 = .ok (.iload_n 1, 1) := by decide +kernel
theorem dX9_lay_78 : decode cX9_lay 78 = .ok (.iload 5, 2) := by decide +kernel
theorem dX9_lay_80 : decode cX9_lay 80 = .ok (.invokevirtual 58, 3) := by decide +kernel
theorem dX9_lay_83 : decode cX9_lay 83 = .ok (.ifCond .eq 108, 3) := by decide +kernel
theorem dX9_lay_86 : decode cX9_lay 86 = .ok (.aload_n 0, 1) := by decide +kernel
theorem dX9_lay_87 : decode cX9_lay 87 = .ok (.getfield 7, 3) := by decide +kernel
theorem dX9_lay_90 : decode cX9_lay 90 = .ok (.iconst 1, 1) := by decide +kernel
theorem dX9_lay_91 : decode cX9_lay 91 = .ok (.dup2, 1) := by decide +kernel
theorem dX9_lay_92 : decode cX9_lay 92 = .ok (.iaload, 1) := by decide +kernel
theorem dX9_lay_93 : decode cX9_lay 93 = .ok (.aload_n 0, 1) := by decide +kernel
theorem dX9_lay_94 : decode cX9_lay 94 = .ok (.iload_n 1, 1) := by decide +kernel
theorem dX9_lay_95 : decode cX9_lay 95 = .ok (.iload 5, 2) := by decide +kernel
theorem dX9_lay_97 : decode cX9_lay 97 = .ok (.invokevirtual 48, 3) := by decide +kernel
theorem dX9_lay_100 : decode cX9_lay 100 = .ok (.isub, 1) := by decide +kernel
theorem dX9_lay_101 : decode cX9_lay 101 = .ok (.iastore, 1) := by decide +kernel
theorem dX9_lay_102 : decode cX9_lay 102 = .ok (.aload_n 0, 1) := by decide +kernel
theorem dX9_lay_103 : decode cX9_lay 103 = .ok (.getfield 7, 3) := by decide +kernel
theorem dX9_lay_106 : decode cX9_lay 106 = .ok (.iconst 2, 1) := by decide +kernel
theorem dX9_lay_107 : decode cX9_lay 107 = .ok (.dup2, 1) := by decide +kernel
theorem dX9_lay_108 : decode cX9_lay 108 = .ok (.iaload, 1) := by decide +kernel
theorem dX9_lay_109 : decode cX9_lay 109 = .ok (.iconst 2, 1) := by decide +kernel
theorem dX9_lay_110 : decode cX9_lay 110 = .ok (.isub, 1) := by decide +kernel
theorem dX9_lay_111 : decode cX9_lay 111 = .ok (.iastore, 1) := by decide +kernel
theorem dX9_lay_112 : decode cX9_lay 112 = .ok (.aload_n 0, 1) := by decide +kernel
theorem dX9_lay_113 : decode cX9_lay 113 = .ok (.iload_n 1, 1) := by decide +kernel
theorem dX9_lay_114 : decode cX9_lay 114 = .ok (.iload 5, 2) := by decide +kernel
theorem dX9_lay_116 : decode cX9_lay 116 = .ok (.iconst 1, 1) := by decide +kernel
theorem dX9_lay_117 : decode cX9_lay 117 = .ok (.aload_n 0, 1) := by decide +kernel
theorem dX9_lay_118 : decode cX9_lay 118 = .ok (.iload_n 1, 1) := by decide +kernel
theorem dX9_lay_119 : decode cX9_lay 119 = .ok (.iload 5, 2) := by decide +kernel
theorem dX9_lay_121 : decode cX9_lay 121 = .ok (.invokevirtual 48, 3) := by decide +kernel
theorem dX9_lay_124 : decode cX9_lay 124 = .ok (.invokevirtual 25, 3) := by decide +kernel
theorem dX9_lay_127 : decode cX9_lay 127 = .ok (.aload_n 0, 1) := by decide +kernel
theorem dX9_lay_128 : decode cX9_lay 128 = .ok (.getfield 7, 3) := by decide +kernel
theorem dX9_lay_131 : decode cX9_lay 131 = .ok (.iconst 3, 1) := by decide +kernel
theorem dX9_lay_132 : decode cX9_lay 132 = .ok (.dup2, 1) := by decide +kernel
theorem dX9_lay_133 : decode cX9_lay 133 = .ok (.iaload, 1) := by decide +kernel
theorem dX9_lay_134 : decode cX9_lay 134 = .ok (.aload_n 0, 1) := by decide +kernel
theorem dX9_lay_135 : decode cX9_lay 135 = .ok (.iload_n 1, 1) := by decide +kernel
theorem dX9_lay_136 : decode cX9_lay 136 = .ok (.iconst 0, 1) := by decide +kernel
theorem dX9_lay_137 : decode cX9_lay 137 = .ok (.invokevirtual 64, 3) := by decide +kernel
theorem dX9_lay_140 : decode cX9_lay 140 = .ok (.aload_n 0, 1) := by decide +kernel
theorem dX9_lay_141 : decode cX9_lay 141 = .ok (.iload_n 1, 1) := by decide +kernel
theorem dX9_lay_142 : decode cX9_lay 142 = .ok (.iconst 1, 1) := by decide +kernel
theorem dX9_lay_143 : decode cX9_lay 143 = .ok (.invokevirtual 64, 3) := by decide +kernel
theorem dX9_lay_146 : decode cX9_lay 146 = .ok (.imul, 1) := by decide +kernel
theorem dX9_lay_147 : decode cX9_lay 147 = .ok (.iadd, 1) := by decide +kernel
theorem dX9_lay_148 : decode cX9_lay 148 = .ok (.iastore, 1) := by decide +kernel
theorem dX9_lay_149 : decode cX9_lay 149 = .ok (.aload_n 0, 1) := by decide +kernel
theorem dX9_lay_150 : decode cX9_lay 150 = .ok (.getfield 7, 3) := by decide +kernel
theorem dX9_lay_153 : decode cX9_lay 153 = .ok (.iconst 5, 1) := by decide +kernel
theorem dX9_lay_154 : decode cX9_lay 154 = .ok (.dup2, 1) := by decide +kernel
theorem dX9_lay_155 : decode cX9_lay 155 = .ok (.iaload, 1) := by decide +kernel
theorem dX9_lay_156 : decode cX9_lay 156 = .ok (.aload_n 0, 1) := by decide +kernel
theorem dX9_lay_157 : decode cX9_lay 157 = .ok (.iload_n 1, 1) := by decide +kernel
theorem dX9_lay_158 : decode cX9_lay 158 = .ok (.iconst 0, 1) := by decide +kernel
theorem dX9_lay_159 : decode cX9_lay 159 = .ok (.invokevirtual 64, 3) := by decide +kernel
theorem dX9_lay_162 : decode cX9_lay 162 = .ok (.aload_n 0, 1) := by decide +kernel
theorem dX9_lay_163 : decode cX9_lay 163 = .ok (.iload_n 1, 1) := by decide +kernel
theorem dX9_lay_164 : decode cX9_lay 164 = .ok (.iconst 1, 1) := by decide +kernel
theorem dX9_lay_165 : decode cX9_lay 165 = .ok (.invokevirtual 64, 3) := by decide +kernel
theorem dX9_lay_168 : decode cX9_lay 168 = .ok (.imul, 1) := by decide +kernel
theorem dX9_lay_169 : decode cX9_lay 169 = .ok (.iadd, 1) := by decide +kernel
theorem dX9_lay_170 : decode cX9_lay 170 = .ok (.iastore, 1) := by decide +kernel
theorem dX9_lay_171 : decode cX9_lay 171 = .ok (.aload_n 0, 1) := by decide +kernel
theorem dX9_lay_172 : decode cX9_lay 172 = .ok (.getfield 7, 3) := by decide +kernel
theorem dX9_lay_175 : decode cX9_lay 175 = .ok (.bipush 7, 2) := by decide +kernel
theorem dX9_lay_177 : decode cX9_lay 177 = .ok (.dup2, 1) := by decide +kernel
theorem dX9_lay_178 : decode cX9_lay 178 = .ok (.iaload, 1) := by decide +kernel
theorem dX9_lay_179 : decode cX9_lay 179 = .ok (.iconst 1, 1) := by decide +kernel
theorem dX9_lay_180 : decode cX9_lay 180 = .ok (.iadd, 1) := by decide +kernel
theorem dX9_lay_181 : decode cX9_lay 181 = .ok (.iastore, 1) := by decide +kernel
theorem dX9_lay_182 : decode cX9_lay 182 = .ok (.iinc 4 1, 3) := by decide +kernel
theorem dX9_lay_185 : decode cX9_lay 185 = .ok (.iinc 5 1, 3) := by decide +kernel
theorem dX9_lay_188 : decode cX9_lay 188 = .ok (.goto (-132), 3) := by decide +kernel
theorem dX9_lay_191 : decode cX9_lay 191 = .ok (.aload_n 0, 1) := by decide +kernel
theorem dX9_lay_192 : decode cX9_lay 192 = .ok (.iload_n 1, 1) := by decide +kernel
theorem dX9_lay_193 : decode cX9_lay 193 = .ok (.invokevirtual 67, 3) := by decide +kernel
theorem dX9_lay_196 : decode cX9_lay 196 = .ok (.aload_n 0, 1) := by decide +kernel
theorem dX9_lay_197 : decode cX9_lay 197 = .ok (.iload 4, 2) := by decide +kernel
theorem dX9_lay_199 : decode cX9_lay 199 = .ok (.invokevirtual 71, 3) := by decide +kernel
theorem dX9_lay_202 : decode cX9_lay 202 = .ok (.ireturn, 1) := by decide +kernel
theorem dX9_cut_0 : decode cX9_cut 0 = .ok (.aload_n 0, 1) := by decide +kernel
theorem dX9_cut_1 : decode cX9_cut 1 = .ok (.iload_n 1, 1) := by decide +kernel
theorem dX9_cut_2 : decode cX9_cut 2 = .ok (.iload_n 2, 1) := by decide +kernel
theorem dX9_cut_3 : decode cX9_cut 3 = .ok (.invokevirtual 51, 3) := by decide +kernel
theorem dX9_cut_6 : decode cX9_cut 6 = .ok (.ifCond .ne 5, 3) := by decide +kernel
theorem dX9_cut_9 : decode cX9_cut 9 = .ok (.iconst (-1), 1) := by decide +kernel
theorem dX9_cut_10 : decode cX9_cut 10 = .ok (.ireturn, 1) := by decide +kernel
theorem dX9_cut_11 : decode cX9_cut 11 = .ok (.aload_n 0, 1) := by decide +kernel
theorem dX9_cut_12 : decode cX9_cut 12 = .ok (.iload_n 1, 1) := by decide +kernel
theorem dX9_cut_13 : decode cX9_cut 13 = .ok (.iload_n 2, 1) := by decide +kernel
theorem dX9_cut_14 : decode cX9_cut 14 = .ok (.invokevirtual 48, 3) := by decide +kernel
theorem dX9_cut_17 : decode cX9_cut 17 = .ok (.istore_n 3, 1) := by decide +kernel
theorem dX9_cut_18 : decode cX9_cut 18 = .ok (.aload_n 0, 1) := by decide +kernel
theorem dX9_cut_19 : decode cX9_cut 19 = .ok (.aload_n 0, 1) := by decide +kernel
theorem dX9_cut_20 : decode cX9_cut 20 = .ok (.getfield 7, 3) := by decide +kernel
theorem dX9_cut_23 : decode cX9_cut 23 = .ok (.iconst 0, 1) := by decide +kernel
theorem dX9_cut_24 : decode cX9_cut 24 = .ok (.iaload, 1) := by decide +kernel
theorem dX9_cut_25 : decode cX9_cut 25 = .ok (.invokevirtual 55, 3) := by decide +kernel
theorem dX9_cut_28 : decode cX9_cut 28 = .ok (.ifCond .ne 27, 3) := by decide +kernel
theorem dX9_cut_31 : decode cX9_cut 31 = .ok (.aload_n 0, 1) := by decide +kernel
theorem dX9_cut_32 : decode cX9_cut 32 = .ok (.iload_n 1, 1) := by decide +kernel
theorem dX9_cut_33 : decode cX9_cut 33 = .ok (.iload_n 2, 1) := by decide +kernel
theorem dX9_cut_34 : decode cX9_cut 34 = .ok (.invokevirtual 37, 3) := by decide +kernel
theorem dX9_cut_37 : decode cX9_cut 37 = .ok (.ifCond .ne 18, 3) := by decide +kernel
theorem dX9_cut_40 : decode cX9_cut 40 = .ok (.iload_n 3, 1) := by decide +kernel
theorem dX9_cut_41 : decode cX9_cut 41 = .ok (.iconst 3, 1) := by decide +kernel
theorem dX9_cut_42 : decode cX9_cut 42 = .ok (.if_icmp .lt 13, 3) := by decide +kernel
theorem dX9_cut_45 : decode cX9_cut 45 = .ok (.aload_n 0, 1) := by decide +kernel
theorem dX9_cut_46 : decode cX9_cut 46 = .ok (.getfield 7, 3) := by decide +kernel
theorem dX9_cut_49 : decode cX9_cut 49 = .ok (.iconst 1, 1) := by decide +kernel
theorem dX9_cut_50 : decode cX9_cut 50 = .ok (.iaload, 1) := by decide +kernel
theorem dX9_cut_51 : decode cX9_cut 51 = .ok (.iconst 1, 1) := by decide +kernel
theorem dX9_cut_52 : decode cX9_cut 52 = .ok (.if_icmp .ge 6, 3) := by decide +kernel
theorem dX9_cut_55 : decode cX9_cut 55 = .ok (.bipush (-2), 2) := by decide +kernel
theorem dX9_cut_57 : decode cX9_cut 57 = .ok (.ireturn, 1) := by decide +kernel
theorem dX9_cut_58 : decode cX9_cut 58 = .ok (.aload_n 0, 1) := by decide +kernel
theorem dX9_cut_59 : decode cX9_cut 59 = .ok (.invokevirtual 61, 3) := by decide +kernel
theorem dX9_cut_62 : decode cX9_cut 62 = .ok (.aload_n 0, 1) := by decide +kernel
theorem dX9_cut_63 : decode cX9_cut 63 = .ok (.getfield 7, 3) := by decide +kernel
theorem dX9_cut_66 : decode cX9_cut 66 = .ok (.iconst 2, 1) := by decide +kernel
theorem dX9_cut_67 : decode cX9_cut 67 = .ok (.dup2, 1) := by decide +kernel
theorem dX9_cut_68 : decode cX9_cut 68 = .ok (.iaload, 1) := by decide +kernel
theorem dX9_cut_69 : decode cX9_cut 69 = .ok (.iload_n 3, 1) := by decide +kernel
theorem dX9_cut_70 : decode cX9_cut 70 = .ok (.iadd, 1) := by decide +kernel
theorem dX9_cut_71 : decode cX9_cut 71 = .ok (.iastore, 1) := by decide +kernel
theorem dX9_cut_72 : decode cX9_cut 72 = .ok (.aload_n 0, 1) := by decide +kernel
theorem dX9_cut_73 : decode cX9_cut 73 = .ok (.iload_n 1, 1) := by decide +kernel
theorem dX9_cut_74 : decode cX9_cut 74 = .ok (.iload_n 2, 1) := by decide +kernel
theorem dX9_cut_75 : decode cX9_cut 75 = .ok (.iconst 0, 1) := by decide +kernel
theorem dX9_cut_76 : decode cX9_cut 76 = .ok (.iload_n 3, 1) := by decide +kernel
theorem dX9_cut_77 : decode cX9_cut 77 = .ok (.iconst 2, 1) := by decide +kernel
theorem dX9_cut_78 : decode cX9_cut 78 = .ok (.isub, 1) := by decide +kernel
theorem dX9_cut_79 : decode cX9_cut 79 = .ok (.invokevirtual 25, 3) := by decide +kernel
theorem dX9_cut_82 : decode cX9_cut 82 = .ok (.aload_n 0, 1) := by decide +kernel
theorem dX9_cut_83 : decode cX9_cut 83 = .ok (.getfield 7, 3) := by decide +kernel
theorem dX9_cut_86 : decode cX9_cut 86 = .ok (.iconst 1, 1) := by decide +kernel
theorem dX9_cut_87 : decode cX9_cut 87 = .ok (.dup2, 1) := by decide +kernel
theorem dX9_cut_88 : decode cX9_cut 88 = .ok (.iaload, 1) := by decide +kernel
theorem dX9_cut_89 : decode cX9_cut 89 = .ok (.iconst 1, 1) := by decide +kernel
theorem dX9_cut_90 : decode cX9_cut 90 = .ok (.isub, 1) := by decide +kernel
theorem dX9_cut_91 : decode cX9_cut 91 = .ok (.iastore, 1) := by decide +kernel
theorem dX9_cut_92 : decode cX9_cut 92 = .ok (.aload_n 0, 1) := by decide +kernel
theorem dX9_cut_93 : decode cX9_cut 93 = .ok (.aload_n 0, 1) := by decide +kernel
theorem dX9_cut_94 : decode cX9_cut 94 = .ok (.getfield 7, 3) := by decide +kernel
theorem dX9_cut_97 : decode cX9_cut 97 = .ok (.iconst 2, 1) := by decide +kernel
theorem dX9_cut_98 : decode cX9_cut 98 = .ok (.iaload, 1) := by decide +kernel
theorem dX9_cut_99 : decode cX9_cut 99 = .ok (.invokevirtual 71, 3) := by decide +kernel
theorem dX9_cut_102 : decode cX9_cut 102 = .ok (.ireturn, 1) := by decide +kernel
theorem dX9_plant_0 : decode cX9_plant 0 = .ok (.aload_n 0, 1) := by decide +kernel
theorem dX9_plant_1 : decode cX9_plant 1 = .ok (.iload_n 1, 1) := by decide +kernel
theorem dX9_plant_2 : decode cX9_plant 2 = .ok (.iload_n 2, 1) := by decide +kernel
theorem dX9_plant_3 : decode cX9_plant 3 = .ok (.invokevirtual 51, 3) := by decide +kernel
theorem dX9_plant_6 : decode cX9_plant 6 = .ok (.ifCond .ne 5, 3) := by decide +kernel
theorem dX9_plant_9 : decode cX9_plant 9 = .ok (.iconst (-1), 1) := by decide +kernel
theorem dX9_plant_10 : decode cX9_plant 10 = .ok (.ireturn, 1) := by decide +kernel
theorem dX9_plant_11 : decode cX9_plant 11 = .ok (.aload_n 0, 1) := by decide +kernel
theorem dX9_plant_12 : decode cX9_plant 12 = .ok (.iload_n 1, 1) := by decide +kernel
theorem dX9_plant_13 : decode cX9_plant 13 = .ok (.iload_n 2, 1) := by decide +kernel
theorem dX9_plant_14 : decode cX9_plant 14 = .ok (.invokevirtual 37, 3) := by decide +kernel
theorem dX9_plant_17 : decode cX9_plant 17 = .ok (.iconst 2, 1) := by decide +kernel
theorem dX9_plant_18 : decode cX9_plant 18 = .ok (.if_icmp .ne 23, 3) := by decide +kernel
theorem dX9_plant_21 : decode cX9_plant 21 = .ok (.aload_n 0, 1) := by decide +kernel
theorem dX9_plant_22 : decode cX9_plant 22 = .ok (.getfield 7, 3) := by decide +kernel
theorem dX9_plant_25 : decode cX9_plant 25 = .ok (.iconst 1, 1) := by decide +kernel
theorem dX9_plant_26 : decode cX9_plant 26 = .ok (.iaload, 1) := by decide +kernel
theorem dX9_plant_27 : decode cX9_plant 27 = .ok (.iconst 2, 1) := by decide +kernel
theorem dX9_plant_28 : decode cX9_plant 28 = .ok (.if_icmp .lt 13, 3) := by decide +kernel
theorem dX9_plant_31 : decode cX9_plant 31 = .ok (.aload_n 0, 1) := by decide +kernel
theorem dX9_plant_32 : decode cX9_plant 32 = .ok (.getfield 7, 3) := by decide +kernel
theorem dX9_plant_35 : decode cX9_plant 35 = .ok (.iconst 3, 1) := by decide +kernel
theorem dX9_plant_36 : decode cX9_plant 36 = .ok (.iaload, 1) := by decide +kernel
theorem dX9_plant_37 : decode cX9_plant 37 = .ok (.iconst 3, 1) := by decide +kernel
theorem dX9_plant_38 : decode cX9_plant 38 = .ok (.if_icmp .ge 6, 3) := by decide +kernel
theorem dX9_plant_41 : decode cX9_plant 41 = .ok (.bipush (-2), 2) := by decide +kernel
theorem dX9_plant_43 : decode cX9_plant 43 = .ok (.ireturn, 1) := by decide +kernel
theorem dX9_plant_44 : decode cX9_plant 44 = .ok (.aload_n 0, 1) := by decide +kernel
theorem dX9_plant_45 : decode cX9_plant 45 = .ok (.invokevirtual 61, 3) := by decide +kernel
theorem dX9_plant_48 : decode cX9_plant 48 = .ok (.aload_n 0, 1) := by decide +kernel
theorem dX9_plant_49 : decode cX9_plant 49 = .ok (.getfield 7, 3) := by decide +kernel
theorem dX9_plant_52 : decode cX9_plant 52 = .ok (.iconst 1, 1) := by decide +kernel
theorem dX9_plant_53 : decode cX9_plant 53 = .ok (.dup2, 1) := by decide +kernel
theorem dX9_plant_54 : decode cX9_plant 54 = .ok (.iaload, 1) := by decide +kernel
theorem dX9_plant_55 : decode cX9_plant 55 = .ok (.iconst 2, 1) := by decide +kernel
theorem dX9_plant_56 : decode cX9_plant 56 = .ok (.isub, 1) := by decide +kernel
theorem dX9_plant_57 : decode cX9_plant 57 = .ok (.iastore, 1) := by decide +kernel
theorem dX9_plant_58 : decode cX9_plant 58 = .ok (.aload_n 0, 1) := by decide +kernel
theorem dX9_plant_59 : decode cX9_plant 59 = .ok (.getfield 7, 3) := by decide +kernel
theorem dX9_plant_62 : decode cX9_plant 62 = .ok (.iconst 3, 1) := by decide +kernel
theorem dX9_plant_63 : decode cX9_plant 63 = .ok (.dup2, 1) := by decide +kernel
theorem dX9_plant_64 : decode cX9_plant 64 = .ok (.iaload, 1) := by decide +kernel
theorem dX9_plant_65 : decode cX9_plant 65 = .ok (.iconst 3, 1) := by decide +kernel
theorem dX9_plant_66 : decode cX9_plant 66 = .ok (.isub, 1) := by decide +kernel
theorem dX9_plant_67 : decode cX9_plant 67 = .ok (.iastore, 1) := by decide +kernel
theorem dX9_plant_68 : decode cX9_plant 68 = .ok (.aload_n 0, 1) := by decide +kernel
theorem dX9_plant_69 : decode cX9_plant 69 = .ok (.iload_n 1, 1) := by decide +kernel
theorem dX9_plant_70 : decode cX9_plant 70 = .ok (.iload_n 2, 1) := by decide +kernel
theorem dX9_plant_71 : decode cX9_plant 71 = .ok (.iconst 3, 1) := by decide +kernel
theorem dX9_plant_72 : decode cX9_plant 72 = .ok (.iconst 0, 1) := by decide +kernel
theorem dX9_plant_73 : decode cX9_plant 73 = .ok (.invokevirtual 25, 3) := by decide +kernel
theorem dX9_plant_76 : decode cX9_plant 76 = .ok (.aload_n 0, 1) := by decide +kernel
theorem dX9_plant_77 : decode cX9_plant 77 = .ok (.getfield 7, 3) := by decide +kernel
theorem dX9_plant_80 : decode cX9_plant 80 = .ok (.bipush 8, 2) := by decide +kernel
theorem dX9_plant_82 : decode cX9_plant 82 = .ok (.dup2, 1) := by decide +kernel
theorem dX9_plant_83 : decode cX9_plant 83 = .ok (.iaload, 1) := by decide +kernel
theorem dX9_plant_84 : decode cX9_plant 84 = .ok (.iconst 1, 1) := by decide +kernel
theorem dX9_plant_85 : decode cX9_plant 85 = .ok (.iadd, 1) := by decide +kernel
theorem dX9_plant_86 : decode cX9_plant 86 = .ok (.iastore, 1) := by decide +kernel
theorem dX9_plant_87 : decode cX9_plant 87 = .ok (.aload_n 0, 1) := by decide +kernel
theorem dX9_plant_88 : decode cX9_plant 88 = .ok (.aload_n 0, 1) := by decide +kernel
theorem dX9_plant_89 : decode cX9_plant 89 = .ok (.getfield 7, 3) := by decide +kernel
theorem dX9_plant_92 : decode cX9_plant 92 = .ok (.iconst 1, 1) := by decide +kernel
theorem dX9_plant_93 : decode cX9_plant 93 = .ok (.iaload, 1) := by decide +kernel
theorem dX9_plant_94 : decode cX9_plant 94 = .ok (.invokevirtual 71, 3) := by decide +kernel
theorem dX9_plant_97 : decode cX9_plant 97 = .ok (.ireturn, 1) := by decide +kernel
theorem dX9_grub_0 : decode cX9_grub 0 = .ok (.aload_n 0, 1) := by decide +kernel
theorem dX9_grub_1 : decode cX9_grub 1 = .ok (.iload_n 1, 1) := by decide +kernel
theorem dX9_grub_2 : decode cX9_grub 2 = .ok (.iload_n 2, 1) := by decide +kernel
theorem dX9_grub_3 : decode cX9_grub 3 = .ok (.invokevirtual 51, 3) := by decide +kernel
theorem dX9_grub_6 : decode cX9_grub 6 = .ok (.ifCond .ne 5, 3) := by decide +kernel
theorem dX9_grub_9 : decode cX9_grub 9 = .ok (.iconst (-1), 1) := by decide +kernel
theorem dX9_grub_10 : decode cX9_grub 10 = .ok (.ireturn, 1) := by decide +kernel
theorem dX9_grub_11 : decode cX9_grub 11 = .ok (.aload_n 0, 1) := by decide +kernel
theorem dX9_grub_12 : decode cX9_grub 12 = .ok (.iload_n 1, 1) := by decide +kernel
theorem dX9_grub_13 : decode cX9_grub 13 = .ok (.iload_n 2, 1) := by decide +kernel
theorem dX9_grub_14 : decode cX9_grub 14 = .ok (.invokevirtual 37, 3) := by decide +kernel
theorem dX9_grub_17 : decode cX9_grub 17 = .ok (.istore_n 3, 1) := by decide +kernel
theorem dX9_grub_18 : decode cX9_grub 18 = .ok (.iload_n 3, 1) := by decide +kernel
theorem dX9_grub_19 : decode cX9_grub 19 = .ok (.iconst 2, 1) := by decide +kernel
theorem dX9_grub_20 : decode cX9_grub 20 = .ok (.if_icmp .ne 6, 3) := by decide +kernel
theorem dX9_grub_23 : decode cX9_grub 23 = .ok (.bipush (-2), 2) := by decide +kernel
theorem dX9_grub_25 : decode cX9_grub 25 = .ok (.ireturn, 1) := by decide +kernel
theorem dX9_grub_26 : decode cX9_grub 26 = .ok (.aload_n 0, 1) := by decide +kernel
theorem dX9_grub_27 : decode cX9_grub 27 = .ok (.invokevirtual 61, 3) := by decide +kernel
theorem dX9_grub_30 : decode cX9_grub 30 = .ok (.aload_n 0, 1) := by decide +kernel
theorem dX9_grub_31 : decode cX9_grub 31 = .ok (.iload_n 1, 1) := by decide +kernel
theorem dX9_grub_32 : decode cX9_grub 32 = .ok (.iload_n 2, 1) := by decide +kernel
theorem dX9_grub_33 : decode cX9_grub 33 = .ok (.iconst 2, 1) := by decide +kernel
theorem dX9_grub_34 : decode cX9_grub 34 = .ok (.iconst 0, 1) := by decide +kernel
theorem dX9_grub_35 : decode cX9_grub 35 = .ok (.invokevirtual 25, 3) := by decide +kernel
theorem dX9_grub_38 : decode cX9_grub 38 = .ok (.aload_n 0, 1) := by decide +kernel
theorem dX9_grub_39 : decode cX9_grub 39 = .ok (.iload_n 1, 1) := by decide +kernel
theorem dX9_grub_40 : decode cX9_grub 40 = .ok (.invokevirtual 67, 3) := by decide +kernel
theorem dX9_grub_43 : decode cX9_grub 43 = .ok (.aload_n 0, 1) := by decide +kernel
theorem dX9_grub_44 : decode cX9_grub 44 = .ok (.iload_n 3, 1) := by decide +kernel
theorem dX9_grub_45 : decode cX9_grub 45 = .ok (.invokevirtual 71, 3) := by decide +kernel
theorem dX9_grub_48 : decode cX9_grub 48 = .ok (.ireturn, 1) := by decide +kernel
theorem dX9_grows_0 : decode cX9_grows 0 = .ok (.aload_n 0, 1) := by decide +kernel
theorem dX9_grows_1 : decode cX9_grows 1 = .ok (.iload_n 1, 1) := by decide +kernel
theorem dX9_grows_2 : decode cX9_grows 2 = .ok (.iload_n 2, 1) := by decide +kernel
theorem dX9_grows_3 : decode cX9_grows 3 = .ok (.invokevirtual 37, 3) := by decide +kernel
theorem dX9_grows_6 : decode cX9_grows 6 = .ok (.istore_n 3, 1) := by decide +kernel
theorem dX9_grows_7 : decode cX9_grows 7 = .ok (.aload_n 0, 1) := by decide +kernel
theorem dX9_grows_8 : decode cX9_grows 8 = .ok (.iload_n 1, 1) := by decide +kernel
theorem dX9_grows_9 : decode cX9_grows 9 = .ok (.iload_n 2, 1) := by decide +kernel
theorem dX9_grows_10 : decode cX9_grows 10 = .ok (.invokevirtual 48, 3) := by decide +kernel
theorem dX9_grows_13 : decode cX9_grows 13 = .ok (.istore 4, 2) := by decide +kernel
theorem dX9_grows_15 : decode cX9_grows 15 = .ok (.iload_n 3, 1) := by decide +kernel
theorem dX9_grows_16 : decode cX9_grows 16 = .ok (.iconst 3, 1) := by decide +kernel
theorem dX9_grows_17 : decode cX9_grows 17 = .ok (.if_icmp .ne 24, 3) := by decide +kernel
theorem dX9_grows_20 : decode cX9_grows 20 = .ok (.aload_n 0, 1) := by decide +kernel
theorem dX9_grows_21 : decode cX9_grows 21 = .ok (.iload_n 1, 1) := by decide +kernel
theorem dX9_grows_22 : decode cX9_grows 22 = .ok (.iload_n 2, 1) := by decide +kernel
theorem dX9_grows_23 : decode cX9_grows 23 = .ok (.invokevirtual 75, 3) := by decide +kernel
theorem dX9_grows_26 : decode cX9_grows 26 = .ok (.iconst 5, 1) := by decide +kernel
theorem dX9_grows_27 : decode cX9_grows 27 = .ok (.if_icmp .ne 14, 3) := by decide +kernel
theorem dX9_grows_30 : decode cX9_grows 30 = .ok (.aload_n 0, 1) := by decide +kernel
theorem dX9_grows_31 : decode cX9_grows 31 = .ok (.iload_n 1, 1) := by decide +kernel
theorem dX9_grows_32 : decode cX9_grows 32 = .ok (.iload_n 2, 1) := by decide +kernel
theorem dX9_grows_33 : decode cX9_grows 33 = .ok (.iconst 0, 1) := by decide +kernel
theorem dX9_grows_34 : decode cX9_grows 34 = .ok (.iconst 1, 1) := by decide +kernel
theorem dX9_grows_35 : decode cX9_grows 35 = .ok (.invokevirtual 25, 3) := by decide +kernel
theorem dX9_grows_38 : decode cX9_grows 38 = .ok (.goto 122, 3) := by decide +kernel
theorem dX9_grows_41 : decode cX9_grows 41 = .ok (.iload_n 3, 1) := by decide +kernel
theorem dX9_grows_42 : decode cX9_grows 42 = .ok (.iconst 3, 1) := by decide +kernel
theorem dX9_grows_43 : decode cX9_grows 43 = .ok (.if_icmp .ne 25, 3) := by decide +kernel
theorem dX9_grows_46 : decode cX9_grows 46 = .ok (.aload_n 0, 1) := by decide +kernel
theorem dX9_grows_47 : decode cX9_grows 47 = .ok (.getfield 7, 3) := by decide +kernel
theorem dX9_grows_50 : decode cX9_grows 50 = .ok (.bipush 42, 2) := by decide +kernel
theorem dX9_grows_52 : decode cX9_grows 52 = .ok (.bipush 30, 2) := by decide +kernel
theorem dX9_grows_54 : decode cX9_grows 54 = .ok (.iload_n 1, 1) := by decide +kernel
theorem dX9_grows_55 : decode cX9_grows 55 = .ok (.imul, 1) := by decide +kernel
theorem dX9_grows_56 : decode cX9_grows 56 = .ok (.iadd, 1) := by decide +kernel
theorem dX9_grows_57 : decode cX9_grows 57 = .ok (.iload_n 2, 1) := by decide +kernel
theorem dX9_grows_58 : decode cX9_grows 58 = .ok (.iadd, 1) := by decide +kernel
theorem dX9_grows_59 : decode cX9_grows 59 = .ok (.dup2, 1) := by decide +kernel
theorem dX9_grows_60 : decode cX9_grows 60 = .ok (.iaload, 1) := by decide +kernel
theorem dX9_grows_61 : decode cX9_grows 61 = .ok (.bipush 64, 2) := by decide +kernel
theorem dX9_grows_63 : decode cX9_grows 63 = .ok (.iadd, 1) := by decide +kernel
theorem dX9_grows_64 : decode cX9_grows 64 = .ok (.iastore, 1) := by decide +kernel
theorem dX9_grows_65 : decode cX9_grows 65 = .ok (.goto 95, 3) := by decide +kernel
theorem dX9_grows_68 : decode cX9_grows 68 = .ok (.iload_n 3, 1) := by decide +kernel
theorem dX9_grows_69 : decode cX9_grows 69 = .ok (.ifCond .ne 40, 3) := by decide +kernel
theorem dX9_grows_72 : decode cX9_grows 72 = .ok (.aload_n 0, 1) := by decide +kernel
theorem dX9_grows_73 : decode cX9_grows 73 = .ok (.getfield 7, 3) := by decide +kernel
theorem dX9_grows_76 : decode cX9_grows 76 = .ok (.iconst 0, 1) := by decide +kernel
theorem dX9_grows_77 : decode cX9_grows 77 = .ok (.iaload, 1) := by decide +kernel
theorem dX9_grows_78 : decode cX9_grows 78 = .ok (.iconst 4, 1) := by decide +kernel
theorem dX9_grows_79 : decode cX9_grows 79 = .ok (.irem, 1) := by decide +kernel
theorem dX9_grows_80 : decode cX9_grows 80 = .ok (.ifCond .ne 29, 3) := by decide +kernel
theorem dX9_grows_83 : decode cX9_grows 83 = .ok (.aload_n 0, 1) := by decide +kernel
theorem dX9_grows_84 : decode cX9_grows 84 = .ok (.iload_n 1, 1) := by decide +kernel
theorem dX9_grows_85 : decode cX9_grows 85 = .ok (.iload_n 2, 1) := by decide +kernel
theorem dX9_grows_86 : decode cX9_grows 86 = .ok (.iconst 0, 1) := by decide +kernel
theorem dX9_grows_87 : decode cX9_grows 87 = .ok (.iload 4, 2) := by decide +kernel
theorem dX9_grows_89 : decode cX9_grows 89 = .ok (.bipush 9, 2) := by decide +kernel
theorem dX9_grows_91 : decode cX9_grows 91 = .ok (.if_icmp .ge 10, 3) := by decide +kernel
theorem dX9_grows_94 : decode cX9_grows 94 = .ok (.iload 4, 2) := by decide +kernel
theorem dX9_grows_96 : decode cX9_grows 96 = .ok (.iconst 1, 1) := by decide +kernel
theorem dX9_grows_97 : decode cX9_grows 97 = .ok (.iadd, 1) := by decide +kernel
theorem dX9_grows_98 : decode cX9_grows 98 = .ok (.goto 5, 3) := by decide +kernel
theorem dX9_grows_101 : decode cX9_grows 101 = .ok (.bipush 9, 2) := by decide +kernel
theorem dX9_grows_103 : decode cX9_grows 103 = .ok (.invokevirtual 25, 3) := by decide +kernel
theorem dX9_grows_106 : decode cX9_grows 106 = .ok (.goto 54, 3) := by decide +kernel
theorem dX9_grows_109 : decode cX9_grows 109 = .ok (.iload_n 3, 1) := by decide +kernel
theorem dX9_grows_110 : decode cX9_grows 110 = .ok (.iconst 1, 1) := by decide +kernel
theorem dX9_grows_111 : decode cX9_grows 111 = .ok (.if_icmp .ne 49, 3) := by decide +kernel
theorem dX9_grows_114 : decode cX9_grows 114 = .ok (.aload_n 0, 1) := by decide +kernel
theorem dX9_grows_115 : decode cX9_grows 115 = .ok (.getfield 7, 3) := by decide +kernel
theorem dX9_grows_118 : decode cX9_grows 118 = .ok (.iconst 0, 1) := by decide +kernel
theorem dX9_grows_119 : decode cX9_grows 119 = .ok (.iaload, 1) := by decide +kernel
theorem dX9_grows_120 : decode cX9_grows 120 = .ok (.bipush 52, 2) := by decide +kernel
theorem dX9_grows_122 : decode cX9_grows 122 = .ok (.irem, 1) := by decide +kernel
theorem dX9_grows_123 : decode cX9_grows 123 = .ok (.ifCond .ne 37, 3) := by decide +kernel
theorem dX9_grows_126 : decode cX9_grows 126 = .ok (.aload_n 0, 1) := by decide +kernel
theorem dX9_grows_127 : decode cX9_grows 127 = .ok (.iload_n 1, 1) := by decide +kernel
theorem dX9_grows_128 : decode cX9_grows 128 = .ok (.iload_n 2, 1) := by decide +kernel
theorem dX9_grows_129 : decode cX9_grows 129 = .ok (.iload 4, 2) := by decide +kernel
theorem dX9_grows_131 : decode cX9_grows 131 = .ok (.bipush 7, 2) := by decide +kernel
theorem dX9_grows_133 : decode cX9_grows 133 = .ok (.if_icmp .le 7, 3) := by decide +kernel
theorem dX9_grows_136 : decode cX9_grows 136 = .ok (.iconst 0, 1) := by decide +kernel
theorem dX9_grows_137 : decode cX9_grows 137 = .ok (.goto 4, 3) := by decide +kernel
theorem dX9_grows_140 : decode cX9_grows 140 = .ok (.iconst 1, 1) := by decide +kernel
theorem dX9_grows_141 : decode cX9_grows 141 = .ok (.iload 4, 2) := by decide +kernel
theorem dX9_grows_143 : decode cX9_grows 143 = .ok (.bipush 7, 2) := by decide +kernel
theorem dX9_grows_145 : decode cX9_grows 145 = .ok (.if_icmp .le 8, 3) := by decide +kernel
theorem dX9_grows_148 : decode cX9_grows 148 = .ok (.bipush 9, 2) := by decide +kernel
theorem dX9_grows_150 : decode cX9_grows 150 = .ok (.goto 7, 3) := by decide +kernel
theorem dX9_grows_153 : decode cX9_grows 153 = .ok (.iload 4, 2) := by decide +kernel
theorem dX9_grows_155 : decode cX9_grows 155 = .ok (.iconst 2, 1) := by decide +kernel
theorem dX9_grows_156 : decode cX9_grows 156 = .ok (.iadd, 1) := by decide +kernel
theorem dX9_grows_157 : decode cX9_grows 157 = .ok (.invokevirtual 25, 3) := by decide +kernel
theorem dX9_grows_160 : decode cX9_grows 160 = .ok (.return_, 1) := by decide +kernel
theorem dX9_pays_0 : decode cX9_pays 0 = .ok (.aload_n 0, 1) := by decide +kernel
theorem dX9_pays_1 : decode cX9_pays 1 = .ok (.getfield 7, 3) := by decide +kernel
theorem dX9_pays_4 : decode cX9_pays 4 = .ok (.iconst 3, 1) := by decide +kernel
theorem dX9_pays_5 : decode cX9_pays 5 = .ok (.iaload, 1) := by decide +kernel
theorem dX9_pays_6 : decode cX9_pays 6 = .ok (.iload_n 1, 1) := by decide +kernel
theorem dX9_pays_7 : decode cX9_pays 7 = .ok (.if_icmp .ge 12, 3) := by decide +kernel
theorem dX9_pays_10 : decode cX9_pays 10 = .ok (.aload_n 0, 1) := by decide +kernel
theorem dX9_pays_11 : decode cX9_pays 11 = .ok (.getfield 7, 3) := by decide +kernel
theorem dX9_pays_14 : decode cX9_pays 14 = .ok (.iconst 3, 1) := by decide +kernel
theorem dX9_pays_15 : decode cX9_pays 15 = .ok (.iaload, 1) := by decide +kernel
theorem dX9_pays_16 : decode cX9_pays 16 = .ok (.goto 4, 3) := by decide +kernel
theorem dX9_pays_19 : decode cX9_pays 19 = .ok (.iload_n 1, 1) := by decide +kernel
theorem dX9_pays_20 : decode cX9_pays 20 = .ok (.istore_n 2, 1) := by decide +kernel
theorem dX9_pays_21 : decode cX9_pays 21 = .ok (.aload_n 0, 1) := by decide +kernel
theorem dX9_pays_22 : decode cX9_pays 22 = .ok (.getfield 7, 3) := by decide +kernel
theorem dX9_pays_25 : decode cX9_pays 25 = .ok (.iconst 3, 1) := by decide +kernel
theorem dX9_pays_26 : decode cX9_pays 26 = .ok (.dup2, 1) := by decide +kernel
theorem dX9_pays_27 : decode cX9_pays 27 = .ok (.iaload, 1) := by decide +kernel
theorem dX9_pays_28 : decode cX9_pays 28 = .ok (.iload_n 2, 1) := by decide +kernel
theorem dX9_pays_29 : decode cX9_pays 29 = .ok (.isub, 1) := by decide +kernel
theorem dX9_pays_30 : decode cX9_pays 30 = .ok (.iastore, 1) := by decide +kernel
theorem dX9_pays_31 : decode cX9_pays 31 = .ok (.aload_n 0, 1) := by decide +kernel
theorem dX9_pays_32 : decode cX9_pays 32 = .ok (.getfield 7, 3) := by decide +kernel
theorem dX9_pays_35 : decode cX9_pays 35 = .ok (.iconst 4, 1) := by decide +kernel
theorem dX9_pays_36 : decode cX9_pays 36 = .ok (.dup2, 1) := by decide +kernel
theorem dX9_pays_37 : decode cX9_pays 37 = .ok (.iaload, 1) := by decide +kernel
theorem dX9_pays_38 : decode cX9_pays 38 = .ok (.iload_n 1, 1) := by decide +kernel
theorem dX9_pays_39 : decode cX9_pays 39 = .ok (.iload_n 2, 1) := by decide +kernel
theorem dX9_pays_40 : decode cX9_pays 40 = .ok (.isub, 1) := by decide +kernel
theorem dX9_pays_41 : decode cX9_pays 41 = .ok (.iadd, 1) := by decide +kernel
theorem dX9_pays_42 : decode cX9_pays 42 = .ok (.iastore, 1) := by decide +kernel
theorem dX9_pays_43 : decode cX9_pays 43 = .ok (.return_, 1) := by decide +kernel
theorem dX9_passesOne_0 : decode cX9_passesOne 0 = .ok (.aload_n 0, 1) := by decide +kernel
theorem dX9_passesOne_1 : decode cX9_passesOne 1 = .ok (.getfield 7, 3) := by decide +kernel
theorem dX9_passesOne_4 : decode cX9_passesOne 4 = .ok (.iconst 0, 1) := by decide +kernel
theorem dX9_passesOne_5 : decode cX9_passesOne 5 = .ok (.dup2, 1) := by decide +kernel
theorem dX9_passesOne_6 : decode cX9_passesOne 6 = .ok (.iaload, 1) := by decide +kernel
theorem dX9_passesOne_7 : decode cX9_passesOne 7 = .ok (.iconst 1, 1) := by decide +kernel
theorem dX9_passesOne_8 : decode cX9_passesOne 8 = .ok (.iadd, 1) := by decide +kernel
theorem dX9_passesOne_9 : decode cX9_passesOne 9 = .ok (.iastore, 1) := by decide +kernel
theorem dX9_passesOne_10 : decode cX9_passesOne 10 = .ok (.aload_n 0, 1) := by decide +kernel
theorem dX9_passesOne_11 : decode cX9_passesOne 11 = .ok (.getfield 7, 3) := by decide +kernel
theorem dX9_passesOne_14 : decode cX9_passesOne 14 = .ok (.iconst 1, 1) := by decide +kernel
theorem dX9_passesOne_15 : decode cX9_passesOne 15 = .ok (.aload_n 0, 1) := by decide +kernel
theorem dX9_passesOne_16 : decode cX9_passesOne 16 = .ok (.getfield 7, 3) := by decide +kernel
theorem dX9_passesOne_19 : decode cX9_passesOne 19 = .ok (.bipush 11, 2) := by decide +kernel
theorem dX9_passesOne_21 : decode cX9_passesOne 21 = .ok (.iaload, 1) := by decide +kernel
theorem dX9_passesOne_22 : decode cX9_passesOne 22 = .ok (.iastore, 1) := by decide +kernel
theorem dX9_passesOne_23 : decode cX9_passesOne 23 = .ok (.iconst 0, 1) := by decide +kernel
theorem dX9_passesOne_24 : decode cX9_passesOne 24 = .ok (.istore_n 1, 1) := by decide +kernel
theorem dX9_passesOne_25 : decode cX9_passesOne 25 = .ok (.iconst 0, 1) := by decide +kernel
theorem dX9_passesOne_26 : decode cX9_passesOne 26 = .ok (.istore_n 2, 1) := by decide +kernel
theorem dX9_passesOne_27 : decode cX9_passesOne 27 = .ok (.iload_n 2, 1) := by decide +kernel
theorem dX9_passesOne_28 : decode cX9_passesOne 28 = .ok (.bipush 6, 2) := by decide +kernel
theorem dX9_passesOne_30 : decode cX9_passesOne 30 = .ok (.if_icmp .ge 36, 3) := by decide +kernel
theorem dX9_passesOne_33 : decode cX9_passesOne 33 = .ok (.iconst 0, 1) := by decide +kernel
theorem dX9_passesOne_34 : decode cX9_passesOne 34 = .ok (.istore_n 3, 1) := by decide +kernel
theorem dX9_passesOne_35 : decode cX9_passesOne 35 = .ok (.iload_n 3, 1) := by decide +kernel
theorem dX9_passesOne_36 : decode cX9_passesOne 36 = .ok (.aload_n 0, 1) := by decide +kernel
theorem dX9_passesOne_37 : decode cX9_passesOne 37 = .ok (.getfield 7, 3) := by decide +kernel
theorem dX9_passesOne_40 : decode cX9_passesOne 40 = .ok (.bipush 12, 2) := by decide +kernel
theorem dX9_passesOne_42 : decode cX9_passesOne 42 = .ok (.iload_n 2, 1) := by decide +kernel
theorem dX9_passesOne_43 : decode cX9_passesOne 43 = .ok (.iadd, 1) := by decide +kernel
theorem dX9_passesOne_44 : decode cX9_passesOne 44 = .ok (.iaload, 1) := by decide +kernel
theorem dX9_passesOne_45 : decode cX9_passesOne 45 = .ok (.if_icmp .ge 15, 3) := by decide +kernel
theorem dX9_passesOne_48 : decode cX9_passesOne 48 = .ok (.aload_n 0, 1) := by decide +kernel
theorem dX9_passesOne_49 : decode cX9_passesOne 49 = .ok (.iload_n 2, 1) := by decide +kernel
theorem dX9_passesOne_50 : decode cX9_passesOne 50 = .ok (.iload_n 3, 1) := by decide +kernel
theorem dX9_passesOne_51 : decode cX9_passesOne 51 = .ok (.invokevirtual 78, 3) := by decide +kernel
theorem dX9_passesOne_54 : decode cX9_passesOne 54 = .ok (.iinc 3 1, 3) := by decide +kernel
theorem dX9_passesOne_57 : decode cX9_passesOne 57 = .ok (.goto (-22), 3) := by decide +kernel
theorem dX9_passesOne_60 : decode cX9_passesOne 60 = .ok (.iinc 2 1, 3) := by decide +kernel
theorem dX9_passesOne_63 : decode cX9_passesOne 63 = .ok (.goto (-36), 3) := by decide +kernel
theorem dX9_passesOne_66 : decode cX9_passesOne 66 = .ok (.iconst 0, 1) := by decide +kernel
theorem dX9_passesOne_67 : decode cX9_passesOne 67 = .ok (.istore_n 2, 1) := by decide +kernel
theorem dX9_passesOne_68 : decode cX9_passesOne 68 = .ok (.iload_n 2, 1) := by decide +kernel
theorem dX9_passesOne_69 : decode cX9_passesOne 69 = .ok (.bipush 6, 2) := by decide +kernel
theorem dX9_passesOne_71 : decode cX9_passesOne 71 = .ok (.if_icmp .ge 61, 3) := by decide +kernel
theorem dX9_passesOne_74 : decode cX9_passesOne 74 = .ok (.aload_n 0, 1) := by decide +kernel
theorem dX9_passesOne_75 : decode cX9_passesOne 75 = .ok (.iload_n 2, 1) := by decide +kernel
theorem dX9_passesOne_76 : decode cX9_passesOne 76 = .ok (.iconst 0, 1) := by decide +kernel
theorem dX9_passesOne_77 : decode cX9_passesOne 77 = .ok (.invokevirtual 64, 3) := by decide +kernel
theorem dX9_passesOne_80 : decode cX9_passesOne 80 = .ok (.iconst 1, 1) := by decide +kernel
theorem dX9_passesOne_81 : decode cX9_passesOne 81 = .ok (.if_icmp .ne 34, 3) := by decide +kernel
theorem dX9_passesOne_84 : decode cX9_passesOne 84 = .ok (.aload_n 0, 1) := by decide +kernel
theorem dX9_passesOne_85 : decode cX9_passesOne 85 = .ok (.iload_n 2, 1) := by decide +kernel
theorem dX9_passesOne_86 : decode cX9_passesOne 86 = .ok (.iconst 2, 1) := by decide +kernel
theorem dX9_passesOne_87 : decode cX9_passesOne 87 = .ok (.invokevirtual 64, 3) := by decide +kernel
theorem dX9_passesOne_90 : decode cX9_passesOne 90 = .ok (.aload_n 0, 1) := by decide +kernel
theorem dX9_passesOne_91 : decode cX9_passesOne 91 = .ok (.getfield 7, 3) := by decide +kernel
theorem dX9_passesOne_94 : decode cX9_passesOne 94 = .ok (.iconst 0, 1) := by decide +kernel
theorem dX9_passesOne_95 : decode cX9_passesOne 95 = .ok (.iaload, 1) := by decide +kernel
theorem dX9_passesOne_96 : decode cX9_passesOne 96 = .ok (.if_icmp .ge 19, 3) := by decide +kernel
theorem dX9_passesOne_99 : decode cX9_passesOne 99 = .ok (.aload_n 0, 1) := by decide +kernel
theorem dX9_passesOne_100 : decode cX9_passesOne 100 = .ok (.iload_n 2, 1) := by decide +kernel
theorem dX9_passesOne_101 : decode cX9_passesOne 101 = .ok (.iconst 3, 1) := by decide +kernel
theorem dX9_passesOne_102 : decode cX9_passesOne 102 = .ok (.invokevirtual 64, 3) := by decide +kernel
theorem dX9_passesOne_105 : decode cX9_passesOne 105 = .ok (.aload_n 0, 1) := by decide +kernel
theorem dX9_passesOne_106 : decode cX9_passesOne 106 = .ok (.iload_n 2, 1) := by decide +kernel
theorem dX9_passesOne_107 : decode cX9_passesOne 107 = .ok (.iconst 0, 1) := by decide +kernel
theorem dX9_passesOne_108 : decode cX9_passesOne 108 = .ok (.invokevirtual 45, 3) := by decide +kernel
theorem dX9_passesOne_111 : decode cX9_passesOne 111 = .ok (.imul, 1) := by decide +kernel
theorem dX9_passesOne_112 : decode cX9_passesOne 112 = .ok (.goto 4, 3) := by decide +kernel
theorem dX9_passesOne_115 : decode cX9_passesOne 115 = .ok (.iconst 0, 1) := by decide +kernel
theorem dX9_passesOne_116 : decode cX9_passesOne 116 = .ok (.istore_n 3, 1) := by decide +kernel
theorem dX9_passesOne_117 : decode cX9_passesOne 117 = .ok (.aload_n 0, 1) := by decide +kernel
theorem dX9_passesOne_118 : decode cX9_passesOne 118 = .ok (.iload_n 3, 1) := by decide +kernel
theorem dX9_passesOne_119 : decode cX9_passesOne 119 = .ok (.invokevirtual 82, 3) := by decide +kernel
theorem dX9_passesOne_122 : decode cX9_passesOne 122 = .ok (.iload_n 1, 1) := by decide +kernel
theorem dX9_passesOne_123 : decode cX9_passesOne 123 = .ok (.iload_n 3, 1) := by decide +kernel
theorem dX9_passesOne_124 : decode cX9_passesOne 124 = .ok (.iadd, 1) := by decide +kernel
theorem dX9_passesOne_125 : decode cX9_passesOne 125 = .ok (.istore_n 1, 1) := by decide +kernel
theorem dX9_passesOne_126 : decode cX9_passesOne 126 = .ok (.iinc 2 1, 3) := by decide +kernel
theorem dX9_passesOne_129 : decode cX9_passesOne 129 = .ok (.goto (-61), 3) := by decide +kernel
theorem dX9_passesOne_132 : decode cX9_passesOne 132 = .ok (.aload_n 0, 1) := by decide +kernel
theorem dX9_passesOne_133 : decode cX9_passesOne 133 = .ok (.getfield 7, 3) := by decide +kernel
theorem dX9_passesOne_136 : decode cX9_passesOne 136 = .ok (.bipush 6, 2) := by decide +kernel
theorem dX9_passesOne_138 : decode cX9_passesOne 138 = .ok (.dup2, 1) := by decide +kernel
theorem dX9_passesOne_139 : decode cX9_passesOne 139 = .ok (.iaload, 1) := by decide +kernel
theorem dX9_passesOne_140 : decode cX9_passesOne 140 = .ok (.iload_n 1, 1) := by decide +kernel
theorem dX9_passesOne_141 : decode cX9_passesOne 141 = .ok (.iadd, 1) := by decide +kernel
theorem dX9_passesOne_142 : decode cX9_passesOne 142 = .ok (.iastore, 1) := by decide +kernel
theorem dX9_passesOne_143 : decode cX9_passesOne 143 = .ok (.iload_n 1, 1) := by decide +kernel
theorem dX9_passesOne_144 : decode cX9_passesOne 144 = .ok (.ireturn, 1) := by decide +kernel
theorem dX9_pass_0 : decode cX9_pass 0 = .ok (.iload_n 1, 1) := by decide +kernel
theorem dX9_pass_1 : decode cX9_pass 1 = .ok (.iconst 1, 1) := by decide +kernel
theorem dX9_pass_2 : decode cX9_pass 2 = .ok (.bipush 60, 2) := by decide +kernel
theorem dX9_pass_4 : decode cX9_pass 4 = .ok (.invokestatic 29, 3) := by decide +kernel
theorem dX9_pass_7 : decode cX9_pass 7 = .ok (.ifCond .ne 5, 3) := by decide +kernel
theorem dX9_pass_10 : decode cX9_pass 10 = .ok (.iconst (-1), 1) := by decide +kernel
theorem dX9_pass_11 : decode cX9_pass 11 = .ok (.ireturn, 1) := by decide +kernel
theorem dX9_pass_12 : decode cX9_pass 12 = .ok (.aload_n 0, 1) := by decide +kernel
theorem dX9_pass_13 : decode cX9_pass 13 = .ok (.getfield 7, 3) := by decide +kernel
theorem dX9_pass_16 : decode cX9_pass 16 = .ok (.iconst 0, 1) := by decide +kernel
theorem dX9_pass_17 : decode cX9_pass 17 = .ok (.iaload, 1) := by decide +kernel
theorem dX9_pass_18 : decode cX9_pass 18 = .ok (.iload_n 1, 1) := by decide +kernel
theorem dX9_pass_19 : decode cX9_pass 19 = .ok (.iadd, 1) := by decide +kernel
theorem dX9_pass_20 : decode cX9_pass 20 = .ok (.sipush 1000, 3) := by decide +kernel
theorem dX9_pass_23 : decode cX9_pass 23 = .ok (.if_icmp .le 6, 3) := by decide +kernel
theorem dX9_pass_26 : decode cX9_pass 26 = .ok (.bipush (-3), 2) := by decide +kernel
theorem dX9_pass_28 : decode cX9_pass 28 = .ok (.ireturn, 1) := by decide +kernel
theorem dX9_pass_29 : decode cX9_pass 29 = .ok (.aload_n 0, 1) := by decide +kernel
theorem dX9_pass_30 : decode cX9_pass 30 = .ok (.invokevirtual 61, 3) := by decide +kernel
theorem dX9_pass_33 : decode cX9_pass 33 = .ok (.iconst 0, 1) := by decide +kernel
theorem dX9_pass_34 : decode cX9_pass 34 = .ok (.istore_n 2, 1) := by decide +kernel
theorem dX9_pass_35 : decode cX9_pass 35 = .ok (.iconst 0, 1) := by decide +kernel
theorem dX9_pass_36 : decode cX9_pass 36 = .ok (.istore_n 3, 1) := by decide +kernel
theorem dX9_pass_37 : decode cX9_pass 37 = .ok (.iload_n 3, 1) := by decide +kernel
theorem dX9_pass_38 : decode cX9_pass 38 = .ok (.iload_n 1, 1) := by decide +kernel
theorem dX9_pass_39 : decode cX9_pass 39 = .ok (.if_icmp .ge 16, 3) := by decide +kernel
theorem dX9_pass_42 : decode cX9_pass 42 = .ok (.iload_n 2, 1) := by decide +kernel
theorem dX9_pass_43 : decode cX9_pass 43 = .ok (.aload_n 0, 1) := by decide +kernel
theorem dX9_pass_44 : decode cX9_pass 44 = .ok (.invokevirtual 85, 3) := by decide +kernel
theorem dX9_pass_47 : decode cX9_pass 47 = .ok (.iadd, 1) := by decide +kernel
theorem dX9_pass_48 : decode cX9_pass 48 = .ok (.istore_n 2, 1) := by decide +kernel
theorem dX9_pass_49 : decode cX9_pass 49 = .ok (.iinc 3 1, 3) := by decide +kernel
theorem dX9_pass_52 : decode cX9_pass 52 = .ok (.goto (-15), 3) := by decide +kernel
theorem dX9_pass_55 : decode cX9_pass 55 = .ok (.aload_n 0, 1) := by decide +kernel
theorem dX9_pass_56 : decode cX9_pass 56 = .ok (.iload_n 2, 1) := by decide +kernel
theorem dX9_pass_57 : decode cX9_pass 57 = .ok (.invokevirtual 71, 3) := by decide +kernel
theorem dX9_pass_60 : decode cX9_pass 60 = .ok (.ireturn, 1) := by decide +kernel
theorem dX9_set_0 : decode cX9_set 0 = .ok (.iload_n 1, 1) := by decide +kernel
theorem dX9_set_1 : decode cX9_set 1 = .ok (.iconst 0, 1) := by decide +kernel
theorem dX9_set_2 : decode cX9_set 2 = .ok (.iconst 2, 1) := by decide +kernel
theorem dX9_set_3 : decode cX9_set 3 = .ok (.invokestatic 29, 3) := by decide +kernel
theorem dX9_set_6 : decode cX9_set 6 = .ok (.ifCond .eq 32, 3) := by decide +kernel
theorem dX9_set_9 : decode cX9_set 9 = .ok (.iload_n 2, 1) := by decide +kernel
theorem dX9_set_10 : decode cX9_set 10 = .ok (.iload_n 1, 1) := by decide +kernel
theorem dX9_set_11 : decode cX9_set 11 = .ok (.iconst 2, 1) := by decide +kernel
theorem dX9_set_12 : decode cX9_set 12 = .ok (.if_icmp .ne 7, 3) := by decide +kernel
theorem dX9_set_15 : decode cX9_set 15 = .ok (.iconst 1, 1) := by decide +kernel
theorem dX9_set_16 : decode cX9_set 16 = .ok (.goto 4, 3) := by decide +kernel
theorem dX9_set_19 : decode cX9_set 19 = .ok (.iconst 0, 1) := by decide +kernel
theorem dX9_set_20 : decode cX9_set 20 = .ok (.iload_n 1, 1) := by decide +kernel
theorem dX9_set_21 : decode cX9_set 21 = .ok (.iconst 2, 1) := by decide +kernel
theorem dX9_set_22 : decode cX9_set 22 = .ok (.if_icmp .ne 8, 3) := by decide +kernel
theorem dX9_set_25 : decode cX9_set 25 = .ok (.bipush 100, 2) := by decide +kernel
theorem dX9_set_27 : decode cX9_set 27 = .ok (.goto 5, 3) := by decide +kernel
theorem dX9_set_30 : decode cX9_set 30 = .ok (.bipush 51, 2) := by decide +kernel
theorem dX9_set_32 : decode cX9_set 32 = .ok (.invokestatic 29, 3) := by decide +kernel
theorem dX9_set_35 : decode cX9_set 35 = .ok (.ifCond .ne 5, 3) := by decide +kernel
theorem dX9_set_38 : decode cX9_set 38 = .ok (.iconst (-1), 1) := by decide +kernel
theorem dX9_set_39 : decode cX9_set 39 = .ok (.ireturn, 1) := by decide +kernel
theorem dX9_set_40 : decode cX9_set 40 = .ok (.aload_n 0, 1) := by decide +kernel
theorem dX9_set_41 : decode cX9_set 41 = .ok (.invokevirtual 61, 3) := by decide +kernel
theorem dX9_set_44 : decode cX9_set 44 = .ok (.aload_n 0, 1) := by decide +kernel
theorem dX9_set_45 : decode cX9_set 45 = .ok (.getfield 7, 3) := by decide +kernel
theorem dX9_set_48 : decode cX9_set 48 = .ok (.bipush 9, 2) := by decide +kernel
theorem dX9_set_50 : decode cX9_set 50 = .ok (.iload_n 1, 1) := by decide +kernel
theorem dX9_set_51 : decode cX9_set 51 = .ok (.iadd, 1) := by decide +kernel
theorem dX9_set_52 : decode cX9_set 52 = .ok (.iaload, 1) := by decide +kernel
theorem dX9_set_53 : decode cX9_set 53 = .ok (.istore_n 3, 1) := by decide +kernel
theorem dX9_set_54 : decode cX9_set 54 = .ok (.aload_n 0, 1) := by decide +kernel
theorem dX9_set_55 : decode cX9_set 55 = .ok (.getfield 7, 3) := by decide +kernel
theorem dX9_set_58 : decode cX9_set 58 = .ok (.bipush 9, 2) := by decide +kernel
theorem dX9_set_60 : decode cX9_set 60 = .ok (.iload_n 1, 1) := by decide +kernel
theorem dX9_set_61 : decode cX9_set 61 = .ok (.iadd, 1) := by decide +kernel
theorem dX9_set_62 : decode cX9_set 62 = .ok (.iload_n 2, 1) := by decide +kernel
theorem dX9_set_63 : decode cX9_set 63 = .ok (.iastore, 1) := by decide +kernel
theorem dX9_set_64 : decode cX9_set 64 = .ok (.iload_n 1, 1) := by decide +kernel
theorem dX9_set_65 : decode cX9_set 65 = .ok (.iconst 2, 1) := by decide +kernel
theorem dX9_set_66 : decode cX9_set 66 = .ok (.if_icmp .ne 32, 3) := by decide +kernel
theorem dX9_set_69 : decode cX9_set 69 = .ok (.aload_n 0, 1) := by decide +kernel
theorem dX9_set_70 : decode cX9_set 70 = .ok (.getfield 7, 3) := by decide +kernel
theorem dX9_set_73 : decode cX9_set 73 = .ok (.iconst 1, 1) := by decide +kernel
theorem dX9_set_74 : decode cX9_set 74 = .ok (.iaload, 1) := by decide +kernel
theorem dX9_set_75 : decode cX9_set 75 = .ok (.iload_n 2, 1) := by decide +kernel
theorem dX9_set_76 : decode cX9_set 76 = .ok (.iadd, 1) := by decide +kernel
theorem dX9_set_77 : decode cX9_set 77 = .ok (.iload_n 3, 1) := by decide +kernel
theorem dX9_set_78 : decode cX9_set 78 = .ok (.isub, 1) := by decide +kernel
theorem dX9_set_79 : decode cX9_set 79 = .ok (.istore 4, 2) := by decide +kernel
theorem dX9_set_81 : decode cX9_set 81 = .ok (.aload_n 0, 1) := by decide +kernel
theorem dX9_set_82 : decode cX9_set 82 = .ok (.getfield 7, 3) := by decide +kernel
theorem dX9_set_85 : decode cX9_set 85 = .ok (.iconst 1, 1) := by decide +kernel
theorem dX9_set_86 : decode cX9_set 86 = .ok (.iload 4, 2) := by decide +kernel
theorem dX9_set_88 : decode cX9_set 88 = .ok (.ifCond .ge 7, 3) := by decide +kernel
theorem dX9_set_91 : decode cX9_set 91 = .ok (.iconst 0, 1) := by decide +kernel
theorem dX9_set_92 : decode cX9_set 92 = .ok (.goto 5, 3) := by decide +kernel
theorem dX9_set_95 : decode cX9_set 95 = .ok (.iload 4, 2) := by decide +kernel
theorem dX9_set_97 : decode cX9_set 97 = .ok (.iastore, 1) := by decide +kernel
theorem dX9_set_98 : decode cX9_set 98 = .ok (.aload_n 0, 1) := by decide +kernel
theorem dX9_set_99 : decode cX9_set 99 = .ok (.iload_n 3, 1) := by decide +kernel
theorem dX9_set_100 : decode cX9_set 100 = .ok (.invokevirtual 71, 3) := by decide +kernel
theorem dX9_set_103 : decode cX9_set 103 = .ok (.ireturn, 1) := by decide +kernel
theorem dX9_contract_0 : decode cX9_contract 0 = .ok (.iload_n 1, 1) := by decide +kernel
theorem dX9_contract_1 : decode cX9_contract 1 = .ok (.invokestatic 33, 3) := by decide +kernel
theorem dX9_contract_4 : decode cX9_contract 4 = .ok (.ifCond .eq 34, 3) := by decide +kernel
theorem dX9_contract_7 : decode cX9_contract 7 = .ok (.iload_n 2, 1) := by decide +kernel
theorem dX9_contract_8 : decode cX9_contract 8 = .ok (.iconst 0, 1) := by decide +kernel
theorem dX9_contract_9 : decode cX9_contract 9 = .ok (.bipush 20, 2) := by decide +kernel
theorem dX9_contract_11 : decode cX9_contract 11 = .ok (.invokestatic 29, 3) := by decide +kernel
theorem dX9_contract_14 : decode cX9_contract 14 = .ok (.ifCond .eq 24, 3) := by decide +kernel
theorem dX9_contract_17 : decode cX9_contract 17 = .ok (.iload_n 3, 1) := by decide +kernel
theorem dX9_contract_18 : decode cX9_contract 18 = .ok (.iconst 0, 1) := by decide +kernel
theorem dX9_contract_19 : decode cX9_contract 19 = .ok (.bipush 100, 2) := by decide +kernel
theorem dX9_contract_21 : decode cX9_contract 21 = .ok (.invokestatic 29, 3) := by decide +kernel
theorem dX9_contract_24 : decode cX9_contract 24 = .ok (.ifCond .eq 14, 3) := by decide +kernel
theorem dX9_contract_27 : decode cX9_contract 27 = .ok (.iload 4, 2) := by decide +kernel
theorem dX9_contract_29 : decode cX9_contract 29 = .ok (.iconst 0, 1) := by decide +kernel
theorem dX9_contract_30 : decode cX9_contract 30 = .ok (.bipush 9, 2) := by decide +kernel
theorem dX9_contract_32 : decode cX9_contract 32 = .ok (.invokestatic 29, 3) := by decide +kernel
theorem dX9_contract_35 : decode cX9_contract 35 = .ok (.ifCond .ne 5, 3) := by decide +kernel
theorem dX9_contract_38 : decode cX9_contract 38 = .ok (.iconst (-1), 1) := by decide +kernel
theorem dX9_contract_39 : decode cX9_contract 39 = .ok (.ireturn, 1) := by decide +kernel
theorem dX9_contract_40 : decode cX9_contract 40 = .ok (.aload_n 0, 1) := by decide +kernel
theorem dX9_contract_41 : decode cX9_contract 41 = .ok (.iload_n 1, 1) := by decide +kernel
theorem dX9_contract_42 : decode cX9_contract 42 = .ok (.iconst 0, 1) := by decide +kernel
theorem dX9_contract_43 : decode cX9_contract 43 = .ok (.invokevirtual 64, 3) := by decide +kernel
theorem dX9_contract_46 : decode cX9_contract 46 = .ok (.iconst 1, 1) := by decide +kernel
theorem dX9_contract_47 : decode cX9_contract 47 = .ok (.if_icmp .eq 12, 3) := by decide +kernel
theorem dX9_contract_50 : decode cX9_contract 50 = .ok (.aload_n 0, 1) := by decide +kernel
theorem dX9_contract_51 : decode cX9_contract 51 = .ok (.iload_n 1, 1) := by decide +kernel
theorem dX9_contract_52 : decode cX9_contract 52 = .ok (.iconst 0, 1) := by decide +kernel
theorem dX9_contract_53 : decode cX9_contract 53 = .ok (.invokevirtual 45, 3) := by decide +kernel
theorem dX9_contract_56 : decode cX9_contract 56 = .ok (.ifCond .ne 6, 3) := by decide +kernel
theorem dX9_contract_59 : decode cX9_contract 59 = .ok (.bipush (-2), 2) := by decide +kernel
theorem dX9_contract_61 : decode cX9_contract 61 = .ok (.ireturn, 1) := by decide +kernel
theorem dX9_contract_62 : decode cX9_contract 62 = .ok (.aload_n 0, 1) := by decide +kernel
theorem dX9_contract_63 : decode cX9_contract 63 = .ok (.invokevirtual 61, 3) := by decide +kernel
theorem dX9_contract_66 : decode cX9_contract 66 = .ok (.bipush 18, 2) := by decide +kernel
theorem dX9_contract_68 : decode cX9_contract 68 = .ok (.iconst 4, 1) := by decide +kernel
theorem dX9_contract_69 : decode cX9_contract 69 = .ok (.iload_n 1, 1) := by decide +kernel
theorem dX9_contract_70 : decode cX9_contract 70 = .ok (.imul, 1) := by decide +kernel
theorem dX9_contract_71 : decode cX9_contract 71 = .ok (.iadd, 1) := by decide +kernel
theorem dX9_contract_72 : decode cX9_contract 72 = .ok (.istore 5, 2) := by decide +kernel
theorem dX9_contract_74 : decode cX9_contract 74 = .ok (.aload_n 0, 1) := by decide +kernel
theorem dX9_contract_75 : decode cX9_contract 75 = .ok (.getfield 7, 3) := by decide +kernel
theorem dX9_contract_78 : decode cX9_contract 78 = .ok (.iload 5, 2) := by decide +kernel
theorem dX9_contract_80 : decode cX9_contract 80 = .ok (.iconst 1, 1) := by decide +kernel
theorem dX9_contract_81 : decode cX9_contract 81 = .ok (.iastore, 1) := by decide +kernel
theorem dX9_contract_82 : decode cX9_contract 82 = .ok (.aload_n 0, 1) := by decide +kernel
theorem dX9_contract_83 : decode cX9_contract 83 = .ok (.getfield 7, 3) := by decide +kernel
theorem dX9_contract_86 : decode cX9_contract 86 = .ok (.iload 5, 2) := by decide +kernel
theorem dX9_contract_88 : decode cX9_contract 88 = .ok (.iconst 1, 1) := by decide +kernel
theorem dX9_contract_89 : decode cX9_contract 89 = .ok (.iadd, 1) := by decide +kernel
theorem dX9_contract_90 : decode cX9_contract 90 = .ok (.iload_n 2, 1) := by decide +kernel
theorem dX9_contract_91 : decode cX9_contract 91 = .ok (.iastore, 1) := by decide +kernel
theorem dX9_contract_92 : decode cX9_contract 92 = .ok (.aload_n 0, 1) := by decide +kernel
theorem dX9_contract_93 : decode cX9_contract 93 = .ok (.getfield 7, 3) := by decide +kernel
theorem dX9_contract_96 : decode cX9_contract 96 = .ok (.iload 5, 2) := by decide +kernel
theorem dX9_contract_98 : decode cX9_contract 98 = .ok (.iconst 2, 1) := by decide +kernel
theorem dX9_contract_99 : decode cX9_contract 99 = .ok (.iadd, 1) := by decide +kernel
theorem dX9_contract_100 : decode cX9_contract 100 = .ok (.aload_n 0, 1) := by decide +kernel
theorem dX9_contract_101 : decode cX9_contract 101 = .ok (.getfield 7, 3) := by decide +kernel
theorem dX9_contract_104 : decode cX9_contract 104 = .ok (.iconst 0, 1) := by decide +kernel
theorem dX9_contract_105 : decode cX9_contract 105 = .ok (.iaload, 1) := by decide +kernel
theorem dX9_contract_106 : decode cX9_contract 106 = .ok (.iload_n 3, 1) := by decide +kernel
theorem dX9_contract_107 : decode cX9_contract 107 = .ok (.iadd, 1) := by decide +kernel
theorem dX9_contract_108 : decode cX9_contract 108 = .ok (.iastore, 1) := by decide +kernel
theorem dX9_contract_109 : decode cX9_contract 109 = .ok (.aload_n 0, 1) := by decide +kernel
theorem dX9_contract_110 : decode cX9_contract 110 = .ok (.getfield 7, 3) := by decide +kernel
theorem dX9_contract_113 : decode cX9_contract 113 = .ok (.iload 5, 2) := by decide +kernel
theorem dX9_contract_115 : decode cX9_contract 115 = .ok (.iconst 3, 1) := by decide +kernel
theorem dX9_contract_116 : decode cX9_contract 116 = .ok (.iadd, 1) := by decide +kernel
theorem dX9_contract_117 : decode cX9_contract 117 = .ok (.iload 4, 2) := by decide +kernel
theorem dX9_contract_119 : decode cX9_contract 119 = .ok (.iastore, 1) := by decide +kernel
theorem dX9_contract_120 : decode cX9_contract 120 = .ok (.aload_n 0, 1) := by decide +kernel
theorem dX9_contract_121 : decode cX9_contract 121 = .ok (.aload_n 0, 1) := by decide +kernel
theorem dX9_contract_122 : decode cX9_contract 122 = .ok (.iload_n 1, 1) := by decide +kernel
theorem dX9_contract_123 : decode cX9_contract 123 = .ok (.iconst 0, 1) := by decide +kernel
theorem dX9_contract_124 : decode cX9_contract 124 = .ok (.invokevirtual 45, 3) := by decide +kernel
theorem dX9_contract_127 : decode cX9_contract 127 = .ok (.invokevirtual 71, 3) := by decide +kernel
theorem dX9_contract_130 : decode cX9_contract 130 = .ok (.ireturn, 1) := by decide +kernel
theorem dX9_giveBack_0 : decode cX9_giveBack 0 = .ok (.iload_n 1, 1) := by decide +kernel
theorem dX9_giveBack_1 : decode cX9_giveBack 1 = .ok (.invokestatic 33, 3) := by decide +kernel
theorem dX9_giveBack_4 : decode cX9_giveBack 4 = .ok (.ifCond .ne 5, 3) := by decide +kernel
theorem dX9_giveBack_7 : decode cX9_giveBack 7 = .ok (.iconst (-1), 1) := by decide +kernel
theorem dX9_giveBack_8 : decode cX9_giveBack 8 = .ok (.ireturn, 1) := by decide +kernel
theorem dX9_giveBack_9 : decode cX9_giveBack 9 = .ok (.aload_n 0, 1) := by decide +kernel
theorem dX9_giveBack_10 : decode cX9_giveBack 10 = .ok (.iload_n 1, 1) := by decide +kernel
theorem dX9_giveBack_11 : decode cX9_giveBack 11 = .ok (.iconst 0, 1) := by decide +kernel
theorem dX9_giveBack_12 : decode cX9_giveBack 12 = .ok (.invokevirtual 64, 3) := by decide +kernel
theorem dX9_giveBack_15 : decode cX9_giveBack 15 = .ok (.ifCond .ne 6, 3) := by decide +kernel
theorem dX9_giveBack_18 : decode cX9_giveBack 18 = .ok (.bipush (-2), 2) := by decide +kernel
theorem dX9_giveBack_20 : decode cX9_giveBack 20 = .ok (.ireturn, 1) := by decide +kernel
theorem dX9_giveBack_21 : decode cX9_giveBack 21 = .ok (.aload_n 0, 1) := by decide +kernel
theorem dX9_giveBack_22 : decode cX9_giveBack 22 = .ok (.invokevirtual 61, 3) := by decide +kernel
theorem dX9_giveBack_25 : decode cX9_giveBack 25 = .ok (.iconst 5, 1) := by decide +kernel
theorem dX9_giveBack_26 : decode cX9_giveBack 26 = .ok (.aload_n 0, 1) := by decide +kernel
theorem dX9_giveBack_27 : decode cX9_giveBack 27 = .ok (.iload_n 1, 1) := by decide +kernel
theorem dX9_giveBack_28 : decode cX9_giveBack 28 = .ok (.iconst 3, 1) := by decide +kernel
theorem dX9_giveBack_29 : decode cX9_giveBack 29 = .ok (.invokevirtual 64, 3) := by decide +kernel
theorem dX9_giveBack_32 : decode cX9_giveBack 32 = .ok (.imul, 1) := by decide +kernel
theorem dX9_giveBack_33 : decode cX9_giveBack 33 = .ok (.istore_n 2, 1) := by decide +kernel
theorem dX9_giveBack_34 : decode cX9_giveBack 34 = .ok (.aload_n 0, 1) := by decide +kernel
theorem dX9_giveBack_35 : decode cX9_giveBack 35 = .ok (.iload_n 2, 1) := by decide +kernel
theorem dX9_giveBack_36 : decode cX9_giveBack 36 = .ok (.invokevirtual 82, 3) := by decide +kernel
theorem dX9_giveBack_39 : decode cX9_giveBack 39 = .ok (.iconst 0, 1) := by decide +kernel
theorem dX9_giveBack_40 : decode cX9_giveBack 40 = .ok (.istore_n 3, 1) := by decide +kernel
theorem dX9_giveBack_41 : decode cX9_giveBack 41 = .ok (.iload_n 3, 1) := by decide +kernel
theorem dX9_giveBack_42 : decode cX9_giveBack 42 = .ok (.iconst 4, 1) := by decide +kernel
theorem dX9_giveBack_43 : decode cX9_giveBack 43 = .ok (.if_icmp .ge 23, 3) := by decide +kernel
theorem dX9_giveBack_46 : decode cX9_giveBack 46 = .ok (.aload_n 0, 1) := by decide +kernel
theorem dX9_giveBack_47 : decode cX9_giveBack 47 = .ok (.getfield 7, 3) := by decide +kernel
theorem dX9_giveBack_50 : decode cX9_giveBack 50 = .ok (.bipush 18, 2) := by decide +kernel
theorem dX9_giveBack_52 : decode cX9_giveBack 52 = .ok (.iconst 4, 1) := by decide +kernel
theorem dX9_giveBack_53 : decode cX9_giveBack 53 = .ok (.iload_n 1, 1) := by decide +kernel
theorem dX9_giveBack_54 : decode cX9_giveBack 54 = .ok (.imul, 1) := by decide +kernel
theorem dX9_giveBack_55 : decode cX9_giveBack 55 = .ok (.iadd, 1) := by decide +kernel
theorem dX9_giveBack_56 : decode cX9_giveBack 56 = .ok (.iload_n 3, 1) := by decide +kernel
theorem dX9_giveBack_57 : decode cX9_giveBack 57 = .ok (.iadd, 1) := by decide +kernel
theorem dX9_giveBack_58 : decode cX9_giveBack 58 = .ok (.iconst 0, 1) := by decide +kernel
theorem dX9_giveBack_59 : decode cX9_giveBack 59 = .ok (.iastore, 1) := by decide +kernel
theorem dX9_giveBack_60 : decode cX9_giveBack 60 = .ok (.iinc 3 1, 3) := by decide +kernel
theorem dX9_giveBack_63 : decode cX9_giveBack 63 = .ok (.goto (-22), 3) := by decide +kernel
theorem dX9_giveBack_66 : decode cX9_giveBack 66 = .ok (.aload_n 0, 1) := by decide +kernel
theorem dX9_giveBack_67 : decode cX9_giveBack 67 = .ok (.iload_n 2, 1) := by decide +kernel
theorem dX9_giveBack_68 : decode cX9_giveBack 68 = .ok (.invokevirtual 71, 3) := by decide +kernel
theorem dX9_giveBack_71 : decode cX9_giveBack 71 = .ok (.ireturn, 1) := by decide +kernel
theorem dX9_payDebt_0 : decode cX9_payDebt 0 = .ok (.aload_n 0, 1) := by decide +kernel
theorem dX9_payDebt_1 : decode cX9_payDebt 1 = .ok (.getfield 7, 3) := by decide +kernel
theorem dX9_payDebt_4 : decode cX9_payDebt 4 = .ok (.iconst 4, 1) := by decide +kernel
theorem dX9_payDebt_5 : decode cX9_payDebt 5 = .ok (.iaload, 1) := by decide +kernel
theorem dX9_payDebt_6 : decode cX9_payDebt 6 = .ok (.ifCond .eq 12, 3) := by decide +kernel
theorem dX9_payDebt_9 : decode cX9_payDebt 9 = .ok (.aload_n 0, 1) := by decide +kernel
theorem dX9_payDebt_10 : decode cX9_payDebt 10 = .ok (.getfield 7, 3) := by decide +kernel
theorem dX9_payDebt_13 : decode cX9_payDebt 13 = .ok (.iconst 3, 1) := by decide +kernel
theorem dX9_payDebt_14 : decode cX9_payDebt 14 = .ok (.iaload, 1) := by decide +kernel
theorem dX9_payDebt_15 : decode cX9_payDebt 15 = .ok (.ifCond .ne 6, 3) := by decide +kernel
theorem dX9_payDebt_18 : decode cX9_payDebt 18 = .ok (.bipush (-2), 2) := by decide +kernel
theorem dX9_payDebt_20 : decode cX9_payDebt 20 = .ok (.ireturn, 1) := by decide +kernel
theorem dX9_payDebt_21 : decode cX9_payDebt 21 = .ok (.aload_n 0, 1) := by decide +kernel
theorem dX9_payDebt_22 : decode cX9_payDebt 22 = .ok (.invokevirtual 61, 3) := by decide +kernel
theorem dX9_payDebt_25 : decode cX9_payDebt 25 = .ok (.aload_n 0, 1) := by decide +kernel
theorem dX9_payDebt_26 : decode cX9_payDebt 26 = .ok (.getfield 7, 3) := by decide +kernel
theorem dX9_payDebt_29 : decode cX9_payDebt 29 = .ok (.iconst 4, 1) := by decide +kernel
theorem dX9_payDebt_30 : decode cX9_payDebt 30 = .ok (.iaload, 1) := by decide +kernel
theorem dX9_payDebt_31 : decode cX9_payDebt 31 = .ok (.aload_n 0, 1) := by decide +kernel
theorem dX9_payDebt_32 : decode cX9_payDebt 32 = .ok (.getfield 7, 3) := by decide +kernel
theorem dX9_payDebt_35 : decode cX9_payDebt 35 = .ok (.iconst 3, 1) := by decide +kernel
theorem dX9_payDebt_36 : decode cX9_payDebt 36 = .ok (.iaload, 1) := by decide +kernel
theorem dX9_payDebt_37 : decode cX9_payDebt 37 = .ok (.if_icmp .ge 12, 3) := by decide +kernel
theorem dX9_payDebt_40 : decode cX9_payDebt 40 = .ok (.aload_n 0, 1) := by decide +kernel
theorem dX9_payDebt_41 : decode cX9_payDebt 41 = .ok (.getfield 7, 3) := by decide +kernel
theorem dX9_payDebt_44 : decode cX9_payDebt 44 = .ok (.iconst 4, 1) := by decide +kernel
theorem dX9_payDebt_45 : decode cX9_payDebt 45 = .ok (.iaload, 1) := by decide +kernel
theorem dX9_payDebt_46 : decode cX9_payDebt 46 = .ok (.goto 9, 3) := by decide +kernel
theorem dX9_payDebt_49 : decode cX9_payDebt 49 = .ok (.aload_n 0, 1) := by decide +kernel
theorem dX9_payDebt_50 : decode cX9_payDebt 50 = .ok (.getfield 7, 3) := by decide +kernel
theorem dX9_payDebt_53 : decode cX9_payDebt 53 = .ok (.iconst 3, 1) := by decide +kernel
theorem dX9_payDebt_54 : decode cX9_payDebt 54 = .ok (.iaload, 1) := by decide +kernel
theorem dX9_payDebt_55 : decode cX9_payDebt 55 = .ok (.istore_n 1, 1) := by decide +kernel
theorem dX9_payDebt_56 : decode cX9_payDebt 56 = .ok (.aload_n 0, 1) := by decide +kernel
theorem dX9_payDebt_57 : decode cX9_payDebt 57 = .ok (.getfield 7, 3) := by decide +kernel
theorem dX9_payDebt_60 : decode cX9_payDebt 60 = .ok (.iconst 4, 1) := by decide +kernel
theorem dX9_payDebt_61 : decode cX9_payDebt 61 = .ok (.dup2, 1) := by decide +kernel
theorem dX9_payDebt_62 : decode cX9_payDebt 62 = .ok (.iaload, 1) := by decide +kernel
theorem dX9_payDebt_63 : decode cX9_payDebt 63 = .ok (.iload_n 1, 1) := by decide +kernel
theorem dX9_payDebt_64 : decode cX9_payDebt 64 = .ok (.isub, 1) := by decide +kernel
theorem dX9_payDebt_65 : decode cX9_payDebt 65 = .ok (.iastore, 1) := by decide +kernel
theorem dX9_payDebt_66 : decode cX9_payDebt 66 = .ok (.aload_n 0, 1) := by decide +kernel
theorem dX9_payDebt_67 : decode cX9_payDebt 67 = .ok (.getfield 7, 3) := by decide +kernel
theorem dX9_payDebt_70 : decode cX9_payDebt 70 = .ok (.iconst 3, 1) := by decide +kernel
theorem dX9_payDebt_71 : decode cX9_payDebt 71 = .ok (.dup2, 1) := by decide +kernel
theorem dX9_payDebt_72 : decode cX9_payDebt 72 = .ok (.iaload, 1) := by decide +kernel
theorem dX9_payDebt_73 : decode cX9_payDebt 73 = .ok (.iload_n 1, 1) := by decide +kernel
theorem dX9_payDebt_74 : decode cX9_payDebt 74 = .ok (.isub, 1) := by decide +kernel
theorem dX9_payDebt_75 : decode cX9_payDebt 75 = .ok (.iastore, 1) := by decide +kernel
theorem dX9_payDebt_76 : decode cX9_payDebt 76 = .ok (.aload_n 0, 1) := by decide +kernel
theorem dX9_payDebt_77 : decode cX9_payDebt 77 = .ok (.iload_n 1, 1) := by decide +kernel
theorem dX9_payDebt_78 : decode cX9_payDebt 78 = .ok (.invokevirtual 71, 3) := by decide +kernel
theorem dX9_payDebt_81 : decode cX9_payDebt 81 = .ok (.ireturn, 1) := by decide +kernel
theorem dX9_take_0 : decode cX9_take 0 = .ok (.iload_n 1, 1) := by decide +kernel
theorem dX9_take_1 : decode cX9_take 1 = .ok (.iconst 0, 1) := by decide +kernel
theorem dX9_take_2 : decode cX9_take 2 = .ok (.iconst 1, 1) := by decide +kernel
theorem dX9_take_3 : decode cX9_take 3 = .ok (.invokestatic 29, 3) := by decide +kernel
theorem dX9_take_6 : decode cX9_take 6 = .ok (.ifCond .ne 5, 3) := by decide +kernel
theorem dX9_take_9 : decode cX9_take 9 = .ok (.iconst (-1), 1) := by decide +kernel
theorem dX9_take_10 : decode cX9_take 10 = .ok (.ireturn, 1) := by decide +kernel
theorem dX9_take_11 : decode cX9_take 11 = .ok (.aload_n 0, 1) := by decide +kernel
theorem dX9_take_12 : decode cX9_take 12 = .ok (.invokevirtual 61, 3) := by decide +kernel
theorem dX9_take_15 : decode cX9_take 15 = .ok (.sipush 222, 3) := by decide +kernel
theorem dX9_take_18 : decode cX9_take 18 = .ok (.sipush 223, 3) := by decide +kernel
theorem dX9_take_21 : decode cX9_take 21 = .ok (.iload_n 1, 1) := by decide +kernel
theorem dX9_take_22 : decode cX9_take 22 = .ok (.imul, 1) := by decide +kernel
theorem dX9_take_23 : decode cX9_take 23 = .ok (.iadd, 1) := by decide +kernel
theorem dX9_take_24 : decode cX9_take 24 = .ok (.istore_n 2, 1) := by decide +kernel
theorem dX9_take_25 : decode cX9_take 25 = .ok (.aload_n 0, 1) := by decide +kernel
theorem dX9_take_26 : decode cX9_take 26 = .ok (.getfield 7, 3) := by decide +kernel
theorem dX9_take_29 : decode cX9_take 29 = .ok (.iload_n 2, 1) := by decide +kernel
theorem dX9_take_30 : decode cX9_take 30 = .ok (.iconst 1, 1) := by decide +kernel
theorem dX9_take_31 : decode cX9_take 31 = .ok (.iastore, 1) := by decide +kernel
theorem dX9_take_32 : decode cX9_take 32 = .ok (.iconst 0, 1) := by decide +kernel
theorem dX9_take_33 : decode cX9_take 33 = .ok (.istore_n 3, 1) := by decide +kernel
theorem dX9_take_34 : decode cX9_take 34 = .ok (.iload_n 3, 1) := by decide +kernel
theorem dX9_take_35 : decode cX9_take 35 = .ok (.sipush 222, 3) := by decide +kernel
theorem dX9_take_38 : decode cX9_take 38 = .ok (.if_icmp .ge 25, 3) := by decide +kernel
theorem dX9_take_41 : decode cX9_take 41 = .ok (.aload_n 0, 1) := by decide +kernel
theorem dX9_take_42 : decode cX9_take 42 = .ok (.getfield 7, 3) := by decide +kernel
theorem dX9_take_45 : decode cX9_take 45 = .ok (.iload_n 2, 1) := by decide +kernel
theorem dX9_take_46 : decode cX9_take 46 = .ok (.iconst 1, 1) := by decide +kernel
theorem dX9_take_47 : decode cX9_take 47 = .ok (.iadd, 1) := by decide +kernel
theorem dX9_take_48 : decode cX9_take 48 = .ok (.iload_n 3, 1) := by decide +kernel
theorem dX9_take_49 : decode cX9_take 49 = .ok (.iadd, 1) := by decide +kernel
theorem dX9_take_50 : decode cX9_take 50 = .ok (.aload_n 0, 1) := by decide +kernel
theorem dX9_take_51 : decode cX9_take 51 = .ok (.getfield 7, 3) := by decide +kernel
theorem dX9_take_54 : decode cX9_take 54 = .ok (.iload_n 3, 1) := by decide +kernel
theorem dX9_take_55 : decode cX9_take 55 = .ok (.iaload, 1) := by decide +kernel
theorem dX9_take_56 : decode cX9_take 56 = .ok (.iastore, 1) := by decide +kernel
theorem dX9_take_57 : decode cX9_take 57 = .ok (.iinc 3 1, 3) := by decide +kernel
theorem dX9_take_60 : decode cX9_take 60 = .ok (.goto (-26), 3) := by decide +kernel
theorem dX9_take_63 : decode cX9_take 63 = .ok (.aload_n 0, 1) := by decide +kernel
theorem dX9_take_64 : decode cX9_take 64 = .ok (.aload_n 0, 1) := by decide +kernel
theorem dX9_take_65 : decode cX9_take 65 = .ok (.getfield 7, 3) := by decide +kernel
theorem dX9_take_68 : decode cX9_take 68 = .ok (.iconst 0, 1) := by decide +kernel
theorem dX9_take_69 : decode cX9_take 69 = .ok (.iaload, 1) := by decide +kernel
theorem dX9_take_70 : decode cX9_take 70 = .ok (.invokevirtual 71, 3) := by decide +kernel
theorem dX9_take_73 : decode cX9_take 73 = .ok (.ireturn, 1) := by decide +kernel
theorem dX9_restore_0 : decode cX9_restore 0 = .ok (.iload_n 1, 1) := by decide +kernel
theorem dX9_restore_1 : decode cX9_restore 1 = .ok (.iconst 0, 1) := by decide +kernel
theorem dX9_restore_2 : decode cX9_restore 2 = .ok (.iconst 1, 1) := by decide +kernel
theorem dX9_restore_3 : decode cX9_restore 3 = .ok (.invokestatic 29, 3) := by decide +kernel
theorem dX9_restore_6 : decode cX9_restore 6 = .ok (.ifCond .ne 5, 3) := by decide +kernel
theorem dX9_restore_9 : decode cX9_restore 9 = .ok (.iconst (-1), 1) := by decide +kernel
theorem dX9_restore_10 : decode cX9_restore 10 = .ok (.ireturn, 1) := by decide +kernel
theorem dX9_restore_11 : decode cX9_restore 11 = .ok (.sipush 222, 3) := by decide +kernel
theorem dX9_restore_14 : decode cX9_restore 14 = .ok (.sipush 223, 3) := by decide +kernel
theorem dX9_restore_17 : decode cX9_restore 17 = .ok (.iload_n 1, 1) := by decide +kernel
theorem dX9_restore_18 : decode cX9_restore 18 = .ok (.imul, 1) := by decide +kernel
theorem dX9_restore_19 : decode cX9_restore 19 = .ok (.iadd, 1) := by decide +kernel
theorem dX9_restore_20 : decode cX9_restore 20 = .ok (.istore_n 2, 1) := by decide +kernel
theorem dX9_restore_21 : decode cX9_restore 21 = .ok (.aload_n 0, 1) := by decide +kernel
theorem dX9_restore_22 : decode cX9_restore 22 = .ok (.getfield 7, 3) := by decide +kernel
theorem dX9_restore_25 : decode cX9_restore 25 = .ok (.iload_n 2, 1) := by decide +kernel
theorem dX9_restore_26 : decode cX9_restore 26 = .ok (.iaload, 1) := by decide +kernel
theorem dX9_restore_27 : decode cX9_restore 27 = .ok (.ifCond .ne 6, 3) := by decide +kernel
theorem dX9_restore_30 : decode cX9_restore 30 = .ok (.bipush (-2), 2) := by decide +kernel
theorem dX9_restore_32 : decode cX9_restore 32 = .ok (.ireturn, 1) := by decide +kernel
theorem dX9_restore_33 : decode cX9_restore 33 = .ok (.aload_n 0, 1) := by decide +kernel
theorem dX9_restore_34 : decode cX9_restore 34 = .ok (.invokevirtual 61, 3) := by decide +kernel
theorem dX9_restore_37 : decode cX9_restore 37 = .ok (.iconst 0, 1) := by decide +kernel
theorem dX9_restore_38 : decode cX9_restore 38 = .ok (.istore_n 3, 1) := by decide +kernel
theorem dX9_restore_39 : decode cX9_restore 39 = .ok (.iload_n 3, 1) := by decide +kernel
theorem dX9_restore_40 : decode cX9_restore 40 = .ok (.sipush 222, 3) := by decide +kernel
theorem dX9_restore_43 : decode cX9_restore 43 = .ok (.if_icmp .ge 25, 3) := by decide +kernel
theorem dX9_restore_46 : decode cX9_restore 46 = .ok (.aload_n 0, 1) := by decide +kernel
theorem dX9_restore_47 : decode cX9_restore 47 = .ok (.getfield 7, 3) := by decide +kernel
theorem dX9_restore_50 : decode cX9_restore 50 = .ok (.iload_n 3, 1) := by decide +kernel
theorem dX9_restore_51 : decode cX9_restore 51 = .ok (.aload_n 0, 1) := by decide +kernel
theorem dX9_restore_52 : decode cX9_restore 52 = .ok (.getfield 7, 3) := by decide +kernel
theorem dX9_restore_55 : decode cX9_restore 55 = .ok (.iload_n 2, 1) := by decide +kernel
theorem dX9_restore_56 : decode cX9_restore 56 = .ok (.iconst 1, 1) := by decide +kernel
theorem dX9_restore_57 : decode cX9_restore 57 = .ok (.iadd, 1) := by decide +kernel
theorem dX9_restore_58 : decode cX9_restore 58 = .ok (.iload_n 3, 1) := by decide +kernel
theorem dX9_restore_59 : decode cX9_restore 59 = .ok (.iadd, 1) := by decide +kernel
theorem dX9_restore_60 : decode cX9_restore 60 = .ok (.iaload, 1) := by decide +kernel
theorem dX9_restore_61 : decode cX9_restore 61 = .ok (.iastore, 1) := by decide +kernel
theorem dX9_restore_62 : decode cX9_restore 62 = .ok (.iinc 3 1, 3) := by decide +kernel
theorem dX9_restore_65 : decode cX9_restore 65 = .ok (.goto (-26), 3) := by decide +kernel
theorem dX9_restore_68 : decode cX9_restore 68 = .ok (.aload_n 0, 1) := by decide +kernel
theorem dX9_restore_69 : decode cX9_restore 69 = .ok (.aload_n 0, 1) := by decide +kernel
theorem dX9_restore_70 : decode cX9_restore 70 = .ok (.getfield 7, 3) := by decide +kernel
theorem dX9_restore_73 : decode cX9_restore 73 = .ok (.iconst 0, 1) := by decide +kernel
theorem dX9_restore_74 : decode cX9_restore 74 = .ok (.iaload, 1) := by decide +kernel
theorem dX9_restore_75 : decode cX9_restore 75 = .ok (.invokevirtual 71, 3) := by decide +kernel
theorem dX9_restore_78 : decode cX9_restore 78 = .ok (.ireturn, 1) := by decide +kernel
theorem dX9_undo_0 : decode cX9_undo 0 = .ok (.aload_n 0, 1) := by decide +kernel
theorem dX9_undo_1 : decode cX9_undo 1 = .ok (.getfield 41, 3) := by decide +kernel
theorem dX9_undo_4 : decode cX9_undo 4 = .ok (.ifCond .ne 6, 3) := by decide +kernel
theorem dX9_undo_7 : decode cX9_undo 7 = .ok (.bipush (-2), 2) := by decide +kernel
theorem dX9_undo_9 : decode cX9_undo 9 = .ok (.ireturn, 1) := by decide +kernel
theorem dX9_undo_10 : decode cX9_undo 10 = .ok (.aload_n 0, 1) := by decide +kernel
theorem dX9_undo_11 : decode cX9_undo 11 = .ok (.dup, 1) := by decide +kernel
theorem dX9_undo_12 : decode cX9_undo 12 = .ok (.getfield 41, 3) := by decide +kernel
theorem dX9_undo_15 : decode cX9_undo 15 = .ok (.iconst 1, 1) := by decide +kernel
theorem dX9_undo_16 : decode cX9_undo 16 = .ok (.isub, 1) := by decide +kernel
theorem dX9_undo_17 : decode cX9_undo 17 = .ok (.putfield 41, 3) := by decide +kernel
theorem dX9_undo_20 : decode cX9_undo 20 = .ok (.iconst 0, 1) := by decide +kernel
theorem dX9_undo_21 : decode cX9_undo 21 = .ok (.istore_n 1, 1) := by decide +kernel
theorem dX9_undo_22 : decode cX9_undo 22 = .ok (.iload_n 1, 1) := by decide +kernel
theorem dX9_undo_23 : decode cX9_undo 23 = .ok (.sipush 668, 3) := by decide +kernel
theorem dX9_undo_26 : decode cX9_undo 26 = .ok (.if_icmp .ge 30, 3) := by decide +kernel
theorem dX9_undo_29 : decode cX9_undo 29 = .ok (.aload_n 0, 1) := by decide +kernel
theorem dX9_undo_30 : decode cX9_undo 30 = .ok (.getfield 7, 3) := by decide +kernel
theorem dX9_undo_33 : decode cX9_undo 33 = .ok (.iload_n 1, 1) := by decide +kernel
theorem dX9_undo_34 : decode cX9_undo 34 = .ok (.aload_n 0, 1) := by decide +kernel
theorem dX9_undo_35 : decode cX9_undo 35 = .ok (.getfield 13, 3) := by decide +kernel
theorem dX9_undo_38 : decode cX9_undo 38 = .ok (.sipush 668, 3) := by decide +kernel
theorem dX9_undo_41 : decode cX9_undo 41 = .ok (.aload_n 0, 1) := by decide +kernel
theorem dX9_undo_42 : decode cX9_undo 42 = .ok (.getfield 41, 3) := by decide +kernel
theorem dX9_undo_45 : decode cX9_undo 45 = .ok (.imul, 1) := by decide +kernel
theorem dX9_undo_46 : decode cX9_undo 46 = .ok (.iload_n 1, 1) := by decide +kernel
theorem dX9_undo_47 : decode cX9_undo 47 = .ok (.iadd, 1) := by decide +kernel
theorem dX9_undo_48 : decode cX9_undo 48 = .ok (.iaload, 1) := by decide +kernel
theorem dX9_undo_49 : decode cX9_undo 49 = .ok (.iastore, 1) := by decide +kernel
theorem dX9_undo_50 : decode cX9_undo 50 = .ok (.iinc 1 1, 3) := by decide +kernel
theorem dX9_undo_53 : decode cX9_undo 53 = .ok (.goto (-31), 3) := by decide +kernel
theorem dX9_undo_56 : decode cX9_undo 56 = .ok (.aload_n 0, 1) := by decide +kernel
theorem dX9_undo_57 : decode cX9_undo 57 = .ok (.getfield 41, 3) := by decide +kernel
theorem dX9_undo_60 : decode cX9_undo 60 = .ok (.ireturn, 1) := by decide +kernel
theorem dX9_append_0 : decode cX9_append 0 = .ok (.iload_n 1, 1) := by decide +kernel
theorem dX9_append_1 : decode cX9_append 1 = .ok (.iconst 1, 1) := by decide +kernel
theorem dX9_append_2 : decode cX9_append 2 = .ok (.sipush 255, 3) := by decide +kernel
theorem dX9_append_5 : decode cX9_append 5 = .ok (.invokestatic 29, 3) := by decide +kernel
theorem dX9_append_8 : decode cX9_append 8 = .ok (.ifCond .ne 5, 3) := by decide +kernel
theorem dX9_append_11 : decode cX9_append 11 = .ok (.iconst (-1), 1) := by decide +kernel
theorem dX9_append_12 : decode cX9_append 12 = .ok (.ireturn, 1) := by decide +kernel
theorem dX9_append_13 : decode cX9_append 13 = .ok (.aload_n 0, 1) := by decide +kernel
theorem dX9_append_14 : decode cX9_append 14 = .ok (.getfield 89, 3) := by decide +kernel
theorem dX9_append_17 : decode cX9_append 17 = .ok (.bipush 80, 2) := by decide +kernel
theorem dX9_append_19 : decode cX9_append 19 = .ok (.if_icmp .ne 6, 3) := by decide +kernel
theorem dX9_append_22 : decode cX9_append 22 = .ok (.bipush (-3), 2) := by decide +kernel
theorem dX9_append_24 : decode cX9_append 24 = .ok (.ireturn, 1) := by decide +kernel
theorem dX9_append_25 : decode cX9_append 25 = .ok (.aload_n 0, 1) := by decide +kernel
theorem dX9_append_26 : decode cX9_append 26 = .ok (.getfield 22, 3) := by decide +kernel
theorem dX9_append_29 : decode cX9_append 29 = .ok (.aload_n 0, 1) := by decide +kernel
theorem dX9_append_30 : decode cX9_append 30 = .ok (.getfield 89, 3) := by decide +kernel
theorem dX9_append_33 : decode cX9_append 33 = .ok (.iload_n 1, 1) := by decide +kernel
theorem dX9_append_34 : decode cX9_append 34 = .ok (.iastore, 1) := by decide +kernel
theorem dX9_append_35 : decode cX9_append 35 = .ok (.aload_n 0, 1) := by decide +kernel
theorem dX9_append_36 : decode cX9_append 36 = .ok (.dup, 1) := by decide +kernel
theorem dX9_append_37 : decode cX9_append 37 = .ok (.getfield 89, 3) := by decide +kernel
theorem dX9_append_40 : decode cX9_append 40 = .ok (.iconst 1, 1) := by decide +kernel
theorem dX9_append_41 : decode cX9_append 41 = .ok (.iadd, 1) := by decide +kernel
theorem dX9_append_42 : decode cX9_append 42 = .ok (.putfield 89, 3) := by decide +kernel
theorem dX9_append_45 : decode cX9_append 45 = .ok (.aload_n 0, 1) := by decide +kernel
theorem dX9_append_46 : decode cX9_append 46 = .ok (.getfield 89, 3) := by decide +kernel
theorem dX9_append_49 : decode cX9_append 49 = .ok (.ireturn, 1) := by decide +kernel
theorem dX9_clearText_0 : decode cX9_clearText 0 = .ok (.aload_n 0, 1) := by decide +kernel
theorem dX9_clearText_1 : decode cX9_clearText 1 = .ok (.getfield 89, 3) := by decide +kernel
theorem dX9_clearText_4 : decode cX9_clearText 4 = .ok (.istore_n 1, 1) := by decide +kernel
theorem dX9_clearText_5 : decode cX9_clearText 5 = .ok (.aload_n 0, 1) := by decide +kernel
theorem dX9_clearText_6 : decode cX9_clearText 6 = .ok (.iconst 0, 1) := by decide +kernel
theorem dX9_clearText_7 : decode cX9_clearText 7 = .ok (.putfield 89, 3) := by decide +kernel
theorem dX9_clearText_10 : decode cX9_clearText 10 = .ok (.iload_n 1, 1) := by decide +kernel
theorem dX9_clearText_11 : decode cX9_clearText 11 = .ok (.ireturn, 1) := by decide +kernel
theorem dX9_sign_0 : decode cX9_sign 0 = .ok (.aload_n 0, 1) := by decide +kernel
theorem dX9_sign_1 : decode cX9_sign 1 = .ok (.getfield 92, 3) := by decide +kernel
theorem dX9_sign_4 : decode cX9_sign 4 = .ok (.aload_n 0, 1) := by decide +kernel
theorem dX9_sign_5 : decode cX9_sign 5 = .ok (.getfield 89, 3) := by decide +kernel
theorem dX9_sign_8 : decode cX9_sign 8 = .ok (.if_icmp .ge 15, 3) := by decide +kernel
theorem dX9_sign_11 : decode cX9_sign 11 = .ok (.aload_n 0, 1) := by decide +kernel
theorem dX9_sign_12 : decode cX9_sign 12 = .ok (.getfield 22, 3) := by decide +kernel
theorem dX9_sign_15 : decode cX9_sign 15 = .ok (.aload_n 0, 1) := by decide +kernel
theorem dX9_sign_16 : decode cX9_sign 16 = .ok (.getfield 92, 3) := by decide +kernel
theorem dX9_sign_19 : decode cX9_sign 19 = .ok (.iaload, 1) := by decide +kernel
theorem dX9_sign_20 : decode cX9_sign 20 = .ok (.goto 4, 3) := by decide +kernel
theorem dX9_sign_23 : decode cX9_sign 23 = .ok (.iconst (-1), 1) := by decide +kernel
theorem dX9_sign_24 : decode cX9_sign 24 = .ok (.ireturn, 1) := by decide +kernel
theorem dX9_readsPart_0 : decode cX9_readsPart 0 = .ok (.aload_n 0, 1) := by decide +kernel
theorem dX9_readsPart_1 : decode cX9_readsPart 1 = .ok (.invokevirtual 95, 3) := by decide +kernel
theorem dX9_readsPart_4 : decode cX9_readsPart 4 = .ok (.istore_n 1, 1) := by decide +kernel
theorem dX9_readsPart_5 : decode cX9_readsPart 5 = .ok (.aload_n 0, 1) := by decide +kernel
theorem dX9_readsPart_6 : decode cX9_readsPart 6 = .ok (.iload_n 1, 1) := by decide +kernel
theorem dX9_readsPart_7 : decode cX9_readsPart 7 = .ok (.bipush 116, 2) := by decide +kernel
theorem dX9_readsPart_9 : decode cX9_readsPart 9 = .ok (.if_icmp .ne 7, 3) := by decide +kernel
theorem dX9_readsPart_12 : decode cX9_readsPart 12 = .ok (.iconst 0, 1) := by decide +kernel
theorem dX9_readsPart_13 : decode cX9_readsPart 13 = .ok (.goto 34, 3) := by decide +kernel
theorem dX9_readsPart_16 : decode cX9_readsPart 16 = .ok (.iload_n 1, 1) := by decide +kernel
theorem dX9_readsPart_17 : decode cX9_readsPart 17 = .ok (.bipush 108, 2) := by decide +kernel
theorem dX9_readsPart_19 : decode cX9_readsPart 19 = .ok (.if_icmp .ne 7, 3) := by decide +kernel
theorem dX9_readsPart_22 : decode cX9_readsPart 22 = .ok (.iconst 1, 1) := by decide +kernel
theorem dX9_readsPart_23 : decode cX9_readsPart 23 = .ok (.goto 24, 3) := by decide +kernel
theorem dX9_readsPart_26 : decode cX9_readsPart 26 = .ok (.iload_n 1, 1) := by decide +kernel
theorem dX9_readsPart_27 : decode cX9_readsPart 27 = .ok (.bipush 103, 2) := by decide +kernel
theorem dX9_readsPart_29 : decode cX9_readsPart 29 = .ok (.if_icmp .ne 7, 3) := by decide +kernel
theorem dX9_readsPart_32 : decode cX9_readsPart 32 = .ok (.iconst 2, 1) := by decide +kernel
theorem dX9_readsPart_33 : decode cX9_readsPart 33 = .ok (.goto 14, 3) := by decide +kernel
theorem dX9_readsPart_36 : decode cX9_readsPart 36 = .ok (.iload_n 1, 1) := by decide +kernel
theorem dX9_readsPart_37 : decode cX9_readsPart 37 = .ok (.bipush 112, 2) := by decide +kernel
theorem dX9_readsPart_39 : decode cX9_readsPart 39 = .ok (.if_icmp .ne 7, 3) := by decide +kernel
theorem dX9_readsPart_42 : decode cX9_readsPart 42 = .ok (.iconst 3, 1) := by decide +kernel
theorem dX9_readsPart_43 : decode cX9_readsPart 43 = .ok (.goto 4, 3) := by decide +kernel
theorem dX9_readsPart_46 : decode cX9_readsPart 46 = .ok (.iconst (-1), 1) := by decide +kernel
theorem dX9_readsPart_47 : decode cX9_readsPart 47 = .ok (.putfield 98, 3) := by decide +kernel
theorem dX9_readsPart_50 : decode cX9_readsPart 50 = .ok (.aload_n 0, 1) := by decide +kernel
theorem dX9_readsPart_51 : decode cX9_readsPart 51 = .ok (.iconst 0, 1) := by decide +kernel
theorem dX9_readsPart_52 : decode cX9_readsPart 52 = .ok (.putfield 101, 3) := by decide +kernel
theorem dX9_readsPart_55 : decode cX9_readsPart 55 = .ok (.aload_n 0, 1) := by decide +kernel
theorem dX9_readsPart_56 : decode cX9_readsPart 56 = .ok (.iconst 1, 1) := by decide +kernel
theorem dX9_readsPart_57 : decode cX9_readsPart 57 = .ok (.putfield 104, 3) := by decide +kernel
theorem dX9_readsPart_60 : decode cX9_readsPart 60 = .ok (.aload_n 0, 1) := by decide +kernel
theorem dX9_readsPart_61 : decode cX9_readsPart 61 = .ok (.getfield 98, 3) := by decide +kernel
theorem dX9_readsPart_64 : decode cX9_readsPart 64 = .ok (.ifCond .ge 5, 3) := by decide +kernel
theorem dX9_readsPart_67 : decode cX9_readsPart 67 = .ok (.iconst 0, 1) := by decide +kernel
theorem dX9_readsPart_68 : decode cX9_readsPart 68 = .ok (.ireturn, 1) := by decide +kernel
theorem dX9_readsPart_69 : decode cX9_readsPart 69 = .ok (.aload_n 0, 1) := by decide +kernel
theorem dX9_readsPart_70 : decode cX9_readsPart 70 = .ok (.dup, 1) := by decide +kernel
theorem dX9_readsPart_71 : decode cX9_readsPart 71 = .ok (.getfield 92, 3) := by decide +kernel
theorem dX9_readsPart_74 : decode cX9_readsPart 74 = .ok (.iconst 1, 1) := by decide +kernel
theorem dX9_readsPart_75 : decode cX9_readsPart 75 = .ok (.iadd, 1) := by decide +kernel
theorem dX9_readsPart_76 : decode cX9_readsPart 76 = .ok (.putfield 92, 3) := by decide +kernel
theorem dX9_readsPart_79 : decode cX9_readsPart 79 = .ok (.aload_n 0, 1) := by decide +kernel
theorem dX9_readsPart_80 : decode cX9_readsPart 80 = .ok (.getfield 98, 3) := by decide +kernel
theorem dX9_readsPart_83 : decode cX9_readsPart 83 = .ok (.iconst 2, 1) := by decide +kernel
theorem dX9_readsPart_84 : decode cX9_readsPart 84 = .ok (.if_icmp .ge 40, 3) := by decide +kernel
theorem dX9_readsPart_87 : decode cX9_readsPart 87 = .ok (.aload_n 0, 1) := by decide +kernel
theorem dX9_readsPart_88 : decode cX9_readsPart 88 = .ok (.invokevirtual 95, 3) := by decide +kernel
theorem dX9_readsPart_91 : decode cX9_readsPart 91 = .ok (.bipush 49, 2) := by decide +kernel
theorem dX9_readsPart_93 : decode cX9_readsPart 93 = .ok (.bipush 57, 2) := by decide +kernel
theorem dX9_readsPart_95 : decode cX9_readsPart 95 = .ok (.invokestatic 29, 3) := by decide +kernel
theorem dX9_readsPart_98 : decode cX9_readsPart 98 = .ok (.ifCond .ne 5, 3) := by decide +kernel
theorem dX9_readsPart_101 : decode cX9_readsPart 101 = .ok (.iconst 0, 1) := by decide +kernel
theorem dX9_readsPart_102 : decode cX9_readsPart 102 = .ok (.ireturn, 1) := by decide +kernel
theorem dX9_readsPart_103 : decode cX9_readsPart 103 = .ok (.aload_n 0, 1) := by decide +kernel
theorem dX9_readsPart_104 : decode cX9_readsPart 104 = .ok (.aload_n 0, 1) := by decide +kernel
theorem dX9_readsPart_105 : decode cX9_readsPart 105 = .ok (.invokevirtual 95, 3) := by decide +kernel
theorem dX9_readsPart_108 : decode cX9_readsPart 108 = .ok (.bipush 48, 2) := by decide +kernel
theorem dX9_readsPart_110 : decode cX9_readsPart 110 = .ok (.isub, 1) := by decide +kernel
theorem dX9_readsPart_111 : decode cX9_readsPart 111 = .ok (.putfield 101, 3) := by decide +kernel
theorem dX9_readsPart_114 : decode cX9_readsPart 114 = .ok (.aload_n 0, 1) := by decide +kernel
theorem dX9_readsPart_115 : decode cX9_readsPart 115 = .ok (.dup, 1) := by decide +kernel
theorem dX9_readsPart_116 : decode cX9_readsPart 116 = .ok (.getfield 92, 3) := by decide +kernel
theorem dX9_readsPart_119 : decode cX9_readsPart 119 = .ok (.iconst 1, 1) := by decide +kernel
theorem dX9_readsPart_120 : decode cX9_readsPart 120 = .ok (.iadd, 1) := by decide +kernel
theorem dX9_readsPart_121 : decode cX9_readsPart 121 = .ok (.putfield 92, 3) := by decide +kernel
theorem dX9_readsPart_124 : decode cX9_readsPart 124 = .ok (.aload_n 0, 1) := by decide +kernel
theorem dX9_readsPart_125 : decode cX9_readsPart 125 = .ok (.invokevirtual 95, 3) := by decide +kernel
theorem dX9_readsPart_128 : decode cX9_readsPart 128 = .ok (.bipush 42, 2) := by decide +kernel
theorem dX9_readsPart_130 : decode cX9_readsPart 130 = .ok (.if_icmp .eq 5, 3) := by decide +kernel
theorem dX9_readsPart_133 : decode cX9_readsPart 133 = .ok (.iconst 1, 1) := by decide +kernel
theorem dX9_readsPart_134 : decode cX9_readsPart 134 = .ok (.ireturn, 1) := by decide +kernel
theorem dX9_readsPart_135 : decode cX9_readsPart 135 = .ok (.aload_n 0, 1) := by decide +kernel
theorem dX9_readsPart_136 : decode cX9_readsPart 136 = .ok (.dup, 1) := by decide +kernel
theorem dX9_readsPart_137 : decode cX9_readsPart 137 = .ok (.getfield 92, 3) := by decide +kernel
theorem dX9_readsPart_140 : decode cX9_readsPart 140 = .ok (.iconst 1, 1) := by decide +kernel
theorem dX9_readsPart_141 : decode cX9_readsPart 141 = .ok (.iadd, 1) := by decide +kernel
theorem dX9_readsPart_142 : decode cX9_readsPart 142 = .ok (.putfield 92, 3) := by decide +kernel
theorem dX9_readsPart_145 : decode cX9_readsPart 145 = .ok (.aload_n 0, 1) := by decide +kernel
theorem dX9_readsPart_146 : decode cX9_readsPart 146 = .ok (.invokevirtual 95, 3) := by decide +kernel
theorem dX9_readsPart_149 : decode cX9_readsPart 149 = .ok (.bipush 49, 2) := by decide +kernel
theorem dX9_readsPart_151 : decode cX9_readsPart 151 = .ok (.bipush 57, 2) := by decide +kernel
theorem dX9_readsPart_153 : decode cX9_readsPart 153 = .ok (.invokestatic 29, 3) := by decide +kernel
theorem dX9_readsPart_156 : decode cX9_readsPart 156 = .ok (.ifCond .ne 5, 3) := by decide +kernel
theorem dX9_readsPart_159 : decode cX9_readsPart 159 = .ok (.iconst 0, 1) := by decide +kernel
theorem dX9_readsPart_160 : decode cX9_readsPart 160 = .ok (.ireturn, 1) := by decide +kernel
theorem dX9_readsPart_161 : decode cX9_readsPart 161 = .ok (.aload_n 0, 1) := by decide +kernel
theorem dX9_readsPart_162 : decode cX9_readsPart 162 = .ok (.aload_n 0, 1) := by decide +kernel
theorem dX9_readsPart_163 : decode cX9_readsPart 163 = .ok (.invokevirtual 95, 3) := by decide +kernel
theorem dX9_readsPart_166 : decode cX9_readsPart 166 = .ok (.bipush 48, 2) := by decide +kernel
theorem dX9_readsPart_168 : decode cX9_readsPart 168 = .ok (.isub, 1) := by decide +kernel
theorem dX9_readsPart_169 : decode cX9_readsPart 169 = .ok (.putfield 104, 3) := by decide +kernel
theorem dX9_readsPart_172 : decode cX9_readsPart 172 = .ok (.aload_n 0, 1) := by decide +kernel
theorem dX9_readsPart_173 : decode cX9_readsPart 173 = .ok (.dup, 1) := by decide +kernel
theorem dX9_readsPart_174 : decode cX9_readsPart 174 = .ok (.getfield 92, 3) := by decide +kernel
theorem dX9_readsPart_177 : decode cX9_readsPart 177 = .ok (.iconst 1, 1) := by decide +kernel
theorem dX9_readsPart_178 : decode cX9_readsPart 178 = .ok (.iadd, 1) := by decide +kernel
theorem dX9_readsPart_179 : decode cX9_readsPart 179 = .ok (.putfield 92, 3) := by decide +kernel
theorem dX9_readsPart_182 : decode cX9_readsPart 182 = .ok (.aload_n 0, 1) := by decide +kernel
theorem dX9_readsPart_183 : decode cX9_readsPart 183 = .ok (.invokevirtual 95, 3) := by decide +kernel
theorem dX9_readsPart_186 : decode cX9_readsPart 186 = .ok (.bipush 48, 2) := by decide +kernel
theorem dX9_readsPart_188 : decode cX9_readsPart 188 = .ok (.bipush 57, 2) := by decide +kernel
theorem dX9_readsPart_190 : decode cX9_readsPart 190 = .ok (.invokestatic 29, 3) := by decide +kernel
theorem dX9_readsPart_193 : decode cX9_readsPart 193 = .ok (.ifCond .eq 57, 3) := by decide +kernel
theorem dX9_readsPart_196 : decode cX9_readsPart 196 = .ok (.bipush 10, 2) := by decide +kernel
theorem dX9_readsPart_198 : decode cX9_readsPart 198 = .ok (.aload_n 0, 1) := by decide +kernel
theorem dX9_readsPart_199 : decode cX9_readsPart 199 = .ok (.getfield 104, 3) := by decide +kernel
theorem dX9_readsPart_202 : decode cX9_readsPart 202 = .ok (.imul, 1) := by decide +kernel
theorem dX9_readsPart_203 : decode cX9_readsPart 203 = .ok (.aload_n 0, 1) := by decide +kernel
theorem dX9_readsPart_204 : decode cX9_readsPart 204 = .ok (.invokevirtual 95, 3) := by decide +kernel
theorem dX9_readsPart_207 : decode cX9_readsPart 207 = .ok (.iadd, 1) := by decide +kernel
theorem dX9_readsPart_208 : decode cX9_readsPart 208 = .ok (.bipush 48, 2) := by decide +kernel
theorem dX9_readsPart_210 : decode cX9_readsPart 210 = .ok (.isub, 1) := by decide +kernel
theorem dX9_readsPart_211 : decode cX9_readsPart 211 = .ok (.bipush 30, 2) := by decide +kernel
theorem dX9_readsPart_213 : decode cX9_readsPart 213 = .ok (.if_icmp .le 5, 3) := by decide +kernel
theorem dX9_readsPart_216 : decode cX9_readsPart 216 = .ok (.iconst 0, 1) := by decide +kernel
theorem dX9_readsPart_217 : decode cX9_readsPart 217 = .ok (.ireturn, 1) := by decide +kernel
theorem dX9_readsPart_218 : decode cX9_readsPart 218 = .ok (.aload_n 0, 1) := by decide +kernel
theorem dX9_readsPart_219 : decode cX9_readsPart 219 = .ok (.bipush 10, 2) := by decide +kernel
theorem dX9_readsPart_221 : decode cX9_readsPart 221 = .ok (.aload_n 0, 1) := by decide +kernel
theorem dX9_readsPart_222 : decode cX9_readsPart 222 = .ok (.getfield 104, 3) := by decide +kernel
theorem dX9_readsPart_225 : decode cX9_readsPart 225 = .ok (.imul, 1) := by decide +kernel
theorem dX9_readsPart_226 : decode cX9_readsPart 226 = .ok (.aload_n 0, 1) := by decide +kernel
theorem dX9_readsPart_227 : decode cX9_readsPart 227 = .ok (.invokevirtual 95, 3) := by decide +kernel
theorem dX9_readsPart_230 : decode cX9_readsPart 230 = .ok (.iadd, 1) := by decide +kernel
theorem dX9_readsPart_231 : decode cX9_readsPart 231 = .ok (.bipush 48, 2) := by decide +kernel
theorem dX9_readsPart_233 : decode cX9_readsPart 233 = .ok (.isub, 1) := by decide +kernel
theorem dX9_readsPart_234 : decode cX9_readsPart 234 = .ok (.putfield 104, 3) := by decide +kernel
theorem dX9_readsPart_237 : decode cX9_readsPart 237 = .ok (.aload_n 0, 1) := by decide +kernel
theorem dX9_readsPart_238 : decode cX9_readsPart 238 = .ok (.dup, 1) := by decide +kernel
theorem dX9_readsPart_239 : decode cX9_readsPart 239 = .ok (.getfield 92, 3) := by decide +kernel
theorem dX9_readsPart_242 : decode cX9_readsPart 242 = .ok (.iconst 1, 1) := by decide +kernel
theorem dX9_readsPart_243 : decode cX9_readsPart 243 = .ok (.iadd, 1) := by decide +kernel
theorem dX9_readsPart_244 : decode cX9_readsPart 244 = .ok (.putfield 92, 3) := by decide +kernel
theorem dX9_readsPart_247 : decode cX9_readsPart 247 = .ok (.goto (-65), 3) := by decide +kernel
theorem dX9_readsPart_250 : decode cX9_readsPart 250 = .ok (.iconst 1, 1) := by decide +kernel
theorem dX9_readsPart_251 : decode cX9_readsPart 251 = .ok (.ireturn, 1) := by decide +kernel
theorem dX9_chains_0 : decode cX9_chains 0 = .ok (.aload_n 0, 1) := by decide +kernel
theorem dX9_chains_1 : decode cX9_chains 1 = .ok (.iconst 0, 1) := by decide +kernel
theorem dX9_chains_2 : decode cX9_chains 2 = .ok (.putfield 92, 3) := by decide +kernel
theorem dX9_chains_5 : decode cX9_chains 5 = .ok (.iconst 0, 1) := by decide +kernel
theorem dX9_chains_6 : decode cX9_chains 6 = .ok (.istore_n 1, 1) := by decide +kernel
theorem dX9_chains_7 : decode cX9_chains 7 = .ok (.aload_n 0, 1) := by decide +kernel
theorem dX9_chains_8 : decode cX9_chains 8 = .ok (.getfield 89, 3) := by decide +kernel
theorem dX9_chains_11 : decode cX9_chains 11 = .ok (.ifCond .le 7, 3) := by decide +kernel
theorem dX9_chains_14 : decode cX9_chains 14 = .ok (.iconst 1, 1) := by decide +kernel
theorem dX9_chains_15 : decode cX9_chains 15 = .ok (.goto 4, 3) := by decide +kernel
theorem dX9_chains_18 : decode cX9_chains 18 = .ok (.iconst 0, 1) := by decide +kernel
theorem dX9_chains_19 : decode cX9_chains 19 = .ok (.istore_n 2, 1) := by decide +kernel
theorem dX9_chains_20 : decode cX9_chains 20 = .ok (.iload_n 2, 1) := by decide +kernel
theorem dX9_chains_21 : decode cX9_chains 21 = .ok (.ifCond .eq 29, 3) := by decide +kernel
theorem dX9_chains_24 : decode cX9_chains 24 = .ok (.aload_n 0, 1) := by decide +kernel
theorem dX9_chains_25 : decode cX9_chains 25 = .ok (.getfield 92, 3) := by decide +kernel
theorem dX9_chains_28 : decode cX9_chains 28 = .ok (.aload_n 0, 1) := by decide +kernel
theorem dX9_chains_29 : decode cX9_chains 29 = .ok (.getfield 89, 3) := by decide +kernel
theorem dX9_chains_32 : decode cX9_chains 32 = .ok (.if_icmp .ge 18, 3) := by decide +kernel
theorem dX9_chains_35 : decode cX9_chains 35 = .ok (.aload_n 0, 1) := by decide +kernel
theorem dX9_chains_36 : decode cX9_chains 36 = .ok (.invokevirtual 107, 3) := by decide +kernel
theorem dX9_chains_39 : decode cX9_chains 39 = .ok (.istore_n 2, 1) := by decide +kernel
theorem dX9_chains_40 : decode cX9_chains 40 = .ok (.iload_n 1, 1) := by decide +kernel
theorem dX9_chains_41 : decode cX9_chains 41 = .ok (.aload_n 0, 1) := by decide +kernel
theorem dX9_chains_42 : decode cX9_chains 42 = .ok (.getfield 104, 3) := by decide +kernel
theorem dX9_chains_45 : decode cX9_chains 45 = .ok (.iadd, 1) := by decide +kernel
theorem dX9_chains_46 : decode cX9_chains 46 = .ok (.istore_n 1, 1) := by decide +kernel
theorem dX9_chains_47 : decode cX9_chains 47 = .ok (.goto (-27), 3) := by decide +kernel
theorem dX9_chains_50 : decode cX9_chains 50 = .ok (.iload_n 2, 1) := by decide +kernel
theorem dX9_chains_51 : decode cX9_chains 51 = .ok (.ifCond .eq 7, 3) := by decide +kernel
theorem dX9_chains_54 : decode cX9_chains 54 = .ok (.iload_n 1, 1) := by decide +kernel
theorem dX9_chains_55 : decode cX9_chains 55 = .ok (.goto 4, 3) := by decide +kernel
theorem dX9_chains_58 : decode cX9_chains 58 = .ok (.iconst (-1), 1) := by decide +kernel
theorem dX9_chains_59 : decode cX9_chains 59 = .ok (.ireturn, 1) := by decide +kernel
theorem dX9_read_0 : decode cX9_read 0 = .ok (.iload_n 1, 1) := by decide +kernel
theorem dX9_read_1 : decode cX9_read 1 = .ok (.invokestatic 33, 3) := by decide +kernel
theorem dX9_read_4 : decode cX9_read 4 = .ok (.ifCond .ne 5, 3) := by decide +kernel
theorem dX9_read_7 : decode cX9_read 7 = .ok (.iconst (-1), 1) := by decide +kernel
theorem dX9_read_8 : decode cX9_read 8 = .ok (.ireturn, 1) := by decide +kernel
theorem dX9_read_9 : decode cX9_read 9 = .ok (.aload_n 0, 1) := by decide +kernel
theorem dX9_read_10 : decode cX9_read 10 = .ok (.invokevirtual 111, 3) := by decide +kernel
theorem dX9_read_13 : decode cX9_read 13 = .ok (.istore_n 2, 1) := by decide +kernel
theorem dX9_read_14 : decode cX9_read 14 = .ok (.iload_n 2, 1) := by decide +kernel
theorem dX9_read_15 : decode cX9_read 15 = .ok (.ifCond .ge 12, 3) := by decide +kernel
theorem dX9_read_18 : decode cX9_read 18 = .ok (.sipush (-1000), 3) := by decide +kernel
theorem dX9_read_21 : decode cX9_read 21 = .ok (.aload_n 0, 1) := by decide +kernel
theorem dX9_read_22 : decode cX9_read 22 = .ok (.getfield 92, 3) := by decide +kernel
theorem dX9_read_25 : decode cX9_read 25 = .ok (.isub, 1) := by decide +kernel
theorem dX9_read_26 : decode cX9_read 26 = .ok (.ireturn, 1) := by decide +kernel
theorem dX9_read_27 : decode cX9_read 27 = .ok (.iload_n 2, 1) := by decide +kernel
theorem dX9_read_28 : decode cX9_read 28 = .ok (.bipush 30, 2) := by decide +kernel
theorem dX9_read_30 : decode cX9_read 30 = .ok (.if_icmp .le 6, 3) := by decide +kernel
theorem dX9_read_33 : decode cX9_read 33 = .ok (.bipush (-3), 2) := by decide +kernel
theorem dX9_read_35 : decode cX9_read 35 = .ok (.ireturn, 1) := by decide +kernel
theorem dX9_read_36 : decode cX9_read 36 = .ok (.aload_n 0, 1) := by decide +kernel
theorem dX9_read_37 : decode cX9_read 37 = .ok (.invokevirtual 61, 3) := by decide +kernel
theorem dX9_read_40 : decode cX9_read 40 = .ok (.aload_n 0, 1) := by decide +kernel
theorem dX9_read_41 : decode cX9_read 41 = .ok (.getfield 7, 3) := by decide +kernel
theorem dX9_read_44 : decode cX9_read 44 = .ok (.bipush 12, 2) := by decide +kernel
theorem dX9_read_46 : decode cX9_read 46 = .ok (.iload_n 1, 1) := by decide +kernel
theorem dX9_read_47 : decode cX9_read 47 = .ok (.iadd, 1) := by decide +kernel
theorem dX9_read_48 : decode cX9_read 48 = .ok (.iconst 0, 1) := by decide +kernel
theorem dX9_read_49 : decode cX9_read 49 = .ok (.iastore, 1) := by decide +kernel
theorem dX9_read_50 : decode cX9_read 50 = .ok (.aload_n 0, 1) := by decide +kernel
theorem dX9_read_51 : decode cX9_read 51 = .ok (.iconst 0, 1) := by decide +kernel
theorem dX9_read_52 : decode cX9_read 52 = .ok (.putfield 92, 3) := by decide +kernel
theorem dX9_read_55 : decode cX9_read 55 = .ok (.aload_n 0, 1) := by decide +kernel
theorem dX9_read_56 : decode cX9_read 56 = .ok (.getfield 92, 3) := by decide +kernel
theorem dX9_read_59 : decode cX9_read 59 = .ok (.aload_n 0, 1) := by decide +kernel
theorem dX9_read_60 : decode cX9_read 60 = .ok (.getfield 89, 3) := by decide +kernel
theorem dX9_read_63 : decode cX9_read 63 = .ok (.if_icmp .ge 62, 3) := by decide +kernel
theorem dX9_read_66 : decode cX9_read 66 = .ok (.aload_n 0, 1) := by decide +kernel
theorem dX9_read_67 : decode cX9_read 67 = .ok (.invokevirtual 107, 3) := by decide +kernel
theorem dX9_read_70 : decode cX9_read 70 = .ok (.pop, 1) := by decide +kernel
theorem dX9_read_71 : decode cX9_read 71 = .ok (.iconst 0, 1) := by decide +kernel
theorem dX9_read_72 : decode cX9_read 72 = .ok (.istore_n 3, 1) := by decide +kernel
theorem dX9_read_73 : decode cX9_read 73 = .ok (.iload_n 3, 1) := by decide +kernel
theorem dX9_read_74 : decode cX9_read 74 = .ok (.aload_n 0, 1) := by decide +kernel
theorem dX9_read_75 : decode cX9_read 75 = .ok (.getfield 104, 3) := by decide +kernel
theorem dX9_read_78 : decode cX9_read 78 = .ok (.if_icmp .ge 44, 3) := by decide +kernel
theorem dX9_read_81 : decode cX9_read 81 = .ok (.aload_n 0, 1) := by decide +kernel
theorem dX9_read_82 : decode cX9_read 82 = .ok (.iload_n 1, 1) := by decide +kernel
theorem dX9_read_83 : decode cX9_read 83 = .ok (.aload_n 0, 1) := by decide +kernel
theorem dX9_read_84 : decode cX9_read 84 = .ok (.getfield 7, 3) := by decide +kernel
theorem dX9_read_87 : decode cX9_read 87 = .ok (.bipush 12, 2) := by decide +kernel
theorem dX9_read_89 : decode cX9_read 89 = .ok (.iload_n 1, 1) := by decide +kernel
theorem dX9_read_90 : decode cX9_read 90 = .ok (.iadd, 1) := by decide +kernel
theorem dX9_read_91 : decode cX9_read 91 = .ok (.iaload, 1) := by decide +kernel
theorem dX9_read_92 : decode cX9_read 92 = .ok (.aload_n 0, 1) := by decide +kernel
theorem dX9_read_93 : decode cX9_read 93 = .ok (.getfield 98, 3) := by decide +kernel
theorem dX9_read_96 : decode cX9_read 96 = .ok (.aload_n 0, 1) := by decide +kernel
theorem dX9_read_97 : decode cX9_read 97 = .ok (.getfield 101, 3) := by decide +kernel
theorem dX9_read_100 : decode cX9_read 100 = .ok (.invokevirtual 25, 3) := by decide +kernel
theorem dX9_read_103 : decode cX9_read 103 = .ok (.aload_n 0, 1) := by decide +kernel
theorem dX9_read_104 : decode cX9_read 104 = .ok (.getfield 7, 3) := by decide +kernel
theorem dX9_read_107 : decode cX9_read 107 = .ok (.bipush 12, 2) := by decide +kernel
theorem dX9_read_109 : decode cX9_read 109 = .ok (.iload_n 1, 1) := by decide +kernel
theorem dX9_read_110 : decode cX9_read 110 = .ok (.iadd, 1) := by decide +kernel
theorem dX9_read_111 : decode cX9_read 111 = .ok (.dup2, 1) := by decide +kernel
theorem dX9_read_112 : decode cX9_read 112 = .ok (.iaload, 1) := by decide +kernel
theorem dX9_read_113 : decode cX9_read 113 = .ok (.iconst 1, 1) := by decide +kernel
theorem dX9_read_114 : decode cX9_read 114 = .ok (.iadd, 1) := by decide +kernel
theorem dX9_read_115 : decode cX9_read 115 = .ok (.iastore, 1) := by decide +kernel
theorem dX9_read_116 : decode cX9_read 116 = .ok (.iinc 3 1, 3) := by decide +kernel
theorem dX9_read_119 : decode cX9_read 119 = .ok (.goto (-46), 3) := by decide +kernel
theorem dX9_read_122 : decode cX9_read 122 = .ok (.goto (-67), 3) := by decide +kernel
theorem dX9_read_125 : decode cX9_read 125 = .ok (.iload_n 2, 1) := by decide +kernel
theorem dX9_read_126 : decode cX9_read 126 = .ok (.istore_n 3, 1) := by decide +kernel
theorem dX9_read_127 : decode cX9_read 127 = .ok (.iload_n 3, 1) := by decide +kernel
theorem dX9_read_128 : decode cX9_read 128 = .ok (.bipush 30, 2) := by decide +kernel
theorem dX9_read_130 : decode cX9_read 130 = .ok (.if_icmp .ge 24, 3) := by decide +kernel
theorem dX9_read_133 : decode cX9_read 133 = .ok (.aload_n 0, 1) := by decide +kernel
theorem dX9_read_134 : decode cX9_read 134 = .ok (.getfield 7, 3) := by decide +kernel
theorem dX9_read_137 : decode cX9_read 137 = .ok (.bipush 42, 2) := by decide +kernel
theorem dX9_read_139 : decode cX9_read 139 = .ok (.bipush 30, 2) := by decide +kernel
theorem dX9_read_141 : decode cX9_read 141 = .ok (.iload_n 1, 1) := by decide +kernel
theorem dX9_read_142 : decode cX9_read 142 = .ok (.imul, 1) := by decide +kernel
theorem dX9_read_143 : decode cX9_read 143 = .ok (.iadd, 1) := by decide +kernel
theorem dX9_read_144 : decode cX9_read 144 = .ok (.iload_n 3, 1) := by decide +kernel
theorem dX9_read_145 : decode cX9_read 145 = .ok (.iadd, 1) := by decide +kernel
theorem dX9_read_146 : decode cX9_read 146 = .ok (.iconst 0, 1) := by decide +kernel
theorem dX9_read_147 : decode cX9_read 147 = .ok (.iastore, 1) := by decide +kernel
theorem dX9_read_148 : decode cX9_read 148 = .ok (.iinc 3 1, 3) := by decide +kernel
theorem dX9_read_151 : decode cX9_read 151 = .ok (.goto (-24), 3) := by decide +kernel
theorem dX9_read_154 : decode cX9_read 154 = .ok (.aload_n 0, 1) := by decide +kernel
theorem dX9_read_155 : decode cX9_read 155 = .ok (.iconst 0, 1) := by decide +kernel
theorem dX9_read_156 : decode cX9_read 156 = .ok (.putfield 89, 3) := by decide +kernel
theorem dX9_read_159 : decode cX9_read 159 = .ok (.aload_n 0, 1) := by decide +kernel
theorem dX9_read_160 : decode cX9_read 160 = .ok (.iload_n 1, 1) := by decide +kernel
theorem dX9_read_161 : decode cX9_read 161 = .ok (.invokevirtual 67, 3) := by decide +kernel
theorem dX9_read_164 : decode cX9_read 164 = .ok (.aload_n 0, 1) := by decide +kernel
theorem dX9_read_165 : decode cX9_read 165 = .ok (.iload_n 2, 1) := by decide +kernel
theorem dX9_read_166 : decode cX9_read 166 = .ok (.invokevirtual 71, 3) := by decide +kernel
theorem dX9_read_169 : decode cX9_read 169 = .ok (.ireturn, 1) := by decide +kernel
theorem dX9_contracts_0 : decode cX9_contracts 0 = .ok (.iconst 0, 1) := by decide +kernel
theorem dX9_contracts_1 : decode cX9_contracts 1 = .ok (.istore_n 1, 1) := by decide +kernel
theorem dX9_contracts_2 : decode cX9_contracts 2 = .ok (.iconst 0, 1) := by decide +kernel
theorem dX9_contracts_3 : decode cX9_contracts 3 = .ok (.istore_n 2, 1) := by decide +kernel
theorem dX9_contracts_4 : decode cX9_contracts 4 = .ok (.iload_n 2, 1) := by decide +kernel
theorem dX9_contracts_5 : decode cX9_contracts 5 = .ok (.bipush 6, 2) := by decide +kernel
theorem dX9_contracts_7 : decode cX9_contracts 7 = .ok (.if_icmp .ge 18, 3) := by decide +kernel
theorem dX9_contracts_10 : decode cX9_contracts 10 = .ok (.iload_n 1, 1) := by decide +kernel
theorem dX9_contracts_11 : decode cX9_contracts 11 = .ok (.aload_n 0, 1) := by decide +kernel
theorem dX9_contracts_12 : decode cX9_contracts 12 = .ok (.iload_n 2, 1) := by decide +kernel
theorem dX9_contracts_13 : decode cX9_contracts 13 = .ok (.iconst 0, 1) := by decide +kernel
theorem dX9_contracts_14 : decode cX9_contracts 14 = .ok (.invokevirtual 64, 3) := by decide +kernel
theorem dX9_contracts_17 : decode cX9_contracts 17 = .ok (.iadd, 1) := by decide +kernel
theorem dX9_contracts_18 : decode cX9_contracts 18 = .ok (.istore_n 1, 1) := by decide +kernel
theorem dX9_contracts_19 : decode cX9_contracts 19 = .ok (.iinc 2 1, 3) := by decide +kernel
theorem dX9_contracts_22 : decode cX9_contracts 22 = .ok (.goto (-18), 3) := by decide +kernel
theorem dX9_contracts_25 : decode cX9_contracts 25 = .ok (.iload_n 1, 1) := by decide +kernel
theorem dX9_contracts_26 : decode cX9_contracts 26 = .ok (.ireturn, 1) := by decide +kernel
theorem dX9_count_0 : decode cX9_count 0 = .ok (.iload_n 1, 1) := by decide +kernel
theorem dX9_count_1 : decode cX9_count 1 = .ok (.tableswitch 180 0 17 #[87, 94, 104, 123, 123, 123, 123, 123, 123, 134, 139, 139, 139, 139, 139, 152, 170, 175], 87) := by decide +kernel
theorem dX9_count_88 : decode cX9_count 88 = .ok (.aload_n 0, 1) := by decide +kernel
theorem dX9_count_89 : decode cX9_count 89 = .ok (.getfield 7, 3) := by decide +kernel
theorem dX9_count_92 : decode cX9_count 92 = .ok (.iconst 0, 1) := by decide +kernel
theorem dX9_count_93 : decode cX9_count 93 = .ok (.iaload, 1) := by decide +kernel
theorem dX9_count_94 : decode cX9_count 94 = .ok (.ireturn, 1) := by decide +kernel
theorem dX9_count_95 : decode cX9_count 95 = .ok (.aload_n 0, 1) := by decide +kernel
theorem dX9_count_96 : decode cX9_count 96 = .ok (.getfield 7, 3) := by decide +kernel
theorem dX9_count_99 : decode cX9_count 99 = .ok (.iconst 0, 1) := by decide +kernel
theorem dX9_count_100 : decode cX9_count 100 = .ok (.iaload, 1) := by decide +kernel
theorem dX9_count_101 : decode cX9_count 101 = .ok (.bipush 52, 2) := by decide +kernel
theorem dX9_count_103 : decode cX9_count 103 = .ok (.irem, 1) := by decide +kernel
theorem dX9_count_104 : decode cX9_count 104 = .ok (.ireturn, 1) := by decide +kernel
theorem dX9_count_105 : decode cX9_count 105 = .ok (.aload_n 0, 1) := by decide +kernel
theorem dX9_count_106 : decode cX9_count 106 = .ok (.aload_n 0, 1) := by decide +kernel
theorem dX9_count_107 : decode cX9_count 107 = .ok (.getfield 7, 3) := by decide +kernel
theorem dX9_count_110 : decode cX9_count 110 = .ok (.iconst 0, 1) := by decide +kernel
theorem dX9_count_111 : decode cX9_count 111 = .ok (.iaload, 1) := by decide +kernel
theorem dX9_count_112 : decode cX9_count 112 = .ok (.invokevirtual 55, 3) := by decide +kernel
theorem dX9_count_115 : decode cX9_count 115 = .ok (.ifCond .eq 7, 3) := by decide +kernel
theorem dX9_count_118 : decode cX9_count 118 = .ok (.iconst 1, 1) := by decide +kernel
theorem dX9_count_119 : decode cX9_count 119 = .ok (.goto 4, 3) := by decide +kernel
theorem dX9_count_122 : decode cX9_count 122 = .ok (.iconst 0, 1) := by decide +kernel
theorem dX9_count_123 : decode cX9_count 123 = .ok (.ireturn, 1) := by decide +kernel
theorem dX9_count_124 : decode cX9_count 124 = .ok (.aload_n 0, 1) := by decide +kernel
theorem dX9_count_125 : decode cX9_count 125 = .ok (.getfield 7, 3) := by decide +kernel
theorem dX9_count_128 : decode cX9_count 128 = .ok (.iconst 1, 1) := by decide +kernel
theorem dX9_count_129 : decode cX9_count 129 = .ok (.iload_n 1, 1) := by decide +kernel
theorem dX9_count_130 : decode cX9_count 130 = .ok (.iadd, 1) := by decide +kernel
theorem dX9_count_131 : decode cX9_count 131 = .ok (.iconst 3, 1) := by decide +kernel
theorem dX9_count_132 : decode cX9_count 132 = .ok (.isub, 1) := by decide +kernel
theorem dX9_count_133 : decode cX9_count 133 = .ok (.iaload, 1) := by decide +kernel
theorem dX9_count_134 : decode cX9_count 134 = .ok (.ireturn, 1) := by decide +kernel
theorem dX9_count_135 : decode cX9_count 135 = .ok (.aload_n 0, 1) := by decide +kernel
theorem dX9_count_136 : decode cX9_count 136 = .ok (.invokevirtual 114, 3) := by decide +kernel
theorem dX9_count_139 : decode cX9_count 139 = .ok (.ireturn, 1) := by decide +kernel
theorem dX9_count_140 : decode cX9_count 140 = .ok (.aload_n 0, 1) := by decide +kernel
theorem dX9_count_141 : decode cX9_count 141 = .ok (.getfield 7, 3) := by decide +kernel
theorem dX9_count_144 : decode cX9_count 144 = .ok (.bipush 7, 2) := by decide +kernel
theorem dX9_count_146 : decode cX9_count 146 = .ok (.iload_n 1, 1) := by decide +kernel
theorem dX9_count_147 : decode cX9_count 147 = .ok (.iadd, 1) := by decide +kernel
theorem dX9_count_148 : decode cX9_count 148 = .ok (.bipush 10, 2) := by decide +kernel
theorem dX9_count_150 : decode cX9_count 150 = .ok (.isub, 1) := by decide +kernel
theorem dX9_count_151 : decode cX9_count 151 = .ok (.iaload, 1) := by decide +kernel
theorem dX9_count_152 : decode cX9_count 152 = .ok (.ireturn, 1) := by decide +kernel
theorem dX9_count_153 : decode cX9_count 153 = .ok (.aload_n 0, 1) := by decide +kernel
theorem dX9_count_154 : decode cX9_count 154 = .ok (.getfield 7, 3) := by decide +kernel
theorem dX9_count_157 : decode cX9_count 157 = .ok (.sipush 222, 3) := by decide +kernel
theorem dX9_count_160 : decode cX9_count 160 = .ok (.iaload, 1) := by decide +kernel
theorem dX9_count_161 : decode cX9_count 161 = .ok (.aload_n 0, 1) := by decide +kernel
theorem dX9_count_162 : decode cX9_count 162 = .ok (.getfield 7, 3) := by decide +kernel
theorem dX9_count_165 : decode cX9_count 165 = .ok (.sipush 445, 3) := by decide +kernel
theorem dX9_count_168 : decode cX9_count 168 = .ok (.iaload, 1) := by decide +kernel
theorem dX9_count_169 : decode cX9_count 169 = .ok (.iadd, 1) := by decide +kernel
theorem dX9_count_170 : decode cX9_count 170 = .ok (.ireturn, 1) := by decide +kernel
theorem dX9_count_171 : decode cX9_count 171 = .ok (.aload_n 0, 1) := by decide +kernel
theorem dX9_count_172 : decode cX9_count 172 = .ok (.getfield 41, 3) := by decide +kernel
theorem dX9_count_175 : decode cX9_count 175 = .ok (.ireturn, 1) := by decide +kernel
theorem dX9_count_176 : decode cX9_count 176 = .ok (.aload_n 0, 1) := by decide +kernel
theorem dX9_count_177 : decode cX9_count 177 = .ok (.getfield 89, 3) := by decide +kernel
theorem dX9_count_180 : decode cX9_count 180 = .ok (.ireturn, 1) := by decide +kernel
theorem dX9_count_181 : decode cX9_count 181 = .ok (.iconst (-1), 1) := by decide +kernel
theorem dX9_count_182 : decode cX9_count 182 = .ok (.ireturn, 1) := by decide +kernel
theorem dX9_longest_0 : decode cX9_longest 0 = .ok (.iconst 0, 1) := by decide +kernel
theorem dX9_longest_1 : decode cX9_longest 1 = .ok (.istore_n 2, 1) := by decide +kernel
theorem dX9_longest_2 : decode cX9_longest 2 = .ok (.iconst 0, 1) := by decide +kernel
theorem dX9_longest_3 : decode cX9_longest 3 = .ok (.istore_n 3, 1) := by decide +kernel
theorem dX9_longest_4 : decode cX9_longest 4 = .ok (.iconst 0, 1) := by decide +kernel
theorem dX9_longest_5 : decode cX9_longest 5 = .ok (.istore 4, 2) := by decide +kernel
theorem dX9_longest_7 : decode cX9_longest 7 = .ok (.iload 4, 2) := by decide +kernel
theorem dX9_longest_9 : decode cX9_longest 9 = .ok (.aload_n 0, 1) := by decide +kernel
theorem dX9_longest_10 : decode cX9_longest 10 = .ok (.getfield 7, 3) := by decide +kernel
theorem dX9_longest_13 : decode cX9_longest 13 = .ok (.bipush 12, 2) := by decide +kernel
theorem dX9_longest_15 : decode cX9_longest 15 = .ok (.iload_n 1, 1) := by decide +kernel
theorem dX9_longest_16 : decode cX9_longest 16 = .ok (.iadd, 1) := by decide +kernel
theorem dX9_longest_17 : decode cX9_longest 17 = .ok (.iaload, 1) := by decide +kernel
theorem dX9_longest_18 : decode cX9_longest 18 = .ok (.if_icmp .ge 62, 3) := by decide +kernel
theorem dX9_longest_21 : decode cX9_longest 21 = .ok (.aload_n 0, 1) := by decide +kernel
theorem dX9_longest_22 : decode cX9_longest 22 = .ok (.iload_n 1, 1) := by decide +kernel
theorem dX9_longest_23 : decode cX9_longest 23 = .ok (.iload 4, 2) := by decide +kernel
theorem dX9_longest_25 : decode cX9_longest 25 = .ok (.invokevirtual 37, 3) := by decide +kernel
theorem dX9_longest_28 : decode cX9_longest 28 = .ok (.iconst 1, 1) := by decide +kernel
theorem dX9_longest_29 : decode cX9_longest 29 = .ok (.if_icmp .ne 9, 3) := by decide +kernel
theorem dX9_longest_32 : decode cX9_longest 32 = .ok (.iload_n 3, 1) := by decide +kernel
theorem dX9_longest_33 : decode cX9_longest 33 = .ok (.iconst 1, 1) := by decide +kernel
theorem dX9_longest_34 : decode cX9_longest 34 = .ok (.iadd, 1) := by decide +kernel
theorem dX9_longest_35 : decode cX9_longest 35 = .ok (.goto 4, 3) := by decide +kernel
theorem dX9_longest_38 : decode cX9_longest 38 = .ok (.iconst 0, 1) := by decide +kernel
theorem dX9_longest_39 : decode cX9_longest 39 = .ok (.istore_n 3, 1) := by decide +kernel
theorem dX9_longest_40 : decode cX9_longest 40 = .ok (.iload_n 3, 1) := by decide +kernel
theorem dX9_longest_41 : decode cX9_longest 41 = .ok (.ifCond .ne 7, 3) := by decide +kernel
theorem dX9_longest_44 : decode cX9_longest 44 = .ok (.iconst 0, 1) := by decide +kernel
theorem dX9_longest_45 : decode cX9_longest 45 = .ok (.goto 14, 3) := by decide +kernel
theorem dX9_longest_48 : decode cX9_longest 48 = .ok (.bipush 100, 2) := by decide +kernel
theorem dX9_longest_50 : decode cX9_longest 50 = .ok (.iload_n 3, 1) := by decide +kernel
theorem dX9_longest_51 : decode cX9_longest 51 = .ok (.imul, 1) := by decide +kernel
theorem dX9_longest_52 : decode cX9_longest 52 = .ok (.iload 4, 2) := by decide +kernel
theorem dX9_longest_54 : decode cX9_longest 54 = .ok (.iconst 1, 1) := by decide +kernel
theorem dX9_longest_55 : decode cX9_longest 55 = .ok (.iadd, 1) := by decide +kernel
theorem dX9_longest_56 : decode cX9_longest 56 = .ok (.iload_n 3, 1) := by decide +kernel
theorem dX9_longest_57 : decode cX9_longest 57 = .ok (.isub, 1) := by decide +kernel
theorem dX9_longest_58 : decode cX9_longest 58 = .ok (.isub, 1) := by decide +kernel
theorem dX9_longest_59 : decode cX9_longest 59 = .ok (.istore 5, 2) := by decide +kernel
theorem dX9_longest_61 : decode cX9_longest 61 = .ok (.iload 5, 2) := by decide +kernel
theorem dX9_longest_63 : decode cX9_longest 63 = .ok (.iload_n 2, 1) := by decide +kernel
theorem dX9_longest_64 : decode cX9_longest 64 = .ok (.if_icmp .le 8, 3) := by decide +kernel
theorem dX9_longest_67 : decode cX9_longest 67 = .ok (.iload 5, 2) := by decide +kernel
theorem dX9_longest_69 : decode cX9_longest 69 = .ok (.goto 4, 3) := by decide +kernel
theorem dX9_longest_72 : decode cX9_longest 72 = .ok (.iload_n 2, 1) := by decide +kernel
theorem dX9_longest_73 : decode cX9_longest 73 = .ok (.istore_n 2, 1) := by decide +kernel
theorem dX9_longest_74 : decode cX9_longest 74 = .ok (.iinc 4 1, 3) := by decide +kernel
theorem dX9_longest_77 : decode cX9_longest 77 = .ok (.goto (-70), 3) := by decide +kernel
theorem dX9_longest_80 : decode cX9_longest 80 = .ok (.iload_n 2, 1) := by decide +kernel
theorem dX9_longest_81 : decode cX9_longest 81 = .ok (.ireturn, 1) := by decide +kernel
theorem dX9_field_0 : decode cX9_field 0 = .ok (.iload_n 1, 1) := by decide +kernel
theorem dX9_field_1 : decode cX9_field 1 = .ok (.invokestatic 33, 3) := by decide +kernel
theorem dX9_field_4 : decode cX9_field 4 = .ok (.ifCond .eq 13, 3) := by decide +kernel
theorem dX9_field_7 : decode cX9_field 7 = .ok (.iload_n 2, 1) := by decide +kernel
theorem dX9_field_8 : decode cX9_field 8 = .ok (.iconst 0, 1) := by decide +kernel
theorem dX9_field_9 : decode cX9_field 9 = .ok (.bipush 10, 2) := by decide +kernel
theorem dX9_field_11 : decode cX9_field 11 = .ok (.invokestatic 29, 3) := by decide +kernel
theorem dX9_field_14 : decode cX9_field 14 = .ok (.ifCond .ne 5, 3) := by decide +kernel
theorem dX9_field_17 : decode cX9_field 17 = .ok (.iconst (-1), 1) := by decide +kernel
theorem dX9_field_18 : decode cX9_field 18 = .ok (.ireturn, 1) := by decide +kernel
theorem dX9_field_19 : decode cX9_field 19 = .ok (.aload_n 0, 1) := by decide +kernel
theorem dX9_field_20 : decode cX9_field 20 = .ok (.iload_n 1, 1) := by decide +kernel
theorem dX9_field_21 : decode cX9_field 21 = .ok (.invokevirtual 117, 3) := by decide +kernel
theorem dX9_field_24 : decode cX9_field 24 = .ok (.istore_n 3, 1) := by decide +kernel
theorem dX9_field_25 : decode cX9_field 25 = .ok (.iload_n 3, 1) := by decide +kernel
theorem dX9_field_26 : decode cX9_field 26 = .ok (.bipush 99, 2) := by decide +kernel
theorem dX9_field_28 : decode cX9_field 28 = .ok (.iadd, 1) := by decide +kernel
theorem dX9_field_29 : decode cX9_field 29 = .ok (.bipush 100, 2) := by decide +kernel
theorem dX9_field_31 : decode cX9_field 31 = .ok (.idiv, 1) := by decide +kernel
theorem dX9_field_32 : decode cX9_field 32 = .ok (.istore 4, 2) := by decide +kernel
theorem dX9_field_34 : decode cX9_field 34 = .ok (.iload_n 2, 1) := by decide +kernel
theorem dX9_field_35 : decode cX9_field 35 = .ok (.tableswitch 92 0 7 #[45, 55, 55, 55, 55, 64, 67, 85], 45) := by decide +kernel
theorem dX9_field_80 : decode cX9_field 80 = .ok (.aload_n 0, 1) := by decide +kernel
theorem dX9_field_81 : decode cX9_field 81 = .ok (.getfield 7, 3) := by decide +kernel
theorem dX9_field_84 : decode cX9_field 84 = .ok (.bipush 12, 2) := by decide +kernel
theorem dX9_field_86 : decode cX9_field 86 = .ok (.iload_n 1, 1) := by decide +kernel
theorem dX9_field_87 : decode cX9_field 87 = .ok (.iadd, 1) := by decide +kernel
theorem dX9_field_88 : decode cX9_field 88 = .ok (.iaload, 1) := by decide +kernel
theorem dX9_field_89 : decode cX9_field 89 = .ok (.ireturn, 1) := by decide +kernel
theorem dX9_field_90 : decode cX9_field 90 = .ok (.aload_n 0, 1) := by decide +kernel
theorem dX9_field_91 : decode cX9_field 91 = .ok (.iload_n 1, 1) := by decide +kernel
theorem dX9_field_92 : decode cX9_field 92 = .ok (.iload_n 2, 1) := by decide +kernel
theorem dX9_field_93 : decode cX9_field 93 = .ok (.iconst 1, 1) := by decide +kernel
theorem dX9_field_94 : decode cX9_field 94 = .ok (.isub, 1) := by decide +kernel
theorem dX9_field_95 : decode cX9_field 95 = .ok (.invokevirtual 45, 3) := by decide +kernel
theorem dX9_field_98 : decode cX9_field 98 = .ok (.ireturn, 1) := by decide +kernel
theorem dX9_field_99 : decode cX9_field 99 = .ok (.iload 4, 2) := by decide +kernel
theorem dX9_field_101 : decode cX9_field 101 = .ok (.ireturn, 1) := by decide +kernel
theorem dX9_field_102 : decode cX9_field 102 = .ok (.iload 4, 2) := by decide +kernel
theorem dX9_field_104 : decode cX9_field 104 = .ok (.ifCond .ne 8, 3) := by decide +kernel
theorem dX9_field_107 : decode cX9_field 107 = .ok (.bipush (-9), 2) := by decide +kernel
theorem dX9_field_109 : decode cX9_field 109 = .ok (.goto 10, 3) := by decide +kernel
theorem dX9_field_112 : decode cX9_field 112 = .ok (.bipush 100, 2) := by decide +kernel
theorem dX9_field_114 : decode cX9_field 114 = .ok (.iload 4, 2) := by decide +kernel
theorem dX9_field_116 : decode cX9_field 116 = .ok (.imul, 1) := by decide +kernel
theorem dX9_field_117 : decode cX9_field 117 = .ok (.iload_n 3, 1) := by decide +kernel
theorem dX9_field_118 : decode cX9_field 118 = .ok (.isub, 1) := by decide +kernel
theorem dX9_field_119 : decode cX9_field 119 = .ok (.ireturn, 1) := by decide +kernel
theorem dX9_field_120 : decode cX9_field 120 = .ok (.aload_n 0, 1) := by decide +kernel
theorem dX9_field_121 : decode cX9_field 121 = .ok (.iload_n 1, 1) := by decide +kernel
theorem dX9_field_122 : decode cX9_field 122 = .ok (.iconst 0, 1) := by decide +kernel
theorem dX9_field_123 : decode cX9_field 123 = .ok (.invokevirtual 64, 3) := by decide +kernel
theorem dX9_field_126 : decode cX9_field 126 = .ok (.ireturn, 1) := by decide +kernel
theorem dX9_field_127 : decode cX9_field 127 = .ok (.aload_n 0, 1) := by decide +kernel
theorem dX9_field_128 : decode cX9_field 128 = .ok (.iload_n 1, 1) := by decide +kernel
theorem dX9_field_129 : decode cX9_field 129 = .ok (.iconst 0, 1) := by decide +kernel
theorem dX9_field_130 : decode cX9_field 130 = .ok (.invokevirtual 64, 3) := by decide +kernel
theorem dX9_field_133 : decode cX9_field 133 = .ok (.iconst 1, 1) := by decide +kernel
theorem dX9_field_134 : decode cX9_field 134 = .ok (.if_icmp .ne 15, 3) := by decide +kernel
theorem dX9_field_137 : decode cX9_field 137 = .ok (.aload_n 0, 1) := by decide +kernel
theorem dX9_field_138 : decode cX9_field 138 = .ok (.iload_n 1, 1) := by decide +kernel
theorem dX9_field_139 : decode cX9_field 139 = .ok (.iload_n 2, 1) := by decide +kernel
theorem dX9_field_140 : decode cX9_field 140 = .ok (.bipush 7, 2) := by decide +kernel
theorem dX9_field_142 : decode cX9_field 142 = .ok (.isub, 1) := by decide +kernel
theorem dX9_field_143 : decode cX9_field 143 = .ok (.invokevirtual 64, 3) := by decide +kernel
theorem dX9_field_146 : decode cX9_field 146 = .ok (.goto 5, 3) := by decide +kernel
theorem dX9_field_149 : decode cX9_field 149 = .ok (.bipush (-9), 2) := by decide +kernel
theorem dX9_field_151 : decode cX9_field 151 = .ok (.ireturn, 1) := by decide +kernel
theorem dX9_chain_0 : decode cX9_chain 0 = .ok (.aload_n 0, 1) := by decide +kernel
theorem dX9_chain_1 : decode cX9_chain 1 = .ok (.iload_n 1, 1) := by decide +kernel
theorem dX9_chain_2 : decode cX9_chain 2 = .ok (.iload_n 2, 1) := by decide +kernel
theorem dX9_chain_3 : decode cX9_chain 3 = .ok (.invokevirtual 51, 3) := by decide +kernel
theorem dX9_chain_6 : decode cX9_chain 6 = .ok (.ifCond .eq 12, 3) := by decide +kernel
theorem dX9_chain_9 : decode cX9_chain 9 = .ok (.iload_n 3, 1) := by decide +kernel
theorem dX9_chain_10 : decode cX9_chain 10 = .ok (.iconst 0, 1) := by decide +kernel
theorem dX9_chain_11 : decode cX9_chain 11 = .ok (.iconst 2, 1) := by decide +kernel
theorem dX9_chain_12 : decode cX9_chain 12 = .ok (.invokestatic 29, 3) := by decide +kernel
theorem dX9_chain_15 : decode cX9_chain 15 = .ok (.ifCond .ne 5, 3) := by decide +kernel
theorem dX9_chain_18 : decode cX9_chain 18 = .ok (.iconst (-1), 1) := by decide +kernel
theorem dX9_chain_19 : decode cX9_chain 19 = .ok (.ireturn, 1) := by decide +kernel
theorem dX9_chain_20 : decode cX9_chain 20 = .ok (.iload_n 3, 1) := by decide +kernel
theorem dX9_chain_21 : decode cX9_chain 21 = .ok (.ifCond .ne 12, 3) := by decide +kernel
theorem dX9_chain_24 : decode cX9_chain 24 = .ok (.aload_n 0, 1) := by decide +kernel
theorem dX9_chain_25 : decode cX9_chain 25 = .ok (.iload_n 1, 1) := by decide +kernel
theorem dX9_chain_26 : decode cX9_chain 26 = .ok (.iload_n 2, 1) := by decide +kernel
theorem dX9_chain_27 : decode cX9_chain 27 = .ok (.invokevirtual 37, 3) := by decide +kernel
theorem dX9_chain_30 : decode cX9_chain 30 = .ok (.goto 23, 3) := by decide +kernel
theorem dX9_chain_33 : decode cX9_chain 33 = .ok (.iload_n 3, 1) := by decide +kernel
theorem dX9_chain_34 : decode cX9_chain 34 = .ok (.iconst 1, 1) := by decide +kernel
theorem dX9_chain_35 : decode cX9_chain 35 = .ok (.if_icmp .ne 12, 3) := by decide +kernel
theorem dX9_chain_38 : decode cX9_chain 38 = .ok (.aload_n 0, 1) := by decide +kernel
theorem dX9_chain_39 : decode cX9_chain 39 = .ok (.iload_n 1, 1) := by decide +kernel
theorem dX9_chain_40 : decode cX9_chain 40 = .ok (.iload_n 2, 1) := by decide +kernel
theorem dX9_chain_41 : decode cX9_chain 41 = .ok (.invokevirtual 48, 3) := by decide +kernel
theorem dX9_chain_44 : decode cX9_chain 44 = .ok (.goto 9, 3) := by decide +kernel
theorem dX9_chain_47 : decode cX9_chain 47 = .ok (.aload_n 0, 1) := by decide +kernel
theorem dX9_chain_48 : decode cX9_chain 48 = .ok (.iload_n 1, 1) := by decide +kernel
theorem dX9_chain_49 : decode cX9_chain 49 = .ok (.iload_n 2, 1) := by decide +kernel
theorem dX9_chain_50 : decode cX9_chain 50 = .ok (.invokevirtual 75, 3) := by decide +kernel
theorem dX9_chain_53 : decode cX9_chain 53 = .ok (.ireturn, 1) := by decide +kernel
theorem dX9_takes_0 : decode cX9_takes 0 = .ok (.aload_n 0, 1) := by decide +kernel
theorem dX9_takes_1 : decode cX9_takes 1 = .ok (.iload_n 1, 1) := by decide +kernel
theorem dX9_takes_2 : decode cX9_takes 2 = .ok (.iload_n 2, 1) := by decide +kernel
theorem dX9_takes_3 : decode cX9_takes 3 = .ok (.invokevirtual 48, 3) := by decide +kernel
theorem dX9_takes_6 : decode cX9_takes 6 = .ok (.istore_n 3, 1) := by decide +kernel
theorem dX9_takes_7 : decode cX9_takes 7 = .ok (.aload_n 0, 1) := by decide +kernel
theorem dX9_takes_8 : decode cX9_takes 8 = .ok (.iload_n 1, 1) := by decide +kernel
theorem dX9_takes_9 : decode cX9_takes 9 = .ok (.iload_n 2, 1) := by decide +kernel
theorem dX9_takes_10 : decode cX9_takes 10 = .ok (.invokevirtual 37, 3) := by decide +kernel
theorem dX9_takes_13 : decode cX9_takes 13 = .ok (.ifCond .ne 12, 3) := by decide +kernel
theorem dX9_takes_16 : decode cX9_takes 16 = .ok (.iload_n 3, 1) := by decide +kernel
theorem dX9_takes_17 : decode cX9_takes 17 = .ok (.iconst 2, 1) := by decide +kernel
theorem dX9_takes_18 : decode cX9_takes 18 = .ok (.if_icmp .lt 7, 3) := by decide +kernel
theorem dX9_takes_21 : decode cX9_takes 21 = .ok (.iload_n 3, 1) := by decide +kernel
theorem dX9_takes_22 : decode cX9_takes 22 = .ok (.goto 4, 3) := by decide +kernel
theorem dX9_takes_25 : decode cX9_takes 25 = .ok (.iconst 0, 1) := by decide +kernel
theorem dX9_takes_26 : decode cX9_takes 26 = .ok (.ireturn, 1) := by decide +kernel
theorem dX9_workOf_0 : decode cX9_workOf 0 = .ok (.iconst 0, 1) := by decide +kernel
theorem dX9_workOf_1 : decode cX9_workOf 1 = .ok (.istore_n 2, 1) := by decide +kernel
theorem dX9_workOf_2 : decode cX9_workOf 2 = .ok (.iconst 0, 1) := by decide +kernel
theorem dX9_workOf_3 : decode cX9_workOf 3 = .ok (.istore_n 3, 1) := by decide +kernel
theorem dX9_workOf_4 : decode cX9_workOf 4 = .ok (.iload_n 3, 1) := by decide +kernel
theorem dX9_workOf_5 : decode cX9_workOf 5 = .ok (.aload_n 0, 1) := by decide +kernel
theorem dX9_workOf_6 : decode cX9_workOf 6 = .ok (.getfield 7, 3) := by decide +kernel
theorem dX9_workOf_9 : decode cX9_workOf 9 = .ok (.bipush 12, 2) := by decide +kernel
theorem dX9_workOf_11 : decode cX9_workOf 11 = .ok (.iload_n 1, 1) := by decide +kernel
theorem dX9_workOf_12 : decode cX9_workOf 12 = .ok (.iadd, 1) := by decide +kernel
theorem dX9_workOf_13 : decode cX9_workOf 13 = .ok (.iaload, 1) := by decide +kernel
theorem dX9_workOf_14 : decode cX9_workOf 14 = .ok (.if_icmp .ge 18, 3) := by decide +kernel
theorem dX9_workOf_17 : decode cX9_workOf 17 = .ok (.iload_n 2, 1) := by decide +kernel
theorem dX9_workOf_18 : decode cX9_workOf 18 = .ok (.aload_n 0, 1) := by decide +kernel
theorem dX9_workOf_19 : decode cX9_workOf 19 = .ok (.iload_n 1, 1) := by decide +kernel
theorem dX9_workOf_20 : decode cX9_workOf 20 = .ok (.iload_n 3, 1) := by decide +kernel
theorem dX9_workOf_21 : decode cX9_workOf 21 = .ok (.invokevirtual 120, 3) := by decide +kernel
theorem dX9_workOf_24 : decode cX9_workOf 24 = .ok (.iadd, 1) := by decide +kernel
theorem dX9_workOf_25 : decode cX9_workOf 25 = .ok (.istore_n 2, 1) := by decide +kernel
theorem dX9_workOf_26 : decode cX9_workOf 26 = .ok (.iinc 3 1, 3) := by decide +kernel
theorem dX9_workOf_29 : decode cX9_workOf 29 = .ok (.goto (-25), 3) := by decide +kernel
theorem dX9_workOf_32 : decode cX9_workOf 32 = .ok (.iload_n 2, 1) := by decide +kernel
theorem dX9_workOf_33 : decode cX9_workOf 33 = .ok (.ireturn, 1) := by decide +kernel
theorem dX9_toLay_0 : decode cX9_toLay 0 = .ok (.iload_n 1, 1) := by decide +kernel
theorem dX9_toLay_1 : decode cX9_toLay 1 = .ok (.invokestatic 33, 3) := by decide +kernel
theorem dX9_toLay_4 : decode cX9_toLay 4 = .ok (.ifCond .eq 12, 3) := by decide +kernel
theorem dX9_toLay_7 : decode cX9_toLay 7 = .ok (.iload_n 2, 1) := by decide +kernel
theorem dX9_toLay_8 : decode cX9_toLay 8 = .ok (.iconst 0, 1) := by decide +kernel
theorem dX9_toLay_9 : decode cX9_toLay 9 = .ok (.iconst 1, 1) := by decide +kernel
theorem dX9_toLay_10 : decode cX9_toLay 10 = .ok (.invokestatic 29, 3) := by decide +kernel
theorem dX9_toLay_13 : decode cX9_toLay 13 = .ok (.ifCond .ne 5, 3) := by decide +kernel
theorem dX9_toLay_16 : decode cX9_toLay 16 = .ok (.iconst (-1), 1) := by decide +kernel
theorem dX9_toLay_17 : decode cX9_toLay 17 = .ok (.ireturn, 1) := by decide +kernel
theorem dX9_toLay_18 : decode cX9_toLay 18 = .ok (.iconst 0, 1) := by decide +kernel
theorem dX9_toLay_19 : decode cX9_toLay 19 = .ok (.istore_n 3, 1) := by decide +kernel
theorem dX9_toLay_20 : decode cX9_toLay 20 = .ok (.iconst 0, 1) := by decide +kernel
theorem dX9_toLay_21 : decode cX9_toLay 21 = .ok (.istore 4, 2) := by decide +kernel
theorem dX9_toLay_23 : decode cX9_toLay 23 = .ok (.iload 4, 2) := by decide +kernel
theorem dX9_toLay_25 : decode cX9_toLay 25 = .ok (.aload_n 0, 1) := by decide +kernel
theorem dX9_toLay_26 : decode cX9_toLay 26 = .ok (.getfield 7, 3) := by decide +kernel
theorem dX9_toLay_29 : decode cX9_toLay 29 = .ok (.bipush 12, 2) := by decide +kernel
theorem dX9_toLay_31 : decode cX9_toLay 31 = .ok (.iload_n 1, 1) := by decide +kernel
theorem dX9_toLay_32 : decode cX9_toLay 32 = .ok (.iadd, 1) := by decide +kernel
theorem dX9_toLay_33 : decode cX9_toLay 33 = .ok (.iaload, 1) := by decide +kernel
theorem dX9_toLay_34 : decode cX9_toLay 34 = .ok (.if_icmp .ge 27, 3) := by decide +kernel
theorem dX9_toLay_37 : decode cX9_toLay 37 = .ok (.iload_n 3, 1) := by decide +kernel
theorem dX9_toLay_38 : decode cX9_toLay 38 = .ok (.aload_n 0, 1) := by decide +kernel
theorem dX9_toLay_39 : decode cX9_toLay 39 = .ok (.iload_n 1, 1) := by decide +kernel
theorem dX9_toLay_40 : decode cX9_toLay 40 = .ok (.iload 4, 2) := by decide +kernel
theorem dX9_toLay_42 : decode cX9_toLay 42 = .ok (.invokevirtual 120, 3) := by decide +kernel
theorem dX9_toLay_45 : decode cX9_toLay 45 = .ok (.ifCond .le 7, 3) := by decide +kernel
theorem dX9_toLay_48 : decode cX9_toLay 48 = .ok (.iconst 1, 1) := by decide +kernel
theorem dX9_toLay_49 : decode cX9_toLay 49 = .ok (.goto 4, 3) := by decide +kernel
theorem dX9_toLay_52 : decode cX9_toLay 52 = .ok (.iconst 0, 1) := by decide +kernel
theorem dX9_toLay_53 : decode cX9_toLay 53 = .ok (.iadd, 1) := by decide +kernel
theorem dX9_toLay_54 : decode cX9_toLay 54 = .ok (.istore_n 3, 1) := by decide +kernel
theorem dX9_toLay_55 : decode cX9_toLay 55 = .ok (.iinc 4 1, 3) := by decide +kernel
theorem dX9_toLay_58 : decode cX9_toLay 58 = .ok (.goto (-35), 3) := by decide +kernel
theorem dX9_toLay_61 : decode cX9_toLay 61 = .ok (.iload_n 2, 1) := by decide +kernel
theorem dX9_toLay_62 : decode cX9_toLay 62 = .ok (.ifCond .ne 11, 3) := by decide +kernel
theorem dX9_toLay_65 : decode cX9_toLay 65 = .ok (.aload_n 0, 1) := by decide +kernel
theorem dX9_toLay_66 : decode cX9_toLay 66 = .ok (.iload_n 1, 1) := by decide +kernel
theorem dX9_toLay_67 : decode cX9_toLay 67 = .ok (.invokevirtual 123, 3) := by decide +kernel
theorem dX9_toLay_70 : decode cX9_toLay 70 = .ok (.goto 6, 3) := by decide +kernel
theorem dX9_toLay_73 : decode cX9_toLay 73 = .ok (.iconst 2, 1) := by decide +kernel
theorem dX9_toLay_74 : decode cX9_toLay 74 = .ok (.iload_n 3, 1) := by decide +kernel
theorem dX9_toLay_75 : decode cX9_toLay 75 = .ok (.imul, 1) := by decide +kernel
theorem dX9_toLay_76 : decode cX9_toLay 76 = .ok (.ireturn, 1) := by decide +kernel
theorem dX9_stakesIn_0 : decode cX9_stakesIn 0 = .ok (.iload_n 1, 1) := by decide +kernel
theorem dX9_stakesIn_1 : decode cX9_stakesIn 1 = .ok (.invokestatic 33, 3) := by decide +kernel
theorem dX9_stakesIn_4 : decode cX9_stakesIn 4 = .ok (.ifCond .ne 5, 3) := by decide +kernel
theorem dX9_stakesIn_7 : decode cX9_stakesIn 7 = .ok (.iconst (-1), 1) := by decide +kernel
theorem dX9_stakesIn_8 : decode cX9_stakesIn 8 = .ok (.ireturn, 1) := by decide +kernel
theorem dX9_stakesIn_9 : decode cX9_stakesIn 9 = .ok (.iconst 0, 1) := by decide +kernel
theorem dX9_stakesIn_10 : decode cX9_stakesIn 10 = .ok (.istore_n 2, 1) := by decide +kernel
theorem dX9_stakesIn_11 : decode cX9_stakesIn 11 = .ok (.iconst 0, 1) := by decide +kernel
theorem dX9_stakesIn_12 : decode cX9_stakesIn 12 = .ok (.istore_n 3, 1) := by decide +kernel
theorem dX9_stakesIn_13 : decode cX9_stakesIn 13 = .ok (.iload_n 3, 1) := by decide +kernel
theorem dX9_stakesIn_14 : decode cX9_stakesIn 14 = .ok (.aload_n 0, 1) := by decide +kernel
theorem dX9_stakesIn_15 : decode cX9_stakesIn 15 = .ok (.getfield 7, 3) := by decide +kernel
theorem dX9_stakesIn_18 : decode cX9_stakesIn 18 = .ok (.bipush 12, 2) := by decide +kernel
theorem dX9_stakesIn_20 : decode cX9_stakesIn 20 = .ok (.iload_n 1, 1) := by decide +kernel
theorem dX9_stakesIn_21 : decode cX9_stakesIn 21 = .ok (.iadd, 1) := by decide +kernel
theorem dX9_stakesIn_22 : decode cX9_stakesIn 22 = .ok (.iaload, 1) := by decide +kernel
theorem dX9_stakesIn_23 : decode cX9_stakesIn 23 = .ok (.if_icmp .ge 43, 3) := by decide +kernel
theorem dX9_stakesIn_26 : decode cX9_stakesIn 26 = .ok (.aload_n 0, 1) := by decide +kernel
theorem dX9_stakesIn_27 : decode cX9_stakesIn 27 = .ok (.iload_n 1, 1) := by decide +kernel
theorem dX9_stakesIn_28 : decode cX9_stakesIn 28 = .ok (.iload_n 3, 1) := by decide +kernel
theorem dX9_stakesIn_29 : decode cX9_stakesIn 29 = .ok (.invokevirtual 48, 3) := by decide +kernel
theorem dX9_stakesIn_32 : decode cX9_stakesIn 32 = .ok (.istore 4, 2) := by decide +kernel
theorem dX9_stakesIn_34 : decode cX9_stakesIn 34 = .ok (.aload_n 0, 1) := by decide +kernel
theorem dX9_stakesIn_35 : decode cX9_stakesIn 35 = .ok (.iload_n 1, 1) := by decide +kernel
theorem dX9_stakesIn_36 : decode cX9_stakesIn 36 = .ok (.iload_n 3, 1) := by decide +kernel
theorem dX9_stakesIn_37 : decode cX9_stakesIn 37 = .ok (.invokevirtual 37, 3) := by decide +kernel
theorem dX9_stakesIn_40 : decode cX9_stakesIn 40 = .ok (.ifCond .ne 20, 3) := by decide +kernel
theorem dX9_stakesIn_43 : decode cX9_stakesIn 43 = .ok (.iload 4, 2) := by decide +kernel
theorem dX9_stakesIn_45 : decode cX9_stakesIn 45 = .ok (.iconst 3, 1) := by decide +kernel
theorem dX9_stakesIn_46 : decode cX9_stakesIn 46 = .ok (.if_icmp .lt 14, 3) := by decide +kernel
theorem dX9_stakesIn_49 : decode cX9_stakesIn 49 = .ok (.iload_n 2, 1) := by decide +kernel
theorem dX9_stakesIn_50 : decode cX9_stakesIn 50 = .ok (.iload 4, 2) := by decide +kernel
theorem dX9_stakesIn_52 : decode cX9_stakesIn 52 = .ok (.iadd, 1) := by decide +kernel
theorem dX9_stakesIn_53 : decode cX9_stakesIn 53 = .ok (.istore_n 2, 1) := by decide +kernel
theorem dX9_stakesIn_54 : decode cX9_stakesIn 54 = .ok (.iinc 4 (-2), 3) := by decide +kernel
theorem dX9_stakesIn_57 : decode cX9_stakesIn 57 = .ok (.goto (-23), 3) := by decide +kernel
theorem dX9_stakesIn_60 : decode cX9_stakesIn 60 = .ok (.iinc 3 1, 3) := by decide +kernel
theorem dX9_stakesIn_63 : decode cX9_stakesIn 63 = .ok (.goto (-50), 3) := by decide +kernel
theorem dX9_stakesIn_66 : decode cX9_stakesIn 66 = .ok (.iload_n 2, 1) := by decide +kernel
theorem dX9_stakesIn_67 : decode cX9_stakesIn 67 = .ok (.ireturn, 1) := by decide +kernel
theorem dX9_doneIn_0 : decode cX9_doneIn 0 = .ok (.iload_n 1, 1) := by decide +kernel
theorem dX9_doneIn_1 : decode cX9_doneIn 1 = .ok (.invokestatic 33, 3) := by decide +kernel
theorem dX9_doneIn_4 : decode cX9_doneIn 4 = .ok (.ifCond .ne 5, 3) := by decide +kernel
theorem dX9_doneIn_7 : decode cX9_doneIn 7 = .ok (.iconst (-1), 1) := by decide +kernel
theorem dX9_doneIn_8 : decode cX9_doneIn 8 = .ok (.ireturn, 1) := by decide +kernel
theorem dX9_doneIn_9 : decode cX9_doneIn 9 = .ok (.iconst 0, 1) := by decide +kernel
theorem dX9_doneIn_10 : decode cX9_doneIn 10 = .ok (.istore_n 2, 1) := by decide +kernel
theorem dX9_doneIn_11 : decode cX9_doneIn 11 = .ok (.aload_n 0, 1) := by decide +kernel
theorem dX9_doneIn_12 : decode cX9_doneIn 12 = .ok (.aload_n 0, 1) := by decide +kernel
theorem dX9_doneIn_13 : decode cX9_doneIn 13 = .ok (.getfield 7, 3) := by decide +kernel
theorem dX9_doneIn_16 : decode cX9_doneIn 16 = .ok (.iconst 0, 1) := by decide +kernel
theorem dX9_doneIn_17 : decode cX9_doneIn 17 = .ok (.iaload, 1) := by decide +kernel
theorem dX9_doneIn_18 : decode cX9_doneIn 18 = .ok (.invokevirtual 55, 3) := by decide +kernel
theorem dX9_doneIn_21 : decode cX9_doneIn 21 = .ok (.ifCond .eq 7, 3) := by decide +kernel
theorem dX9_doneIn_24 : decode cX9_doneIn 24 = .ok (.iconst 0, 1) := by decide +kernel
theorem dX9_doneIn_25 : decode cX9_doneIn 25 = .ok (.goto 9, 3) := by decide +kernel
theorem dX9_doneIn_28 : decode cX9_doneIn 28 = .ok (.aload_n 0, 1) := by decide +kernel
theorem dX9_doneIn_29 : decode cX9_doneIn 29 = .ok (.getfield 7, 3) := by decide +kernel
theorem dX9_doneIn_32 : decode cX9_doneIn 32 = .ok (.iconst 1, 1) := by decide +kernel
theorem dX9_doneIn_33 : decode cX9_doneIn 33 = .ok (.iaload, 1) := by decide +kernel
theorem dX9_doneIn_34 : decode cX9_doneIn 34 = .ok (.istore_n 3, 1) := by decide +kernel
theorem dX9_doneIn_35 : decode cX9_doneIn 35 = .ok (.iconst 0, 1) := by decide +kernel
theorem dX9_doneIn_36 : decode cX9_doneIn 36 = .ok (.istore 4, 2) := by decide +kernel
theorem dX9_doneIn_38 : decode cX9_doneIn 38 = .ok (.iload 4, 2) := by decide +kernel
theorem dX9_doneIn_40 : decode cX9_doneIn 40 = .ok (.aload_n 0, 1) := by decide +kernel
theorem dX9_doneIn_41 : decode cX9_doneIn 41 = .ok (.getfield 7, 3) := by decide +kernel
theorem dX9_doneIn_44 : decode cX9_doneIn 44 = .ok (.bipush 12, 2) := by decide +kernel
theorem dX9_doneIn_46 : decode cX9_doneIn 46 = .ok (.iload_n 1, 1) := by decide +kernel
theorem dX9_doneIn_47 : decode cX9_doneIn 47 = .ok (.iadd, 1) := by decide +kernel
theorem dX9_doneIn_48 : decode cX9_doneIn 48 = .ok (.iaload, 1) := by decide +kernel
theorem dX9_doneIn_49 : decode cX9_doneIn 49 = .ok (.if_icmp .ge 84, 3) := by decide +kernel
theorem dX9_doneIn_52 : decode cX9_doneIn 52 = .ok (.aload_n 0, 1) := by decide +kernel
theorem dX9_doneIn_53 : decode cX9_doneIn 53 = .ok (.iload_n 1, 1) := by decide +kernel
theorem dX9_doneIn_54 : decode cX9_doneIn 54 = .ok (.iload 4, 2) := by decide +kernel
theorem dX9_doneIn_56 : decode cX9_doneIn 56 = .ok (.invokevirtual 120, 3) := by decide +kernel
theorem dX9_doneIn_59 : decode cX9_doneIn 59 = .ok (.istore 5, 2) := by decide +kernel
theorem dX9_doneIn_61 : decode cX9_doneIn 61 = .ok (.iload 5, 2) := by decide +kernel
theorem dX9_doneIn_63 : decode cX9_doneIn 63 = .ok (.aload_n 0, 1) := by decide +kernel
theorem dX9_doneIn_64 : decode cX9_doneIn 64 = .ok (.getfield 7, 3) := by decide +kernel
theorem dX9_doneIn_67 : decode cX9_doneIn 67 = .ok (.bipush 11, 2) := by decide +kernel
theorem dX9_doneIn_69 : decode cX9_doneIn 69 = .ok (.iaload, 1) := by decide +kernel
theorem dX9_doneIn_70 : decode cX9_doneIn 70 = .ok (.if_icmp .le 6, 3) := by decide +kernel
theorem dX9_doneIn_73 : decode cX9_doneIn 73 = .ok (.bipush (-9), 2) := by decide +kernel
theorem dX9_doneIn_75 : decode cX9_doneIn 75 = .ok (.ireturn, 1) := by decide +kernel
theorem dX9_doneIn_76 : decode cX9_doneIn 76 = .ok (.iload 5, 2) := by decide +kernel
theorem dX9_doneIn_78 : decode cX9_doneIn 78 = .ok (.iload_n 3, 1) := by decide +kernel
theorem dX9_doneIn_79 : decode cX9_doneIn 79 = .ok (.if_icmp .le 43, 3) := by decide +kernel
theorem dX9_doneIn_82 : decode cX9_doneIn 82 = .ok (.iload_n 2, 1) := by decide +kernel
theorem dX9_doneIn_83 : decode cX9_doneIn 83 = .ok (.sipush 200, 3) := by decide +kernel
theorem dX9_doneIn_86 : decode cX9_doneIn 86 = .ok (.if_icmp .gt 36, 3) := by decide +kernel
theorem dX9_doneIn_89 : decode cX9_doneIn 89 = .ok (.iinc 2 1, 3) := by decide +kernel
theorem dX9_doneIn_92 : decode cX9_doneIn 92 = .ok (.aload_n 0, 1) := by decide +kernel
theorem dX9_doneIn_93 : decode cX9_doneIn 93 = .ok (.aload_n 0, 1) := by decide +kernel
theorem dX9_doneIn_94 : decode cX9_doneIn 94 = .ok (.getfield 7, 3) := by decide +kernel
theorem dX9_doneIn_97 : decode cX9_doneIn 97 = .ok (.iconst 0, 1) := by decide +kernel
theorem dX9_doneIn_98 : decode cX9_doneIn 98 = .ok (.iaload, 1) := by decide +kernel
theorem dX9_doneIn_99 : decode cX9_doneIn 99 = .ok (.iload_n 2, 1) := by decide +kernel
theorem dX9_doneIn_100 : decode cX9_doneIn 100 = .ok (.iadd, 1) := by decide +kernel
theorem dX9_doneIn_101 : decode cX9_doneIn 101 = .ok (.invokevirtual 55, 3) := by decide +kernel
theorem dX9_doneIn_104 : decode cX9_doneIn 104 = .ok (.ifCond .eq 7, 3) := by decide +kernel
theorem dX9_doneIn_107 : decode cX9_doneIn 107 = .ok (.iconst 0, 1) := by decide +kernel
theorem dX9_doneIn_108 : decode cX9_doneIn 108 = .ok (.goto 10, 3) := by decide +kernel
theorem dX9_doneIn_111 : decode cX9_doneIn 111 = .ok (.aload_n 0, 1) := by decide +kernel
theorem dX9_doneIn_112 : decode cX9_doneIn 112 = .ok (.getfield 7, 3) := by decide +kernel
theorem dX9_doneIn_115 : decode cX9_doneIn 115 = .ok (.bipush 11, 2) := by decide +kernel
theorem dX9_doneIn_117 : decode cX9_doneIn 117 = .ok (.iaload, 1) := by decide +kernel
theorem dX9_doneIn_118 : decode cX9_doneIn 118 = .ok (.istore_n 3, 1) := by decide +kernel
theorem dX9_doneIn_119 : decode cX9_doneIn 119 = .ok (.goto (-43), 3) := by decide +kernel
theorem dX9_doneIn_122 : decode cX9_doneIn 122 = .ok (.iload_n 3, 1) := by decide +kernel
theorem dX9_doneIn_123 : decode cX9_doneIn 123 = .ok (.iload 5, 2) := by decide +kernel
theorem dX9_doneIn_125 : decode cX9_doneIn 125 = .ok (.isub, 1) := by decide +kernel
theorem dX9_doneIn_126 : decode cX9_doneIn 126 = .ok (.istore_n 3, 1) := by decide +kernel
theorem dX9_doneIn_127 : decode cX9_doneIn 127 = .ok (.iinc 4 1, 3) := by decide +kernel
theorem dX9_doneIn_130 : decode cX9_doneIn 130 = .ok (.goto (-92), 3) := by decide +kernel
theorem dX9_doneIn_133 : decode cX9_doneIn 133 = .ok (.iload_n 2, 1) := by decide +kernel
theorem dX9_doneIn_134 : decode cX9_doneIn 134 = .ok (.sipush 200, 3) := by decide +kernel
theorem dX9_doneIn_137 : decode cX9_doneIn 137 = .ok (.if_icmp .le 8, 3) := by decide +kernel
theorem dX9_doneIn_140 : decode cX9_doneIn 140 = .ok (.bipush (-9), 2) := by decide +kernel
theorem dX9_doneIn_142 : decode cX9_doneIn 142 = .ok (.goto 4, 3) := by decide +kernel
theorem dX9_doneIn_145 : decode cX9_doneIn 145 = .ok (.iload_n 2, 1) := by decide +kernel
theorem dX9_doneIn_146 : decode cX9_doneIn 146 = .ok (.ireturn, 1) := by decide +kernel
theorem dX9_weeksOf_0 : decode cX9_weeksOf 0 = .ok (.aload_n 0, 1) := by decide +kernel
theorem dX9_weeksOf_1 : decode cX9_weeksOf 1 = .ok (.iload_n 1, 1) := by decide +kernel
theorem dX9_weeksOf_2 : decode cX9_weeksOf 2 = .ok (.invokevirtual 123, 3) := by decide +kernel
theorem dX9_weeksOf_5 : decode cX9_weeksOf 5 = .ok (.aload_n 0, 1) := by decide +kernel
theorem dX9_weeksOf_6 : decode cX9_weeksOf 6 = .ok (.getfield 7, 3) := by decide +kernel
theorem dX9_weeksOf_9 : decode cX9_weeksOf 9 = .ok (.bipush 11, 2) := by decide +kernel
theorem dX9_weeksOf_11 : decode cX9_weeksOf 11 = .ok (.iaload, 1) := by decide +kernel
theorem dX9_weeksOf_12 : decode cX9_weeksOf 12 = .ok (.iadd, 1) := by decide +kernel
theorem dX9_weeksOf_13 : decode cX9_weeksOf 13 = .ok (.iconst 1, 1) := by decide +kernel
theorem dX9_weeksOf_14 : decode cX9_weeksOf 14 = .ok (.isub, 1) := by decide +kernel
theorem dX9_weeksOf_15 : decode cX9_weeksOf 15 = .ok (.aload_n 0, 1) := by decide +kernel
theorem dX9_weeksOf_16 : decode cX9_weeksOf 16 = .ok (.getfield 7, 3) := by decide +kernel
theorem dX9_weeksOf_19 : decode cX9_weeksOf 19 = .ok (.bipush 11, 2) := by decide +kernel
theorem dX9_weeksOf_21 : decode cX9_weeksOf 21 = .ok (.iaload, 1) := by decide +kernel
theorem dX9_weeksOf_22 : decode cX9_weeksOf 22 = .ok (.idiv, 1) := by decide +kernel
theorem dX9_weeksOf_23 : decode cX9_weeksOf 23 = .ok (.ireturn, 1) := by decide +kernel
theorem dX9_costs_0 : decode cX9_costs 0 = .ok (.aload_n 0, 1) := by decide +kernel
theorem dX9_costs_1 : decode cX9_costs 1 = .ok (.getfield 7, 3) := by decide +kernel
theorem dX9_costs_4 : decode cX9_costs 4 = .ok (.iconst 0, 1) := by decide +kernel
theorem dX9_costs_5 : decode cX9_costs 5 = .ok (.iaload, 1) := by decide +kernel
theorem dX9_costs_6 : decode cX9_costs 6 = .ok (.istore_n 3, 1) := by decide +kernel
theorem dX9_costs_7 : decode cX9_costs 7 = .ok (.iconst 0, 1) := by decide +kernel
theorem dX9_costs_8 : decode cX9_costs 8 = .ok (.istore 4, 2) := by decide +kernel
theorem dX9_costs_10 : decode cX9_costs 10 = .ok (.iload 4, 2) := by decide +kernel
theorem dX9_costs_12 : decode cX9_costs 12 = .ok (.bipush 6, 2) := by decide +kernel
theorem dX9_costs_14 : decode cX9_costs 14 = .ok (.if_icmp .ge 32, 3) := by decide +kernel
theorem dX9_costs_17 : decode cX9_costs 17 = .ok (.iload_n 3, 1) := by decide +kernel
theorem dX9_costs_18 : decode cX9_costs 18 = .ok (.iload_n 2, 1) := by decide +kernel
theorem dX9_costs_19 : decode cX9_costs 19 = .ok (.iload 4, 2) := by decide +kernel
theorem dX9_costs_21 : decode cX9_costs 21 = .ok (.ishr, 1) := by decide +kernel
theorem dX9_costs_22 : decode cX9_costs 22 = .ok (.iconst 1, 1) := by decide +kernel
theorem dX9_costs_23 : decode cX9_costs 23 = .ok (.iand, 1) := by decide +kernel
theorem dX9_costs_24 : decode cX9_costs 24 = .ok (.iconst 1, 1) := by decide +kernel
theorem dX9_costs_25 : decode cX9_costs 25 = .ok (.if_icmp .ne 12, 3) := by decide +kernel
theorem dX9_costs_28 : decode cX9_costs 28 = .ok (.aload_n 0, 1) := by decide +kernel
theorem dX9_costs_29 : decode cX9_costs 29 = .ok (.iload 4, 2) := by decide +kernel
theorem dX9_costs_31 : decode cX9_costs 31 = .ok (.invokevirtual 126, 3) := by decide +kernel
theorem dX9_costs_34 : decode cX9_costs 34 = .ok (.goto 4, 3) := by decide +kernel
theorem dX9_costs_37 : decode cX9_costs 37 = .ok (.iconst 0, 1) := by decide +kernel
theorem dX9_costs_38 : decode cX9_costs 38 = .ok (.iadd, 1) := by decide +kernel
theorem dX9_costs_39 : decode cX9_costs 39 = .ok (.istore_n 3, 1) := by decide +kernel
theorem dX9_costs_40 : decode cX9_costs 40 = .ok (.iinc 4 1, 3) := by decide +kernel
theorem dX9_costs_43 : decode cX9_costs 43 = .ok (.goto (-33), 3) := by decide +kernel
theorem dX9_costs_46 : decode cX9_costs 46 = .ok (.iload_n 3, 1) := by decide +kernel
theorem dX9_costs_47 : decode cX9_costs 47 = .ok (.aload_n 0, 1) := by decide +kernel
theorem dX9_costs_48 : decode cX9_costs 48 = .ok (.iload_n 1, 1) := by decide +kernel
theorem dX9_costs_49 : decode cX9_costs 49 = .ok (.iconst 2, 1) := by decide +kernel
theorem dX9_costs_50 : decode cX9_costs 50 = .ok (.invokevirtual 64, 3) := by decide +kernel
theorem dX9_costs_53 : decode cX9_costs 53 = .ok (.isub, 1) := by decide +kernel
theorem dX9_costs_54 : decode cX9_costs 54 = .ok (.istore 4, 2) := by decide +kernel
theorem dX9_costs_56 : decode cX9_costs 56 = .ok (.iload 4, 2) := by decide +kernel
theorem dX9_costs_58 : decode cX9_costs 58 = .ok (.ifCond .le 22, 3) := by decide +kernel
theorem dX9_costs_61 : decode cX9_costs 61 = .ok (.iload 4, 2) := by decide +kernel
theorem dX9_costs_63 : decode cX9_costs 63 = .ok (.aload_n 0, 1) := by decide +kernel
theorem dX9_costs_64 : decode cX9_costs 64 = .ok (.iload_n 1, 1) := by decide +kernel
theorem dX9_costs_65 : decode cX9_costs 65 = .ok (.iconst 3, 1) := by decide +kernel
theorem dX9_costs_66 : decode cX9_costs 66 = .ok (.invokevirtual 64, 3) := by decide +kernel
theorem dX9_costs_69 : decode cX9_costs 69 = .ok (.imul, 1) := by decide +kernel
theorem dX9_costs_70 : decode cX9_costs 70 = .ok (.aload_n 0, 1) := by decide +kernel
theorem dX9_costs_71 : decode cX9_costs 71 = .ok (.iload_n 1, 1) := by decide +kernel
theorem dX9_costs_72 : decode cX9_costs 72 = .ok (.iconst 0, 1) := by decide +kernel
theorem dX9_costs_73 : decode cX9_costs 73 = .ok (.invokevirtual 45, 3) := by decide +kernel
theorem dX9_costs_76 : decode cX9_costs 76 = .ok (.imul, 1) := by decide +kernel
theorem dX9_costs_77 : decode cX9_costs 77 = .ok (.goto 4, 3) := by decide +kernel
theorem dX9_costs_80 : decode cX9_costs 80 = .ok (.iconst 0, 1) := by decide +kernel
theorem dX9_costs_81 : decode cX9_costs 81 = .ok (.ireturn, 1) := by decide +kernel
theorem dX9_bestOrder_0 : decode cX9_bestOrder 0 = .ok (.iload_n 1, 1) := by decide +kernel
theorem dX9_bestOrder_1 : decode cX9_bestOrder 1 = .ok (.iconst 0, 1) := by decide +kernel
theorem dX9_bestOrder_2 : decode cX9_bestOrder 2 = .ok (.iconst 1, 1) := by decide +kernel
theorem dX9_bestOrder_3 : decode cX9_bestOrder 3 = .ok (.invokestatic 29, 3) := by decide +kernel
theorem dX9_bestOrder_6 : decode cX9_bestOrder 6 = .ok (.ifCond .ne 5, 3) := by decide +kernel
theorem dX9_bestOrder_9 : decode cX9_bestOrder 9 = .ok (.iconst (-1), 1) := by decide +kernel
theorem dX9_bestOrder_10 : decode cX9_bestOrder 10 = .ok (.ireturn, 1) := by decide +kernel
theorem dX9_bestOrder_11 : decode cX9_bestOrder 11 = .ok (.aload_n 0, 1) := by decide +kernel
theorem dX9_bestOrder_12 : decode cX9_bestOrder 12 = .ok (.invokevirtual 114, 3) := by decide +kernel
theorem dX9_bestOrder_15 : decode cX9_bestOrder 15 = .ok (.ifCond .ne 6, 3) := by decide +kernel
theorem dX9_bestOrder_18 : decode cX9_bestOrder 18 = .ok (.bipush (-9), 2) := by decide +kernel
theorem dX9_bestOrder_20 : decode cX9_bestOrder 20 = .ok (.ireturn, 1) := by decide +kernel
theorem dX9_bestOrder_21 : decode cX9_bestOrder 21 = .ok (.bipush (-9), 2) := by decide +kernel
theorem dX9_bestOrder_23 : decode cX9_bestOrder 23 = .ok (.istore_n 2, 1) := by decide +kernel
theorem dX9_bestOrder_24 : decode cX9_bestOrder 24 = .ok (.bipush 63, 2) := by decide +kernel
theorem dX9_bestOrder_26 : decode cX9_bestOrder 26 = .ok (.istore_n 3, 1) := by decide +kernel
theorem dX9_bestOrder_27 : decode cX9_bestOrder 27 = .ok (.iload_n 3, 1) := by decide +kernel
theorem dX9_bestOrder_28 : decode cX9_bestOrder 28 = .ok (.ifCond .lt 164, 3) := by decide +kernel
theorem dX9_bestOrder_31 : decode cX9_bestOrder 31 = .ok (.aload_n 0, 1) := by decide +kernel
theorem dX9_bestOrder_32 : decode cX9_bestOrder 32 = .ok (.getfield 19, 3) := by decide +kernel
theorem dX9_bestOrder_35 : decode cX9_bestOrder 35 = .ok (.iload_n 3, 1) := by decide +kernel
theorem dX9_bestOrder_36 : decode cX9_bestOrder 36 = .ok (.iconst (-1), 1) := by decide +kernel
theorem dX9_bestOrder_37 : decode cX9_bestOrder 37 = .ok (.iastore, 1) := by decide +kernel
theorem dX9_bestOrder_38 : decode cX9_bestOrder 38 = .ok (.iconst 0, 1) := by decide +kernel
theorem dX9_bestOrder_39 : decode cX9_bestOrder 39 = .ok (.istore 4, 2) := by decide +kernel
theorem dX9_bestOrder_41 : decode cX9_bestOrder 41 = .ok (.iload 4, 2) := by decide +kernel
theorem dX9_bestOrder_43 : decode cX9_bestOrder 43 = .ok (.bipush 6, 2) := by decide +kernel
theorem dX9_bestOrder_45 : decode cX9_bestOrder 45 = .ok (.if_icmp .ge 116, 3) := by decide +kernel
theorem dX9_bestOrder_48 : decode cX9_bestOrder 48 = .ok (.iload_n 3, 1) := by decide +kernel
theorem dX9_bestOrder_49 : decode cX9_bestOrder 49 = .ok (.iconst 1, 1) := by decide +kernel
theorem dX9_bestOrder_50 : decode cX9_bestOrder 50 = .ok (.iload 4, 2) := by decide +kernel
theorem dX9_bestOrder_52 : decode cX9_bestOrder 52 = .ok (.ishl, 1) := by decide +kernel
theorem dX9_bestOrder_53 : decode cX9_bestOrder 53 = .ok (.ior, 1) := by decide +kernel
theorem dX9_bestOrder_54 : decode cX9_bestOrder 54 = .ok (.istore 5, 2) := by decide +kernel
theorem dX9_bestOrder_56 : decode cX9_bestOrder 56 = .ok (.iload 5, 2) := by decide +kernel
theorem dX9_bestOrder_58 : decode cX9_bestOrder 58 = .ok (.iload_n 3, 1) := by decide +kernel
theorem dX9_bestOrder_59 : decode cX9_bestOrder 59 = .ok (.if_icmp .eq 96, 3) := by decide +kernel
theorem dX9_bestOrder_62 : decode cX9_bestOrder 62 = .ok (.aload_n 0, 1) := by decide +kernel
theorem dX9_bestOrder_63 : decode cX9_bestOrder 63 = .ok (.iload 4, 2) := by decide +kernel
theorem dX9_bestOrder_65 : decode cX9_bestOrder 65 = .ok (.iconst 0, 1) := by decide +kernel
theorem dX9_bestOrder_66 : decode cX9_bestOrder 66 = .ok (.invokevirtual 64, 3) := by decide +kernel
theorem dX9_bestOrder_69 : decode cX9_bestOrder 69 = .ok (.iconst 1, 1) := by decide +kernel
theorem dX9_bestOrder_70 : decode cX9_bestOrder 70 = .ok (.if_icmp .ne 85, 3) := by decide +kernel
theorem dX9_bestOrder_73 : decode cX9_bestOrder 73 = .ok (.aload_n 0, 1) := by decide +kernel
theorem dX9_bestOrder_74 : decode cX9_bestOrder 74 = .ok (.iload 4, 2) := by decide +kernel
theorem dX9_bestOrder_76 : decode cX9_bestOrder 76 = .ok (.iload 5, 2) := by decide +kernel
theorem dX9_bestOrder_78 : decode cX9_bestOrder 78 = .ok (.invokevirtual 129, 3) := by decide +kernel
theorem dX9_bestOrder_81 : decode cX9_bestOrder 81 = .ok (.aload_n 0, 1) := by decide +kernel
theorem dX9_bestOrder_82 : decode cX9_bestOrder 82 = .ok (.getfield 19, 3) := by decide +kernel
theorem dX9_bestOrder_85 : decode cX9_bestOrder 85 = .ok (.iload 5, 2) := by decide +kernel
theorem dX9_bestOrder_87 : decode cX9_bestOrder 87 = .ok (.iaload, 1) := by decide +kernel
theorem dX9_bestOrder_88 : decode cX9_bestOrder 88 = .ok (.iadd, 1) := by decide +kernel
theorem dX9_bestOrder_89 : decode cX9_bestOrder 89 = .ok (.istore 6, 2) := by decide +kernel
theorem dX9_bestOrder_91 : decode cX9_bestOrder 91 = .ok (.aload_n 0, 1) := by decide +kernel
theorem dX9_bestOrder_92 : decode cX9_bestOrder 92 = .ok (.getfield 19, 3) := by decide +kernel
theorem dX9_bestOrder_95 : decode cX9_bestOrder 95 = .ok (.iload_n 3, 1) := by decide +kernel
theorem dX9_bestOrder_96 : decode cX9_bestOrder 96 = .ok (.iaload, 1) := by decide +kernel
theorem dX9_bestOrder_97 : decode cX9_bestOrder 97 = .ok (.ifCond .lt 14, 3) := by decide +kernel
theorem dX9_bestOrder_100 : decode cX9_bestOrder 100 = .ok (.iload 6, 2) := by decide +kernel
theorem dX9_bestOrder_102 : decode cX9_bestOrder 102 = .ok (.aload_n 0, 1) := by decide +kernel
theorem dX9_bestOrder_103 : decode cX9_bestOrder 103 = .ok (.getfield 19, 3) := by decide +kernel
theorem dX9_bestOrder_106 : decode cX9_bestOrder 106 = .ok (.iload_n 3, 1) := by decide +kernel
theorem dX9_bestOrder_107 : decode cX9_bestOrder 107 = .ok (.iaload, 1) := by decide +kernel
theorem dX9_bestOrder_108 : decode cX9_bestOrder 108 = .ok (.if_icmp .ge 8, 3) := by decide +kernel
theorem dX9_bestOrder_111 : decode cX9_bestOrder 111 = .ok (.iload 4, 2) := by decide +kernel
theorem dX9_bestOrder_113 : decode cX9_bestOrder 113 = .ok (.goto 4, 3) := by decide +kernel
theorem dX9_bestOrder_116 : decode cX9_bestOrder 116 = .ok (.iload_n 2, 1) := by decide +kernel
theorem dX9_bestOrder_117 : decode cX9_bestOrder 117 = .ok (.istore_n 2, 1) := by decide +kernel
theorem dX9_bestOrder_118 : decode cX9_bestOrder 118 = .ok (.aload_n 0, 1) := by decide +kernel
theorem dX9_bestOrder_119 : decode cX9_bestOrder 119 = .ok (.getfield 19, 3) := by decide +kernel
theorem dX9_bestOrder_122 : decode cX9_bestOrder 122 = .ok (.iload_n 3, 1) := by decide +kernel
theorem dX9_bestOrder_123 : decode cX9_bestOrder 123 = .ok (.aload_n 0, 1) := by decide +kernel
theorem dX9_bestOrder_124 : decode cX9_bestOrder 124 = .ok (.getfield 19, 3) := by decide +kernel
theorem dX9_bestOrder_127 : decode cX9_bestOrder 127 = .ok (.iload_n 3, 1) := by decide +kernel
theorem dX9_bestOrder_128 : decode cX9_bestOrder 128 = .ok (.iaload, 1) := by decide +kernel
theorem dX9_bestOrder_129 : decode cX9_bestOrder 129 = .ok (.ifCond .lt 14, 3) := by decide +kernel
theorem dX9_bestOrder_132 : decode cX9_bestOrder 132 = .ok (.iload 6, 2) := by decide +kernel
theorem dX9_bestOrder_134 : decode cX9_bestOrder 134 = .ok (.aload_n 0, 1) := by decide +kernel
theorem dX9_bestOrder_135 : decode cX9_bestOrder 135 = .ok (.getfield 19, 3) := by decide +kernel
theorem dX9_bestOrder_138 : decode cX9_bestOrder 138 = .ok (.iload_n 3, 1) := by decide +kernel
theorem dX9_bestOrder_139 : decode cX9_bestOrder 139 = .ok (.iaload, 1) := by decide +kernel
theorem dX9_bestOrder_140 : decode cX9_bestOrder 140 = .ok (.if_icmp .ge 8, 3) := by decide +kernel
theorem dX9_bestOrder_143 : decode cX9_bestOrder 143 = .ok (.iload 6, 2) := by decide +kernel
theorem dX9_bestOrder_145 : decode cX9_bestOrder 145 = .ok (.goto 9, 3) := by decide +kernel
theorem dX9_bestOrder_148 : decode cX9_bestOrder 148 = .ok (.aload_n 0, 1) := by decide +kernel
theorem dX9_bestOrder_149 : decode cX9_bestOrder 149 = .ok (.getfield 19, 3) := by decide +kernel
theorem dX9_bestOrder_152 : decode cX9_bestOrder 152 = .ok (.iload_n 3, 1) := by decide +kernel
theorem dX9_bestOrder_153 : decode cX9_bestOrder 153 = .ok (.iaload, 1) := by decide +kernel
theorem dX9_bestOrder_154 : decode cX9_bestOrder 154 = .ok (.iastore, 1) := by decide +kernel
theorem dX9_bestOrder_155 : decode cX9_bestOrder 155 = .ok (.iinc 4 1, 3) := by decide +kernel
theorem dX9_bestOrder_158 : decode cX9_bestOrder 158 = .ok (.goto (-117), 3) := by decide +kernel
theorem dX9_bestOrder_161 : decode cX9_bestOrder 161 = .ok (.aload_n 0, 1) := by decide +kernel
theorem dX9_bestOrder_162 : decode cX9_bestOrder 162 = .ok (.getfield 19, 3) := by decide +kernel
theorem dX9_bestOrder_165 : decode cX9_bestOrder 165 = .ok (.iload_n 3, 1) := by decide +kernel
theorem dX9_bestOrder_166 : decode cX9_bestOrder 166 = .ok (.aload_n 0, 1) := by decide +kernel
theorem dX9_bestOrder_167 : decode cX9_bestOrder 167 = .ok (.getfield 19, 3) := by decide +kernel
theorem dX9_bestOrder_170 : decode cX9_bestOrder 170 = .ok (.iload_n 3, 1) := by decide +kernel
theorem dX9_bestOrder_171 : decode cX9_bestOrder 171 = .ok (.iaload, 1) := by decide +kernel
theorem dX9_bestOrder_172 : decode cX9_bestOrder 172 = .ok (.ifCond .ge 7, 3) := by decide +kernel
theorem dX9_bestOrder_175 : decode cX9_bestOrder 175 = .ok (.iconst 0, 1) := by decide +kernel
theorem dX9_bestOrder_176 : decode cX9_bestOrder 176 = .ok (.goto 9, 3) := by decide +kernel
theorem dX9_bestOrder_179 : decode cX9_bestOrder 179 = .ok (.aload_n 0, 1) := by decide +kernel
theorem dX9_bestOrder_180 : decode cX9_bestOrder 180 = .ok (.getfield 19, 3) := by decide +kernel
theorem dX9_bestOrder_183 : decode cX9_bestOrder 183 = .ok (.iload_n 3, 1) := by decide +kernel
theorem dX9_bestOrder_184 : decode cX9_bestOrder 184 = .ok (.iaload, 1) := by decide +kernel
theorem dX9_bestOrder_185 : decode cX9_bestOrder 185 = .ok (.iastore, 1) := by decide +kernel
theorem dX9_bestOrder_186 : decode cX9_bestOrder 186 = .ok (.iinc 3 (-1), 3) := by decide +kernel
theorem dX9_bestOrder_189 : decode cX9_bestOrder 189 = .ok (.goto (-162), 3) := by decide +kernel
theorem dX9_bestOrder_192 : decode cX9_bestOrder 192 = .ok (.iload_n 1, 1) := by decide +kernel
theorem dX9_bestOrder_193 : decode cX9_bestOrder 193 = .ok (.ifCond .ne 12, 3) := by decide +kernel
theorem dX9_bestOrder_196 : decode cX9_bestOrder 196 = .ok (.aload_n 0, 1) := by decide +kernel
theorem dX9_bestOrder_197 : decode cX9_bestOrder 197 = .ok (.getfield 19, 3) := by decide +kernel
theorem dX9_bestOrder_200 : decode cX9_bestOrder 200 = .ok (.iconst 0, 1) := by decide +kernel
theorem dX9_bestOrder_201 : decode cX9_bestOrder 201 = .ok (.iaload, 1) := by decide +kernel
theorem dX9_bestOrder_202 : decode cX9_bestOrder 202 = .ok (.goto 4, 3) := by decide +kernel
theorem dX9_bestOrder_205 : decode cX9_bestOrder 205 = .ok (.iload_n 2, 1) := by decide +kernel
theorem dX9_bestOrder_206 : decode cX9_bestOrder 206 = .ok (.ireturn, 1) := by decide +kernel
theorem dL_law_0 : decode cL_law 0 = .ok (.new 7, 3) := by decide +kernel
theorem dL_law_3 : decode cL_law 3 = .ok (.dup, 1) := by decide +kernel
theorem dL_law_4 : decode cL_law 4 = .ok (.invokespecial 9, 3) := by decide +kernel
theorem dL_law_7 : decode cL_law 7 = .ok (.astore_n 1, 1) := by decide +kernel
theorem dL_law_8 : decode cL_law 8 = .ok (.new 10, 3) := by decide +kernel
theorem dL_law_11 : decode cL_law 11 = .ok (.dup, 1) := by decide +kernel
theorem dL_law_12 : decode cL_law 12 = .ok (.invokespecial 12, 3) := by decide +kernel
theorem dL_law_15 : decode cL_law 15 = .ok (.astore_n 2, 1) := by decide +kernel
theorem dL_law_16 : decode cL_law 16 = .ok (.iconst 0, 1) := by decide +kernel
theorem dL_law_17 : decode cL_law 17 = .ok (.istore_n 3, 1) := by decide +kernel
theorem dL_law_18 : decode cL_law 18 = .ok (.iload_n 3, 1) := by decide +kernel
theorem dL_law_19 : decode cL_law 19 = .ok (.aload_n 0, 1) := by decide +kernel
theorem dL_law_20 : decode cL_law 20 = .ok (.arraylength, 1) := by decide +kernel
theorem dL_law_21 : decode cL_law 21 = .ok (.iconst 5, 1) := by decide +kernel
theorem dL_law_22 : decode cL_law 22 = .ok (.isub, 1) := by decide +kernel
theorem dL_law_23 : decode cL_law 23 = .ok (.if_icmp .gt 725, 3) := by decide +kernel
theorem dL_law_26 : decode cL_law 26 = .ok (.aload_n 0, 1) := by decide +kernel
theorem dL_law_27 : decode cL_law 27 = .ok (.iload_n 3, 1) := by decide +kernel
theorem dL_law_28 : decode cL_law 28 = .ok (.iaload, 1) := by decide +kernel
theorem dL_law_29 : decode cL_law 29 = .ok (.bipush 31, 2) := by decide +kernel
theorem dL_law_31 : decode cL_law 31 = .ok (.iand, 1) := by decide +kernel
theorem dL_law_32 : decode cL_law 32 = .ok (.tableswitch 710 0 21 #[104, 147, 180, 213, 246, 269, 302, 355, 378, 391, 414, 437, 450, 473, 486, 509, 532, 565, 608, 641, 664, 687], 104) := by decide +kernel
theorem dL_law_136 : decode cL_law 136 = .ok (.aload_n 1, 1) := by decide +kernel
theorem dL_law_137 : decode cL_law 137 = .ok (.aload_n 0, 1) := by decide +kernel
theorem dL_law_138 : decode cL_law 138 = .ok (.iload_n 3, 1) := by decide +kernel
theorem dL_law_139 : decode cL_law 139 = .ok (.iconst 1, 1) := by decide +kernel
theorem dL_law_140 : decode cL_law 140 = .ok (.iadd, 1) := by decide +kernel
theorem dL_law_141 : decode cL_law 141 = .ok (.iaload, 1) := by decide +kernel
theorem dL_law_142 : decode cL_law 142 = .ok (.aload_n 0, 1) := by decide +kernel
theorem dL_law_143 : decode cL_law 143 = .ok (.iload_n 3, 1) := by decide +kernel
theorem dL_law_144 : decode cL_law 144 = .ok (.iconst 2, 1) := by decide +kernel
theorem dL_law_145 : decode cL_law 145 = .ok (.iadd, 1) := by decide +kernel
theorem dL_law_146 : decode cL_law 146 = .ok (.iaload, 1) := by decide +kernel
theorem dL_law_147 : decode cL_law 147 = .ok (.aload_n 0, 1) := by decide +kernel
theorem dL_law_148 : decode cL_law 148 = .ok (.iload_n 3, 1) := by decide +kernel
theorem dL_law_149 : decode cL_law 149 = .ok (.iconst 3, 1) := by decide +kernel
theorem dL_law_150 : decode cL_law 150 = .ok (.iadd, 1) := by decide +kernel
theorem dL_law_151 : decode cL_law 151 = .ok (.iaload, 1) := by decide +kernel
theorem dL_law_152 : decode cL_law 152 = .ok (.invokevirtual 13, 3) := by decide +kernel
theorem dL_law_155 : decode cL_law 155 = .ok (.aload_n 2, 1) := by decide +kernel
theorem dL_law_156 : decode cL_law 156 = .ok (.aload_n 0, 1) := by decide +kernel
theorem dL_law_157 : decode cL_law 157 = .ok (.iload_n 3, 1) := by decide +kernel
theorem dL_law_158 : decode cL_law 158 = .ok (.iconst 1, 1) := by decide +kernel
theorem dL_law_159 : decode cL_law 159 = .ok (.iadd, 1) := by decide +kernel
theorem dL_law_160 : decode cL_law 160 = .ok (.iaload, 1) := by decide +kernel
theorem dL_law_161 : decode cL_law 161 = .ok (.aload_n 0, 1) := by decide +kernel
theorem dL_law_162 : decode cL_law 162 = .ok (.iload_n 3, 1) := by decide +kernel
theorem dL_law_163 : decode cL_law 163 = .ok (.iconst 2, 1) := by decide +kernel
theorem dL_law_164 : decode cL_law 164 = .ok (.iadd, 1) := by decide +kernel
theorem dL_law_165 : decode cL_law 165 = .ok (.iaload, 1) := by decide +kernel
theorem dL_law_166 : decode cL_law 166 = .ok (.aload_n 0, 1) := by decide +kernel
theorem dL_law_167 : decode cL_law 167 = .ok (.iload_n 3, 1) := by decide +kernel
theorem dL_law_168 : decode cL_law 168 = .ok (.iconst 3, 1) := by decide +kernel
theorem dL_law_169 : decode cL_law 169 = .ok (.iadd, 1) := by decide +kernel
theorem dL_law_170 : decode cL_law 170 = .ok (.iaload, 1) := by decide +kernel
theorem dL_law_171 : decode cL_law 171 = .ok (.invokevirtual 17, 3) := by decide +kernel
theorem dL_law_174 : decode cL_law 174 = .ok (.if_icmp .eq 568, 3) := by decide +kernel
theorem dL_law_177 : decode cL_law 177 = .ok (.iconst 0, 1) := by decide +kernel
theorem dL_law_178 : decode cL_law 178 = .ok (.ireturn, 1) := by decide +kernel
theorem dL_law_179 : decode cL_law 179 = .ok (.aload_n 1, 1) := by decide +kernel
theorem dL_law_180 : decode cL_law 180 = .ok (.aload_n 0, 1) := by decide +kernel
theorem dL_law_181 : decode cL_law 181 = .ok (.iload_n 3, 1) := by decide +kernel
theorem dL_law_182 : decode cL_law 182 = .ok (.iconst 1, 1) := by decide +kernel
theorem dL_law_183 : decode cL_law 183 = .ok (.iadd, 1) := by decide +kernel
theorem dL_law_184 : decode cL_law 184 = .ok (.iaload, 1) := by decide +kernel
theorem dL_law_185 : decode cL_law 185 = .ok (.aload_n 0, 1) := by decide +kernel
theorem dL_law_186 : decode cL_law 186 = .ok (.iload_n 3, 1) := by decide +kernel
theorem dL_law_187 : decode cL_law 187 = .ok (.iconst 2, 1) := by decide +kernel
theorem dL_law_188 : decode cL_law 188 = .ok (.iadd, 1) := by decide +kernel
theorem dL_law_189 : decode cL_law 189 = .ok (.iaload, 1) := by decide +kernel
theorem dL_law_190 : decode cL_law 190 = .ok (.invokevirtual 18, 3) := by decide +kernel
theorem dL_law_193 : decode cL_law 193 = .ok (.aload_n 2, 1) := by decide +kernel
theorem dL_law_194 : decode cL_law 194 = .ok (.aload_n 0, 1) := by decide +kernel
theorem dL_law_195 : decode cL_law 195 = .ok (.iload_n 3, 1) := by decide +kernel
theorem dL_law_196 : decode cL_law 196 = .ok (.iconst 1, 1) := by decide +kernel
theorem dL_law_197 : decode cL_law 197 = .ok (.iadd, 1) := by decide +kernel
theorem dL_law_198 : decode cL_law 198 = .ok (.iaload, 1) := by decide +kernel
theorem dL_law_199 : decode cL_law 199 = .ok (.aload_n 0, 1) := by decide +kernel
theorem dL_law_200 : decode cL_law 200 = .ok (.iload_n 3, 1) := by decide +kernel
theorem dL_law_201 : decode cL_law 201 = .ok (.iconst 2, 1) := by decide +kernel
theorem dL_law_202 : decode cL_law 202 = .ok (.iadd, 1) := by decide +kernel
theorem dL_law_203 : decode cL_law 203 = .ok (.iaload, 1) := by decide +kernel
theorem dL_law_204 : decode cL_law 204 = .ok (.invokevirtual 22, 3) := by decide +kernel
theorem dL_law_207 : decode cL_law 207 = .ok (.if_icmp .eq 535, 3) := by decide +kernel
theorem dL_law_210 : decode cL_law 210 = .ok (.iconst 0, 1) := by decide +kernel
theorem dL_law_211 : decode cL_law 211 = .ok (.ireturn, 1) := by decide +kernel
theorem dL_law_212 : decode cL_law 212 = .ok (.aload_n 1, 1) := by decide +kernel
theorem dL_law_213 : decode cL_law 213 = .ok (.aload_n 0, 1) := by decide +kernel
theorem dL_law_214 : decode cL_law 214 = .ok (.iload_n 3, 1) := by decide +kernel
theorem dL_law_215 : decode cL_law 215 = .ok (.iconst 1, 1) := by decide +kernel
theorem dL_law_216 : decode cL_law 216 = .ok (.iadd, 1) := by decide +kernel
theorem dL_law_217 : decode cL_law 217 = .ok (.iaload, 1) := by decide +kernel
theorem dL_law_218 : decode cL_law 218 = .ok (.aload_n 0, 1) := by decide +kernel
theorem dL_law_219 : decode cL_law 219 = .ok (.iload_n 3, 1) := by decide +kernel
theorem dL_law_220 : decode cL_law 220 = .ok (.iconst 2, 1) := by decide +kernel
theorem dL_law_221 : decode cL_law 221 = .ok (.iadd, 1) := by decide +kernel
theorem dL_law_222 : decode cL_law 222 = .ok (.iaload, 1) := by decide +kernel
theorem dL_law_223 : decode cL_law 223 = .ok (.invokevirtual 23, 3) := by decide +kernel
theorem dL_law_226 : decode cL_law 226 = .ok (.aload_n 2, 1) := by decide +kernel
theorem dL_law_227 : decode cL_law 227 = .ok (.aload_n 0, 1) := by decide +kernel
theorem dL_law_228 : decode cL_law 228 = .ok (.iload_n 3, 1) := by decide +kernel
theorem dL_law_229 : decode cL_law 229 = .ok (.iconst 1, 1) := by decide +kernel
theorem dL_law_230 : decode cL_law 230 = .ok (.iadd, 1) := by decide +kernel
theorem dL_law_231 : decode cL_law 231 = .ok (.iaload, 1) := by decide +kernel
theorem dL_law_232 : decode cL_law 232 = .ok (.aload_n 0, 1) := by decide +kernel
theorem dL_law_233 : decode cL_law 233 = .ok (.iload_n 3, 1) := by decide +kernel
theorem dL_law_234 : decode cL_law 234 = .ok (.iconst 2, 1) := by decide +kernel
theorem dL_law_235 : decode cL_law 235 = .ok (.iadd, 1) := by decide +kernel
theorem dL_law_236 : decode cL_law 236 = .ok (.iaload, 1) := by decide +kernel
theorem dL_law_237 : decode cL_law 237 = .ok (.invokevirtual 26, 3) := by decide +kernel
theorem dL_law_240 : decode cL_law 240 = .ok (.if_icmp .eq 502, 3) := by decide +kernel
theorem dL_law_243 : decode cL_law 243 = .ok (.iconst 0, 1) := by decide +kernel
theorem dL_law_244 : decode cL_law 244 = .ok (.ireturn, 1) := by decide +kernel
theorem dL_law_245 : decode cL_law 245 = .ok (.aload_n 1, 1) := by decide +kernel
theorem dL_law_246 : decode cL_law 246 = .ok (.aload_n 0, 1) := by decide +kernel
theorem dL_law_247 : decode cL_law 247 = .ok (.iload_n 3, 1) := by decide +kernel
theorem dL_law_248 : decode cL_law 248 = .ok (.iconst 1, 1) := by decide +kernel
theorem dL_law_249 : decode cL_law 249 = .ok (.iadd, 1) := by decide +kernel
theorem dL_law_250 : decode cL_law 250 = .ok (.iaload, 1) := by decide +kernel
theorem dL_law_251 : decode cL_law 251 = .ok (.aload_n 0, 1) := by decide +kernel
theorem dL_law_252 : decode cL_law 252 = .ok (.iload_n 3, 1) := by decide +kernel
theorem dL_law_253 : decode cL_law 253 = .ok (.iconst 2, 1) := by decide +kernel
theorem dL_law_254 : decode cL_law 254 = .ok (.iadd, 1) := by decide +kernel
theorem dL_law_255 : decode cL_law 255 = .ok (.iaload, 1) := by decide +kernel
theorem dL_law_256 : decode cL_law 256 = .ok (.invokevirtual 27, 3) := by decide +kernel
theorem dL_law_259 : decode cL_law 259 = .ok (.aload_n 2, 1) := by decide +kernel
theorem dL_law_260 : decode cL_law 260 = .ok (.aload_n 0, 1) := by decide +kernel
theorem dL_law_261 : decode cL_law 261 = .ok (.iload_n 3, 1) := by decide +kernel
theorem dL_law_262 : decode cL_law 262 = .ok (.iconst 1, 1) := by decide +kernel
theorem dL_law_263 : decode cL_law 263 = .ok (.iadd, 1) := by decide +kernel
theorem dL_law_264 : decode cL_law 264 = .ok (.iaload, 1) := by decide +kernel
theorem dL_law_265 : decode cL_law 265 = .ok (.aload_n 0, 1) := by decide +kernel
theorem dL_law_266 : decode cL_law 266 = .ok (.iload_n 3, 1) := by decide +kernel
theorem dL_law_267 : decode cL_law 267 = .ok (.iconst 2, 1) := by decide +kernel
theorem dL_law_268 : decode cL_law 268 = .ok (.iadd, 1) := by decide +kernel
theorem dL_law_269 : decode cL_law 269 = .ok (.iaload, 1) := by decide +kernel
theorem dL_law_270 : decode cL_law 270 = .ok (.invokevirtual 30, 3) := by decide +kernel
theorem dL_law_273 : decode cL_law 273 = .ok (.if_icmp .eq 469, 3) := by decide +kernel
theorem dL_law_276 : decode cL_law 276 = .ok (.iconst 0, 1) := by decide +kernel
theorem dL_law_277 : decode cL_law 277 = .ok (.ireturn, 1) := by decide +kernel
theorem dL_law_278 : decode cL_law 278 = .ok (.aload_n 1, 1) := by decide +kernel
theorem dL_law_279 : decode cL_law 279 = .ok (.aload_n 0, 1) := by decide +kernel
theorem dL_law_280 : decode cL_law 280 = .ok (.iload_n 3, 1) := by decide +kernel
theorem dL_law_281 : decode cL_law 281 = .ok (.iconst 1, 1) := by decide +kernel
theorem dL_law_282 : decode cL_law 282 = .ok (.iadd, 1) := by decide +kernel
theorem dL_law_283 : decode cL_law 283 = .ok (.iaload, 1) := by decide +kernel
theorem dL_law_284 : decode cL_law 284 = .ok (.invokevirtual 31, 3) := by decide +kernel
theorem dL_law_287 : decode cL_law 287 = .ok (.aload_n 2, 1) := by decide +kernel
theorem dL_law_288 : decode cL_law 288 = .ok (.aload_n 0, 1) := by decide +kernel
theorem dL_law_289 : decode cL_law 289 = .ok (.iload_n 3, 1) := by decide +kernel
theorem dL_law_290 : decode cL_law 290 = .ok (.iconst 1, 1) := by decide +kernel
theorem dL_law_291 : decode cL_law 291 = .ok (.iadd, 1) := by decide +kernel
theorem dL_law_292 : decode cL_law 292 = .ok (.iaload, 1) := by decide +kernel
theorem dL_law_293 : decode cL_law 293 = .ok (.invokevirtual 35, 3) := by decide +kernel
theorem dL_law_296 : decode cL_law 296 = .ok (.if_icmp .eq 446, 3) := by decide +kernel
theorem dL_law_299 : decode cL_law 299 = .ok (.iconst 0, 1) := by decide +kernel
theorem dL_law_300 : decode cL_law 300 = .ok (.ireturn, 1) := by decide +kernel
theorem dL_law_301 : decode cL_law 301 = .ok (.aload_n 1, 1) := by decide +kernel
theorem dL_law_302 : decode cL_law 302 = .ok (.aload_n 0, 1) := by decide +kernel
theorem dL_law_303 : decode cL_law 303 = .ok (.iload_n 3, 1) := by decide +kernel
theorem dL_law_304 : decode cL_law 304 = .ok (.iconst 1, 1) := by decide +kernel
theorem dL_law_305 : decode cL_law 305 = .ok (.iadd, 1) := by decide +kernel
theorem dL_law_306 : decode cL_law 306 = .ok (.iaload, 1) := by decide +kernel
theorem dL_law_307 : decode cL_law 307 = .ok (.aload_n 0, 1) := by decide +kernel
theorem dL_law_308 : decode cL_law 308 = .ok (.iload_n 3, 1) := by decide +kernel
theorem dL_law_309 : decode cL_law 309 = .ok (.iconst 2, 1) := by decide +kernel
theorem dL_law_310 : decode cL_law 310 = .ok (.iadd, 1) := by decide +kernel
theorem dL_law_311 : decode cL_law 311 = .ok (.iaload, 1) := by decide +kernel
theorem dL_law_312 : decode cL_law 312 = .ok (.invokevirtual 36, 3) := by decide +kernel
theorem dL_law_315 : decode cL_law 315 = .ok (.aload_n 2, 1) := by decide +kernel
theorem dL_law_316 : decode cL_law 316 = .ok (.aload_n 0, 1) := by decide +kernel
theorem dL_law_317 : decode cL_law 317 = .ok (.iload_n 3, 1) := by decide +kernel
theorem dL_law_318 : decode cL_law 318 = .ok (.iconst 1, 1) := by decide +kernel
theorem dL_law_319 : decode cL_law 319 = .ok (.iadd, 1) := by decide +kernel
theorem dL_law_320 : decode cL_law 320 = .ok (.iaload, 1) := by decide +kernel
theorem dL_law_321 : decode cL_law 321 = .ok (.aload_n 0, 1) := by decide +kernel
theorem dL_law_322 : decode cL_law 322 = .ok (.iload_n 3, 1) := by decide +kernel
theorem dL_law_323 : decode cL_law 323 = .ok (.iconst 2, 1) := by decide +kernel
theorem dL_law_324 : decode cL_law 324 = .ok (.iadd, 1) := by decide +kernel
theorem dL_law_325 : decode cL_law 325 = .ok (.iaload, 1) := by decide +kernel
theorem dL_law_326 : decode cL_law 326 = .ok (.invokevirtual 39, 3) := by decide +kernel
theorem dL_law_329 : decode cL_law 329 = .ok (.if_icmp .eq 413, 3) := by decide +kernel
theorem dL_law_332 : decode cL_law 332 = .ok (.iconst 0, 1) := by decide +kernel
theorem dL_law_333 : decode cL_law 333 = .ok (.ireturn, 1) := by decide +kernel
theorem dL_law_334 : decode cL_law 334 = .ok (.aload_n 1, 1) := by decide +kernel
theorem dL_law_335 : decode cL_law 335 = .ok (.aload_n 0, 1) := by decide +kernel
theorem dL_law_336 : decode cL_law 336 = .ok (.iload_n 3, 1) := by decide +kernel
theorem dL_law_337 : decode cL_law 337 = .ok (.iconst 1, 1) := by decide +kernel
theorem dL_law_338 : decode cL_law 338 = .ok (.iadd, 1) := by decide +kernel
theorem dL_law_339 : decode cL_law 339 = .ok (.iaload, 1) := by decide +kernel
theorem dL_law_340 : decode cL_law 340 = .ok (.aload_n 0, 1) := by decide +kernel
theorem dL_law_341 : decode cL_law 341 = .ok (.iload_n 3, 1) := by decide +kernel
theorem dL_law_342 : decode cL_law 342 = .ok (.iconst 2, 1) := by decide +kernel
theorem dL_law_343 : decode cL_law 343 = .ok (.iadd, 1) := by decide +kernel
theorem dL_law_344 : decode cL_law 344 = .ok (.iaload, 1) := by decide +kernel
theorem dL_law_345 : decode cL_law 345 = .ok (.aload_n 0, 1) := by decide +kernel
theorem dL_law_346 : decode cL_law 346 = .ok (.iload_n 3, 1) := by decide +kernel
theorem dL_law_347 : decode cL_law 347 = .ok (.iconst 3, 1) := by decide +kernel
theorem dL_law_348 : decode cL_law 348 = .ok (.iadd, 1) := by decide +kernel
theorem dL_law_349 : decode cL_law 349 = .ok (.iaload, 1) := by decide +kernel
theorem dL_law_350 : decode cL_law 350 = .ok (.aload_n 0, 1) := by decide +kernel
theorem dL_law_351 : decode cL_law 351 = .ok (.iload_n 3, 1) := by decide +kernel
theorem dL_law_352 : decode cL_law 352 = .ok (.iconst 4, 1) := by decide +kernel
theorem dL_law_353 : decode cL_law 353 = .ok (.iadd, 1) := by decide +kernel
theorem dL_law_354 : decode cL_law 354 = .ok (.iaload, 1) := by decide +kernel
theorem dL_law_355 : decode cL_law 355 = .ok (.invokevirtual 40, 3) := by decide +kernel
theorem dL_law_358 : decode cL_law 358 = .ok (.aload_n 2, 1) := by decide +kernel
theorem dL_law_359 : decode cL_law 359 = .ok (.aload_n 0, 1) := by decide +kernel
theorem dL_law_360 : decode cL_law 360 = .ok (.iload_n 3, 1) := by decide +kernel
theorem dL_law_361 : decode cL_law 361 = .ok (.iconst 1, 1) := by decide +kernel
theorem dL_law_362 : decode cL_law 362 = .ok (.iadd, 1) := by decide +kernel
theorem dL_law_363 : decode cL_law 363 = .ok (.iaload, 1) := by decide +kernel
theorem dL_law_364 : decode cL_law 364 = .ok (.aload_n 0, 1) := by decide +kernel
theorem dL_law_365 : decode cL_law 365 = .ok (.iload_n 3, 1) := by decide +kernel
theorem dL_law_366 : decode cL_law 366 = .ok (.iconst 2, 1) := by decide +kernel
theorem dL_law_367 : decode cL_law 367 = .ok (.iadd, 1) := by decide +kernel
theorem dL_law_368 : decode cL_law 368 = .ok (.iaload, 1) := by decide +kernel
theorem dL_law_369 : decode cL_law 369 = .ok (.aload_n 0, 1) := by decide +kernel
theorem dL_law_370 : decode cL_law 370 = .ok (.iload_n 3, 1) := by decide +kernel
theorem dL_law_371 : decode cL_law 371 = .ok (.iconst 3, 1) := by decide +kernel
theorem dL_law_372 : decode cL_law 372 = .ok (.iadd, 1) := by decide +kernel
theorem dL_law_373 : decode cL_law 373 = .ok (.iaload, 1) := by decide +kernel
theorem dL_law_374 : decode cL_law 374 = .ok (.aload_n 0, 1) := by decide +kernel
theorem dL_law_375 : decode cL_law 375 = .ok (.iload_n 3, 1) := by decide +kernel
theorem dL_law_376 : decode cL_law 376 = .ok (.iconst 4, 1) := by decide +kernel
theorem dL_law_377 : decode cL_law 377 = .ok (.iadd, 1) := by decide +kernel
theorem dL_law_378 : decode cL_law 378 = .ok (.iaload, 1) := by decide +kernel
theorem dL_law_379 : decode cL_law 379 = .ok (.invokevirtual 44, 3) := by decide +kernel
theorem dL_law_382 : decode cL_law 382 = .ok (.if_icmp .eq 360, 3) := by decide +kernel
theorem dL_law_385 : decode cL_law 385 = .ok (.iconst 0, 1) := by decide +kernel
theorem dL_law_386 : decode cL_law 386 = .ok (.ireturn, 1) := by decide +kernel
theorem dL_law_387 : decode cL_law 387 = .ok (.aload_n 1, 1) := by decide +kernel
theorem dL_law_388 : decode cL_law 388 = .ok (.aload_n 0, 1) := by decide +kernel
theorem dL_law_389 : decode cL_law 389 = .ok (.iload_n 3, 1) := by decide +kernel
theorem dL_law_390 : decode cL_law 390 = .ok (.iconst 1, 1) := by decide +kernel
theorem dL_law_391 : decode cL_law 391 = .ok (.iadd, 1) := by decide +kernel
theorem dL_law_392 : decode cL_law 392 = .ok (.iaload, 1) := by decide +kernel
theorem dL_law_393 : decode cL_law 393 = .ok (.invokevirtual 45, 3) := by decide +kernel
theorem dL_law_396 : decode cL_law 396 = .ok (.aload_n 2, 1) := by decide +kernel
theorem dL_law_397 : decode cL_law 397 = .ok (.aload_n 0, 1) := by decide +kernel
theorem dL_law_398 : decode cL_law 398 = .ok (.iload_n 3, 1) := by decide +kernel
theorem dL_law_399 : decode cL_law 399 = .ok (.iconst 1, 1) := by decide +kernel
theorem dL_law_400 : decode cL_law 400 = .ok (.iadd, 1) := by decide +kernel
theorem dL_law_401 : decode cL_law 401 = .ok (.iaload, 1) := by decide +kernel
theorem dL_law_402 : decode cL_law 402 = .ok (.invokevirtual 48, 3) := by decide +kernel
theorem dL_law_405 : decode cL_law 405 = .ok (.if_icmp .eq 337, 3) := by decide +kernel
theorem dL_law_408 : decode cL_law 408 = .ok (.iconst 0, 1) := by decide +kernel
theorem dL_law_409 : decode cL_law 409 = .ok (.ireturn, 1) := by decide +kernel
theorem dL_law_410 : decode cL_law 410 = .ok (.aload_n 1, 1) := by decide +kernel
theorem dL_law_411 : decode cL_law 411 = .ok (.invokevirtual 49, 3) := by decide +kernel
theorem dL_law_414 : decode cL_law 414 = .ok (.aload_n 2, 1) := by decide +kernel
theorem dL_law_415 : decode cL_law 415 = .ok (.invokevirtual 53, 3) := by decide +kernel
theorem dL_law_418 : decode cL_law 418 = .ok (.if_icmp .eq 324, 3) := by decide +kernel
theorem dL_law_421 : decode cL_law 421 = .ok (.iconst 0, 1) := by decide +kernel
theorem dL_law_422 : decode cL_law 422 = .ok (.ireturn, 1) := by decide +kernel
theorem dL_law_423 : decode cL_law 423 = .ok (.aload_n 1, 1) := by decide +kernel
theorem dL_law_424 : decode cL_law 424 = .ok (.aload_n 0, 1) := by decide +kernel
theorem dL_law_425 : decode cL_law 425 = .ok (.iload_n 3, 1) := by decide +kernel
theorem dL_law_426 : decode cL_law 426 = .ok (.iconst 1, 1) := by decide +kernel
theorem dL_law_427 : decode cL_law 427 = .ok (.iadd, 1) := by decide +kernel
theorem dL_law_428 : decode cL_law 428 = .ok (.iaload, 1) := by decide +kernel
theorem dL_law_429 : decode cL_law 429 = .ok (.invokevirtual 54, 3) := by decide +kernel
theorem dL_law_432 : decode cL_law 432 = .ok (.aload_n 2, 1) := by decide +kernel
theorem dL_law_433 : decode cL_law 433 = .ok (.aload_n 0, 1) := by decide +kernel
theorem dL_law_434 : decode cL_law 434 = .ok (.iload_n 3, 1) := by decide +kernel
theorem dL_law_435 : decode cL_law 435 = .ok (.iconst 1, 1) := by decide +kernel
theorem dL_law_436 : decode cL_law 436 = .ok (.iadd, 1) := by decide +kernel
theorem dL_law_437 : decode cL_law 437 = .ok (.iaload, 1) := by decide +kernel
theorem dL_law_438 : decode cL_law 438 = .ok (.invokevirtual 57, 3) := by decide +kernel
theorem dL_law_441 : decode cL_law 441 = .ok (.if_icmp .eq 301, 3) := by decide +kernel
theorem dL_law_444 : decode cL_law 444 = .ok (.iconst 0, 1) := by decide +kernel
theorem dL_law_445 : decode cL_law 445 = .ok (.ireturn, 1) := by decide +kernel
theorem dL_law_446 : decode cL_law 446 = .ok (.aload_n 1, 1) := by decide +kernel
theorem dL_law_447 : decode cL_law 447 = .ok (.aload_n 0, 1) := by decide +kernel
theorem dL_law_448 : decode cL_law 448 = .ok (.iload_n 3, 1) := by decide +kernel
theorem dL_law_449 : decode cL_law 449 = .ok (.iconst 1, 1) := by decide +kernel
theorem dL_law_450 : decode cL_law 450 = .ok (.iadd, 1) := by decide +kernel
theorem dL_law_451 : decode cL_law 451 = .ok (.iaload, 1) := by decide +kernel
theorem dL_law_452 : decode cL_law 452 = .ok (.invokevirtual 58, 3) := by decide +kernel
theorem dL_law_455 : decode cL_law 455 = .ok (.aload_n 2, 1) := by decide +kernel
theorem dL_law_456 : decode cL_law 456 = .ok (.aload_n 0, 1) := by decide +kernel
theorem dL_law_457 : decode cL_law 457 = .ok (.iload_n 3, 1) := by decide +kernel
theorem dL_law_458 : decode cL_law 458 = .ok (.iconst 1, 1) := by decide +kernel
theorem dL_law_459 : decode cL_law 459 = .ok (.iadd, 1) := by decide +kernel
theorem dL_law_460 : decode cL_law 460 = .ok (.iaload, 1) := by decide +kernel
theorem dL_law_461 : decode cL_law 461 = .ok (.invokevirtual 61, 3) := by decide +kernel
theorem dL_law_464 : decode cL_law 464 = .ok (.if_icmp .eq 278, 3) := by decide +kernel
theorem dL_law_467 : decode cL_law 467 = .ok (.iconst 0, 1) := by decide +kernel
theorem dL_law_468 : decode cL_law 468 = .ok (.ireturn, 1) := by decide +kernel
theorem dL_law_469 : decode cL_law 469 = .ok (.aload_n 1, 1) := by decide +kernel
theorem dL_law_470 : decode cL_law 470 = .ok (.invokevirtual 62, 3) := by decide +kernel
theorem dL_law_473 : decode cL_law 473 = .ok (.aload_n 2, 1) := by decide +kernel
theorem dL_law_474 : decode cL_law 474 = .ok (.invokevirtual 65, 3) := by decide +kernel
theorem dL_law_477 : decode cL_law 477 = .ok (.if_icmp .eq 265, 3) := by decide +kernel
theorem dL_law_480 : decode cL_law 480 = .ok (.iconst 0, 1) := by decide +kernel
theorem dL_law_481 : decode cL_law 481 = .ok (.ireturn, 1) := by decide +kernel
theorem dL_law_482 : decode cL_law 482 = .ok (.aload_n 1, 1) := by decide +kernel
theorem dL_law_483 : decode cL_law 483 = .ok (.aload_n 0, 1) := by decide +kernel
theorem dL_law_484 : decode cL_law 484 = .ok (.iload_n 3, 1) := by decide +kernel
theorem dL_law_485 : decode cL_law 485 = .ok (.iconst 1, 1) := by decide +kernel
theorem dL_law_486 : decode cL_law 486 = .ok (.iadd, 1) := by decide +kernel
theorem dL_law_487 : decode cL_law 487 = .ok (.iaload, 1) := by decide +kernel
theorem dL_law_488 : decode cL_law 488 = .ok (.invokevirtual 66, 3) := by decide +kernel
theorem dL_law_491 : decode cL_law 491 = .ok (.aload_n 2, 1) := by decide +kernel
theorem dL_law_492 : decode cL_law 492 = .ok (.aload_n 0, 1) := by decide +kernel
theorem dL_law_493 : decode cL_law 493 = .ok (.iload_n 3, 1) := by decide +kernel
theorem dL_law_494 : decode cL_law 494 = .ok (.iconst 1, 1) := by decide +kernel
theorem dL_law_495 : decode cL_law 495 = .ok (.iadd, 1) := by decide +kernel
theorem dL_law_496 : decode cL_law 496 = .ok (.iaload, 1) := by decide +kernel
theorem dL_law_497 : decode cL_law 497 = .ok (.invokevirtual 69, 3) := by decide +kernel
theorem dL_law_500 : decode cL_law 500 = .ok (.if_icmp .eq 242, 3) := by decide +kernel
theorem dL_law_503 : decode cL_law 503 = .ok (.iconst 0, 1) := by decide +kernel
theorem dL_law_504 : decode cL_law 504 = .ok (.ireturn, 1) := by decide +kernel
theorem dL_law_505 : decode cL_law 505 = .ok (.aload_n 1, 1) := by decide +kernel
theorem dL_law_506 : decode cL_law 506 = .ok (.invokevirtual 70, 3) := by decide +kernel
theorem dL_law_509 : decode cL_law 509 = .ok (.aload_n 2, 1) := by decide +kernel
theorem dL_law_510 : decode cL_law 510 = .ok (.invokevirtual 73, 3) := by decide +kernel
theorem dL_law_513 : decode cL_law 513 = .ok (.if_icmp .eq 229, 3) := by decide +kernel
theorem dL_law_516 : decode cL_law 516 = .ok (.iconst 0, 1) := by decide +kernel
theorem dL_law_517 : decode cL_law 517 = .ok (.ireturn, 1) := by decide +kernel
theorem dL_law_518 : decode cL_law 518 = .ok (.aload_n 1, 1) := by decide +kernel
theorem dL_law_519 : decode cL_law 519 = .ok (.aload_n 0, 1) := by decide +kernel
theorem dL_law_520 : decode cL_law 520 = .ok (.iload_n 3, 1) := by decide +kernel
theorem dL_law_521 : decode cL_law 521 = .ok (.iconst 1, 1) := by decide +kernel
theorem dL_law_522 : decode cL_law 522 = .ok (.iadd, 1) := by decide +kernel
theorem dL_law_523 : decode cL_law 523 = .ok (.iaload, 1) := by decide +kernel
theorem dL_law_524 : decode cL_law 524 = .ok (.invokevirtual 74, 3) := by decide +kernel
theorem dL_law_527 : decode cL_law 527 = .ok (.aload_n 2, 1) := by decide +kernel
theorem dL_law_528 : decode cL_law 528 = .ok (.aload_n 0, 1) := by decide +kernel
theorem dL_law_529 : decode cL_law 529 = .ok (.iload_n 3, 1) := by decide +kernel
theorem dL_law_530 : decode cL_law 530 = .ok (.iconst 1, 1) := by decide +kernel
theorem dL_law_531 : decode cL_law 531 = .ok (.iadd, 1) := by decide +kernel
theorem dL_law_532 : decode cL_law 532 = .ok (.iaload, 1) := by decide +kernel
theorem dL_law_533 : decode cL_law 533 = .ok (.invokevirtual 77, 3) := by decide +kernel
theorem dL_law_536 : decode cL_law 536 = .ok (.if_icmp .eq 206, 3) := by decide +kernel
theorem dL_law_539 : decode cL_law 539 = .ok (.iconst 0, 1) := by decide +kernel
theorem dL_law_540 : decode cL_law 540 = .ok (.ireturn, 1) := by decide +kernel
theorem dL_law_541 : decode cL_law 541 = .ok (.aload_n 1, 1) := by decide +kernel
theorem dL_law_542 : decode cL_law 542 = .ok (.aload_n 0, 1) := by decide +kernel
theorem dL_law_543 : decode cL_law 543 = .ok (.iload_n 3, 1) := by decide +kernel
theorem dL_law_544 : decode cL_law 544 = .ok (.iconst 1, 1) := by decide +kernel
theorem dL_law_545 : decode cL_law 545 = .ok (.iadd, 1) := by decide +kernel
theorem dL_law_546 : decode cL_law 546 = .ok (.iaload, 1) := by decide +kernel
theorem dL_law_547 : decode cL_law 547 = .ok (.invokevirtual 78, 3) := by decide +kernel
theorem dL_law_550 : decode cL_law 550 = .ok (.aload_n 2, 1) := by decide +kernel
theorem dL_law_551 : decode cL_law 551 = .ok (.aload_n 0, 1) := by decide +kernel
theorem dL_law_552 : decode cL_law 552 = .ok (.iload_n 3, 1) := by decide +kernel
theorem dL_law_553 : decode cL_law 553 = .ok (.iconst 1, 1) := by decide +kernel
theorem dL_law_554 : decode cL_law 554 = .ok (.iadd, 1) := by decide +kernel
theorem dL_law_555 : decode cL_law 555 = .ok (.iaload, 1) := by decide +kernel
theorem dL_law_556 : decode cL_law 556 = .ok (.invokevirtual 81, 3) := by decide +kernel
theorem dL_law_559 : decode cL_law 559 = .ok (.if_icmp .eq 183, 3) := by decide +kernel
theorem dL_law_562 : decode cL_law 562 = .ok (.iconst 0, 1) := by decide +kernel
theorem dL_law_563 : decode cL_law 563 = .ok (.ireturn, 1) := by decide +kernel
theorem dL_law_564 : decode cL_law 564 = .ok (.aload_n 1, 1) := by decide +kernel
theorem dL_law_565 : decode cL_law 565 = .ok (.aload_n 0, 1) := by decide +kernel
theorem dL_law_566 : decode cL_law 566 = .ok (.iload_n 3, 1) := by decide +kernel
theorem dL_law_567 : decode cL_law 567 = .ok (.iconst 1, 1) := by decide +kernel
theorem dL_law_568 : decode cL_law 568 = .ok (.iadd, 1) := by decide +kernel
theorem dL_law_569 : decode cL_law 569 = .ok (.iaload, 1) := by decide +kernel
theorem dL_law_570 : decode cL_law 570 = .ok (.aload_n 0, 1) := by decide +kernel
theorem dL_law_571 : decode cL_law 571 = .ok (.iload_n 3, 1) := by decide +kernel
theorem dL_law_572 : decode cL_law 572 = .ok (.iconst 2, 1) := by decide +kernel
theorem dL_law_573 : decode cL_law 573 = .ok (.iadd, 1) := by decide +kernel
theorem dL_law_574 : decode cL_law 574 = .ok (.iaload, 1) := by decide +kernel
theorem dL_law_575 : decode cL_law 575 = .ok (.invokevirtual 82, 3) := by decide +kernel
theorem dL_law_578 : decode cL_law 578 = .ok (.aload_n 2, 1) := by decide +kernel
theorem dL_law_579 : decode cL_law 579 = .ok (.aload_n 0, 1) := by decide +kernel
theorem dL_law_580 : decode cL_law 580 = .ok (.iload_n 3, 1) := by decide +kernel
theorem dL_law_581 : decode cL_law 581 = .ok (.iconst 1, 1) := by decide +kernel
theorem dL_law_582 : decode cL_law 582 = .ok (.iadd, 1) := by decide +kernel
theorem dL_law_583 : decode cL_law 583 = .ok (.iaload, 1) := by decide +kernel
theorem dL_law_584 : decode cL_law 584 = .ok (.aload_n 0, 1) := by decide +kernel
theorem dL_law_585 : decode cL_law 585 = .ok (.iload_n 3, 1) := by decide +kernel
theorem dL_law_586 : decode cL_law 586 = .ok (.iconst 2, 1) := by decide +kernel
theorem dL_law_587 : decode cL_law 587 = .ok (.iadd, 1) := by decide +kernel
theorem dL_law_588 : decode cL_law 588 = .ok (.iaload, 1) := by decide +kernel
theorem dL_law_589 : decode cL_law 589 = .ok (.invokevirtual 85, 3) := by decide +kernel
theorem dL_law_592 : decode cL_law 592 = .ok (.if_icmp .eq 150, 3) := by decide +kernel
theorem dL_law_595 : decode cL_law 595 = .ok (.iconst 0, 1) := by decide +kernel
theorem dL_law_596 : decode cL_law 596 = .ok (.ireturn, 1) := by decide +kernel
theorem dL_law_597 : decode cL_law 597 = .ok (.aload_n 1, 1) := by decide +kernel
theorem dL_law_598 : decode cL_law 598 = .ok (.aload_n 0, 1) := by decide +kernel
theorem dL_law_599 : decode cL_law 599 = .ok (.iload_n 3, 1) := by decide +kernel
theorem dL_law_600 : decode cL_law 600 = .ok (.iconst 1, 1) := by decide +kernel
theorem dL_law_601 : decode cL_law 601 = .ok (.iadd, 1) := by decide +kernel
theorem dL_law_602 : decode cL_law 602 = .ok (.iaload, 1) := by decide +kernel
theorem dL_law_603 : decode cL_law 603 = .ok (.aload_n 0, 1) := by decide +kernel
theorem dL_law_604 : decode cL_law 604 = .ok (.iload_n 3, 1) := by decide +kernel
theorem dL_law_605 : decode cL_law 605 = .ok (.iconst 2, 1) := by decide +kernel
theorem dL_law_606 : decode cL_law 606 = .ok (.iadd, 1) := by decide +kernel
theorem dL_law_607 : decode cL_law 607 = .ok (.iaload, 1) := by decide +kernel
theorem dL_law_608 : decode cL_law 608 = .ok (.aload_n 0, 1) := by decide +kernel
theorem dL_law_609 : decode cL_law 609 = .ok (.iload_n 3, 1) := by decide +kernel
theorem dL_law_610 : decode cL_law 610 = .ok (.iconst 3, 1) := by decide +kernel
theorem dL_law_611 : decode cL_law 611 = .ok (.iadd, 1) := by decide +kernel
theorem dL_law_612 : decode cL_law 612 = .ok (.iaload, 1) := by decide +kernel
theorem dL_law_613 : decode cL_law 613 = .ok (.invokevirtual 86, 3) := by decide +kernel
theorem dL_law_616 : decode cL_law 616 = .ok (.aload_n 2, 1) := by decide +kernel
theorem dL_law_617 : decode cL_law 617 = .ok (.aload_n 0, 1) := by decide +kernel
theorem dL_law_618 : decode cL_law 618 = .ok (.iload_n 3, 1) := by decide +kernel
theorem dL_law_619 : decode cL_law 619 = .ok (.iconst 1, 1) := by decide +kernel
theorem dL_law_620 : decode cL_law 620 = .ok (.iadd, 1) := by decide +kernel
theorem dL_law_621 : decode cL_law 621 = .ok (.iaload, 1) := by decide +kernel
theorem dL_law_622 : decode cL_law 622 = .ok (.aload_n 0, 1) := by decide +kernel
theorem dL_law_623 : decode cL_law 623 = .ok (.iload_n 3, 1) := by decide +kernel
theorem dL_law_624 : decode cL_law 624 = .ok (.iconst 2, 1) := by decide +kernel
theorem dL_law_625 : decode cL_law 625 = .ok (.iadd, 1) := by decide +kernel
theorem dL_law_626 : decode cL_law 626 = .ok (.iaload, 1) := by decide +kernel
theorem dL_law_627 : decode cL_law 627 = .ok (.aload_n 0, 1) := by decide +kernel
theorem dL_law_628 : decode cL_law 628 = .ok (.iload_n 3, 1) := by decide +kernel
theorem dL_law_629 : decode cL_law 629 = .ok (.iconst 3, 1) := by decide +kernel
theorem dL_law_630 : decode cL_law 630 = .ok (.iadd, 1) := by decide +kernel
theorem dL_law_631 : decode cL_law 631 = .ok (.iaload, 1) := by decide +kernel
theorem dL_law_632 : decode cL_law 632 = .ok (.invokevirtual 89, 3) := by decide +kernel
theorem dL_law_635 : decode cL_law 635 = .ok (.if_icmp .eq 107, 3) := by decide +kernel
theorem dL_law_638 : decode cL_law 638 = .ok (.iconst 0, 1) := by decide +kernel
theorem dL_law_639 : decode cL_law 639 = .ok (.ireturn, 1) := by decide +kernel
theorem dL_law_640 : decode cL_law 640 = .ok (.aload_n 1, 1) := by decide +kernel
theorem dL_law_641 : decode cL_law 641 = .ok (.aload_n 0, 1) := by decide +kernel
theorem dL_law_642 : decode cL_law 642 = .ok (.iload_n 3, 1) := by decide +kernel
theorem dL_law_643 : decode cL_law 643 = .ok (.iconst 1, 1) := by decide +kernel
theorem dL_law_644 : decode cL_law 644 = .ok (.iadd, 1) := by decide +kernel
theorem dL_law_645 : decode cL_law 645 = .ok (.iaload, 1) := by decide +kernel
theorem dL_law_646 : decode cL_law 646 = .ok (.aload_n 0, 1) := by decide +kernel
theorem dL_law_647 : decode cL_law 647 = .ok (.iload_n 3, 1) := by decide +kernel
theorem dL_law_648 : decode cL_law 648 = .ok (.iconst 2, 1) := by decide +kernel
theorem dL_law_649 : decode cL_law 649 = .ok (.iadd, 1) := by decide +kernel
theorem dL_law_650 : decode cL_law 650 = .ok (.iaload, 1) := by decide +kernel
theorem dL_law_651 : decode cL_law 651 = .ok (.invokevirtual 90, 3) := by decide +kernel
theorem dL_law_654 : decode cL_law 654 = .ok (.aload_n 2, 1) := by decide +kernel
theorem dL_law_655 : decode cL_law 655 = .ok (.aload_n 0, 1) := by decide +kernel
theorem dL_law_656 : decode cL_law 656 = .ok (.iload_n 3, 1) := by decide +kernel
theorem dL_law_657 : decode cL_law 657 = .ok (.iconst 1, 1) := by decide +kernel
theorem dL_law_658 : decode cL_law 658 = .ok (.iadd, 1) := by decide +kernel
theorem dL_law_659 : decode cL_law 659 = .ok (.iaload, 1) := by decide +kernel
theorem dL_law_660 : decode cL_law 660 = .ok (.aload_n 0, 1) := by decide +kernel
theorem dL_law_661 : decode cL_law 661 = .ok (.iload_n 3, 1) := by decide +kernel
theorem dL_law_662 : decode cL_law 662 = .ok (.iconst 2, 1) := by decide +kernel
theorem dL_law_663 : decode cL_law 663 = .ok (.iadd, 1) := by decide +kernel
theorem dL_law_664 : decode cL_law 664 = .ok (.iaload, 1) := by decide +kernel
theorem dL_law_665 : decode cL_law 665 = .ok (.invokevirtual 93, 3) := by decide +kernel
theorem dL_law_668 : decode cL_law 668 = .ok (.if_icmp .eq 74, 3) := by decide +kernel
theorem dL_law_671 : decode cL_law 671 = .ok (.iconst 0, 1) := by decide +kernel
theorem dL_law_672 : decode cL_law 672 = .ok (.ireturn, 1) := by decide +kernel
theorem dL_law_673 : decode cL_law 673 = .ok (.aload_n 1, 1) := by decide +kernel
theorem dL_law_674 : decode cL_law 674 = .ok (.aload_n 0, 1) := by decide +kernel
theorem dL_law_675 : decode cL_law 675 = .ok (.iload_n 3, 1) := by decide +kernel
theorem dL_law_676 : decode cL_law 676 = .ok (.iconst 1, 1) := by decide +kernel
theorem dL_law_677 : decode cL_law 677 = .ok (.iadd, 1) := by decide +kernel
theorem dL_law_678 : decode cL_law 678 = .ok (.iaload, 1) := by decide +kernel
theorem dL_law_679 : decode cL_law 679 = .ok (.invokevirtual 94, 3) := by decide +kernel
theorem dL_law_682 : decode cL_law 682 = .ok (.aload_n 2, 1) := by decide +kernel
theorem dL_law_683 : decode cL_law 683 = .ok (.aload_n 0, 1) := by decide +kernel
theorem dL_law_684 : decode cL_law 684 = .ok (.iload_n 3, 1) := by decide +kernel
theorem dL_law_685 : decode cL_law 685 = .ok (.iconst 1, 1) := by decide +kernel
theorem dL_law_686 : decode cL_law 686 = .ok (.iadd, 1) := by decide +kernel
theorem dL_law_687 : decode cL_law 687 = .ok (.iaload, 1) := by decide +kernel
theorem dL_law_688 : decode cL_law 688 = .ok (.invokevirtual 97, 3) := by decide +kernel
theorem dL_law_691 : decode cL_law 691 = .ok (.if_icmp .eq 51, 3) := by decide +kernel
theorem dL_law_694 : decode cL_law 694 = .ok (.iconst 0, 1) := by decide +kernel
theorem dL_law_695 : decode cL_law 695 = .ok (.ireturn, 1) := by decide +kernel
theorem dL_law_696 : decode cL_law 696 = .ok (.aload_n 1, 1) := by decide +kernel
theorem dL_law_697 : decode cL_law 697 = .ok (.aload_n 0, 1) := by decide +kernel
theorem dL_law_698 : decode cL_law 698 = .ok (.iload_n 3, 1) := by decide +kernel
theorem dL_law_699 : decode cL_law 699 = .ok (.iconst 1, 1) := by decide +kernel
theorem dL_law_700 : decode cL_law 700 = .ok (.iadd, 1) := by decide +kernel
theorem dL_law_701 : decode cL_law 701 = .ok (.iaload, 1) := by decide +kernel
theorem dL_law_702 : decode cL_law 702 = .ok (.invokevirtual 98, 3) := by decide +kernel
theorem dL_law_705 : decode cL_law 705 = .ok (.aload_n 2, 1) := by decide +kernel
theorem dL_law_706 : decode cL_law 706 = .ok (.aload_n 0, 1) := by decide +kernel
theorem dL_law_707 : decode cL_law 707 = .ok (.iload_n 3, 1) := by decide +kernel
theorem dL_law_708 : decode cL_law 708 = .ok (.iconst 1, 1) := by decide +kernel
theorem dL_law_709 : decode cL_law 709 = .ok (.iadd, 1) := by decide +kernel
theorem dL_law_710 : decode cL_law 710 = .ok (.iaload, 1) := by decide +kernel
theorem dL_law_711 : decode cL_law 711 = .ok (.invokevirtual 101, 3) := by decide +kernel
theorem dL_law_714 : decode cL_law 714 = .ok (.if_icmp .eq 28, 3) := by decide +kernel
theorem dL_law_717 : decode cL_law 717 = .ok (.iconst 0, 1) := by decide +kernel
theorem dL_law_718 : decode cL_law 718 = .ok (.ireturn, 1) := by decide +kernel
theorem dL_law_719 : decode cL_law 719 = .ok (.aload_n 1, 1) := by decide +kernel
theorem dL_law_720 : decode cL_law 720 = .ok (.aload_n 0, 1) := by decide +kernel
theorem dL_law_721 : decode cL_law 721 = .ok (.iload_n 3, 1) := by decide +kernel
theorem dL_law_722 : decode cL_law 722 = .ok (.iconst 1, 1) := by decide +kernel
theorem dL_law_723 : decode cL_law 723 = .ok (.iadd, 1) := by decide +kernel
theorem dL_law_724 : decode cL_law 724 = .ok (.iaload, 1) := by decide +kernel
theorem dL_law_725 : decode cL_law 725 = .ok (.invokevirtual 102, 3) := by decide +kernel
theorem dL_law_728 : decode cL_law 728 = .ok (.aload_n 2, 1) := by decide +kernel
theorem dL_law_729 : decode cL_law 729 = .ok (.aload_n 0, 1) := by decide +kernel
theorem dL_law_730 : decode cL_law 730 = .ok (.iload_n 3, 1) := by decide +kernel
theorem dL_law_731 : decode cL_law 731 = .ok (.iconst 1, 1) := by decide +kernel
theorem dL_law_732 : decode cL_law 732 = .ok (.iadd, 1) := by decide +kernel
theorem dL_law_733 : decode cL_law 733 = .ok (.iaload, 1) := by decide +kernel
theorem dL_law_734 : decode cL_law 734 = .ok (.invokevirtual 105, 3) := by decide +kernel
theorem dL_law_737 : decode cL_law 737 = .ok (.if_icmp .eq 5, 3) := by decide +kernel
theorem dL_law_740 : decode cL_law 740 = .ok (.iconst 0, 1) := by decide +kernel
theorem dL_law_741 : decode cL_law 741 = .ok (.ireturn, 1) := by decide +kernel
theorem dL_law_742 : decode cL_law 742 = .ok (.iinc 3 5, 3) := by decide +kernel
theorem dL_law_745 : decode cL_law 745 = .ok (.goto (-727), 3) := by decide +kernel
theorem dL_law_748 : decode cL_law 748 = .ok (.iconst 1, 1) := by decide +kernel
theorem dL_law_749 : decode cL_law 749 = .ok (.ireturn, 1) := by decide +kernel
