set_option maxRecDepth 20000 in
theorem ggX0_init_X6_init : GoodIn wsX0_init wsX6_init := goodIn_r _ [15, 16, 2, 3, 17, 4, 18, 19, 20, 21, 27, 28, 29, 30, 31] (by decide +kernel) (by decide +kernel)
set_option maxRecDepth 20000 in
theorem gX0_init_X6_init : GoodIn wsX0_init (wsX6_init) := ggX0_init_X6_init
theorem dX0_init_0 : decode cX0_init 0 = .ok (.aload_n 0, 1) := by decide +kernel
theorem dX0_init_1 : decode cX0_init 1 = .ok (.invokespecial 3, 3) := by decide +kernel
theorem dX0_init_4 : decode cX0_init 4 = .ok (.aload_n 0, 1) := by decide +kernel
theorem dX0_init_5 : decode cX0_init 5 = .ok (.bipush 8, 2) := by decide +kernel
theorem dX0_init_7 : decode cX0_init 7 = .ok (.newarray .int, 2) := by decide +kernel
theorem dX0_init_9 : decode cX0_init 9 = .ok (.putfield 9, 3) := by decide +kernel
theorem dX0_init_12 : decode cX0_init 12 = .ok (.aload_n 0, 1) := by decide +kernel
theorem dX0_init_13 : decode cX0_init 13 = .ok (.iconst 0, 1) := by decide +kernel
theorem dX0_init_14 : decode cX0_init 14 = .ok (.putfield 15, 3) := by decide +kernel
theorem dX0_init_17 : decode cX0_init 17 = .ok (.aload_n 0, 1) := by decide +kernel
theorem dX0_init_18 : decode cX0_init 18 = .ok (.bipush 8, 2) := by decide +kernel
theorem dX0_init_20 : decode cX0_init 20 = .ok (.newarray .int, 2) := by decide +kernel
theorem dX0_init_22 : decode cX0_init 22 = .ok (.putfield 19, 3) := by decide +kernel
theorem dX0_init_25 : decode cX0_init 25 = .ok (.aload_n 0, 1) := by decide +kernel
theorem dX0_init_26 : decode cX0_init 26 = .ok (.bipush 25, 2) := by decide +kernel
theorem dX0_init_28 : decode cX0_init 28 = .ok (.newarray .int, 2) := by decide +kernel
theorem dX0_init_30 : decode cX0_init 30 = .ok (.putfield 22, 3) := by decide +kernel
theorem dX0_init_33 : decode cX0_init 33 = .ok (.aload_n 0, 1) := by decide +kernel
theorem dX0_init_34 : decode cX0_init 34 = .ok (.new 25, 3) := by decide +kernel
theorem dX0_init_37 : decode cX0_init 37 = .ok (.dup, 1) := by decide +kernel
theorem dX0_init_38 : decode cX0_init 38 = .ok (.bipush 24, 2) := by decide +kernel
theorem dX0_init_40 : decode cX0_init 40 = .ok (.invokespecial 27, 3) := by decide +kernel
theorem dX0_init_43 : decode cX0_init 43 = .ok (.putfield 30, 3) := by decide +kernel
theorem dX0_init_46 : decode cX0_init 46 = .ok (.return_, 1) := by decide +kernel
set_option maxRecDepth 20000 in
theorem ggX0_findConflicts_J7_fill_53178 : GoodIn wsX0_findConflicts wsJ7_fill_53178 := goodIn_r _ [10] (by decide +kernel) (by decide +kernel)
set_option maxRecDepth 20000 in
theorem gX0_findConflicts_J7_fill_53178 : GoodIn wsX0_findConflicts (va_wsS RX0 34 yJ7_fill_53178 wsJ7_fill_53178) := goodIn_app (goodIn_of _ (by decide +kernel)) ggX0_findConflicts_J7_fill_53178
set_option maxRecDepth 20000 in
theorem ggX0_findConflicts_X0_addConflicts : GoodIn wsX0_findConflicts wsX0_addConflicts := goodIn_r _ [15, 1, 41, 42, 43, 44, 45] (by decide +kernel) (by decide +kernel)
set_option maxRecDepth 20000 in
theorem gX0_findConflicts_X0_addConflicts : GoodIn wsX0_findConflicts (wsV RX0 45 RX0 yX0_addConflicts wsX0_addConflicts) := goodIn_app (goodIn_of _ (by decide +kernel)) ggX0_findConflicts_X0_addConflicts
set_option maxRecDepth 20000 in
theorem ggX0_findConflicts_X2_writesD : GoodIn wsX0_findConflicts wsX2_writesD := goodIn_r _ [19] (by decide +kernel) (by decide +kernel)
set_option maxRecDepth 20000 in
theorem gX0_findConflicts_X2_writesD : GoodIn wsX0_findConflicts (va_wsS RX0 55 yX2_writesD wsX2_writesD) := goodIn_app (goodIn_of _ (by decide +kernel)) ggX0_findConflicts_X2_writesD
set_option maxRecDepth 20000 in
theorem ggX0_findConflicts_X3_after : GoodIn wsX0_findConflicts wsX3_after := goodIn_r _ [24, 25, 26, 27, 28, 29, 30, 31, 32, 33, 34, 35, 36, 37, 38, 39, 18, 40, 46, 47, 48, 49, 50, 51] (by decide +kernel) (by decide +kernel)
set_option maxRecDepth 20000 in
theorem gX0_findConflicts_X3_after : GoodIn wsX0_findConflicts (wsV RX0 67 RX3 yX3_after wsX3_after) := goodIn_app (goodIn_of _ (by decide +kernel)) ggX0_findConflicts_X3_after
theorem dX0_findConflicts_0 : decode cX0_findConflicts 0 = .ok (.aload_n 0, 1) := by decide +kernel
theorem dX0_findConflicts_1 : decode cX0_findConflicts 1 = .ok (.getfield 19, 3) := by decide +kernel
theorem dX0_findConflicts_4 : decode cX0_findConflicts 4 = .ok (.iconst 0, 1) := by decide +kernel
theorem dX0_findConflicts_5 : decode cX0_findConflicts 5 = .ok (.invokestatic 34, 3) := by decide +kernel
theorem dX0_findConflicts_8 : decode cX0_findConflicts 8 = .ok (.aload_n 2, 1) := by decide +kernel
theorem dX0_findConflicts_9 : decode cX0_findConflicts 9 = .ok (.getfield 40, 3) := by decide +kernel
theorem dX0_findConflicts_12 : decode cX0_findConflicts 12 = .ok (.iconst 0, 1) := by decide +kernel
theorem dX0_findConflicts_13 : decode cX0_findConflicts 13 = .ok (.iaload, 1) := by decide +kernel
theorem dX0_findConflicts_14 : decode cX0_findConflicts 14 = .ok (.iconst 3, 1) := by decide +kernel
theorem dX0_findConflicts_15 : decode cX0_findConflicts 15 = .ok (.ior, 1) := by decide +kernel
theorem dX0_findConflicts_16 : decode cX0_findConflicts 16 = .ok (.istore_n 3, 1) := by decide +kernel
theorem dX0_findConflicts_17 : decode cX0_findConflicts 17 = .ok (.iconst 0, 1) := by decide +kernel
theorem dX0_findConflicts_18 : decode cX0_findConflicts 18 = .ok (.istore 4, 2) := by decide +kernel
theorem dX0_findConflicts_20 : decode cX0_findConflicts 20 = .ok (.iload 4, 2) := by decide +kernel
theorem dX0_findConflicts_22 : decode cX0_findConflicts 22 = .ok (.bipush 8, 2) := by decide +kernel
theorem dX0_findConflicts_24 : decode cX0_findConflicts 24 = .ok (.if_icmp .ge 26, 3) := by decide +kernel
theorem dX0_findConflicts_27 : decode cX0_findConflicts 27 = .ok (.iload_n 3, 1) := by decide +kernel
theorem dX0_findConflicts_28 : decode cX0_findConflicts 28 = .ok (.iload 4, 2) := by decide +kernel
theorem dX0_findConflicts_30 : decode cX0_findConflicts 30 = .ok (.ishr, 1) := by decide +kernel
theorem dX0_findConflicts_31 : decode cX0_findConflicts 31 = .ok (.iconst 1, 1) := by decide +kernel
theorem dX0_findConflicts_32 : decode cX0_findConflicts 32 = .ok (.iand, 1) := by decide +kernel
theorem dX0_findConflicts_33 : decode cX0_findConflicts 33 = .ok (.iconst 1, 1) := by decide +kernel
theorem dX0_findConflicts_34 : decode cX0_findConflicts 34 = .ok (.if_icmp .ne 10, 3) := by decide +kernel
theorem dX0_findConflicts_37 : decode cX0_findConflicts 37 = .ok (.aload_n 0, 1) := by decide +kernel
theorem dX0_findConflicts_38 : decode cX0_findConflicts 38 = .ok (.iload 4, 2) := by decide +kernel
theorem dX0_findConflicts_40 : decode cX0_findConflicts 40 = .ok (.iload_n 3, 1) := by decide +kernel
theorem dX0_findConflicts_41 : decode cX0_findConflicts 41 = .ok (.invokevirtual 45, 3) := by decide +kernel
theorem dX0_findConflicts_44 : decode cX0_findConflicts 44 = .ok (.iinc 4 1, 3) := by decide +kernel
theorem dX0_findConflicts_47 : decode cX0_findConflicts 47 = .ok (.goto (-27), 3) := by decide +kernel
theorem dX0_findConflicts_50 : decode cX0_findConflicts 50 = .ok (.iconst 0, 1) := by decide +kernel
theorem dX0_findConflicts_51 : decode cX0_findConflicts 51 = .ok (.istore 4, 2) := by decide +kernel
theorem dX0_findConflicts_53 : decode cX0_findConflicts 53 = .ok (.iload 4, 2) := by decide +kernel
theorem dX0_findConflicts_55 : decode cX0_findConflicts 55 = .ok (.aload_n 1, 1) := by decide +kernel
theorem dX0_findConflicts_56 : decode cX0_findConflicts 56 = .ok (.getfield 49, 3) := by decide +kernel
theorem dX0_findConflicts_59 : decode cX0_findConflicts 59 = .ok (.if_icmp .ge 71, 3) := by decide +kernel
theorem dX0_findConflicts_62 : decode cX0_findConflicts 62 = .ok (.aload_n 1, 1) := by decide +kernel
theorem dX0_findConflicts_63 : decode cX0_findConflicts 63 = .ok (.getfield 52, 3) := by decide +kernel
theorem dX0_findConflicts_66 : decode cX0_findConflicts 66 = .ok (.iload 4, 2) := by decide +kernel
theorem dX0_findConflicts_68 : decode cX0_findConflicts 68 = .ok (.iaload, 1) := by decide +kernel
theorem dX0_findConflicts_69 : decode cX0_findConflicts 69 = .ok (.invokestatic 55, 3) := by decide +kernel
theorem dX0_findConflicts_72 : decode cX0_findConflicts 72 = .ok (.ifCond .eq 52, 3) := by decide +kernel
theorem dX0_findConflicts_75 : decode cX0_findConflicts 75 = .ok (.aload_n 1, 1) := by decide +kernel
theorem dX0_findConflicts_76 : decode cX0_findConflicts 76 = .ok (.getfield 52, 3) := by decide +kernel
theorem dX0_findConflicts_79 : decode cX0_findConflicts 79 = .ok (.iload 4, 2) := by decide +kernel
theorem dX0_findConflicts_81 : decode cX0_findConflicts 81 = .ok (.iaload, 1) := by decide +kernel
theorem dX0_findConflicts_82 : decode cX0_findConflicts 82 = .ok (.iconst 2, 1) := by decide +kernel
theorem dX0_findConflicts_83 : decode cX0_findConflicts 83 = .ok (.if_icmp .ne 15, 3) := by decide +kernel
theorem dX0_findConflicts_86 : decode cX0_findConflicts 86 = .ok (.iconst 1, 1) := by decide +kernel
theorem dX0_findConflicts_87 : decode cX0_findConflicts 87 = .ok (.aload_n 1, 1) := by decide +kernel
theorem dX0_findConflicts_88 : decode cX0_findConflicts 88 = .ok (.getfield 61, 3) := by decide +kernel
theorem dX0_findConflicts_91 : decode cX0_findConflicts 91 = .ok (.iload 4, 2) := by decide +kernel
theorem dX0_findConflicts_93 : decode cX0_findConflicts 93 = .ok (.iaload, 1) := by decide +kernel
theorem dX0_findConflicts_94 : decode cX0_findConflicts 94 = .ok (.ishl, 1) := by decide +kernel
theorem dX0_findConflicts_95 : decode cX0_findConflicts 95 = .ok (.goto 4, 3) := by decide +kernel
theorem dX0_findConflicts_98 : decode cX0_findConflicts 98 = .ok (.iconst 0, 1) := by decide +kernel
theorem dX0_findConflicts_99 : decode cX0_findConflicts 99 = .ok (.istore 5, 2) := by decide +kernel
theorem dX0_findConflicts_101 : decode cX0_findConflicts 101 = .ok (.aload_n 0, 1) := by decide +kernel
theorem dX0_findConflicts_102 : decode cX0_findConflicts 102 = .ok (.aload_n 1, 1) := by decide +kernel
theorem dX0_findConflicts_103 : decode cX0_findConflicts 103 = .ok (.getfield 64, 3) := by decide +kernel
theorem dX0_findConflicts_106 : decode cX0_findConflicts 106 = .ok (.iload 4, 2) := by decide +kernel
theorem dX0_findConflicts_108 : decode cX0_findConflicts 108 = .ok (.iaload, 1) := by decide +kernel
theorem dX0_findConflicts_109 : decode cX0_findConflicts 109 = .ok (.aload_n 2, 1) := by decide +kernel
theorem dX0_findConflicts_110 : decode cX0_findConflicts 110 = .ok (.aload_n 1, 1) := by decide +kernel
theorem dX0_findConflicts_111 : decode cX0_findConflicts 111 = .ok (.iload 4, 2) := by decide +kernel
theorem dX0_findConflicts_113 : decode cX0_findConflicts 113 = .ok (.invokevirtual 67, 3) := by decide +kernel
theorem dX0_findConflicts_116 : decode cX0_findConflicts 116 = .ok (.iload 5, 2) := by decide +kernel
theorem dX0_findConflicts_118 : decode cX0_findConflicts 118 = .ok (.iconst (-1), 1) := by decide +kernel
theorem dX0_findConflicts_119 : decode cX0_findConflicts 119 = .ok (.ixor, 1) := by decide +kernel
theorem dX0_findConflicts_120 : decode cX0_findConflicts 120 = .ok (.iand, 1) := by decide +kernel
theorem dX0_findConflicts_121 : decode cX0_findConflicts 121 = .ok (.invokevirtual 45, 3) := by decide +kernel
theorem dX0_findConflicts_124 : decode cX0_findConflicts 124 = .ok (.iinc 4 1, 3) := by decide +kernel
theorem dX0_findConflicts_127 : decode cX0_findConflicts 127 = .ok (.goto (-74), 3) := by decide +kernel
theorem dX0_findConflicts_130 : decode cX0_findConflicts 130 = .ok (.return_, 1) := by decide +kernel
theorem dX0_addConflicts_0 : decode cX0_addConflicts 0 = .ok (.aload_n 0, 1) := by decide +kernel
theorem dX0_addConflicts_1 : decode cX0_addConflicts 1 = .ok (.getfield 19, 3) := by decide +kernel
theorem dX0_addConflicts_4 : decode cX0_addConflicts 4 = .ok (.iload_n 1, 1) := by decide +kernel
theorem dX0_addConflicts_5 : decode cX0_addConflicts 5 = .ok (.dup2, 1) := by decide +kernel
theorem dX0_addConflicts_6 : decode cX0_addConflicts 6 = .ok (.iaload, 1) := by decide +kernel
theorem dX0_addConflicts_7 : decode cX0_addConflicts 7 = .ok (.iload_n 2, 1) := by decide +kernel
theorem dX0_addConflicts_8 : decode cX0_addConflicts 8 = .ok (.iconst 1, 1) := by decide +kernel
theorem dX0_addConflicts_9 : decode cX0_addConflicts 9 = .ok (.iload_n 1, 1) := by decide +kernel
theorem dX0_addConflicts_10 : decode cX0_addConflicts 10 = .ok (.ishl, 1) := by decide +kernel
theorem dX0_addConflicts_11 : decode cX0_addConflicts 11 = .ok (.iconst (-1), 1) := by decide +kernel
theorem dX0_addConflicts_12 : decode cX0_addConflicts 12 = .ok (.ixor, 1) := by decide +kernel
theorem dX0_addConflicts_13 : decode cX0_addConflicts 13 = .ok (.iand, 1) := by decide +kernel
theorem dX0_addConflicts_14 : decode cX0_addConflicts 14 = .ok (.ior, 1) := by decide +kernel
theorem dX0_addConflicts_15 : decode cX0_addConflicts 15 = .ok (.iastore, 1) := by decide +kernel
theorem dX0_addConflicts_16 : decode cX0_addConflicts 16 = .ok (.iconst 0, 1) := by decide +kernel
theorem dX0_addConflicts_17 : decode cX0_addConflicts 17 = .ok (.istore_n 3, 1) := by decide +kernel
theorem dX0_addConflicts_18 : decode cX0_addConflicts 18 = .ok (.iload_n 3, 1) := by decide +kernel
theorem dX0_addConflicts_19 : decode cX0_addConflicts 19 = .ok (.bipush 8, 2) := by decide +kernel
theorem dX0_addConflicts_21 : decode cX0_addConflicts 21 = .ok (.if_icmp .ge 35, 3) := by decide +kernel
theorem dX0_addConflicts_24 : decode cX0_addConflicts 24 = .ok (.iload_n 3, 1) := by decide +kernel
theorem dX0_addConflicts_25 : decode cX0_addConflicts 25 = .ok (.iload_n 1, 1) := by decide +kernel
theorem dX0_addConflicts_26 : decode cX0_addConflicts 26 = .ok (.if_icmp .eq 24, 3) := by decide +kernel
theorem dX0_addConflicts_29 : decode cX0_addConflicts 29 = .ok (.iload_n 2, 1) := by decide +kernel
theorem dX0_addConflicts_30 : decode cX0_addConflicts 30 = .ok (.iload_n 3, 1) := by decide +kernel
theorem dX0_addConflicts_31 : decode cX0_addConflicts 31 = .ok (.ishr, 1) := by decide +kernel
theorem dX0_addConflicts_32 : decode cX0_addConflicts 32 = .ok (.iconst 1, 1) := by decide +kernel
theorem dX0_addConflicts_33 : decode cX0_addConflicts 33 = .ok (.iand, 1) := by decide +kernel
theorem dX0_addConflicts_34 : decode cX0_addConflicts 34 = .ok (.iconst 1, 1) := by decide +kernel
theorem dX0_addConflicts_35 : decode cX0_addConflicts 35 = .ok (.if_icmp .ne 15, 3) := by decide +kernel
theorem dX0_addConflicts_38 : decode cX0_addConflicts 38 = .ok (.aload_n 0, 1) := by decide +kernel
theorem dX0_addConflicts_39 : decode cX0_addConflicts 39 = .ok (.getfield 19, 3) := by decide +kernel
theorem dX0_addConflicts_42 : decode cX0_addConflicts 42 = .ok (.iload_n 3, 1) := by decide +kernel
theorem dX0_addConflicts_43 : decode cX0_addConflicts 43 = .ok (.dup2, 1) := by decide +kernel
theorem dX0_addConflicts_44 : decode cX0_addConflicts 44 = .ok (.iaload, 1) := by decide +kernel
theorem dX0_addConflicts_45 : decode cX0_addConflicts 45 = .ok (.iconst 1, 1) := by decide +kernel
theorem dX0_addConflicts_46 : decode cX0_addConflicts 46 = .ok (.iload_n 1, 1) := by decide +kernel
theorem dX0_addConflicts_47 : decode cX0_addConflicts 47 = .ok (.ishl, 1) := by decide +kernel
theorem dX0_addConflicts_48 : decode cX0_addConflicts 48 = .ok (.ior, 1) := by decide +kernel
theorem dX0_addConflicts_49 : decode cX0_addConflicts 49 = .ok (.iastore, 1) := by decide +kernel
theorem dX0_addConflicts_50 : decode cX0_addConflicts 50 = .ok (.iinc 3 1, 3) := by decide +kernel
theorem dX0_addConflicts_53 : decode cX0_addConflicts 53 = .ok (.goto (-35), 3) := by decide +kernel
theorem dX0_addConflicts_56 : decode cX0_addConflicts 56 = .ok (.return_, 1) := by decide +kernel
set_option maxRecDepth 20000 in
theorem ggX0_settle_X0_lowestFree : GoodIn wsX0_settle wsX0_lowestFree := goodIn_r _ [7, 8, 9, 10, 6, 11, 2, 12, 13, 14, 15, 16, 17] (by decide +kernel) (by decide +kernel)
set_option maxRecDepth 20000 in
theorem gX0_settle_X0_lowestFree : GoodIn wsX0_settle (wsV RX0 71 RX0 yX0_lowestFree wsX0_lowestFree) := goodIn_app (goodIn_of _ (by decide +kernel)) ggX0_settle_X0_lowestFree
theorem dX0_settle_0 : decode cX0_settle 0 = .ok (.aload_n 0, 1) := by decide +kernel
theorem dX0_settle_1 : decode cX0_settle 1 = .ok (.iconst 0, 1) := by decide +kernel
theorem dX0_settle_2 : decode cX0_settle 2 = .ok (.putfield 15, 3) := by decide +kernel
theorem dX0_settle_5 : decode cX0_settle 5 = .ok (.aload_n 0, 1) := by decide +kernel
theorem dX0_settle_6 : decode cX0_settle 6 = .ok (.getfield 9, 3) := by decide +kernel
theorem dX0_settle_9 : decode cX0_settle 9 = .ok (.iconst 0, 1) := by decide +kernel
theorem dX0_settle_10 : decode cX0_settle 10 = .ok (.iconst 0, 1) := by decide +kernel
theorem dX0_settle_11 : decode cX0_settle 11 = .ok (.iastore, 1) := by decide +kernel
theorem dX0_settle_12 : decode cX0_settle 12 = .ok (.aload_n 0, 1) := by decide +kernel
theorem dX0_settle_13 : decode cX0_settle 13 = .ok (.getfield 9, 3) := by decide +kernel
theorem dX0_settle_16 : decode cX0_settle 16 = .ok (.iconst 1, 1) := by decide +kernel
theorem dX0_settle_17 : decode cX0_settle 17 = .ok (.iconst 1, 1) := by decide +kernel
theorem dX0_settle_18 : decode cX0_settle 18 = .ok (.iastore, 1) := by decide +kernel
theorem dX0_settle_19 : decode cX0_settle 19 = .ok (.iconst 2, 1) := by decide +kernel
theorem dX0_settle_20 : decode cX0_settle 20 = .ok (.istore_n 2, 1) := by decide +kernel
theorem dX0_settle_21 : decode cX0_settle 21 = .ok (.iload_n 2, 1) := by decide +kernel
theorem dX0_settle_22 : decode cX0_settle 22 = .ok (.bipush 8, 2) := by decide +kernel
theorem dX0_settle_24 : decode cX0_settle 24 = .ok (.if_icmp .ge 54, 3) := by decide +kernel
theorem dX0_settle_27 : decode cX0_settle 27 = .ok (.aload_n 0, 1) := by decide +kernel
theorem dX0_settle_28 : decode cX0_settle 28 = .ok (.iload_n 2, 1) := by decide +kernel
theorem dX0_settle_29 : decode cX0_settle 29 = .ok (.iload_n 1, 1) := by decide +kernel
theorem dX0_settle_30 : decode cX0_settle 30 = .ok (.invokevirtual 71, 3) := by decide +kernel
theorem dX0_settle_33 : decode cX0_settle 33 = .ok (.istore_n 3, 1) := by decide +kernel
theorem dX0_settle_34 : decode cX0_settle 34 = .ok (.iload_n 3, 1) := by decide +kernel
theorem dX0_settle_35 : decode cX0_settle 35 = .ok (.iconst (-1), 1) := by decide +kernel
theorem dX0_settle_36 : decode cX0_settle 36 = .ok (.if_icmp .ne 29, 3) := by decide +kernel
theorem dX0_settle_39 : decode cX0_settle 39 = .ok (.aload_n 0, 1) := by decide +kernel
theorem dX0_settle_40 : decode cX0_settle 40 = .ok (.getfield 9, 3) := by decide +kernel
theorem dX0_settle_43 : decode cX0_settle 43 = .ok (.iload_n 2, 1) := by decide +kernel
theorem dX0_settle_44 : decode cX0_settle 44 = .ok (.bipush 8, 2) := by decide +kernel
theorem dX0_settle_46 : decode cX0_settle 46 = .ok (.aload_n 0, 1) := by decide +kernel
theorem dX0_settle_47 : decode cX0_settle 47 = .ok (.getfield 15, 3) := by decide +kernel
theorem dX0_settle_50 : decode cX0_settle 50 = .ok (.iadd, 1) := by decide +kernel
theorem dX0_settle_51 : decode cX0_settle 51 = .ok (.iastore, 1) := by decide +kernel
theorem dX0_settle_52 : decode cX0_settle 52 = .ok (.aload_n 0, 1) := by decide +kernel
theorem dX0_settle_53 : decode cX0_settle 53 = .ok (.dup, 1) := by decide +kernel
theorem dX0_settle_54 : decode cX0_settle 54 = .ok (.getfield 15, 3) := by decide +kernel
theorem dX0_settle_57 : decode cX0_settle 57 = .ok (.iconst 1, 1) := by decide +kernel
theorem dX0_settle_58 : decode cX0_settle 58 = .ok (.iadd, 1) := by decide +kernel
theorem dX0_settle_59 : decode cX0_settle 59 = .ok (.putfield 15, 3) := by decide +kernel
theorem dX0_settle_62 : decode cX0_settle 62 = .ok (.goto 10, 3) := by decide +kernel
theorem dX0_settle_65 : decode cX0_settle 65 = .ok (.aload_n 0, 1) := by decide +kernel
theorem dX0_settle_66 : decode cX0_settle 66 = .ok (.getfield 9, 3) := by decide +kernel
theorem dX0_settle_69 : decode cX0_settle 69 = .ok (.iload_n 2, 1) := by decide +kernel
theorem dX0_settle_70 : decode cX0_settle 70 = .ok (.iload_n 3, 1) := by decide +kernel
theorem dX0_settle_71 : decode cX0_settle 71 = .ok (.iastore, 1) := by decide +kernel
theorem dX0_settle_72 : decode cX0_settle 72 = .ok (.iinc 2 1, 3) := by decide +kernel
theorem dX0_settle_75 : decode cX0_settle 75 = .ok (.goto (-54), 3) := by decide +kernel
theorem dX0_settle_78 : decode cX0_settle 78 = .ok (.aload_n 0, 1) := by decide +kernel
theorem dX0_settle_79 : decode cX0_settle 79 = .ok (.getfield 15, 3) := by decide +kernel
theorem dX0_settle_82 : decode cX0_settle 82 = .ok (.ireturn, 1) := by decide +kernel
set_option maxRecDepth 20000 in
theorem ggX0_lowestFree_X0_isFree : GoodIn wsX0_lowestFree wsX0_isFree := goodIn_r _ [5, 6, 7, 8, 9, 10, 11, 12] (by decide +kernel) (by decide +kernel)
set_option maxRecDepth 20000 in
theorem gX0_lowestFree_X0_isFree : GoodIn wsX0_lowestFree (wsV RX0 75 RX0 yX0_isFree wsX0_isFree) := goodIn_app (goodIn_of _ (by decide +kernel)) ggX0_lowestFree_X0_isFree
theorem dX0_lowestFree_0 : decode cX0_lowestFree 0 = .ok (.iconst 0, 1) := by decide +kernel
theorem dX0_lowestFree_1 : decode cX0_lowestFree 1 = .ok (.istore_n 3, 1) := by decide +kernel
theorem dX0_lowestFree_2 : decode cX0_lowestFree 2 = .ok (.iload_n 3, 1) := by decide +kernel
theorem dX0_lowestFree_3 : decode cX0_lowestFree 3 = .ok (.iload_n 2, 1) := by decide +kernel
theorem dX0_lowestFree_4 : decode cX0_lowestFree 4 = .ok (.if_icmp .ge 20, 3) := by decide +kernel
theorem dX0_lowestFree_7 : decode cX0_lowestFree 7 = .ok (.aload_n 0, 1) := by decide +kernel
theorem dX0_lowestFree_8 : decode cX0_lowestFree 8 = .ok (.iload_n 1, 1) := by decide +kernel
theorem dX0_lowestFree_9 : decode cX0_lowestFree 9 = .ok (.iload_n 3, 1) := by decide +kernel
theorem dX0_lowestFree_10 : decode cX0_lowestFree 10 = .ok (.invokevirtual 75, 3) := by decide +kernel
theorem dX0_lowestFree_13 : decode cX0_lowestFree 13 = .ok (.ifCond .eq 5, 3) := by decide +kernel
theorem dX0_lowestFree_16 : decode cX0_lowestFree 16 = .ok (.iload_n 3, 1) := by decide +kernel
theorem dX0_lowestFree_17 : decode cX0_lowestFree 17 = .ok (.ireturn, 1) := by decide +kernel
theorem dX0_lowestFree_18 : decode cX0_lowestFree 18 = .ok (.iinc 3 1, 3) := by decide +kernel
theorem dX0_lowestFree_21 : decode cX0_lowestFree 21 = .ok (.goto (-19), 3) := by decide +kernel
theorem dX0_lowestFree_24 : decode cX0_lowestFree 24 = .ok (.iconst (-1), 1) := by decide +kernel
theorem dX0_lowestFree_25 : decode cX0_lowestFree 25 = .ok (.ireturn, 1) := by decide +kernel
theorem dX0_isFree_0 : decode cX0_isFree 0 = .ok (.iconst 0, 1) := by decide +kernel
theorem dX0_isFree_1 : decode cX0_isFree 1 = .ok (.istore_n 3, 1) := by decide +kernel
theorem dX0_isFree_2 : decode cX0_isFree 2 = .ok (.iload_n 3, 1) := by decide +kernel
theorem dX0_isFree_3 : decode cX0_isFree 3 = .ok (.iload_n 1, 1) := by decide +kernel
theorem dX0_isFree_4 : decode cX0_isFree 4 = .ok (.if_icmp .ge 35, 3) := by decide +kernel
theorem dX0_isFree_7 : decode cX0_isFree 7 = .ok (.aload_n 0, 1) := by decide +kernel
theorem dX0_isFree_8 : decode cX0_isFree 8 = .ok (.getfield 9, 3) := by decide +kernel
theorem dX0_isFree_11 : decode cX0_isFree 11 = .ok (.iload_n 3, 1) := by decide +kernel
theorem dX0_isFree_12 : decode cX0_isFree 12 = .ok (.iaload, 1) := by decide +kernel
theorem dX0_isFree_13 : decode cX0_isFree 13 = .ok (.iload_n 2, 1) := by decide +kernel
theorem dX0_isFree_14 : decode cX0_isFree 14 = .ok (.if_icmp .ne 19, 3) := by decide +kernel
theorem dX0_isFree_17 : decode cX0_isFree 17 = .ok (.aload_n 0, 1) := by decide +kernel
theorem dX0_isFree_18 : decode cX0_isFree 18 = .ok (.getfield 19, 3) := by decide +kernel
theorem dX0_isFree_21 : decode cX0_isFree 21 = .ok (.iload_n 1, 1) := by decide +kernel
theorem dX0_isFree_22 : decode cX0_isFree 22 = .ok (.iaload, 1) := by decide +kernel
theorem dX0_isFree_23 : decode cX0_isFree 23 = .ok (.iload_n 3, 1) := by decide +kernel
theorem dX0_isFree_24 : decode cX0_isFree 24 = .ok (.ishr, 1) := by decide +kernel
theorem dX0_isFree_25 : decode cX0_isFree 25 = .ok (.iconst 1, 1) := by decide +kernel
theorem dX0_isFree_26 : decode cX0_isFree 26 = .ok (.iand, 1) := by decide +kernel
theorem dX0_isFree_27 : decode cX0_isFree 27 = .ok (.iconst 1, 1) := by decide +kernel
theorem dX0_isFree_28 : decode cX0_isFree 28 = .ok (.if_icmp .ne 5, 3) := by decide +kernel
theorem dX0_isFree_31 : decode cX0_isFree 31 = .ok (.iconst 0, 1) := by decide +kernel
theorem dX0_isFree_32 : decode cX0_isFree 32 = .ok (.ireturn, 1) := by decide +kernel
theorem dX0_isFree_33 : decode cX0_isFree 33 = .ok (.iinc 3 1, 3) := by decide +kernel
theorem dX0_isFree_36 : decode cX0_isFree 36 = .ok (.goto (-34), 3) := by decide +kernel
theorem dX0_isFree_39 : decode cX0_isFree 39 = .ok (.iconst 1, 1) := by decide +kernel
theorem dX0_isFree_40 : decode cX0_isFree 40 = .ok (.ireturn, 1) := by decide +kernel
set_option maxRecDepth 20000 in
theorem ggX0_rewrite_X6_copyFrom : GoodIn wsX0_rewrite wsX6_copyFrom := goodIn_r _ [10, 11, 12, 13, 14, 15, 16, 17, 18, 9, 19, 20, 21, 22, 23, 66, 67, 68, 69, 70] (by decide +kernel) (by decide +kernel)
set_option maxRecDepth 20000 in
theorem gX0_rewrite_X6_copyFrom : GoodIn wsX0_rewrite (wsV RX0 79 RX6 yX6_copyFrom wsX6_copyFrom) := goodIn_app (goodIn_of _ (by decide +kernel)) ggX0_rewrite_X6_copyFrom
set_option maxRecDepth 20000 in
theorem ggX0_rewrite_X6_clear : GoodIn wsX0_rewrite wsX6_clear := goodIn_r _ [27, 11, 66, 67, 68, 69, 70] (by decide +kernel) (by decide +kernel)
set_option maxRecDepth 20000 in
theorem gX0_rewrite_X6_clear : GoodIn wsX0_rewrite (wsV RX0 83 RX6 yX6_clear wsX6_clear) := goodIn_app (goodIn_of _ (by decide +kernel)) ggX0_rewrite_X6_clear
set_option maxRecDepth 20000 in
theorem ggX0_rewrite_X0_expand : GoodIn wsX0_rewrite wsX0_expand := goodIn_r _ [32, 1, 4, 5, 33, 34, 35, 36, 37, 38, 39, 40, 41, 42, 43, 44, 45, 46, 47, 48, 49, 50, 51, 31, 52, 53, 17, 18, 9, 19, 11, 12, 20, 21, 22, 23, 13, 14, 15, 54, 55, 56, 57, 61, 62, 63, 64, 65, 66, 67, 68, 69, 70] (by decide +kernel) (by decide +kernel)
set_option maxRecDepth 20000 in
theorem gX0_rewrite_X0_expand : GoodIn wsX0_rewrite (wsV RX0 86 RX0 yX0_expand wsX0_expand) := goodIn_app (goodIn_of _ (by decide +kernel)) ggX0_rewrite_X0_expand
set_option maxRecDepth 20000 in
theorem ggX0_rewrite_X2_goesToD : GoodIn wsX0_rewrite wsX2_goesToD := goodIn_r _ [60] (by decide +kernel) (by decide +kernel)
set_option maxRecDepth 20000 in
theorem gX0_rewrite_X2_goesToD : GoodIn wsX0_rewrite (va_wsS RX0 90 yX2_goesToD wsX2_goesToD) := goodIn_app (goodIn_of _ (by decide +kernel)) ggX0_rewrite_X2_goesToD
theorem dX0_rewrite_0 : decode cX0_rewrite 0 = .ok (.aload_n 0, 1) := by decide +kernel
theorem dX0_rewrite_1 : decode cX0_rewrite 1 = .ok (.getfield 30, 3) := by decide +kernel
theorem dX0_rewrite_4 : decode cX0_rewrite 4 = .ok (.aload_n 1, 1) := by decide +kernel
theorem dX0_rewrite_5 : decode cX0_rewrite 5 = .ok (.invokevirtual 79, 3) := by decide +kernel
theorem dX0_rewrite_8 : decode cX0_rewrite 8 = .ok (.aload_n 1, 1) := by decide +kernel
theorem dX0_rewrite_9 : decode cX0_rewrite 9 = .ok (.invokevirtual 83, 3) := by decide +kernel
theorem dX0_rewrite_12 : decode cX0_rewrite 12 = .ok (.iconst 0, 1) := by decide +kernel
theorem dX0_rewrite_13 : decode cX0_rewrite 13 = .ok (.istore_n 3, 1) := by decide +kernel
theorem dX0_rewrite_14 : decode cX0_rewrite 14 = .ok (.iload_n 3, 1) := by decide +kernel
theorem dX0_rewrite_15 : decode cX0_rewrite 15 = .ok (.aload_n 0, 1) := by decide +kernel
theorem dX0_rewrite_16 : decode cX0_rewrite 16 = .ok (.getfield 30, 3) := by decide +kernel
theorem dX0_rewrite_19 : decode cX0_rewrite 19 = .ok (.getfield 49, 3) := by decide +kernel
theorem dX0_rewrite_22 : decode cX0_rewrite 22 = .ok (.if_icmp .ge 31, 3) := by decide +kernel
theorem dX0_rewrite_25 : decode cX0_rewrite 25 = .ok (.aload_n 0, 1) := by decide +kernel
theorem dX0_rewrite_26 : decode cX0_rewrite 26 = .ok (.getfield 22, 3) := by decide +kernel
theorem dX0_rewrite_29 : decode cX0_rewrite 29 = .ok (.iload_n 3, 1) := by decide +kernel
theorem dX0_rewrite_30 : decode cX0_rewrite 30 = .ok (.aload_n 1, 1) := by decide +kernel
theorem dX0_rewrite_31 : decode cX0_rewrite 31 = .ok (.getfield 49, 3) := by decide +kernel
theorem dX0_rewrite_34 : decode cX0_rewrite 34 = .ok (.iastore, 1) := by decide +kernel
theorem dX0_rewrite_35 : decode cX0_rewrite 35 = .ok (.aload_n 0, 1) := by decide +kernel
theorem dX0_rewrite_36 : decode cX0_rewrite 36 = .ok (.aload_n 1, 1) := by decide +kernel
theorem dX0_rewrite_37 : decode cX0_rewrite 37 = .ok (.iload_n 3, 1) := by decide +kernel
theorem dX0_rewrite_38 : decode cX0_rewrite 38 = .ok (.iload_n 2, 1) := by decide +kernel
theorem dX0_rewrite_39 : decode cX0_rewrite 39 = .ok (.iconst 2, 1) := by decide +kernel
theorem dX0_rewrite_40 : decode cX0_rewrite 40 = .ok (.isub, 1) := by decide +kernel
theorem dX0_rewrite_41 : decode cX0_rewrite 41 = .ok (.iload_n 2, 1) := by decide +kernel
theorem dX0_rewrite_42 : decode cX0_rewrite 42 = .ok (.iconst 1, 1) := by decide +kernel
theorem dX0_rewrite_43 : decode cX0_rewrite 43 = .ok (.isub, 1) := by decide +kernel
theorem dX0_rewrite_44 : decode cX0_rewrite 44 = .ok (.invokevirtual 86, 3) := by decide +kernel
theorem dX0_rewrite_47 : decode cX0_rewrite 47 = .ok (.iinc 3 1, 3) := by decide +kernel
theorem dX0_rewrite_50 : decode cX0_rewrite 50 = .ok (.goto (-36), 3) := by decide +kernel
theorem dX0_rewrite_53 : decode cX0_rewrite 53 = .ok (.aload_n 0, 1) := by decide +kernel
theorem dX0_rewrite_54 : decode cX0_rewrite 54 = .ok (.getfield 22, 3) := by decide +kernel
theorem dX0_rewrite_57 : decode cX0_rewrite 57 = .ok (.aload_n 0, 1) := by decide +kernel
theorem dX0_rewrite_58 : decode cX0_rewrite 58 = .ok (.getfield 30, 3) := by decide +kernel
theorem dX0_rewrite_61 : decode cX0_rewrite 61 = .ok (.getfield 49, 3) := by decide +kernel
theorem dX0_rewrite_64 : decode cX0_rewrite 64 = .ok (.aload_n 1, 1) := by decide +kernel
theorem dX0_rewrite_65 : decode cX0_rewrite 65 = .ok (.getfield 49, 3) := by decide +kernel
theorem dX0_rewrite_68 : decode cX0_rewrite 68 = .ok (.iastore, 1) := by decide +kernel
theorem dX0_rewrite_69 : decode cX0_rewrite 69 = .ok (.iconst 0, 1) := by decide +kernel
theorem dX0_rewrite_70 : decode cX0_rewrite 70 = .ok (.istore_n 3, 1) := by decide +kernel
theorem dX0_rewrite_71 : decode cX0_rewrite 71 = .ok (.iload_n 3, 1) := by decide +kernel
theorem dX0_rewrite_72 : decode cX0_rewrite 72 = .ok (.aload_n 1, 1) := by decide +kernel
theorem dX0_rewrite_73 : decode cX0_rewrite 73 = .ok (.getfield 49, 3) := by decide +kernel
theorem dX0_rewrite_76 : decode cX0_rewrite 76 = .ok (.if_icmp .ge 38, 3) := by decide +kernel
theorem dX0_rewrite_79 : decode cX0_rewrite 79 = .ok (.aload_n 1, 1) := by decide +kernel
theorem dX0_rewrite_80 : decode cX0_rewrite 80 = .ok (.getfield 52, 3) := by decide +kernel
theorem dX0_rewrite_83 : decode cX0_rewrite 83 = .ok (.iload_n 3, 1) := by decide +kernel
theorem dX0_rewrite_84 : decode cX0_rewrite 84 = .ok (.iaload, 1) := by decide +kernel
theorem dX0_rewrite_85 : decode cX0_rewrite 85 = .ok (.invokestatic 90, 3) := by decide +kernel
theorem dX0_rewrite_88 : decode cX0_rewrite 88 = .ok (.ifCond .eq 20, 3) := by decide +kernel
theorem dX0_rewrite_91 : decode cX0_rewrite 91 = .ok (.aload_n 1, 1) := by decide +kernel
theorem dX0_rewrite_92 : decode cX0_rewrite 92 = .ok (.getfield 64, 3) := by decide +kernel
theorem dX0_rewrite_95 : decode cX0_rewrite 95 = .ok (.iload_n 3, 1) := by decide +kernel
theorem dX0_rewrite_96 : decode cX0_rewrite 96 = .ok (.aload_n 0, 1) := by decide +kernel
theorem dX0_rewrite_97 : decode cX0_rewrite 97 = .ok (.getfield 22, 3) := by decide +kernel
theorem dX0_rewrite_100 : decode cX0_rewrite 100 = .ok (.aload_n 1, 1) := by decide +kernel
theorem dX0_rewrite_101 : decode cX0_rewrite 101 = .ok (.getfield 64, 3) := by decide +kernel
theorem dX0_rewrite_104 : decode cX0_rewrite 104 = .ok (.iload_n 3, 1) := by decide +kernel
theorem dX0_rewrite_105 : decode cX0_rewrite 105 = .ok (.iaload, 1) := by decide +kernel
theorem dX0_rewrite_106 : decode cX0_rewrite 106 = .ok (.iaload, 1) := by decide +kernel
theorem dX0_rewrite_107 : decode cX0_rewrite 107 = .ok (.iastore, 1) := by decide +kernel
theorem dX0_rewrite_108 : decode cX0_rewrite 108 = .ok (.iinc 3 1, 3) := by decide +kernel
theorem dX0_rewrite_111 : decode cX0_rewrite 111 = .ok (.goto (-40), 3) := by decide +kernel
theorem dX0_rewrite_114 : decode cX0_rewrite 114 = .ok (.return_, 1) := by decide +kernel
set_option maxRecDepth 20000 in
theorem ggX0_expand_X2_writesD : GoodIn wsX0_expand wsX2_writesD := goodIn_r _ [10] (by decide +kernel) (by decide +kernel)
set_option maxRecDepth 20000 in
theorem gX0_expand_X2_writesD : GoodIn wsX0_expand (va_wsS RX0 55 yX2_writesD wsX2_writesD) := goodIn_app (goodIn_of _ (by decide +kernel)) ggX0_expand_X2_writesD
set_option maxRecDepth 20000 in
theorem ggX0_expand_X2_readsA : GoodIn wsX0_expand wsX2_readsA := goodIn_r _ [13] (by decide +kernel) (by decide +kernel)
set_option maxRecDepth 20000 in
theorem gX0_expand_X2_readsA : GoodIn wsX0_expand (va_wsS RX0 96 yX2_readsA wsX2_readsA) := goodIn_app (goodIn_of _ (by decide +kernel)) ggX0_expand_X2_readsA
set_option maxRecDepth 20000 in
theorem ggX0_expand_X2_readsB : GoodIn wsX0_expand wsX2_readsB := goodIn_r _ [16, 17, 18, 9, 19] (by decide +kernel) (by decide +kernel)
set_option maxRecDepth 20000 in
theorem gX0_expand_X2_readsB : GoodIn wsX0_expand (va_wsS RX0 99 yX2_readsB wsX2_readsB) := goodIn_app (goodIn_of _ (by decide +kernel)) ggX0_expand_X2_readsB
set_option maxRecDepth 20000 in
theorem ggX0_expand_X0_isInSlot : GoodIn wsX0_expand wsX0_isInSlot := goodIn_r _ [24, 6, 43, 44, 45, 46, 47] (by decide +kernel) (by decide +kernel)
set_option maxRecDepth 20000 in
theorem gX0_expand_X0_isInSlot : GoodIn wsX0_expand (wsV RX0 102 RX0 yX0_isInSlot wsX0_isInSlot) := goodIn_app (goodIn_of _ (by decide +kernel)) ggX0_expand_X0_isInSlot
set_option maxRecDepth 20000 in
theorem ggX0_expand_X6_append : GoodIn wsX0_expand wsX6_append := goodIn_r _ [29, 30, 31, 32, 33, 34, 28, 35, 36, 37, 38, 48, 49, 50, 51, 52] (by decide +kernel) (by decide +kernel)
set_option maxRecDepth 20000 in
theorem gX0_expand_X6_append : GoodIn wsX0_expand (wsV RX0 105 RX6 yX6_append wsX6_append) := goodIn_app (goodIn_of _ (by decide +kernel)) ggX0_expand_X6_append
set_option maxRecDepth 20000 in
theorem ggX0_expand_X0_place : GoodIn wsX0_expand wsX0_place := goodIn_r _ [42, 6, 20, 21, 22, 23, 24, 43, 44, 45, 46, 47] (by decide +kernel) (by decide +kernel)
set_option maxRecDepth 20000 in
theorem gX0_expand_X0_place : GoodIn wsX0_expand (wsV RX0 109 RX0 yX0_place wsX0_place) := goodIn_app (goodIn_of _ (by decide +kernel)) ggX0_expand_X0_place
theorem dX0_expand_0 : decode cX0_expand 0 = .ok (.aload_n 0, 1) := by decide +kernel
theorem dX0_expand_1 : decode cX0_expand 1 = .ok (.getfield 30, 3) := by decide +kernel
theorem dX0_expand_4 : decode cX0_expand 4 = .ok (.getfield 52, 3) := by decide +kernel
theorem dX0_expand_7 : decode cX0_expand 7 = .ok (.iload_n 2, 1) := by decide +kernel
theorem dX0_expand_8 : decode cX0_expand 8 = .ok (.iaload, 1) := by decide +kernel
theorem dX0_expand_9 : decode cX0_expand 9 = .ok (.istore 5, 2) := by decide +kernel
theorem dX0_expand_11 : decode cX0_expand 11 = .ok (.aload_n 0, 1) := by decide +kernel
theorem dX0_expand_12 : decode cX0_expand 12 = .ok (.getfield 30, 3) := by decide +kernel
theorem dX0_expand_15 : decode cX0_expand 15 = .ok (.getfield 64, 3) := by decide +kernel
theorem dX0_expand_18 : decode cX0_expand 18 = .ok (.iload_n 2, 1) := by decide +kernel
theorem dX0_expand_19 : decode cX0_expand 19 = .ok (.iaload, 1) := by decide +kernel
theorem dX0_expand_20 : decode cX0_expand 20 = .ok (.istore 6, 2) := by decide +kernel
theorem dX0_expand_22 : decode cX0_expand 22 = .ok (.aload_n 0, 1) := by decide +kernel
theorem dX0_expand_23 : decode cX0_expand 23 = .ok (.getfield 30, 3) := by decide +kernel
theorem dX0_expand_26 : decode cX0_expand 26 = .ok (.getfield 61, 3) := by decide +kernel
theorem dX0_expand_29 : decode cX0_expand 29 = .ok (.iload_n 2, 1) := by decide +kernel
theorem dX0_expand_30 : decode cX0_expand 30 = .ok (.iaload, 1) := by decide +kernel
theorem dX0_expand_31 : decode cX0_expand 31 = .ok (.istore 7, 2) := by decide +kernel
theorem dX0_expand_33 : decode cX0_expand 33 = .ok (.aload_n 0, 1) := by decide +kernel
theorem dX0_expand_34 : decode cX0_expand 34 = .ok (.getfield 30, 3) := by decide +kernel
theorem dX0_expand_37 : decode cX0_expand 37 = .ok (.getfield 93, 3) := by decide +kernel
theorem dX0_expand_40 : decode cX0_expand 40 = .ok (.iload_n 2, 1) := by decide +kernel
theorem dX0_expand_41 : decode cX0_expand 41 = .ok (.iaload, 1) := by decide +kernel
theorem dX0_expand_42 : decode cX0_expand 42 = .ok (.istore 8, 2) := by decide +kernel
theorem dX0_expand_44 : decode cX0_expand 44 = .ok (.iload 5, 2) := by decide +kernel
theorem dX0_expand_46 : decode cX0_expand 46 = .ok (.invokestatic 55, 3) := by decide +kernel
theorem dX0_expand_49 : decode cX0_expand 49 = .ok (.istore 9, 2) := by decide +kernel
theorem dX0_expand_51 : decode cX0_expand 51 = .ok (.iload 5, 2) := by decide +kernel
theorem dX0_expand_53 : decode cX0_expand 53 = .ok (.invokestatic 96, 3) := by decide +kernel
theorem dX0_expand_56 : decode cX0_expand 56 = .ok (.istore 10, 2) := by decide +kernel
theorem dX0_expand_58 : decode cX0_expand 58 = .ok (.iload 5, 2) := by decide +kernel
theorem dX0_expand_60 : decode cX0_expand 60 = .ok (.invokestatic 99, 3) := by decide +kernel
theorem dX0_expand_63 : decode cX0_expand 63 = .ok (.istore 11, 2) := by decide +kernel
theorem dX0_expand_65 : decode cX0_expand 65 = .ok (.iload 10, 2) := by decide +kernel
theorem dX0_expand_67 : decode cX0_expand 67 = .ok (.ifCond .eq 30, 3) := by decide +kernel
theorem dX0_expand_70 : decode cX0_expand 70 = .ok (.aload_n 0, 1) := by decide +kernel
theorem dX0_expand_71 : decode cX0_expand 71 = .ok (.iload 7, 2) := by decide +kernel
theorem dX0_expand_73 : decode cX0_expand 73 = .ok (.invokevirtual 102, 3) := by decide +kernel
theorem dX0_expand_76 : decode cX0_expand 76 = .ok (.ifCond .eq 21, 3) := by decide +kernel
theorem dX0_expand_79 : decode cX0_expand 79 = .ok (.aload_n 1, 1) := by decide +kernel
theorem dX0_expand_80 : decode cX0_expand 80 = .ok (.bipush 13, 2) := by decide +kernel
theorem dX0_expand_82 : decode cX0_expand 82 = .ok (.iload_n 3, 1) := by decide +kernel
theorem dX0_expand_83 : decode cX0_expand 83 = .ok (.aload_n 0, 1) := by decide +kernel
theorem dX0_expand_84 : decode cX0_expand 84 = .ok (.getfield 9, 3) := by decide +kernel
theorem dX0_expand_87 : decode cX0_expand 87 = .ok (.iload 7, 2) := by decide +kernel
theorem dX0_expand_89 : decode cX0_expand 89 = .ok (.iaload, 1) := by decide +kernel
theorem dX0_expand_90 : decode cX0_expand 90 = .ok (.bipush 8, 2) := by decide +kernel
theorem dX0_expand_92 : decode cX0_expand 92 = .ok (.isub, 1) := by decide +kernel
theorem dX0_expand_93 : decode cX0_expand 93 = .ok (.iconst 0, 1) := by decide +kernel
theorem dX0_expand_94 : decode cX0_expand 94 = .ok (.invokevirtual 105, 3) := by decide +kernel
theorem dX0_expand_97 : decode cX0_expand 97 = .ok (.iload 11, 2) := by decide +kernel
theorem dX0_expand_99 : decode cX0_expand 99 = .ok (.ifCond .eq 31, 3) := by decide +kernel
theorem dX0_expand_102 : decode cX0_expand 102 = .ok (.aload_n 0, 1) := by decide +kernel
theorem dX0_expand_103 : decode cX0_expand 103 = .ok (.iload 8, 2) := by decide +kernel
theorem dX0_expand_105 : decode cX0_expand 105 = .ok (.invokevirtual 102, 3) := by decide +kernel
theorem dX0_expand_108 : decode cX0_expand 108 = .ok (.ifCond .eq 22, 3) := by decide +kernel
theorem dX0_expand_111 : decode cX0_expand 111 = .ok (.aload_n 1, 1) := by decide +kernel
theorem dX0_expand_112 : decode cX0_expand 112 = .ok (.bipush 13, 2) := by decide +kernel
theorem dX0_expand_114 : decode cX0_expand 114 = .ok (.iload 4, 2) := by decide +kernel
theorem dX0_expand_116 : decode cX0_expand 116 = .ok (.aload_n 0, 1) := by decide +kernel
theorem dX0_expand_117 : decode cX0_expand 117 = .ok (.getfield 9, 3) := by decide +kernel
theorem dX0_expand_120 : decode cX0_expand 120 = .ok (.iload 8, 2) := by decide +kernel
theorem dX0_expand_122 : decode cX0_expand 122 = .ok (.iaload, 1) := by decide +kernel
theorem dX0_expand_123 : decode cX0_expand 123 = .ok (.bipush 8, 2) := by decide +kernel
theorem dX0_expand_125 : decode cX0_expand 125 = .ok (.isub, 1) := by decide +kernel
theorem dX0_expand_126 : decode cX0_expand 126 = .ok (.iconst 0, 1) := by decide +kernel
theorem dX0_expand_127 : decode cX0_expand 127 = .ok (.invokevirtual 105, 3) := by decide +kernel
theorem dX0_expand_130 : decode cX0_expand 130 = .ok (.aload_n 1, 1) := by decide +kernel
theorem dX0_expand_131 : decode cX0_expand 131 = .ok (.iload 5, 2) := by decide +kernel
theorem dX0_expand_133 : decode cX0_expand 133 = .ok (.iload 9, 2) := by decide +kernel
theorem dX0_expand_135 : decode cX0_expand 135 = .ok (.ifCond .eq 13, 3) := by decide +kernel
theorem dX0_expand_138 : decode cX0_expand 138 = .ok (.aload_n 0, 1) := by decide +kernel
theorem dX0_expand_139 : decode cX0_expand 139 = .ok (.iload 6, 2) := by decide +kernel
theorem dX0_expand_141 : decode cX0_expand 141 = .ok (.iload_n 3, 1) := by decide +kernel
theorem dX0_expand_142 : decode cX0_expand 142 = .ok (.invokevirtual 109, 3) := by decide +kernel
theorem dX0_expand_145 : decode cX0_expand 145 = .ok (.goto 5, 3) := by decide +kernel
theorem dX0_expand_148 : decode cX0_expand 148 = .ok (.iload 6, 2) := by decide +kernel
theorem dX0_expand_150 : decode cX0_expand 150 = .ok (.iload 10, 2) := by decide +kernel
theorem dX0_expand_152 : decode cX0_expand 152 = .ok (.ifCond .eq 13, 3) := by decide +kernel
theorem dX0_expand_155 : decode cX0_expand 155 = .ok (.aload_n 0, 1) := by decide +kernel
theorem dX0_expand_156 : decode cX0_expand 156 = .ok (.iload 7, 2) := by decide +kernel
theorem dX0_expand_158 : decode cX0_expand 158 = .ok (.iload_n 3, 1) := by decide +kernel
theorem dX0_expand_159 : decode cX0_expand 159 = .ok (.invokevirtual 109, 3) := by decide +kernel
theorem dX0_expand_162 : decode cX0_expand 162 = .ok (.goto 5, 3) := by decide +kernel
theorem dX0_expand_165 : decode cX0_expand 165 = .ok (.iload 7, 2) := by decide +kernel
theorem dX0_expand_167 : decode cX0_expand 167 = .ok (.iload 11, 2) := by decide +kernel
theorem dX0_expand_169 : decode cX0_expand 169 = .ok (.ifCond .eq 14, 3) := by decide +kernel
theorem dX0_expand_172 : decode cX0_expand 172 = .ok (.aload_n 0, 1) := by decide +kernel
theorem dX0_expand_173 : decode cX0_expand 173 = .ok (.iload 8, 2) := by decide +kernel
theorem dX0_expand_175 : decode cX0_expand 175 = .ok (.iload 4, 2) := by decide +kernel
theorem dX0_expand_177 : decode cX0_expand 177 = .ok (.invokevirtual 109, 3) := by decide +kernel
theorem dX0_expand_180 : decode cX0_expand 180 = .ok (.goto 5, 3) := by decide +kernel
theorem dX0_expand_183 : decode cX0_expand 183 = .ok (.iload 8, 2) := by decide +kernel
theorem dX0_expand_185 : decode cX0_expand 185 = .ok (.invokevirtual 105, 3) := by decide +kernel
theorem dX0_expand_188 : decode cX0_expand 188 = .ok (.iload 9, 2) := by decide +kernel
theorem dX0_expand_190 : decode cX0_expand 190 = .ok (.ifCond .eq 30, 3) := by decide +kernel
theorem dX0_expand_193 : decode cX0_expand 193 = .ok (.aload_n 0, 1) := by decide +kernel
theorem dX0_expand_194 : decode cX0_expand 194 = .ok (.iload 6, 2) := by decide +kernel
theorem dX0_expand_196 : decode cX0_expand 196 = .ok (.invokevirtual 102, 3) := by decide +kernel
theorem dX0_expand_199 : decode cX0_expand 199 = .ok (.ifCond .eq 21, 3) := by decide +kernel
theorem dX0_expand_202 : decode cX0_expand 202 = .ok (.aload_n 1, 1) := by decide +kernel
theorem dX0_expand_203 : decode cX0_expand 203 = .ok (.bipush 14, 2) := by decide +kernel
theorem dX0_expand_205 : decode cX0_expand 205 = .ok (.iconst 0, 1) := by decide +kernel
theorem dX0_expand_206 : decode cX0_expand 206 = .ok (.iload_n 3, 1) := by decide +kernel
theorem dX0_expand_207 : decode cX0_expand 207 = .ok (.aload_n 0, 1) := by decide +kernel
theorem dX0_expand_208 : decode cX0_expand 208 = .ok (.getfield 9, 3) := by decide +kernel
theorem dX0_expand_211 : decode cX0_expand 211 = .ok (.iload 6, 2) := by decide +kernel
theorem dX0_expand_213 : decode cX0_expand 213 = .ok (.iaload, 1) := by decide +kernel
theorem dX0_expand_214 : decode cX0_expand 214 = .ok (.bipush 8, 2) := by decide +kernel
theorem dX0_expand_216 : decode cX0_expand 216 = .ok (.isub, 1) := by decide +kernel
theorem dX0_expand_217 : decode cX0_expand 217 = .ok (.invokevirtual 105, 3) := by decide +kernel
theorem dX0_expand_220 : decode cX0_expand 220 = .ok (.return_, 1) := by decide +kernel
theorem dX0_isInSlot_0 : decode cX0_isInSlot 0 = .ok (.aload_n 0, 1) := by decide +kernel
theorem dX0_isInSlot_1 : decode cX0_isInSlot 1 = .ok (.getfield 9, 3) := by decide +kernel
theorem dX0_isInSlot_4 : decode cX0_isInSlot 4 = .ok (.iload_n 1, 1) := by decide +kernel
theorem dX0_isInSlot_5 : decode cX0_isInSlot 5 = .ok (.iaload, 1) := by decide +kernel
theorem dX0_isInSlot_6 : decode cX0_isInSlot 6 = .ok (.bipush 8, 2) := by decide +kernel
theorem dX0_isInSlot_8 : decode cX0_isInSlot 8 = .ok (.if_icmp .lt 7, 3) := by decide +kernel
theorem dX0_isInSlot_11 : decode cX0_isInSlot 11 = .ok (.iconst 1, 1) := by decide +kernel
theorem dX0_isInSlot_12 : decode cX0_isInSlot 12 = .ok (.goto 4, 3) := by decide +kernel
theorem dX0_isInSlot_15 : decode cX0_isInSlot 15 = .ok (.iconst 0, 1) := by decide +kernel
theorem dX0_isInSlot_16 : decode cX0_isInSlot 16 = .ok (.ireturn, 1) := by decide +kernel
set_option maxRecDepth 20000 in
theorem ggX0_place_X0_isInSlot : GoodIn wsX0_place wsX0_isInSlot := goodIn_r _ [6, 1, 7, 8, 9, 10, 11] (by decide +kernel) (by decide +kernel)
set_option maxRecDepth 20000 in
theorem gX0_place_X0_isInSlot : GoodIn wsX0_place (wsV RX0 102 RX0 yX0_isInSlot wsX0_isInSlot) := goodIn_app (goodIn_of _ (by decide +kernel)) ggX0_place_X0_isInSlot
theorem dX0_place_0 : decode cX0_place 0 = .ok (.aload_n 0, 1) := by decide +kernel
theorem dX0_place_1 : decode cX0_place 1 = .ok (.iload_n 1, 1) := by decide +kernel
theorem dX0_place_2 : decode cX0_place 2 = .ok (.invokevirtual 102, 3) := by decide +kernel
theorem dX0_place_5 : decode cX0_place 5 = .ok (.ifCond .eq 7, 3) := by decide +kernel
theorem dX0_place_8 : decode cX0_place 8 = .ok (.iload_n 2, 1) := by decide +kernel
theorem dX0_place_9 : decode cX0_place 9 = .ok (.goto 9, 3) := by decide +kernel
theorem dX0_place_12 : decode cX0_place 12 = .ok (.aload_n 0, 1) := by decide +kernel
theorem dX0_place_13 : decode cX0_place 13 = .ok (.getfield 9, 3) := by decide +kernel
theorem dX0_place_16 : decode cX0_place 16 = .ok (.iload_n 1, 1) := by decide +kernel
theorem dX0_place_17 : decode cX0_place 17 = .ok (.iaload, 1) := by decide +kernel
theorem dX0_place_18 : decode cX0_place 18 = .ok (.ireturn, 1) := by decide +kernel
theorem dX4_init_0 : decode cX4_init 0 = .ok (.aload_n 0, 1) := by decide +kernel
theorem dX4_init_1 : decode cX4_init 1 = .ok (.invokespecial 3, 3) := by decide +kernel
theorem dX4_init_4 : decode cX4_init 4 = .ok (.aload_n 0, 1) := by decide +kernel
theorem dX4_init_5 : decode cX4_init 5 = .ok (.bipush 8, 2) := by decide +kernel
theorem dX4_init_7 : decode cX4_init 7 = .ok (.newarray .int, 2) := by decide +kernel
theorem dX4_init_9 : decode cX4_init 9 = .ok (.putfield 9, 3) := by decide +kernel
theorem dX4_init_12 : decode cX4_init 12 = .ok (.aload_n 0, 1) := by decide +kernel
theorem dX4_init_13 : decode cX4_init 13 = .ok (.bipush 8, 2) := by decide +kernel
theorem dX4_init_15 : decode cX4_init 15 = .ok (.newarray .int, 2) := by decide +kernel
theorem dX4_init_17 : decode cX4_init 17 = .ok (.putfield 15, 3) := by decide +kernel
theorem dX4_init_20 : decode cX4_init 20 = .ok (.aload_n 0, 1) := by decide +kernel
theorem dX4_init_21 : decode cX4_init 21 = .ok (.bipush 16, 2) := by decide +kernel
theorem dX4_init_23 : decode cX4_init 23 = .ok (.newarray .int, 2) := by decide +kernel
theorem dX4_init_25 : decode cX4_init 25 = .ok (.putfield 18, 3) := by decide +kernel
theorem dX4_init_28 : decode cX4_init 28 = .ok (.aload_n 0, 1) := by decide +kernel
theorem dX4_init_29 : decode cX4_init 29 = .ok (.iconst 0, 1) := by decide +kernel
theorem dX4_init_30 : decode cX4_init 30 = .ok (.putfield 21, 3) := by decide +kernel
theorem dX4_init_33 : decode cX4_init 33 = .ok (.aload_n 0, 1) := by decide +kernel
theorem dX4_init_34 : decode cX4_init 34 = .ok (.iconst 0, 1) := by decide +kernel
theorem dX4_init_35 : decode cX4_init 35 = .ok (.putfield 25, 3) := by decide +kernel
theorem dX4_init_38 : decode cX4_init 38 = .ok (.aload_n 0, 1) := by decide +kernel
theorem dX4_init_39 : decode cX4_init 39 = .ok (.iconst (-1), 1) := by decide +kernel
theorem dX4_init_40 : decode cX4_init 40 = .ok (.putfield 28, 3) := by decide +kernel
theorem dX4_init_43 : decode cX4_init 43 = .ok (.aload_n 0, 1) := by decide +kernel
theorem dX4_init_44 : decode cX4_init 44 = .ok (.iconst 0, 1) := by decide +kernel
theorem dX4_init_45 : decode cX4_init 45 = .ok (.putfield 31, 3) := by decide +kernel
theorem dX4_init_48 : decode cX4_init 48 = .ok (.aload_n 0, 1) := by decide +kernel
theorem dX4_init_49 : decode cX4_init 49 = .ok (.bipush 8, 2) := by decide +kernel
theorem dX4_init_51 : decode cX4_init 51 = .ok (.newarray .int, 2) := by decide +kernel
theorem dX4_init_53 : decode cX4_init 53 = .ok (.putfield 34, 3) := by decide +kernel
theorem dX4_init_56 : decode cX4_init 56 = .ok (.aload_n 0, 1) := by decide +kernel
theorem dX4_init_57 : decode cX4_init 57 = .ok (.bipush 8, 2) := by decide +kernel
theorem dX4_init_59 : decode cX4_init 59 = .ok (.newarray .int, 2) := by decide +kernel
theorem dX4_init_61 : decode cX4_init 61 = .ok (.putfield 37, 3) := by decide +kernel
theorem dX4_init_64 : decode cX4_init 64 = .ok (.return_, 1) := by decide +kernel
set_option maxRecDepth 20000 in
theorem ggX4_execute_X4_begin : GoodIn wsX4_execute wsX4_begin := goodIn_r _ [6, 7, 8, 9, 10, 11, 12, 13, 14, 15, 16, 1, 17, 18, 19, 20, 55, 56, 57, 58, 59, 60, 61, 62, 63] (by decide +kernel) (by decide +kernel)
set_option maxRecDepth 20000 in
theorem gX4_execute_X4_begin : GoodIn wsX4_execute (wsV RX4 40 RX4 yX4_begin wsX4_begin) := goodIn_app (goodIn_of _ (by decide +kernel)) ggX4_execute_X4_begin
set_option maxRecDepth 20000 in
theorem ggX4_execute_X4_doNext : GoodIn wsX4_execute wsX4_doNext := goodIn_r _ [24, 16, 25, 1, 26, 27, 28, 29, 30, 31, 5, 32, 7, 15, 33, 34, 35, 36, 37, 38, 39, 40, 41, 42, 43, 44, 45, 46, 10, 8, 47, 48, 49, 50, 51, 52, 53, 54, 55, 56, 57, 58, 59, 60, 61, 62, 63, 64, 65, 66, 67, 68] (by decide +kernel) (by decide +kernel)
set_option maxRecDepth 20000 in
theorem gX4_execute_X4_doNext : GoodIn wsX4_execute (wsV RX4 44 RX4 yX4_doNext wsX4_doNext) := goodIn_app (goodIn_of _ (by decide +kernel)) ggX4_execute_X4_doNext
theorem dX4_execute_0 : decode cX4_execute 0 = .ok (.aload_n 0, 1) := by decide +kernel
theorem dX4_execute_1 : decode cX4_execute 1 = .ok (.iload_n 2, 1) := by decide +kernel
theorem dX4_execute_2 : decode cX4_execute 2 = .ok (.iload_n 3, 1) := by decide +kernel
theorem dX4_execute_3 : decode cX4_execute 3 = .ok (.invokevirtual 40, 3) := by decide +kernel
theorem dX4_execute_6 : decode cX4_execute 6 = .ok (.iconst 0, 1) := by decide +kernel
theorem dX4_execute_7 : decode cX4_execute 7 = .ok (.istore 4, 2) := by decide +kernel
theorem dX4_execute_9 : decode cX4_execute 9 = .ok (.iconst 0, 1) := by decide +kernel
theorem dX4_execute_10 : decode cX4_execute 10 = .ok (.istore 5, 2) := by decide +kernel
theorem dX4_execute_12 : decode cX4_execute 12 = .ok (.iload 5, 2) := by decide +kernel
theorem dX4_execute_14 : decode cX4_execute 14 = .ok (.sipush 400, 3) := by decide +kernel
theorem dX4_execute_17 : decode cX4_execute 17 = .ok (.if_icmp .gt 26, 3) := by decide +kernel
theorem dX4_execute_20 : decode cX4_execute 20 = .ok (.aload_n 0, 1) := by decide +kernel
theorem dX4_execute_21 : decode cX4_execute 21 = .ok (.getfield 28, 3) := by decide +kernel
theorem dX4_execute_24 : decode cX4_execute 24 = .ok (.iconst (-1), 1) := by decide +kernel
theorem dX4_execute_25 : decode cX4_execute 25 = .ok (.if_icmp .ne 18, 3) := by decide +kernel
theorem dX4_execute_28 : decode cX4_execute 28 = .ok (.aload_n 0, 1) := by decide +kernel
theorem dX4_execute_29 : decode cX4_execute 29 = .ok (.aload_n 1, 1) := by decide +kernel
theorem dX4_execute_30 : decode cX4_execute 30 = .ok (.iload 4, 2) := by decide +kernel
theorem dX4_execute_32 : decode cX4_execute 32 = .ok (.invokevirtual 44, 3) := by decide +kernel
theorem dX4_execute_35 : decode cX4_execute 35 = .ok (.istore 4, 2) := by decide +kernel
theorem dX4_execute_37 : decode cX4_execute 37 = .ok (.iinc 5 1, 3) := by decide +kernel
theorem dX4_execute_40 : decode cX4_execute 40 = .ok (.goto (-28), 3) := by decide +kernel
theorem dX4_execute_43 : decode cX4_execute 43 = .ok (.return_, 1) := by decide +kernel
set_option maxRecDepth 20000 in
theorem ggX4_begin_J7_fill_53178 : GoodIn wsX4_begin wsJ7_fill_53178 := goodIn_r _ [15] (by decide +kernel) (by decide +kernel)
set_option maxRecDepth 20000 in
theorem gX4_begin_J7_fill_53178 : GoodIn wsX4_begin (va_wsS RX4 48 yJ7_fill_53178 wsJ7_fill_53178) := goodIn_app (goodIn_of _ (by decide +kernel)) ggX4_begin_J7_fill_53178
theorem dX4_begin_0 : decode cX4_begin 0 = .ok (.aload_n 0, 1) := by decide +kernel
theorem dX4_begin_1 : decode cX4_begin 1 = .ok (.getfield 34, 3) := by decide +kernel
theorem dX4_begin_4 : decode cX4_begin 4 = .ok (.iconst 0, 1) := by decide +kernel
theorem dX4_begin_5 : decode cX4_begin 5 = .ok (.invokestatic 48, 3) := by decide +kernel
theorem dX4_begin_8 : decode cX4_begin 8 = .ok (.aload_n 0, 1) := by decide +kernel
theorem dX4_begin_9 : decode cX4_begin 9 = .ok (.getfield 37, 3) := by decide +kernel
theorem dX4_begin_12 : decode cX4_begin 12 = .ok (.iconst 0, 1) := by decide +kernel
theorem dX4_begin_13 : decode cX4_begin 13 = .ok (.invokestatic 48, 3) := by decide +kernel
theorem dX4_begin_16 : decode cX4_begin 16 = .ok (.aload_n 0, 1) := by decide +kernel
theorem dX4_begin_17 : decode cX4_begin 17 = .ok (.getfield 34, 3) := by decide +kernel
theorem dX4_begin_20 : decode cX4_begin 20 = .ok (.iconst 0, 1) := by decide +kernel
theorem dX4_begin_21 : decode cX4_begin 21 = .ok (.iload_n 1, 1) := by decide +kernel
theorem dX4_begin_22 : decode cX4_begin 22 = .ok (.iastore, 1) := by decide +kernel
theorem dX4_begin_23 : decode cX4_begin 23 = .ok (.aload_n 0, 1) := by decide +kernel
theorem dX4_begin_24 : decode cX4_begin 24 = .ok (.getfield 34, 3) := by decide +kernel
theorem dX4_begin_27 : decode cX4_begin 27 = .ok (.iconst 1, 1) := by decide +kernel
theorem dX4_begin_28 : decode cX4_begin 28 = .ok (.iload_n 2, 1) := by decide +kernel
theorem dX4_begin_29 : decode cX4_begin 29 = .ok (.iastore, 1) := by decide +kernel
theorem dX4_begin_30 : decode cX4_begin 30 = .ok (.aload_n 0, 1) := by decide +kernel
theorem dX4_begin_31 : decode cX4_begin 31 = .ok (.getfield 9, 3) := by decide +kernel
theorem dX4_begin_34 : decode cX4_begin 34 = .ok (.iconst 0, 1) := by decide +kernel
theorem dX4_begin_35 : decode cX4_begin 35 = .ok (.aload_n 0, 1) := by decide +kernel
theorem dX4_begin_36 : decode cX4_begin 36 = .ok (.getfield 15, 3) := by decide +kernel
theorem dX4_begin_39 : decode cX4_begin 39 = .ok (.iconst 0, 1) := by decide +kernel
theorem dX4_begin_40 : decode cX4_begin 40 = .ok (.bipush 8, 2) := by decide +kernel
theorem dX4_begin_42 : decode cX4_begin 42 = .ok (.invokestatic 54, 3) := by decide +kernel
theorem dX4_begin_45 : decode cX4_begin 45 = .ok (.aload_n 0, 1) := by decide +kernel
theorem dX4_begin_46 : decode cX4_begin 46 = .ok (.iconst 0, 1) := by decide +kernel
theorem dX4_begin_47 : decode cX4_begin 47 = .ok (.putfield 21, 3) := by decide +kernel
theorem dX4_begin_50 : decode cX4_begin 50 = .ok (.aload_n 0, 1) := by decide +kernel
theorem dX4_begin_51 : decode cX4_begin 51 = .ok (.iconst 0, 1) := by decide +kernel
theorem dX4_begin_52 : decode cX4_begin 52 = .ok (.putfield 25, 3) := by decide +kernel
theorem dX4_begin_55 : decode cX4_begin 55 = .ok (.aload_n 0, 1) := by decide +kernel
theorem dX4_begin_56 : decode cX4_begin 56 = .ok (.iconst (-1), 1) := by decide +kernel
theorem dX4_begin_57 : decode cX4_begin 57 = .ok (.putfield 28, 3) := by decide +kernel
theorem dX4_begin_60 : decode cX4_begin 60 = .ok (.return_, 1) := by decide +kernel
set_option maxRecDepth 20000 in
theorem ggX4_doNext_X4_faultOf : GoodIn wsX4_doNext wsX4_faultOf := goodIn_r _ [11, 12, 13, 14, 15, 16, 17, 38, 39, 40, 41, 42, 43, 44, 45, 46] (by decide +kernel) (by decide +kernel)
set_option maxRecDepth 20000 in
theorem gX4_doNext_X4_faultOf : GoodIn wsX4_doNext (wsV RX4 74 RX4 yX4_faultOf wsX4_faultOf) := goodIn_app (goodIn_of _ (by decide +kernel)) ggX4_doNext_X4_faultOf
set_option maxRecDepth 20000 in
theorem ggX4_doNext_X4_perform : GoodIn wsX4_doNext wsX4_perform := goodIn_r _ [21, 4, 22, 5, 12, 23, 3, 6, 24, 25, 26, 10, 27, 28, 29, 30, 31, 16, 32, 33, 34, 35, 36, 37, 13, 47, 48, 49, 50, 51, 38, 39, 40, 41, 42, 43, 44, 45, 46] (by decide +kernel) (by decide +kernel)
set_option maxRecDepth 20000 in
theorem gX4_doNext_X4_perform : GoodIn wsX4_doNext (wsV RX4 78 RX4 yX4_perform wsX4_perform) := goodIn_app (goodIn_of _ (by decide +kernel)) ggX4_doNext_X4_perform
theorem dX4_doNext_0 : decode cX4_doNext 0 = .ok (.aload_n 0, 1) := by decide +kernel
theorem dX4_doNext_1 : decode cX4_doNext 1 = .ok (.getfield 25, 3) := by decide +kernel
theorem dX4_doNext_4 : decode cX4_doNext 4 = .ok (.sipush 400, 3) := by decide +kernel
theorem dX4_doNext_7 : decode cX4_doNext 7 = .ok (.if_icmp .ge 11, 3) := by decide +kernel
theorem dX4_doNext_10 : decode cX4_doNext 10 = .ok (.iload_n 2, 1) := by decide +kernel
theorem dX4_doNext_11 : decode cX4_doNext 11 = .ok (.aload_n 1, 1) := by decide +kernel
theorem dX4_doNext_12 : decode cX4_doNext 12 = .ok (.getfield 60, 3) := by decide +kernel
theorem dX4_doNext_15 : decode cX4_doNext 15 = .ok (.if_icmp .lt 10, 3) := by decide +kernel
theorem dX4_doNext_18 : decode cX4_doNext 18 = .ok (.aload_n 0, 1) := by decide +kernel
theorem dX4_doNext_19 : decode cX4_doNext 19 = .ok (.iconst 3, 1) := by decide +kernel
theorem dX4_doNext_20 : decode cX4_doNext 20 = .ok (.putfield 28, 3) := by decide +kernel
theorem dX4_doNext_23 : decode cX4_doNext 23 = .ok (.iload_n 2, 1) := by decide +kernel
theorem dX4_doNext_24 : decode cX4_doNext 24 = .ok (.ireturn, 1) := by decide +kernel
theorem dX4_doNext_25 : decode cX4_doNext 25 = .ok (.aload_n 0, 1) := by decide +kernel
theorem dX4_doNext_26 : decode cX4_doNext 26 = .ok (.aload_n 0, 1) := by decide +kernel
theorem dX4_doNext_27 : decode cX4_doNext 27 = .ok (.aload_n 1, 1) := by decide +kernel
theorem dX4_doNext_28 : decode cX4_doNext 28 = .ok (.getfield 65, 3) := by decide +kernel
theorem dX4_doNext_31 : decode cX4_doNext 31 = .ok (.iload_n 2, 1) := by decide +kernel
theorem dX4_doNext_32 : decode cX4_doNext 32 = .ok (.iaload, 1) := by decide +kernel
theorem dX4_doNext_33 : decode cX4_doNext 33 = .ok (.aload_n 1, 1) := by decide +kernel
theorem dX4_doNext_34 : decode cX4_doNext 34 = .ok (.getfield 68, 3) := by decide +kernel
theorem dX4_doNext_37 : decode cX4_doNext 37 = .ok (.iload_n 2, 1) := by decide +kernel
theorem dX4_doNext_38 : decode cX4_doNext 38 = .ok (.iaload, 1) := by decide +kernel
theorem dX4_doNext_39 : decode cX4_doNext 39 = .ok (.aload_n 1, 1) := by decide +kernel
theorem dX4_doNext_40 : decode cX4_doNext 40 = .ok (.getfield 71, 3) := by decide +kernel
theorem dX4_doNext_43 : decode cX4_doNext 43 = .ok (.iload_n 2, 1) := by decide +kernel
theorem dX4_doNext_44 : decode cX4_doNext 44 = .ok (.iaload, 1) := by decide +kernel
theorem dX4_doNext_45 : decode cX4_doNext 45 = .ok (.invokevirtual 74, 3) := by decide +kernel
theorem dX4_doNext_48 : decode cX4_doNext 48 = .ok (.putfield 28, 3) := by decide +kernel
theorem dX4_doNext_51 : decode cX4_doNext 51 = .ok (.aload_n 0, 1) := by decide +kernel
theorem dX4_doNext_52 : decode cX4_doNext 52 = .ok (.getfield 28, 3) := by decide +kernel
theorem dX4_doNext_55 : decode cX4_doNext 55 = .ok (.iconst (-1), 1) := by decide +kernel
theorem dX4_doNext_56 : decode cX4_doNext 56 = .ok (.if_icmp .eq 5, 3) := by decide +kernel
theorem dX4_doNext_59 : decode cX4_doNext 59 = .ok (.iload_n 2, 1) := by decide +kernel
theorem dX4_doNext_60 : decode cX4_doNext 60 = .ok (.ireturn, 1) := by decide +kernel
theorem dX4_doNext_61 : decode cX4_doNext 61 = .ok (.aload_n 0, 1) := by decide +kernel
theorem dX4_doNext_62 : decode cX4_doNext 62 = .ok (.dup, 1) := by decide +kernel
theorem dX4_doNext_63 : decode cX4_doNext 63 = .ok (.getfield 25, 3) := by decide +kernel
theorem dX4_doNext_66 : decode cX4_doNext 66 = .ok (.iconst 1, 1) := by decide +kernel
theorem dX4_doNext_67 : decode cX4_doNext 67 = .ok (.iadd, 1) := by decide +kernel
theorem dX4_doNext_68 : decode cX4_doNext 68 = .ok (.putfield 25, 3) := by decide +kernel
theorem dX4_doNext_71 : decode cX4_doNext 71 = .ok (.aload_n 0, 1) := by decide +kernel
theorem dX4_doNext_72 : decode cX4_doNext 72 = .ok (.aload_n 1, 1) := by decide +kernel
theorem dX4_doNext_73 : decode cX4_doNext 73 = .ok (.iload_n 2, 1) := by decide +kernel
theorem dX4_doNext_74 : decode cX4_doNext 74 = .ok (.invokevirtual 78, 3) := by decide +kernel
theorem dX4_doNext_77 : decode cX4_doNext 77 = .ok (.ireturn, 1) := by decide +kernel
set_option maxRecDepth 20000 in
theorem ggX4_faultOf_X2_isCell : GoodIn wsX4_faultOf wsX2_isCell := goodIn_r _ [6] (by decide +kernel) (by decide +kernel)
set_option maxRecDepth 20000 in
theorem gX4_faultOf_X2_isCell : GoodIn wsX4_faultOf (va_wsS RX4 81 yX2_isCell wsX2_isCell) := goodIn_app (goodIn_of _ (by decide +kernel)) ggX4_faultOf_X2_isCell
theorem dX4_faultOf_0 : decode cX4_faultOf 0 = .ok (.iload_n 1, 1) := by decide +kernel
theorem dX4_faultOf_1 : decode cX4_faultOf 1 = .ok (.bipush 6, 2) := by decide +kernel
theorem dX4_faultOf_3 : decode cX4_faultOf 3 = .ok (.if_icmp .ne 14, 3) := by decide +kernel
theorem dX4_faultOf_6 : decode cX4_faultOf 6 = .ok (.aload_n 0, 1) := by decide +kernel
theorem dX4_faultOf_7 : decode cX4_faultOf 7 = .ok (.getfield 34, 3) := by decide +kernel
theorem dX4_faultOf_10 : decode cX4_faultOf 10 = .ok (.iload_n 3, 1) := by decide +kernel
theorem dX4_faultOf_11 : decode cX4_faultOf 11 = .ok (.iaload, 1) := by decide +kernel
theorem dX4_faultOf_12 : decode cX4_faultOf 12 = .ok (.ifCond .ne 5, 3) := by decide +kernel
theorem dX4_faultOf_15 : decode cX4_faultOf 15 = .ok (.iconst 1, 1) := by decide +kernel
theorem dX4_faultOf_16 : decode cX4_faultOf 16 = .ok (.ireturn, 1) := by decide +kernel
theorem dX4_faultOf_17 : decode cX4_faultOf 17 = .ok (.iload_n 1, 1) := by decide +kernel
theorem dX4_faultOf_18 : decode cX4_faultOf 18 = .ok (.bipush 7, 2) := by decide +kernel
theorem dX4_faultOf_20 : decode cX4_faultOf 20 = .ok (.if_icmp .eq 9, 3) := by decide +kernel
theorem dX4_faultOf_23 : decode cX4_faultOf 23 = .ok (.iload_n 1, 1) := by decide +kernel
theorem dX4_faultOf_24 : decode cX4_faultOf 24 = .ok (.bipush 8, 2) := by decide +kernel
theorem dX4_faultOf_26 : decode cX4_faultOf 26 = .ok (.if_icmp .ne 17, 3) := by decide +kernel
theorem dX4_faultOf_29 : decode cX4_faultOf 29 = .ok (.aload_n 0, 1) := by decide +kernel
theorem dX4_faultOf_30 : decode cX4_faultOf 30 = .ok (.getfield 34, 3) := by decide +kernel
theorem dX4_faultOf_33 : decode cX4_faultOf 33 = .ok (.iload_n 2, 1) := by decide +kernel
theorem dX4_faultOf_34 : decode cX4_faultOf 34 = .ok (.iaload, 1) := by decide +kernel
theorem dX4_faultOf_35 : decode cX4_faultOf 35 = .ok (.invokestatic 81, 3) := by decide +kernel
theorem dX4_faultOf_38 : decode cX4_faultOf 38 = .ok (.ifCond .ne 5, 3) := by decide +kernel
theorem dX4_faultOf_41 : decode cX4_faultOf 41 = .ok (.iconst 2, 1) := by decide +kernel
theorem dX4_faultOf_42 : decode cX4_faultOf 42 = .ok (.ireturn, 1) := by decide +kernel
theorem dX4_faultOf_43 : decode cX4_faultOf 43 = .ok (.iload_n 1, 1) := by decide +kernel
theorem dX4_faultOf_44 : decode cX4_faultOf 44 = .ok (.bipush 11, 2) := by decide +kernel
theorem dX4_faultOf_46 : decode cX4_faultOf 46 = .ok (.if_icmp .ne 16, 3) := by decide +kernel
theorem dX4_faultOf_49 : decode cX4_faultOf 49 = .ok (.aload_n 0, 1) := by decide +kernel
theorem dX4_faultOf_50 : decode cX4_faultOf 50 = .ok (.getfield 21, 3) := by decide +kernel
theorem dX4_faultOf_53 : decode cX4_faultOf 53 = .ok (.bipush 16, 2) := by decide +kernel
theorem dX4_faultOf_55 : decode cX4_faultOf 55 = .ok (.if_icmp .lt 7, 3) := by decide +kernel
theorem dX4_faultOf_58 : decode cX4_faultOf 58 = .ok (.iconst 4, 1) := by decide +kernel
theorem dX4_faultOf_59 : decode cX4_faultOf 59 = .ok (.goto 4, 3) := by decide +kernel
theorem dX4_faultOf_62 : decode cX4_faultOf 62 = .ok (.iconst (-1), 1) := by decide +kernel
theorem dX4_faultOf_63 : decode cX4_faultOf 63 = .ok (.ireturn, 1) := by decide +kernel
set_option maxRecDepth 20000 in
theorem ggX4_perform_X4_change : GoodIn wsX4_perform wsX4_change := goodIn_r _ [12, 4, 13, 14, 15, 16, 17, 18, 19, 20, 21, 11, 22, 23, 24, 30, 31, 32, 33, 34, 35, 36, 37, 38] (by decide +kernel) (by decide +kernel)
set_option maxRecDepth 20000 in
theorem gX4_perform_X4_change : GoodIn wsX4_perform (wsV RX4 90 RX4 yX4_change wsX4_change) := goodIn_app (goodIn_of _ (by decide +kernel)) ggX4_perform_X4_change
theorem dX4_perform_0 : decode cX4_perform 0 = .ok (.aload_n 1, 1) := by decide +kernel
theorem dX4_perform_1 : decode cX4_perform 1 = .ok (.getfield 65, 3) := by decide +kernel
theorem dX4_perform_4 : decode cX4_perform 4 = .ok (.iload_n 2, 1) := by decide +kernel
theorem dX4_perform_5 : decode cX4_perform 5 = .ok (.iaload, 1) := by decide +kernel
theorem dX4_perform_6 : decode cX4_perform 6 = .ok (.istore_n 3, 1) := by decide +kernel
theorem dX4_perform_7 : decode cX4_perform 7 = .ok (.aload_n 1, 1) := by decide +kernel
theorem dX4_perform_8 : decode cX4_perform 8 = .ok (.getfield 87, 3) := by decide +kernel
theorem dX4_perform_11 : decode cX4_perform 11 = .ok (.iload_n 2, 1) := by decide +kernel
theorem dX4_perform_12 : decode cX4_perform 12 = .ok (.iaload, 1) := by decide +kernel
theorem dX4_perform_13 : decode cX4_perform 13 = .ok (.istore 4, 2) := by decide +kernel
theorem dX4_perform_15 : decode cX4_perform 15 = .ok (.aload_n 1, 1) := by decide +kernel
theorem dX4_perform_16 : decode cX4_perform 16 = .ok (.getfield 68, 3) := by decide +kernel
theorem dX4_perform_19 : decode cX4_perform 19 = .ok (.iload_n 2, 1) := by decide +kernel
theorem dX4_perform_20 : decode cX4_perform 20 = .ok (.iaload, 1) := by decide +kernel
theorem dX4_perform_21 : decode cX4_perform 21 = .ok (.istore 5, 2) := by decide +kernel
theorem dX4_perform_23 : decode cX4_perform 23 = .ok (.iload_n 3, 1) := by decide +kernel
theorem dX4_perform_24 : decode cX4_perform 24 = .ok (.tableswitch 72 9 12 #[32, 35, 72, 54], 32) := by decide +kernel
theorem dX4_perform_56 : decode cX4_perform 56 = .ok (.iload 4, 2) := by decide +kernel
theorem dX4_perform_58 : decode cX4_perform 58 = .ok (.ireturn, 1) := by decide +kernel
theorem dX4_perform_59 : decode cX4_perform 59 = .ok (.aload_n 0, 1) := by decide +kernel
theorem dX4_perform_60 : decode cX4_perform 60 = .ok (.getfield 34, 3) := by decide +kernel
theorem dX4_perform_63 : decode cX4_perform 63 = .ok (.iload 5, 2) := by decide +kernel
theorem dX4_perform_65 : decode cX4_perform 65 = .ok (.iaload, 1) := by decide +kernel
theorem dX4_perform_66 : decode cX4_perform 66 = .ok (.ifCond .ne 8, 3) := by decide +kernel
theorem dX4_perform_69 : decode cX4_perform 69 = .ok (.iload 4, 2) := by decide +kernel
theorem dX4_perform_71 : decode cX4_perform 71 = .ok (.goto 6, 3) := by decide +kernel
theorem dX4_perform_74 : decode cX4_perform 74 = .ok (.iload_n 2, 1) := by decide +kernel
theorem dX4_perform_75 : decode cX4_perform 75 = .ok (.iconst 1, 1) := by decide +kernel
theorem dX4_perform_76 : decode cX4_perform 76 = .ok (.iadd, 1) := by decide +kernel
theorem dX4_perform_77 : decode cX4_perform 77 = .ok (.ireturn, 1) := by decide +kernel
theorem dX4_perform_78 : decode cX4_perform 78 = .ok (.aload_n 0, 1) := by decide +kernel
theorem dX4_perform_79 : decode cX4_perform 79 = .ok (.aload_n 0, 1) := by decide +kernel
theorem dX4_perform_80 : decode cX4_perform 80 = .ok (.getfield 34, 3) := by decide +kernel
theorem dX4_perform_83 : decode cX4_perform 83 = .ok (.iload 5, 2) := by decide +kernel
theorem dX4_perform_85 : decode cX4_perform 85 = .ok (.iaload, 1) := by decide +kernel
theorem dX4_perform_86 : decode cX4_perform 86 = .ok (.putfield 31, 3) := by decide +kernel
theorem dX4_perform_89 : decode cX4_perform 89 = .ok (.aload_n 0, 1) := by decide +kernel
theorem dX4_perform_90 : decode cX4_perform 90 = .ok (.iconst 0, 1) := by decide +kernel
theorem dX4_perform_91 : decode cX4_perform 91 = .ok (.putfield 28, 3) := by decide +kernel
theorem dX4_perform_94 : decode cX4_perform 94 = .ok (.iload_n 2, 1) := by decide +kernel
theorem dX4_perform_95 : decode cX4_perform 95 = .ok (.ireturn, 1) := by decide +kernel
theorem dX4_perform_96 : decode cX4_perform 96 = .ok (.aload_n 0, 1) := by decide +kernel
theorem dX4_perform_97 : decode cX4_perform 97 = .ok (.iload_n 3, 1) := by decide +kernel
theorem dX4_perform_98 : decode cX4_perform 98 = .ok (.iload 4, 2) := by decide +kernel
theorem dX4_perform_100 : decode cX4_perform 100 = .ok (.iload 5, 2) := by decide +kernel
theorem dX4_perform_102 : decode cX4_perform 102 = .ok (.aload_n 1, 1) := by decide +kernel
theorem dX4_perform_103 : decode cX4_perform 103 = .ok (.getfield 71, 3) := by decide +kernel
theorem dX4_perform_106 : decode cX4_perform 106 = .ok (.iload_n 2, 1) := by decide +kernel
theorem dX4_perform_107 : decode cX4_perform 107 = .ok (.iaload, 1) := by decide +kernel
theorem dX4_perform_108 : decode cX4_perform 108 = .ok (.invokevirtual 90, 3) := by decide +kernel
theorem dX4_perform_111 : decode cX4_perform 111 = .ok (.iload_n 2, 1) := by decide +kernel
theorem dX4_perform_112 : decode cX4_perform 112 = .ok (.iconst 1, 1) := by decide +kernel
theorem dX4_perform_113 : decode cX4_perform 113 = .ok (.iadd, 1) := by decide +kernel
theorem dX4_perform_114 : decode cX4_perform 114 = .ok (.ireturn, 1) := by decide +kernel
set_option maxRecDepth 20000 in
theorem ggX4_change_X2_compute : GoodIn wsX4_change wsX2_compute := goodIn_r _ [7] (by decide +kernel) (by decide +kernel)
set_option maxRecDepth 20000 in
theorem gX4_change_X2_compute : GoodIn wsX4_change (va_wsS RX4 94 yX2_compute wsX2_compute) := goodIn_app (goodIn_of _ (by decide +kernel)) ggX4_change_X2_compute
set_option maxRecDepth 20000 in
theorem ggX4_change_X4_answerCall : GoodIn wsX4_change wsX4_answerCall := goodIn_r _ [12, 13, 14, 15, 16, 17, 18, 19, 20, 21, 22, 23] (by decide +kernel) (by decide +kernel)
set_option maxRecDepth 20000 in
theorem gX4_change_X4_answerCall : GoodIn wsX4_change (wsV RX4 97 RX4 yX4_answerCall wsX4_answerCall) := goodIn_app (goodIn_of _ (by decide +kernel)) ggX4_change_X4_answerCall
theorem dX4_change_0 : decode cX4_change 0 = .ok (.iload_n 1, 1) := by decide +kernel
theorem dX4_change_1 : decode cX4_change 1 = .ok (.tableswitch 213 1 14 #[71, 81, 96, 96, 96, 96, 122, 142, 213, 213, 163, 213, 182, 197], 71) := by decide +kernel
theorem dX4_change_72 : decode cX4_change 72 = .ok (.aload_n 0, 1) := by decide +kernel
theorem dX4_change_73 : decode cX4_change 73 = .ok (.getfield 34, 3) := by decide +kernel
theorem dX4_change_76 : decode cX4_change 76 = .ok (.iload_n 2, 1) := by decide +kernel
theorem dX4_change_77 : decode cX4_change 77 = .ok (.iload_n 3, 1) := by decide +kernel
theorem dX4_change_78 : decode cX4_change 78 = .ok (.iastore, 1) := by decide +kernel
theorem dX4_change_79 : decode cX4_change 79 = .ok (.goto 135, 3) := by decide +kernel
theorem dX4_change_82 : decode cX4_change 82 = .ok (.aload_n 0, 1) := by decide +kernel
theorem dX4_change_83 : decode cX4_change 83 = .ok (.getfield 34, 3) := by decide +kernel
theorem dX4_change_86 : decode cX4_change 86 = .ok (.iload_n 2, 1) := by decide +kernel
theorem dX4_change_87 : decode cX4_change 87 = .ok (.aload_n 0, 1) := by decide +kernel
theorem dX4_change_88 : decode cX4_change 88 = .ok (.getfield 34, 3) := by decide +kernel
theorem dX4_change_91 : decode cX4_change 91 = .ok (.iload_n 3, 1) := by decide +kernel
theorem dX4_change_92 : decode cX4_change 92 = .ok (.iaload, 1) := by decide +kernel
theorem dX4_change_93 : decode cX4_change 93 = .ok (.iastore, 1) := by decide +kernel
theorem dX4_change_94 : decode cX4_change 94 = .ok (.goto 120, 3) := by decide +kernel
theorem dX4_change_97 : decode cX4_change 97 = .ok (.aload_n 0, 1) := by decide +kernel
theorem dX4_change_98 : decode cX4_change 98 = .ok (.getfield 34, 3) := by decide +kernel
theorem dX4_change_101 : decode cX4_change 101 = .ok (.iload_n 2, 1) := by decide +kernel
theorem dX4_change_102 : decode cX4_change 102 = .ok (.iload_n 1, 1) := by decide +kernel
theorem dX4_change_103 : decode cX4_change 103 = .ok (.aload_n 0, 1) := by decide +kernel
theorem dX4_change_104 : decode cX4_change 104 = .ok (.getfield 34, 3) := by decide +kernel
theorem dX4_change_107 : decode cX4_change 107 = .ok (.iload_n 3, 1) := by decide +kernel
theorem dX4_change_108 : decode cX4_change 108 = .ok (.iaload, 1) := by decide +kernel
theorem dX4_change_109 : decode cX4_change 109 = .ok (.aload_n 0, 1) := by decide +kernel
theorem dX4_change_110 : decode cX4_change 110 = .ok (.getfield 34, 3) := by decide +kernel
theorem dX4_change_113 : decode cX4_change 113 = .ok (.iload 4, 2) := by decide +kernel
theorem dX4_change_115 : decode cX4_change 115 = .ok (.iaload, 1) := by decide +kernel
theorem dX4_change_116 : decode cX4_change 116 = .ok (.invokestatic 94, 3) := by decide +kernel
theorem dX4_change_119 : decode cX4_change 119 = .ok (.iastore, 1) := by decide +kernel
theorem dX4_change_120 : decode cX4_change 120 = .ok (.goto 94, 3) := by decide +kernel
theorem dX4_change_123 : decode cX4_change 123 = .ok (.aload_n 0, 1) := by decide +kernel
theorem dX4_change_124 : decode cX4_change 124 = .ok (.getfield 34, 3) := by decide +kernel
theorem dX4_change_127 : decode cX4_change 127 = .ok (.iload_n 2, 1) := by decide +kernel
theorem dX4_change_128 : decode cX4_change 128 = .ok (.aload_n 0, 1) := by decide +kernel
theorem dX4_change_129 : decode cX4_change 129 = .ok (.getfield 15, 3) := by decide +kernel
theorem dX4_change_132 : decode cX4_change 132 = .ok (.aload_n 0, 1) := by decide +kernel
theorem dX4_change_133 : decode cX4_change 133 = .ok (.getfield 34, 3) := by decide +kernel
theorem dX4_change_136 : decode cX4_change 136 = .ok (.iload_n 3, 1) := by decide +kernel
theorem dX4_change_137 : decode cX4_change 137 = .ok (.iaload, 1) := by decide +kernel
theorem dX4_change_138 : decode cX4_change 138 = .ok (.iaload, 1) := by decide +kernel
theorem dX4_change_139 : decode cX4_change 139 = .ok (.iastore, 1) := by decide +kernel
theorem dX4_change_140 : decode cX4_change 140 = .ok (.goto 74, 3) := by decide +kernel
theorem dX4_change_143 : decode cX4_change 143 = .ok (.aload_n 0, 1) := by decide +kernel
theorem dX4_change_144 : decode cX4_change 144 = .ok (.getfield 15, 3) := by decide +kernel
theorem dX4_change_147 : decode cX4_change 147 = .ok (.aload_n 0, 1) := by decide +kernel
theorem dX4_change_148 : decode cX4_change 148 = .ok (.getfield 34, 3) := by decide +kernel
theorem dX4_change_151 : decode cX4_change 151 = .ok (.iload_n 3, 1) := by decide +kernel
theorem dX4_change_152 : decode cX4_change 152 = .ok (.iaload, 1) := by decide +kernel
theorem dX4_change_153 : decode cX4_change 153 = .ok (.aload_n 0, 1) := by decide +kernel
theorem dX4_change_154 : decode cX4_change 154 = .ok (.getfield 34, 3) := by decide +kernel
theorem dX4_change_157 : decode cX4_change 157 = .ok (.iload 4, 2) := by decide +kernel
theorem dX4_change_159 : decode cX4_change 159 = .ok (.iaload, 1) := by decide +kernel
theorem dX4_change_160 : decode cX4_change 160 = .ok (.iastore, 1) := by decide +kernel
theorem dX4_change_161 : decode cX4_change 161 = .ok (.goto 53, 3) := by decide +kernel
theorem dX4_change_164 : decode cX4_change 164 = .ok (.aload_n 0, 1) := by decide +kernel
theorem dX4_change_165 : decode cX4_change 165 = .ok (.getfield 34, 3) := by decide +kernel
theorem dX4_change_168 : decode cX4_change 168 = .ok (.iload_n 2, 1) := by decide +kernel
theorem dX4_change_169 : decode cX4_change 169 = .ok (.aload_n 0, 1) := by decide +kernel
theorem dX4_change_170 : decode cX4_change 170 = .ok (.aload_n 0, 1) := by decide +kernel
theorem dX4_change_171 : decode cX4_change 171 = .ok (.getfield 34, 3) := by decide +kernel
theorem dX4_change_174 : decode cX4_change 174 = .ok (.iload_n 3, 1) := by decide +kernel
theorem dX4_change_175 : decode cX4_change 175 = .ok (.iaload, 1) := by decide +kernel
theorem dX4_change_176 : decode cX4_change 176 = .ok (.invokevirtual 97, 3) := by decide +kernel
theorem dX4_change_179 : decode cX4_change 179 = .ok (.iastore, 1) := by decide +kernel
theorem dX4_change_180 : decode cX4_change 180 = .ok (.goto 34, 3) := by decide +kernel
theorem dX4_change_183 : decode cX4_change 183 = .ok (.aload_n 0, 1) := by decide +kernel
theorem dX4_change_184 : decode cX4_change 184 = .ok (.getfield 34, 3) := by decide +kernel
theorem dX4_change_187 : decode cX4_change 187 = .ok (.iload_n 2, 1) := by decide +kernel
theorem dX4_change_188 : decode cX4_change 188 = .ok (.aload_n 0, 1) := by decide +kernel
theorem dX4_change_189 : decode cX4_change 189 = .ok (.getfield 37, 3) := by decide +kernel
theorem dX4_change_192 : decode cX4_change 192 = .ok (.iload_n 3, 1) := by decide +kernel
theorem dX4_change_193 : decode cX4_change 193 = .ok (.iaload, 1) := by decide +kernel
theorem dX4_change_194 : decode cX4_change 194 = .ok (.iastore, 1) := by decide +kernel
theorem dX4_change_195 : decode cX4_change 195 = .ok (.goto 19, 3) := by decide +kernel
theorem dX4_change_198 : decode cX4_change 198 = .ok (.aload_n 0, 1) := by decide +kernel
theorem dX4_change_199 : decode cX4_change 199 = .ok (.getfield 37, 3) := by decide +kernel
theorem dX4_change_202 : decode cX4_change 202 = .ok (.iload 4, 2) := by decide +kernel
theorem dX4_change_204 : decode cX4_change 204 = .ok (.aload_n 0, 1) := by decide +kernel
theorem dX4_change_205 : decode cX4_change 205 = .ok (.getfield 34, 3) := by decide +kernel
theorem dX4_change_208 : decode cX4_change 208 = .ok (.iload_n 3, 1) := by decide +kernel
theorem dX4_change_209 : decode cX4_change 209 = .ok (.iaload, 1) := by decide +kernel
theorem dX4_change_210 : decode cX4_change 210 = .ok (.iastore, 1) := by decide +kernel
theorem dX4_change_211 : decode cX4_change 211 = .ok (.goto 3, 3) := by decide +kernel
theorem dX4_change_214 : decode cX4_change 214 = .ok (.return_, 1) := by decide +kernel
theorem dX4_answerCall_0 : decode cX4_answerCall 0 = .ok (.aload_n 0, 1) := by decide +kernel
theorem dX4_answerCall_1 : decode cX4_answerCall 1 = .ok (.getfield 18, 3) := by decide +kernel
theorem dX4_answerCall_4 : decode cX4_answerCall 4 = .ok (.aload_n 0, 1) := by decide +kernel
theorem dX4_answerCall_5 : decode cX4_answerCall 5 = .ok (.getfield 21, 3) := by decide +kernel
theorem dX4_answerCall_8 : decode cX4_answerCall 8 = .ok (.iload_n 1, 1) := by decide +kernel
theorem dX4_answerCall_9 : decode cX4_answerCall 9 = .ok (.iastore, 1) := by decide +kernel
theorem dX4_answerCall_10 : decode cX4_answerCall 10 = .ok (.aload_n 0, 1) := by decide +kernel
theorem dX4_answerCall_11 : decode cX4_answerCall 11 = .ok (.dup, 1) := by decide +kernel
theorem dX4_answerCall_12 : decode cX4_answerCall 12 = .ok (.getfield 21, 3) := by decide +kernel
theorem dX4_answerCall_15 : decode cX4_answerCall 15 = .ok (.iconst 1, 1) := by decide +kernel
theorem dX4_answerCall_16 : decode cX4_answerCall 16 = .ok (.iadd, 1) := by decide +kernel
theorem dX4_answerCall_17 : decode cX4_answerCall 17 = .ok (.putfield 21, 3) := by decide +kernel
theorem dX4_answerCall_20 : decode cX4_answerCall 20 = .ok (.iconst 3, 1) := by decide +kernel
theorem dX4_answerCall_21 : decode cX4_answerCall 21 = .ok (.iload_n 1, 1) := by decide +kernel
theorem dX4_answerCall_22 : decode cX4_answerCall 22 = .ok (.imul, 1) := by decide +kernel
theorem dX4_answerCall_23 : decode cX4_answerCall 23 = .ok (.aload_n 0, 1) := by decide +kernel
theorem dX4_answerCall_24 : decode cX4_answerCall 24 = .ok (.getfield 21, 3) := by decide +kernel
theorem dX4_answerCall_27 : decode cX4_answerCall 27 = .ok (.iadd, 1) := by decide +kernel
theorem dX4_answerCall_28 : decode cX4_answerCall 28 = .ok (.ireturn, 1) := by decide +kernel
