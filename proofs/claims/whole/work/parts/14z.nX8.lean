set_option maxRecDepth 20000 in
theorem ggX8_init_X6_init : GoodIn wsX8_init wsX6_init := goodIn_r _ [38, 39, 2, 3, 40, 41, 42, 43, 44, 45, 97, 98, 99, 100, 101] (by decide +kernel) (by decide +kernel)
set_option maxRecDepth 20000 in
theorem gX8_init_X6_init : GoodIn wsX8_init (wsX6_init) := ggX8_init_X6_init
set_option maxRecDepth 20000 in
theorem ggX8_init_X3_init : GoodIn wsX8_init wsX3_init := goodIn_r _ [47, 48, 2, 3, 41, 49, 113] (by decide +kernel) (by decide +kernel)
set_option maxRecDepth 20000 in
theorem gX8_init_X3_init_n26 : GoodIn wsX8_init (wsX3_init) := ggX8_init_X3_init
set_option maxRecDepth 20000 in
theorem ggX8_init_X1_init : GoodIn wsX8_init wsX1_init := goodIn_r _ [51, 52, 2, 3, 53, 54, 41, 55, 56, 57, 58, 59, 114, 115, 116, 117, 118, 119] (by decide +kernel) (by decide +kernel)
set_option maxRecDepth 20000 in
theorem gX8_init_X1_init_n33 : GoodIn wsX8_init (wsX1_init) := ggX8_init_X1_init
set_option maxRecDepth 20000 in
theorem ggX8_init_X7_init : GoodIn wsX8_init wsX7_init := goodIn_r _ [61, 62, 2, 3, 41, 63, 64, 65, 66, 67, 68, 69, 120, 121, 122, 123, 124, 125, 126] (by decide +kernel) (by decide +kernel)
set_option maxRecDepth 20000 in
theorem gX8_init_X7_init_n40 : GoodIn wsX8_init (wsX7_init) := ggX8_init_X7_init
set_option maxRecDepth 20000 in
theorem ggX8_init_X5_init : GoodIn wsX8_init wsX5_init := goodIn_r _ [71, 72, 2, 3, 53, 73, 41, 74, 127, 128] (by decide +kernel) (by decide +kernel)
set_option maxRecDepth 20000 in
theorem gX8_init_X5_init_n47 : GoodIn wsX8_init (wsX5_init) := ggX8_init_X5_init
set_option maxRecDepth 20000 in
theorem ggX8_init_X0_init : GoodIn wsX8_init wsX0_init := goodIn_r _ [76, 77, 2, 3, 41, 78, 79, 80, 81, 82, 5, 6, 83, 84, 37, 38, 39, 40, 42, 43, 44, 45, 129, 130, 131, 132, 133, 97, 98, 99, 100, 101] (by decide +kernel) (by decide +kernel)
set_option maxRecDepth 20000 in
theorem gX8_init_X0_init_n54 : GoodIn wsX8_init (wsX0_init) := ggX8_init_X0_init
set_option maxRecDepth 20000 in
theorem ggX8_init_X4_init : GoodIn wsX8_init wsX4_init := goodIn_r _ [86, 87, 2, 3, 41, 88, 89, 90, 91, 92, 93, 94, 95, 96, 134, 135, 136, 137, 138, 139, 140, 141, 142] (by decide +kernel) (by decide +kernel)
set_option maxRecDepth 20000 in
theorem gX8_init_X4_init_n61 : GoodIn wsX8_init (wsX4_init) := ggX8_init_X4_init
theorem dX8_init_0 : decode cX8_init 0 = .ok (.aload_n 0, 1) := by decide +kernel
theorem dX8_init_1 : decode cX8_init 1 = .ok (.invokespecial 1, 3) := by decide +kernel
theorem dX8_init_4 : decode cX8_init 4 = .ok (.aload_n 0, 1) := by decide +kernel
theorem dX8_init_5 : decode cX8_init 5 = .ok (.new 7, 3) := by decide +kernel
theorem dX8_init_8 : decode cX8_init 8 = .ok (.dup, 1) := by decide +kernel
theorem dX8_init_9 : decode cX8_init 9 = .ok (.bipush 24, 2) := by decide +kernel
theorem dX8_init_11 : decode cX8_init 11 = .ok (.invokespecial 11, 3) := by decide +kernel
theorem dX8_init_14 : decode cX8_init 14 = .ok (.putfield 14, 3) := by decide +kernel
theorem dX8_init_17 : decode cX8_init 17 = .ok (.aload_n 0, 1) := by decide +kernel
theorem dX8_init_18 : decode cX8_init 18 = .ok (.new 7, 3) := by decide +kernel
theorem dX8_init_21 : decode cX8_init 21 = .ok (.dup, 1) := by decide +kernel
theorem dX8_init_22 : decode cX8_init 22 = .ok (.bipush 24, 2) := by decide +kernel
theorem dX8_init_24 : decode cX8_init 24 = .ok (.invokespecial 11, 3) := by decide +kernel
theorem dX8_init_27 : decode cX8_init 27 = .ok (.putfield 18, 3) := by decide +kernel
theorem dX8_init_30 : decode cX8_init 30 = .ok (.aload_n 0, 1) := by decide +kernel
theorem dX8_init_31 : decode cX8_init 31 = .ok (.new 7, 3) := by decide +kernel
theorem dX8_init_34 : decode cX8_init 34 = .ok (.dup, 1) := by decide +kernel
theorem dX8_init_35 : decode cX8_init 35 = .ok (.bipush 96, 2) := by decide +kernel
theorem dX8_init_37 : decode cX8_init 37 = .ok (.invokespecial 11, 3) := by decide +kernel
theorem dX8_init_40 : decode cX8_init 40 = .ok (.putfield 21, 3) := by decide +kernel
theorem dX8_init_43 : decode cX8_init 43 = .ok (.aload_n 0, 1) := by decide +kernel
theorem dX8_init_44 : decode cX8_init 44 = .ok (.new 24, 3) := by decide +kernel
theorem dX8_init_47 : decode cX8_init 47 = .ok (.dup, 1) := by decide +kernel
theorem dX8_init_48 : decode cX8_init 48 = .ok (.invokespecial 26, 3) := by decide +kernel
theorem dX8_init_51 : decode cX8_init 51 = .ok (.putfield 27, 3) := by decide +kernel
theorem dX8_init_54 : decode cX8_init 54 = .ok (.aload_n 0, 1) := by decide +kernel
theorem dX8_init_55 : decode cX8_init 55 = .ok (.new 31, 3) := by decide +kernel
theorem dX8_init_58 : decode cX8_init 58 = .ok (.dup, 1) := by decide +kernel
theorem dX8_init_59 : decode cX8_init 59 = .ok (.invokespecial 33, 3) := by decide +kernel
theorem dX8_init_62 : decode cX8_init 62 = .ok (.putfield 34, 3) := by decide +kernel
theorem dX8_init_65 : decode cX8_init 65 = .ok (.aload_n 0, 1) := by decide +kernel
theorem dX8_init_66 : decode cX8_init 66 = .ok (.new 38, 3) := by decide +kernel
theorem dX8_init_69 : decode cX8_init 69 = .ok (.dup, 1) := by decide +kernel
theorem dX8_init_70 : decode cX8_init 70 = .ok (.invokespecial 40, 3) := by decide +kernel
theorem dX8_init_73 : decode cX8_init 73 = .ok (.putfield 41, 3) := by decide +kernel
theorem dX8_init_76 : decode cX8_init 76 = .ok (.aload_n 0, 1) := by decide +kernel
theorem dX8_init_77 : decode cX8_init 77 = .ok (.new 45, 3) := by decide +kernel
theorem dX8_init_80 : decode cX8_init 80 = .ok (.dup, 1) := by decide +kernel
theorem dX8_init_81 : decode cX8_init 81 = .ok (.invokespecial 47, 3) := by decide +kernel
theorem dX8_init_84 : decode cX8_init 84 = .ok (.putfield 48, 3) := by decide +kernel
theorem dX8_init_87 : decode cX8_init 87 = .ok (.aload_n 0, 1) := by decide +kernel
theorem dX8_init_88 : decode cX8_init 88 = .ok (.new 52, 3) := by decide +kernel
theorem dX8_init_91 : decode cX8_init 91 = .ok (.dup, 1) := by decide +kernel
theorem dX8_init_92 : decode cX8_init 92 = .ok (.invokespecial 54, 3) := by decide +kernel
theorem dX8_init_95 : decode cX8_init 95 = .ok (.putfield 55, 3) := by decide +kernel
theorem dX8_init_98 : decode cX8_init 98 = .ok (.aload_n 0, 1) := by decide +kernel
theorem dX8_init_99 : decode cX8_init 99 = .ok (.new 59, 3) := by decide +kernel
theorem dX8_init_102 : decode cX8_init 102 = .ok (.dup, 1) := by decide +kernel
theorem dX8_init_103 : decode cX8_init 103 = .ok (.invokespecial 61, 3) := by decide +kernel
theorem dX8_init_106 : decode cX8_init 106 = .ok (.putfield 62, 3) := by decide +kernel
theorem dX8_init_109 : decode cX8_init 109 = .ok (.aload_n 0, 1) := by decide +kernel
theorem dX8_init_110 : decode cX8_init 110 = .ok (.iconst 0, 1) := by decide +kernel
theorem dX8_init_111 : decode cX8_init 111 = .ok (.putfield 66, 3) := by decide +kernel
theorem dX8_init_114 : decode cX8_init 114 = .ok (.aload_n 0, 1) := by decide +kernel
theorem dX8_init_115 : decode cX8_init 115 = .ok (.iconst 0, 1) := by decide +kernel
theorem dX8_init_116 : decode cX8_init 116 = .ok (.putfield 70, 3) := by decide +kernel
theorem dX8_init_119 : decode cX8_init 119 = .ok (.return_, 1) := by decide +kernel
set_option maxRecDepth 20000 in
theorem ggX8_instruction_X2_fitsDraft : GoodIn wsX8_instruction wsX2_fitsDraft := goodIn_r _ [10, 11, 12, 9, 13, 14, 15, 16, 17, 18, 19, 20, 21, 22, 23, 24, 25, 26, 27, 28] (by decide +kernel) (by decide +kernel)
set_option maxRecDepth 20000 in
theorem gX8_instruction_X2_fitsDraft : GoodIn wsX8_instruction (va_wsS RX8 73 yX2_fitsDraft wsX2_fitsDraft) := goodIn_app (goodIn_of _ (by decide +kernel)) ggX8_instruction_X2_fitsDraft
set_option maxRecDepth 20000 in
theorem ggX8_instruction_X2_writesD : GoodIn wsX8_instruction wsX2_writesD := goodIn_r _ [16] (by decide +kernel) (by decide +kernel)
set_option maxRecDepth 20000 in
theorem gX8_instruction_X2_writesD : GoodIn wsX8_instruction (va_wsS RX8 95 yX2_writesD wsX2_writesD) := goodIn_app (goodIn_of _ (by decide +kernel)) ggX8_instruction_X2_writesD
set_option maxRecDepth 20000 in
theorem ggX8_instruction_X2_goesToD : GoodIn wsX8_instruction wsX2_goesToD := goodIn_r _ [13] (by decide +kernel) (by decide +kernel)
set_option maxRecDepth 20000 in
theorem gX8_instruction_X2_goesToD : GoodIn wsX8_instruction (va_wsS RX8 99 yX2_goesToD wsX2_goesToD) := goodIn_app (goodIn_of _ (by decide +kernel)) ggX8_instruction_X2_goesToD
set_option maxRecDepth 20000 in
theorem ggX8_instruction_X2_readsA : GoodIn wsX8_instruction wsX2_readsA := goodIn_r _ [22] (by decide +kernel) (by decide +kernel)
set_option maxRecDepth 20000 in
theorem gX8_instruction_X2_readsA : GoodIn wsX8_instruction (va_wsS RX8 102 yX2_readsA wsX2_readsA) := goodIn_app (goodIn_of _ (by decide +kernel)) ggX8_instruction_X2_readsA
set_option maxRecDepth 20000 in
theorem ggX8_instruction_X2_readsB : GoodIn wsX8_instruction wsX2_readsB := goodIn_r _ [25, 26, 27, 9, 28] (by decide +kernel) (by decide +kernel)
set_option maxRecDepth 20000 in
theorem gX8_instruction_X2_readsB : GoodIn wsX8_instruction (va_wsS RX8 105 yX2_readsB wsX2_readsB) := goodIn_app (goodIn_of _ (by decide +kernel)) ggX8_instruction_X2_readsB
set_option maxRecDepth 20000 in
theorem ggX8_instruction_X6_append : GoodIn wsX8_instruction wsX6_append := goodIn_r _ [37, 38, 39, 40, 41, 42, 36, 43, 44, 45, 46, 58, 59, 60, 61, 62] (by decide +kernel) (by decide +kernel)
set_option maxRecDepth 20000 in
theorem gX8_instruction_X6_append : GoodIn wsX8_instruction (wsV RX8 108 RX6 yX6_append wsX6_append) := goodIn_app (goodIn_of _ (by decide +kernel)) ggX8_instruction_X6_append
theorem dX8_instruction_0 : decode cX8_instruction 0 = .ok (.iload_n 1, 1) := by decide +kernel
theorem dX8_instruction_1 : decode cX8_instruction 1 = .ok (.iload_n 2, 1) := by decide +kernel
theorem dX8_instruction_2 : decode cX8_instruction 2 = .ok (.iload_n 3, 1) := by decide +kernel
theorem dX8_instruction_3 : decode cX8_instruction 3 = .ok (.iload 4, 2) := by decide +kernel
theorem dX8_instruction_5 : decode cX8_instruction 5 = .ok (.invokestatic 73, 3) := by decide +kernel
theorem dX8_instruction_8 : decode cX8_instruction 8 = .ok (.ifCond .ne 13, 3) := by decide +kernel
theorem dX8_instruction_11 : decode cX8_instruction 11 = .ok (.new 79, 3) := by decide +kernel
theorem dX8_instruction_14 : decode cX8_instruction 14 = .ok (.dup, 1) := by decide +kernel
theorem dX8_instruction_15 : decode cX8_instruction 15 = .ok (.ldc 81, 2) := by decide +kernel
theorem dX8_instruction_17 : decode cX8_instruction 17 = .ok (.invokespecial 83, 3) := by decide +kernel
theorem dX8_instruction_20 : decode cX8_instruction 20 = .ok (.athrow, 1) := by decide +kernel
theorem dX8_instruction_21 : decode cX8_instruction 21 = .ok (.aload_n 0, 1) := by decide +kernel
theorem dX8_instruction_22 : decode cX8_instruction 22 = .ok (.getfield 14, 3) := by decide +kernel
theorem dX8_instruction_25 : decode cX8_instruction 25 = .ok (.getfield 86, 3) := by decide +kernel
theorem dX8_instruction_28 : decode cX8_instruction 28 = .ok (.bipush 24, 2) := by decide +kernel
theorem dX8_instruction_30 : decode cX8_instruction 30 = .ok (.if_icmp .lt 13, 3) := by decide +kernel
theorem dX8_instruction_33 : decode cX8_instruction 33 = .ok (.new 90, 3) := by decide +kernel
theorem dX8_instruction_36 : decode cX8_instruction 36 = .ok (.dup, 1) := by decide +kernel
theorem dX8_instruction_37 : decode cX8_instruction 37 = .ok (.ldc 92, 2) := by decide +kernel
theorem dX8_instruction_39 : decode cX8_instruction 39 = .ok (.invokespecial 94, 3) := by decide +kernel
theorem dX8_instruction_42 : decode cX8_instruction 42 = .ok (.athrow, 1) := by decide +kernel
theorem dX8_instruction_43 : decode cX8_instruction 43 = .ok (.iload_n 1, 1) := by decide +kernel
theorem dX8_instruction_44 : decode cX8_instruction 44 = .ok (.invokestatic 95, 3) := by decide +kernel
theorem dX8_instruction_47 : decode cX8_instruction 47 = .ok (.ifCond .ne 10, 3) := by decide +kernel
theorem dX8_instruction_50 : decode cX8_instruction 50 = .ok (.iload_n 1, 1) := by decide +kernel
theorem dX8_instruction_51 : decode cX8_instruction 51 = .ok (.invokestatic 99, 3) := by decide +kernel
theorem dX8_instruction_54 : decode cX8_instruction 54 = .ok (.ifCond .eq 7, 3) := by decide +kernel
theorem dX8_instruction_57 : decode cX8_instruction 57 = .ok (.iload_n 2, 1) := by decide +kernel
theorem dX8_instruction_58 : decode cX8_instruction 58 = .ok (.goto 4, 3) := by decide +kernel
theorem dX8_instruction_61 : decode cX8_instruction 61 = .ok (.iconst 0, 1) := by decide +kernel
theorem dX8_instruction_62 : decode cX8_instruction 62 = .ok (.istore 5, 2) := by decide +kernel
theorem dX8_instruction_64 : decode cX8_instruction 64 = .ok (.iload_n 1, 1) := by decide +kernel
theorem dX8_instruction_65 : decode cX8_instruction 65 = .ok (.invokestatic 102, 3) := by decide +kernel
theorem dX8_instruction_68 : decode cX8_instruction 68 = .ok (.ifCond .ne 8, 3) := by decide +kernel
theorem dX8_instruction_71 : decode cX8_instruction 71 = .ok (.iload_n 1, 1) := by decide +kernel
theorem dX8_instruction_72 : decode cX8_instruction 72 = .ok (.iconst 1, 1) := by decide +kernel
theorem dX8_instruction_73 : decode cX8_instruction 73 = .ok (.if_icmp .ne 7, 3) := by decide +kernel
theorem dX8_instruction_76 : decode cX8_instruction 76 = .ok (.iload_n 3, 1) := by decide +kernel
theorem dX8_instruction_77 : decode cX8_instruction 77 = .ok (.goto 4, 3) := by decide +kernel
theorem dX8_instruction_80 : decode cX8_instruction 80 = .ok (.iconst 0, 1) := by decide +kernel
theorem dX8_instruction_81 : decode cX8_instruction 81 = .ok (.istore 6, 2) := by decide +kernel
theorem dX8_instruction_83 : decode cX8_instruction 83 = .ok (.iload_n 1, 1) := by decide +kernel
theorem dX8_instruction_84 : decode cX8_instruction 84 = .ok (.invokestatic 105, 3) := by decide +kernel
theorem dX8_instruction_87 : decode cX8_instruction 87 = .ok (.ifCond .eq 8, 3) := by decide +kernel
theorem dX8_instruction_90 : decode cX8_instruction 90 = .ok (.iload 4, 2) := by decide +kernel
theorem dX8_instruction_92 : decode cX8_instruction 92 = .ok (.goto 4, 3) := by decide +kernel
theorem dX8_instruction_95 : decode cX8_instruction 95 = .ok (.iconst 0, 1) := by decide +kernel
theorem dX8_instruction_96 : decode cX8_instruction 96 = .ok (.istore 7, 2) := by decide +kernel
theorem dX8_instruction_98 : decode cX8_instruction 98 = .ok (.aload_n 0, 1) := by decide +kernel
theorem dX8_instruction_99 : decode cX8_instruction 99 = .ok (.getfield 14, 3) := by decide +kernel
theorem dX8_instruction_102 : decode cX8_instruction 102 = .ok (.iload_n 1, 1) := by decide +kernel
theorem dX8_instruction_103 : decode cX8_instruction 103 = .ok (.iload 5, 2) := by decide +kernel
theorem dX8_instruction_105 : decode cX8_instruction 105 = .ok (.iload 6, 2) := by decide +kernel
theorem dX8_instruction_107 : decode cX8_instruction 107 = .ok (.iload 7, 2) := by decide +kernel
theorem dX8_instruction_109 : decode cX8_instruction 109 = .ok (.invokevirtual 108, 3) := by decide +kernel
theorem dX8_instruction_112 : decode cX8_instruction 112 = .ok (.aload_n 0, 1) := by decide +kernel
theorem dX8_instruction_113 : decode cX8_instruction 113 = .ok (.getfield 14, 3) := by decide +kernel
theorem dX8_instruction_116 : decode cX8_instruction 116 = .ok (.getfield 86, 3) := by decide +kernel
theorem dX8_instruction_119 : decode cX8_instruction 119 = .ok (.iconst 1, 1) := by decide +kernel
theorem dX8_instruction_120 : decode cX8_instruction 120 = .ok (.isub, 1) := by decide +kernel
theorem dX8_instruction_121 : decode cX8_instruction 121 = .ok (.ireturn, 1) := by decide +kernel
set_option maxRecDepth 20000 in
theorem ggX8_take_X6_isWhole : GoodIn wsX8_take wsX6_isWhole := goodIn_r _ [13, 14, 15, 16, 17, 18, 19, 20, 50, 51, 52, 53, 54] (by decide +kernel) (by decide +kernel)
set_option maxRecDepth 20000 in
theorem gX8_take_X6_isWhole : GoodIn wsX8_take (wsV RX8 112 RX6 yX6_isWhole wsX6_isWhole) := goodIn_app (goodIn_of _ (by decide +kernel)) ggX8_take_X6_isWhole
set_option maxRecDepth 20000 in
theorem ggX8_take_X6_clear : GoodIn wsX8_take wsX6_clear := goodIn_r _ [24, 14, 50, 51, 52, 53, 54] (by decide +kernel) (by decide +kernel)
set_option maxRecDepth 20000 in
theorem gX8_take_X6_clear : GoodIn wsX8_take (wsV RX8 116 RX6 yX6_clear wsX6_clear) := goodIn_app (goodIn_of _ (by decide +kernel)) ggX8_take_X6_clear
set_option maxRecDepth 20000 in
theorem ggX8_take_X6_copyFrom : GoodIn wsX8_take wsX6_copyFrom := goodIn_r _ [28, 14, 15, 16, 29, 30, 31, 32, 33, 12, 34, 35, 36, 37, 38, 50, 51, 52, 53, 54] (by decide +kernel) (by decide +kernel)
set_option maxRecDepth 20000 in
theorem gX8_take_X6_copyFrom : GoodIn wsX8_take (wsV RX8 121 RX6 yX6_copyFrom wsX6_copyFrom) := goodIn_app (goodIn_of _ (by decide +kernel)) ggX8_take_X6_copyFrom
theorem dX8_take_0 : decode cX8_take 0 = .ok (.aload_n 0, 1) := by decide +kernel
theorem dX8_take_1 : decode cX8_take 1 = .ok (.getfield 14, 3) := by decide +kernel
theorem dX8_take_4 : decode cX8_take 4 = .ok (.invokevirtual 112, 3) := by decide +kernel
theorem dX8_take_7 : decode cX8_take 7 = .ok (.ifCond .ne 20, 3) := by decide +kernel
theorem dX8_take_10 : decode cX8_take 10 = .ok (.aload_n 0, 1) := by decide +kernel
theorem dX8_take_11 : decode cX8_take 11 = .ok (.getfield 14, 3) := by decide +kernel
theorem dX8_take_14 : decode cX8_take 14 = .ok (.invokevirtual 116, 3) := by decide +kernel
theorem dX8_take_17 : decode cX8_take 17 = .ok (.new 79, 3) := by decide +kernel
theorem dX8_take_20 : decode cX8_take 20 = .ok (.dup, 1) := by decide +kernel
theorem dX8_take_21 : decode cX8_take 21 = .ok (.ldc 119, 2) := by decide +kernel
theorem dX8_take_23 : decode cX8_take 23 = .ok (.invokespecial 83, 3) := by decide +kernel
theorem dX8_take_26 : decode cX8_take 26 = .ok (.athrow, 1) := by decide +kernel
theorem dX8_take_27 : decode cX8_take 27 = .ok (.aload_n 0, 1) := by decide +kernel
theorem dX8_take_28 : decode cX8_take 28 = .ok (.getfield 18, 3) := by decide +kernel
theorem dX8_take_31 : decode cX8_take 31 = .ok (.aload_n 0, 1) := by decide +kernel
theorem dX8_take_32 : decode cX8_take 32 = .ok (.getfield 14, 3) := by decide +kernel
theorem dX8_take_35 : decode cX8_take 35 = .ok (.invokevirtual 121, 3) := by decide +kernel
theorem dX8_take_38 : decode cX8_take 38 = .ok (.aload_n 0, 1) := by decide +kernel
theorem dX8_take_39 : decode cX8_take 39 = .ok (.getfield 21, 3) := by decide +kernel
theorem dX8_take_42 : decode cX8_take 42 = .ok (.aload_n 0, 1) := by decide +kernel
theorem dX8_take_43 : decode cX8_take 43 = .ok (.getfield 14, 3) := by decide +kernel
theorem dX8_take_46 : decode cX8_take 46 = .ok (.invokevirtual 121, 3) := by decide +kernel
theorem dX8_take_49 : decode cX8_take 49 = .ok (.aload_n 0, 1) := by decide +kernel
theorem dX8_take_50 : decode cX8_take 50 = .ok (.getfield 14, 3) := by decide +kernel
theorem dX8_take_53 : decode cX8_take 53 = .ok (.invokevirtual 116, 3) := by decide +kernel
theorem dX8_take_56 : decode cX8_take 56 = .ok (.aload_n 0, 1) := by decide +kernel
theorem dX8_take_57 : decode cX8_take 57 = .ok (.iconst 1, 1) := by decide +kernel
theorem dX8_take_58 : decode cX8_take 58 = .ok (.putfield 66, 3) := by decide +kernel
theorem dX8_take_61 : decode cX8_take 61 = .ok (.aload_n 0, 1) := by decide +kernel
theorem dX8_take_62 : decode cX8_take 62 = .ok (.iconst 0, 1) := by decide +kernel
theorem dX8_take_63 : decode cX8_take 63 = .ok (.putfield 70, 3) := by decide +kernel
theorem dX8_take_66 : decode cX8_take 66 = .ok (.aload_n 0, 1) := by decide +kernel
theorem dX8_take_67 : decode cX8_take 67 = .ok (.getfield 18, 3) := by decide +kernel
theorem dX8_take_70 : decode cX8_take 70 = .ok (.getfield 86, 3) := by decide +kernel
theorem dX8_take_73 : decode cX8_take 73 = .ok (.ireturn, 1) := by decide +kernel
set_option maxRecDepth 20000 in
theorem ggX8_pass_X1_fold : GoodIn wsX8_pass wsX1_fold := goodIn_r _ [15, 16, 17, 18, 19, 20, 21, 14, 22, 23, 24, 25, 26, 27, 28, 29, 30, 31, 32, 33, 34, 35, 36, 37, 38, 39, 40, 41, 42, 43, 44, 45, 46, 47, 48, 49, 50, 51, 52, 53, 54, 55, 56, 57, 58, 59, 60, 61, 62, 63, 64, 65, 66, 67, 68, 69, 70, 71, 72, 73, 74, 75, 76, 77, 78, 79, 80, 81, 82, 83, 84, 85, 86, 87, 88, 89, 90, 91, 92, 93, 94, 95, 96, 97, 98, 99, 100, 101, 102, 103, 104, 105, 106, 107, 108, 109, 110, 111, 112, 113, 277, 278, 279, 280, 281, 282, 283, 284, 285, 286, 287] (by decide +kernel) (by decide +kernel)
set_option maxRecDepth 20000 in
theorem gX8_pass_X1_fold : GoodIn wsX8_pass (wsV RX8 129 RX1 yX1_fold wsX1_fold) := goodIn_app (goodIn_of _ (by decide +kernel)) ggX8_pass_X1_fold
set_option maxRecDepth 20000 in
theorem ggX8_pass_X7_share : GoodIn wsX8_pass wsX7_share := goodIn_r _ [118, 119, 120, 121, 122, 117, 123, 124, 125, 126, 127, 88, 128, 91, 90, 96, 97, 98, 64, 99, 129, 130, 131, 132, 133, 134, 135, 136, 137, 138, 139, 140, 141, 142, 143, 144, 145, 146, 147, 148, 149, 150, 151, 152, 153, 154, 76, 77, 155, 63, 65, 156, 109, 110, 111, 112, 113, 157, 158, 159, 160, 161, 162, 163, 164, 165, 166, 167, 168, 169, 170, 171, 172, 173, 174, 175, 176, 177, 178, 179, 180, 181, 182, 283, 284, 285, 286, 287, 288, 289, 290, 291, 292, 293, 294] (by decide +kernel) (by decide +kernel)
set_option maxRecDepth 20000 in
theorem gX8_pass_X7_share : GoodIn wsX8_pass (wsV RX8 133 RX7 yX7_share wsX7_share) := goodIn_app (goodIn_of _ (by decide +kernel)) ggX8_pass_X7_share
set_option maxRecDepth 20000 in
theorem ggX8_pass_X8_dropAll : GoodIn wsX8_pass wsX8_dropAll := goodIn_r _ [187, 188, 8, 189, 190, 191, 192, 193, 194, 195, 26, 27, 28, 196, 197, 198, 199, 200, 201, 202, 203, 204, 205, 206, 207, 208, 209, 210, 211, 212, 213, 86, 87, 88, 89, 90, 91, 214, 93, 94, 95, 96, 97, 98, 64, 99, 215, 63, 65, 216, 145, 146, 217, 152, 153, 154, 76, 77, 218, 219, 220, 221, 222, 181, 182, 223, 109, 110, 111, 112, 113, 266, 267, 268, 269, 270, 271, 272, 273, 274, 275, 276, 295, 283, 284, 285, 286, 287] (by decide +kernel) (by decide +kernel)
set_option maxRecDepth 20000 in
theorem gX8_pass_X8_dropAll : GoodIn wsX8_pass (wsV RX8 136 RX8 yX8_dropAll wsX8_dropAll) := goodIn_app (goodIn_of _ (by decide +kernel)) ggX8_pass_X8_dropAll
set_option maxRecDepth 20000 in
theorem ggX8_pass_X5_pack : GoodIn wsX8_pass wsX5_pack := goodIn_r _ [228, 229, 230, 231, 98, 64, 99, 232, 233, 234, 227, 235, 236, 237, 238, 239, 240, 241, 242, 243, 244, 245, 246, 247, 248, 249, 250, 251, 252, 253, 254, 255, 256, 257, 258, 259, 88, 260, 91, 261, 262, 263, 264, 90, 265, 109, 110, 111, 96, 112, 113, 283, 284, 285, 286, 287, 296, 297] (by decide +kernel) (by decide +kernel)
set_option maxRecDepth 20000 in
theorem gX8_pass_X5_pack : GoodIn wsX8_pass (wsV RX8 140 RX5 yX5_pack wsX5_pack) := goodIn_app (goodIn_of _ (by decide +kernel)) ggX8_pass_X5_pack
theorem dX8_pass_0 : decode cX8_pass 0 = .ok (.iload_n 1, 1) := by decide +kernel
theorem dX8_pass_1 : decode cX8_pass 1 = .ok (.ifCond .lt 8, 3) := by decide +kernel
theorem dX8_pass_4 : decode cX8_pass 4 = .ok (.iload_n 1, 1) := by decide +kernel
theorem dX8_pass_5 : decode cX8_pass 5 = .ok (.iconst 3, 1) := by decide +kernel
theorem dX8_pass_6 : decode cX8_pass 6 = .ok (.if_icmp .le 13, 3) := by decide +kernel
theorem dX8_pass_9 : decode cX8_pass 9 = .ok (.new 79, 3) := by decide +kernel
theorem dX8_pass_12 : decode cX8_pass 12 = .ok (.dup, 1) := by decide +kernel
theorem dX8_pass_13 : decode cX8_pass 13 = .ok (.ldc 125, 2) := by decide +kernel
theorem dX8_pass_15 : decode cX8_pass 15 = .ok (.invokespecial 83, 3) := by decide +kernel
theorem dX8_pass_18 : decode cX8_pass 18 = .ok (.athrow, 1) := by decide +kernel
theorem dX8_pass_19 : decode cX8_pass 19 = .ok (.aload_n 0, 1) := by decide +kernel
theorem dX8_pass_20 : decode cX8_pass 20 = .ok (.getfield 66, 3) := by decide +kernel
theorem dX8_pass_23 : decode cX8_pass 23 = .ok (.ifCond .eq 10, 3) := by decide +kernel
theorem dX8_pass_26 : decode cX8_pass 26 = .ok (.aload_n 0, 1) := by decide +kernel
theorem dX8_pass_27 : decode cX8_pass 27 = .ok (.getfield 70, 3) := by decide +kernel
theorem dX8_pass_30 : decode cX8_pass 30 = .ok (.ifCond .eq 13, 3) := by decide +kernel
theorem dX8_pass_33 : decode cX8_pass 33 = .ok (.new 90, 3) := by decide +kernel
theorem dX8_pass_36 : decode cX8_pass 36 = .ok (.dup, 1) := by decide +kernel
theorem dX8_pass_37 : decode cX8_pass 37 = .ok (.ldc 127, 2) := by decide +kernel
theorem dX8_pass_39 : decode cX8_pass 39 = .ok (.invokespecial 94, 3) := by decide +kernel
theorem dX8_pass_42 : decode cX8_pass 42 = .ok (.athrow, 1) := by decide +kernel
theorem dX8_pass_43 : decode cX8_pass 43 = .ok (.iload_n 1, 1) := by decide +kernel
theorem dX8_pass_44 : decode cX8_pass 44 = .ok (.tableswitch 57 0 2 #[28, 40, 52], 28) := by decide +kernel
theorem dX8_pass_72 : decode cX8_pass 72 = .ok (.aload_n 0, 1) := by decide +kernel
theorem dX8_pass_73 : decode cX8_pass 73 = .ok (.getfield 34, 3) := by decide +kernel
theorem dX8_pass_76 : decode cX8_pass 76 = .ok (.aload_n 0, 1) := by decide +kernel
theorem dX8_pass_77 : decode cX8_pass 77 = .ok (.getfield 21, 3) := by decide +kernel
theorem dX8_pass_80 : decode cX8_pass 80 = .ok (.invokevirtual 129, 3) := by decide +kernel
theorem dX8_pass_83 : decode cX8_pass 83 = .ok (.ireturn, 1) := by decide +kernel
theorem dX8_pass_84 : decode cX8_pass 84 = .ok (.aload_n 0, 1) := by decide +kernel
theorem dX8_pass_85 : decode cX8_pass 85 = .ok (.getfield 41, 3) := by decide +kernel
theorem dX8_pass_88 : decode cX8_pass 88 = .ok (.aload_n 0, 1) := by decide +kernel
theorem dX8_pass_89 : decode cX8_pass 89 = .ok (.getfield 21, 3) := by decide +kernel
theorem dX8_pass_92 : decode cX8_pass 92 = .ok (.invokevirtual 133, 3) := by decide +kernel
theorem dX8_pass_95 : decode cX8_pass 95 = .ok (.ireturn, 1) := by decide +kernel
theorem dX8_pass_96 : decode cX8_pass 96 = .ok (.aload_n 0, 1) := by decide +kernel
theorem dX8_pass_97 : decode cX8_pass 97 = .ok (.invokevirtual 136, 3) := by decide +kernel
theorem dX8_pass_100 : decode cX8_pass 100 = .ok (.ireturn, 1) := by decide +kernel
theorem dX8_pass_101 : decode cX8_pass 101 = .ok (.aload_n 0, 1) := by decide +kernel
theorem dX8_pass_102 : decode cX8_pass 102 = .ok (.getfield 48, 3) := by decide +kernel
theorem dX8_pass_105 : decode cX8_pass 105 = .ok (.aload_n 0, 1) := by decide +kernel
theorem dX8_pass_106 : decode cX8_pass 106 = .ok (.getfield 21, 3) := by decide +kernel
theorem dX8_pass_109 : decode cX8_pass 109 = .ok (.invokevirtual 140, 3) := by decide +kernel
theorem dX8_pass_112 : decode cX8_pass 112 = .ok (.ireturn, 1) := by decide +kernel
set_option maxRecDepth 20000 in
theorem ggX8_allocate_X3_find : GoodIn wsX8_allocate wsX3_find := goodIn_r _ [15, 16, 17, 18, 19, 20, 21, 22, 23, 14, 24, 25, 26, 27, 28, 29, 30, 31, 32, 33, 34, 35, 36, 37, 38, 39, 40, 41, 42, 43, 44, 45, 46, 47, 48, 49, 50, 51, 52, 53, 54, 55, 56, 57, 58, 59, 60, 61, 62, 63, 64, 65, 155, 156, 157, 158, 159, 160] (by decide +kernel) (by decide +kernel)
set_option maxRecDepth 20000 in
theorem gX8_allocate_X3_find : GoodIn wsX8_allocate (wsV RX8 147 RX3 yX3_find wsX3_find) := goodIn_app (goodIn_of _ (by decide +kernel)) ggX8_allocate_X3_find
set_option maxRecDepth 20000 in
theorem ggX8_allocate_X0_findConflicts : GoodIn wsX8_allocate wsX0_findConflicts := goodIn_r _ [70, 71, 72, 73, 74, 75, 76, 77, 18, 19, 20, 78, 79, 80, 69, 81, 82, 55, 52, 56, 83, 35, 36, 14, 37, 16, 38, 39, 40, 41, 42, 43, 44, 45, 46, 47, 48, 49, 50, 51, 53, 150, 151, 152, 153, 154, 155, 156, 157, 158, 159, 160] (by decide +kernel) (by decide +kernel)
set_option maxRecDepth 20000 in
theorem gX8_allocate_X0_findConflicts : GoodIn wsX8_allocate (wsV RX8 150 RX0 yX0_findConflicts wsX0_findConflicts) := goodIn_app (goodIn_of _ (by decide +kernel)) ggX8_allocate_X0_findConflicts
set_option maxRecDepth 20000 in
theorem ggX8_allocate_X0_settle : GoodIn wsX8_allocate wsX0_settle := goodIn_r _ [87, 88, 89, 90, 91, 92, 69, 93, 94, 95, 96, 97, 71, 150, 151, 152, 153, 154] (by decide +kernel) (by decide +kernel)
set_option maxRecDepth 20000 in
theorem gX8_allocate_X0_settle : GoodIn wsX8_allocate (wsV RX8 154 RX0 yX0_settle wsX0_settle) := goodIn_app (goodIn_of _ (by decide +kernel)) ggX8_allocate_X0_settle
set_option maxRecDepth 20000 in
theorem ggX8_allocate_X0_rewrite : GoodIn wsX8_allocate wsX0_rewrite := goodIn_r _ [101, 102, 73, 103, 74, 76, 104, 105, 106, 41, 107, 44, 43, 49, 108, 109, 110, 111, 112, 113, 114, 115, 116, 117, 118, 119, 120, 121, 122, 123, 124, 69, 125, 75, 126, 89, 82, 55, 52, 56, 127, 58, 59, 128, 61, 62, 63, 64, 65, 129, 130, 131, 132, 133, 134, 135, 136, 137, 138, 51, 53, 150, 151, 152, 153, 154, 156, 157, 158, 159, 160] (by decide +kernel) (by decide +kernel)
set_option maxRecDepth 20000 in
theorem gX8_allocate_X0_rewrite : GoodIn wsX8_allocate (wsV RX8 160 RX0 yX0_rewrite wsX0_rewrite) := goodIn_app (goodIn_of _ (by decide +kernel)) ggX8_allocate_X0_rewrite
theorem dX8_allocate_0 : decode cX8_allocate 0 = .ok (.iload_n 1, 1) := by decide +kernel
theorem dX8_allocate_1 : decode cX8_allocate 1 = .ok (.iconst 2, 1) := by decide +kernel
theorem dX8_allocate_2 : decode cX8_allocate 2 = .ok (.if_icmp .lt 9, 3) := by decide +kernel
theorem dX8_allocate_5 : decode cX8_allocate 5 = .ok (.iload_n 1, 1) := by decide +kernel
theorem dX8_allocate_6 : decode cX8_allocate 6 = .ok (.bipush 8, 2) := by decide +kernel
theorem dX8_allocate_8 : decode cX8_allocate 8 = .ok (.if_icmp .le 13, 3) := by decide +kernel
theorem dX8_allocate_11 : decode cX8_allocate 11 = .ok (.new 79, 3) := by decide +kernel
theorem dX8_allocate_14 : decode cX8_allocate 14 = .ok (.dup, 1) := by decide +kernel
theorem dX8_allocate_15 : decode cX8_allocate 15 = .ok (.ldc 143, 2) := by decide +kernel
theorem dX8_allocate_17 : decode cX8_allocate 17 = .ok (.invokespecial 83, 3) := by decide +kernel
theorem dX8_allocate_20 : decode cX8_allocate 20 = .ok (.athrow, 1) := by decide +kernel
theorem dX8_allocate_21 : decode cX8_allocate 21 = .ok (.aload_n 0, 1) := by decide +kernel
theorem dX8_allocate_22 : decode cX8_allocate 22 = .ok (.getfield 66, 3) := by decide +kernel
theorem dX8_allocate_25 : decode cX8_allocate 25 = .ok (.ifCond .eq 10, 3) := by decide +kernel
theorem dX8_allocate_28 : decode cX8_allocate 28 = .ok (.aload_n 0, 1) := by decide +kernel
theorem dX8_allocate_29 : decode cX8_allocate 29 = .ok (.getfield 70, 3) := by decide +kernel
theorem dX8_allocate_32 : decode cX8_allocate 32 = .ok (.ifCond .eq 13, 3) := by decide +kernel
theorem dX8_allocate_35 : decode cX8_allocate 35 = .ok (.new 90, 3) := by decide +kernel
theorem dX8_allocate_38 : decode cX8_allocate 38 = .ok (.dup, 1) := by decide +kernel
theorem dX8_allocate_39 : decode cX8_allocate 39 = .ok (.ldc 145, 2) := by decide +kernel
theorem dX8_allocate_41 : decode cX8_allocate 41 = .ok (.invokespecial 94, 3) := by decide +kernel
theorem dX8_allocate_44 : decode cX8_allocate 44 = .ok (.athrow, 1) := by decide +kernel
theorem dX8_allocate_45 : decode cX8_allocate 45 = .ok (.aload_n 0, 1) := by decide +kernel
theorem dX8_allocate_46 : decode cX8_allocate 46 = .ok (.getfield 27, 3) := by decide +kernel
theorem dX8_allocate_49 : decode cX8_allocate 49 = .ok (.aload_n 0, 1) := by decide +kernel
theorem dX8_allocate_50 : decode cX8_allocate 50 = .ok (.getfield 21, 3) := by decide +kernel
theorem dX8_allocate_53 : decode cX8_allocate 53 = .ok (.invokevirtual 147, 3) := by decide +kernel
theorem dX8_allocate_56 : decode cX8_allocate 56 = .ok (.aload_n 0, 1) := by decide +kernel
theorem dX8_allocate_57 : decode cX8_allocate 57 = .ok (.getfield 55, 3) := by decide +kernel
theorem dX8_allocate_60 : decode cX8_allocate 60 = .ok (.aload_n 0, 1) := by decide +kernel
theorem dX8_allocate_61 : decode cX8_allocate 61 = .ok (.getfield 21, 3) := by decide +kernel
theorem dX8_allocate_64 : decode cX8_allocate 64 = .ok (.aload_n 0, 1) := by decide +kernel
theorem dX8_allocate_65 : decode cX8_allocate 65 = .ok (.getfield 27, 3) := by decide +kernel
theorem dX8_allocate_68 : decode cX8_allocate 68 = .ok (.invokevirtual 150, 3) := by decide +kernel
theorem dX8_allocate_71 : decode cX8_allocate 71 = .ok (.aload_n 0, 1) := by decide +kernel
theorem dX8_allocate_72 : decode cX8_allocate 72 = .ok (.getfield 55, 3) := by decide +kernel
theorem dX8_allocate_75 : decode cX8_allocate 75 = .ok (.iload_n 1, 1) := by decide +kernel
theorem dX8_allocate_76 : decode cX8_allocate 76 = .ok (.invokevirtual 154, 3) := by decide +kernel
theorem dX8_allocate_79 : decode cX8_allocate 79 = .ok (.ifCond .le 29, 3) := by decide +kernel
theorem dX8_allocate_82 : decode cX8_allocate 82 = .ok (.iload_n 1, 1) := by decide +kernel
theorem dX8_allocate_83 : decode cX8_allocate 83 = .ok (.iconst 4, 1) := by decide +kernel
theorem dX8_allocate_84 : decode cX8_allocate 84 = .ok (.if_icmp .ge 13, 3) := by decide +kernel
theorem dX8_allocate_87 : decode cX8_allocate 87 = .ok (.new 90, 3) := by decide +kernel
theorem dX8_allocate_90 : decode cX8_allocate 90 = .ok (.dup, 1) := by decide +kernel
theorem dX8_allocate_91 : decode cX8_allocate 91 = .ok (.ldc 158, 2) := by decide +kernel
theorem dX8_allocate_93 : decode cX8_allocate 93 = .ok (.invokespecial 94, 3) := by decide +kernel
theorem dX8_allocate_96 : decode cX8_allocate 96 = .ok (.athrow, 1) := by decide +kernel
theorem dX8_allocate_97 : decode cX8_allocate 97 = .ok (.aload_n 0, 1) := by decide +kernel
theorem dX8_allocate_98 : decode cX8_allocate 98 = .ok (.getfield 55, 3) := by decide +kernel
theorem dX8_allocate_101 : decode cX8_allocate 101 = .ok (.iload_n 1, 1) := by decide +kernel
theorem dX8_allocate_102 : decode cX8_allocate 102 = .ok (.iconst 2, 1) := by decide +kernel
theorem dX8_allocate_103 : decode cX8_allocate 103 = .ok (.isub, 1) := by decide +kernel
theorem dX8_allocate_104 : decode cX8_allocate 104 = .ok (.invokevirtual 154, 3) := by decide +kernel
theorem dX8_allocate_107 : decode cX8_allocate 107 = .ok (.pop, 1) := by decide +kernel
theorem dX8_allocate_108 : decode cX8_allocate 108 = .ok (.aload_n 0, 1) := by decide +kernel
theorem dX8_allocate_109 : decode cX8_allocate 109 = .ok (.getfield 55, 3) := by decide +kernel
theorem dX8_allocate_112 : decode cX8_allocate 112 = .ok (.aload_n 0, 1) := by decide +kernel
theorem dX8_allocate_113 : decode cX8_allocate 113 = .ok (.getfield 21, 3) := by decide +kernel
theorem dX8_allocate_116 : decode cX8_allocate 116 = .ok (.iload_n 1, 1) := by decide +kernel
theorem dX8_allocate_117 : decode cX8_allocate 117 = .ok (.invokevirtual 160, 3) := by decide +kernel
theorem dX8_allocate_120 : decode cX8_allocate 120 = .ok (.aload_n 0, 1) := by decide +kernel
theorem dX8_allocate_121 : decode cX8_allocate 121 = .ok (.iconst 1, 1) := by decide +kernel
theorem dX8_allocate_122 : decode cX8_allocate 122 = .ok (.putfield 70, 3) := by decide +kernel
theorem dX8_allocate_125 : decode cX8_allocate 125 = .ok (.aload_n 0, 1) := by decide +kernel
theorem dX8_allocate_126 : decode cX8_allocate 126 = .ok (.getfield 55, 3) := by decide +kernel
theorem dX8_allocate_129 : decode cX8_allocate 129 = .ok (.getfield 164, 3) := by decide +kernel
theorem dX8_allocate_132 : decode cX8_allocate 132 = .ok (.ireturn, 1) := by decide +kernel
set_option maxRecDepth 20000 in
theorem ggX8_home_X2_isRegister : GoodIn wsX8_home wsX2_isRegister := goodIn_r _ [11] (by decide +kernel) (by decide +kernel)
set_option maxRecDepth 20000 in
theorem gX8_home_X2_isRegister : GoodIn wsX8_home (va_wsS RX8 167 yX2_isRegister wsX2_isRegister) := goodIn_app (goodIn_of _ (by decide +kernel)) ggX8_home_X2_isRegister
theorem dX8_home_0 : decode cX8_home 0 = .ok (.iload_n 1, 1) := by decide +kernel
theorem dX8_home_1 : decode cX8_home 1 = .ok (.invokestatic 167, 3) := by decide +kernel
theorem dX8_home_4 : decode cX8_home 4 = .ok (.ifCond .ne 13, 3) := by decide +kernel
theorem dX8_home_7 : decode cX8_home 7 = .ok (.new 79, 3) := by decide +kernel
theorem dX8_home_10 : decode cX8_home 10 = .ok (.dup, 1) := by decide +kernel
theorem dX8_home_11 : decode cX8_home 11 = .ok (.ldc 170, 2) := by decide +kernel
theorem dX8_home_13 : decode cX8_home 13 = .ok (.invokespecial 83, 3) := by decide +kernel
theorem dX8_home_16 : decode cX8_home 16 = .ok (.athrow, 1) := by decide +kernel
theorem dX8_home_17 : decode cX8_home 17 = .ok (.aload_n 0, 1) := by decide +kernel
theorem dX8_home_18 : decode cX8_home 18 = .ok (.getfield 70, 3) := by decide +kernel
theorem dX8_home_21 : decode cX8_home 21 = .ok (.ifCond .ne 13, 3) := by decide +kernel
theorem dX8_home_24 : decode cX8_home 24 = .ok (.new 172, 3) := by decide +kernel
theorem dX8_home_27 : decode cX8_home 27 = .ok (.dup, 1) := by decide +kernel
theorem dX8_home_28 : decode cX8_home 28 = .ok (.ldc 174, 2) := by decide +kernel
theorem dX8_home_30 : decode cX8_home 30 = .ok (.invokespecial 176, 3) := by decide +kernel
theorem dX8_home_33 : decode cX8_home 33 = .ok (.athrow, 1) := by decide +kernel
theorem dX8_home_34 : decode cX8_home 34 = .ok (.aload_n 0, 1) := by decide +kernel
theorem dX8_home_35 : decode cX8_home 35 = .ok (.getfield 55, 3) := by decide +kernel
theorem dX8_home_38 : decode cX8_home 38 = .ok (.getfield 177, 3) := by decide +kernel
theorem dX8_home_41 : decode cX8_home 41 = .ok (.iload_n 1, 1) := by decide +kernel
theorem dX8_home_42 : decode cX8_home 42 = .ok (.iaload, 1) := by decide +kernel
theorem dX8_home_43 : decode cX8_home 43 = .ok (.ireturn, 1) := by decide +kernel
set_option maxRecDepth 20000 in
theorem ggX8_restore_X6_copyFrom : GoodIn wsX8_restore wsX6_copyFrom := goodIn_r _ [11, 12, 13, 14, 15, 16, 17, 18, 19, 10, 20, 21, 22, 23, 24, 36, 37, 38, 39, 40] (by decide +kernel) (by decide +kernel)
set_option maxRecDepth 20000 in
theorem gX8_restore_X6_copyFrom : GoodIn wsX8_restore (wsV RX8 121 RX6 yX6_copyFrom wsX6_copyFrom) := goodIn_app (goodIn_of _ (by decide +kernel)) ggX8_restore_X6_copyFrom
theorem dX8_restore_0 : decode cX8_restore 0 = .ok (.aload_n 0, 1) := by decide +kernel
theorem dX8_restore_1 : decode cX8_restore 1 = .ok (.getfield 66, 3) := by decide +kernel
theorem dX8_restore_4 : decode cX8_restore 4 = .ok (.ifCond .ne 13, 3) := by decide +kernel
theorem dX8_restore_7 : decode cX8_restore 7 = .ok (.new 90, 3) := by decide +kernel
theorem dX8_restore_10 : decode cX8_restore 10 = .ok (.dup, 1) := by decide +kernel
theorem dX8_restore_11 : decode cX8_restore 11 = .ok (.ldc 181, 2) := by decide +kernel
theorem dX8_restore_13 : decode cX8_restore 13 = .ok (.invokespecial 94, 3) := by decide +kernel
theorem dX8_restore_16 : decode cX8_restore 16 = .ok (.athrow, 1) := by decide +kernel
theorem dX8_restore_17 : decode cX8_restore 17 = .ok (.aload_n 0, 1) := by decide +kernel
theorem dX8_restore_18 : decode cX8_restore 18 = .ok (.getfield 21, 3) := by decide +kernel
theorem dX8_restore_21 : decode cX8_restore 21 = .ok (.aload_n 0, 1) := by decide +kernel
theorem dX8_restore_22 : decode cX8_restore 22 = .ok (.getfield 18, 3) := by decide +kernel
theorem dX8_restore_25 : decode cX8_restore 25 = .ok (.invokevirtual 121, 3) := by decide +kernel
theorem dX8_restore_28 : decode cX8_restore 28 = .ok (.aload_n 0, 1) := by decide +kernel
theorem dX8_restore_29 : decode cX8_restore 29 = .ok (.iconst 0, 1) := by decide +kernel
theorem dX8_restore_30 : decode cX8_restore 30 = .ok (.putfield 70, 3) := by decide +kernel
theorem dX8_restore_33 : decode cX8_restore 33 = .ok (.return_, 1) := by decide +kernel
set_option maxRecDepth 20000 in
theorem ggX8_length_X8_chosen : GoodIn wsX8_length wsX8_chosen := goodIn_r _ [6, 7, 8, 14, 15, 16, 17, 18, 19, 20, 21, 22, 23, 24] (by decide +kernel) (by decide +kernel)
set_option maxRecDepth 20000 in
theorem gX8_length_X8_chosen : GoodIn wsX8_length (wsV RX8 183 RX8 yX8_chosen wsX8_chosen) := goodIn_app (goodIn_of _ (by decide +kernel)) ggX8_length_X8_chosen
theorem dX8_length_0 : decode cX8_length 0 = .ok (.aload_n 0, 1) := by decide +kernel
theorem dX8_length_1 : decode cX8_length 1 = .ok (.iload_n 1, 1) := by decide +kernel
theorem dX8_length_2 : decode cX8_length 2 = .ok (.invokevirtual 183, 3) := by decide +kernel
theorem dX8_length_5 : decode cX8_length 5 = .ok (.getfield 86, 3) := by decide +kernel
theorem dX8_length_8 : decode cX8_length 8 = .ok (.ireturn, 1) := by decide +kernel
set_option maxRecDepth 20000 in
theorem ggX8_look_X8_chosen : GoodIn wsX8_look wsX8_chosen := goodIn_r _ [14, 15, 16, 22, 23, 24, 25, 26, 27, 28, 29, 30, 31, 32] (by decide +kernel) (by decide +kernel)
set_option maxRecDepth 20000 in
theorem gX8_look_X8_chosen : GoodIn wsX8_look (wsV RX8 183 RX8 yX8_chosen wsX8_chosen) := goodIn_app (goodIn_of _ (by decide +kernel)) ggX8_look_X8_chosen
theorem dX8_look_0 : decode cX8_look 0 = .ok (.iload_n 3, 1) := by decide +kernel
theorem dX8_look_1 : decode cX8_look 1 = .ok (.ifCond .lt 8, 3) := by decide +kernel
theorem dX8_look_4 : decode cX8_look 4 = .ok (.iload_n 3, 1) := by decide +kernel
theorem dX8_look_5 : decode cX8_look 5 = .ok (.iconst 3, 1) := by decide +kernel
theorem dX8_look_6 : decode cX8_look 6 = .ok (.if_icmp .le 13, 3) := by decide +kernel
theorem dX8_look_9 : decode cX8_look 9 = .ok (.new 79, 3) := by decide +kernel
theorem dX8_look_12 : decode cX8_look 12 = .ok (.dup, 1) := by decide +kernel
theorem dX8_look_13 : decode cX8_look 13 = .ok (.ldc 187, 2) := by decide +kernel
theorem dX8_look_15 : decode cX8_look 15 = .ok (.invokespecial 83, 3) := by decide +kernel
theorem dX8_look_18 : decode cX8_look 18 = .ok (.athrow, 1) := by decide +kernel
theorem dX8_look_19 : decode cX8_look 19 = .ok (.aload_n 0, 1) := by decide +kernel
theorem dX8_look_20 : decode cX8_look 20 = .ok (.iload_n 1, 1) := by decide +kernel
theorem dX8_look_21 : decode cX8_look 21 = .ok (.invokevirtual 183, 3) := by decide +kernel
theorem dX8_look_24 : decode cX8_look 24 = .ok (.astore 4, 2) := by decide +kernel
theorem dX8_look_26 : decode cX8_look 26 = .ok (.iload_n 2, 1) := by decide +kernel
theorem dX8_look_27 : decode cX8_look 27 = .ok (.ifCond .lt 12, 3) := by decide +kernel
theorem dX8_look_30 : decode cX8_look 30 = .ok (.iload_n 2, 1) := by decide +kernel
theorem dX8_look_31 : decode cX8_look 31 = .ok (.aload 4, 2) := by decide +kernel
theorem dX8_look_33 : decode cX8_look 33 = .ok (.getfield 86, 3) := by decide +kernel
theorem dX8_look_36 : decode cX8_look 36 = .ok (.if_icmp .lt 13, 3) := by decide +kernel
theorem dX8_look_39 : decode cX8_look 39 = .ok (.new 172, 3) := by decide +kernel
theorem dX8_look_42 : decode cX8_look 42 = .ok (.dup, 1) := by decide +kernel
theorem dX8_look_43 : decode cX8_look 43 = .ok (.ldc 81, 2) := by decide +kernel
theorem dX8_look_45 : decode cX8_look 45 = .ok (.invokespecial 176, 3) := by decide +kernel
theorem dX8_look_48 : decode cX8_look 48 = .ok (.athrow, 1) := by decide +kernel
theorem dX8_look_49 : decode cX8_look 49 = .ok (.iload_n 3, 1) := by decide +kernel
theorem dX8_look_50 : decode cX8_look 50 = .ok (.tableswitch 50 0 2 #[26, 34, 42], 26) := by decide +kernel
theorem dX8_look_76 : decode cX8_look 76 = .ok (.aload 4, 2) := by decide +kernel
theorem dX8_look_78 : decode cX8_look 78 = .ok (.getfield 189, 3) := by decide +kernel
theorem dX8_look_81 : decode cX8_look 81 = .ok (.iload_n 2, 1) := by decide +kernel
theorem dX8_look_82 : decode cX8_look 82 = .ok (.iaload, 1) := by decide +kernel
theorem dX8_look_83 : decode cX8_look 83 = .ok (.ireturn, 1) := by decide +kernel
theorem dX8_look_84 : decode cX8_look 84 = .ok (.aload 4, 2) := by decide +kernel
theorem dX8_look_86 : decode cX8_look 86 = .ok (.getfield 192, 3) := by decide +kernel
theorem dX8_look_89 : decode cX8_look 89 = .ok (.iload_n 2, 1) := by decide +kernel
theorem dX8_look_90 : decode cX8_look 90 = .ok (.iaload, 1) := by decide +kernel
theorem dX8_look_91 : decode cX8_look 91 = .ok (.ireturn, 1) := by decide +kernel
theorem dX8_look_92 : decode cX8_look 92 = .ok (.aload 4, 2) := by decide +kernel
theorem dX8_look_94 : decode cX8_look 94 = .ok (.getfield 195, 3) := by decide +kernel
theorem dX8_look_97 : decode cX8_look 97 = .ok (.iload_n 2, 1) := by decide +kernel
theorem dX8_look_98 : decode cX8_look 98 = .ok (.iaload, 1) := by decide +kernel
theorem dX8_look_99 : decode cX8_look 99 = .ok (.ireturn, 1) := by decide +kernel
theorem dX8_look_100 : decode cX8_look 100 = .ok (.aload 4, 2) := by decide +kernel
theorem dX8_look_102 : decode cX8_look 102 = .ok (.getfield 198, 3) := by decide +kernel
theorem dX8_look_105 : decode cX8_look 105 = .ok (.iload_n 2, 1) := by decide +kernel
theorem dX8_look_106 : decode cX8_look 106 = .ok (.iaload, 1) := by decide +kernel
theorem dX8_look_107 : decode cX8_look 107 = .ok (.ireturn, 1) := by decide +kernel
set_option maxRecDepth 20000 in
theorem ggX8_poke_X2_isCell : GoodIn wsX8_poke wsX2_isCell := goodIn_r _ [8] (by decide +kernel) (by decide +kernel)
set_option maxRecDepth 20000 in
theorem gX8_poke_X2_isCell : GoodIn wsX8_poke (va_wsS RX8 201 yX2_isCell wsX2_isCell) := goodIn_app (goodIn_of _ (by decide +kernel)) ggX8_poke_X2_isCell
theorem dX8_poke_0 : decode cX8_poke 0 = .ok (.iload_n 1, 1) := by decide +kernel
theorem dX8_poke_1 : decode cX8_poke 1 = .ok (.invokestatic 201, 3) := by decide +kernel
theorem dX8_poke_4 : decode cX8_poke 4 = .ok (.ifCond .ne 13, 3) := by decide +kernel
theorem dX8_poke_7 : decode cX8_poke 7 = .ok (.new 79, 3) := by decide +kernel
theorem dX8_poke_10 : decode cX8_poke 10 = .ok (.dup, 1) := by decide +kernel
theorem dX8_poke_11 : decode cX8_poke 11 = .ok (.ldc 204, 2) := by decide +kernel
theorem dX8_poke_13 : decode cX8_poke 13 = .ok (.invokespecial 83, 3) := by decide +kernel
theorem dX8_poke_16 : decode cX8_poke 16 = .ok (.athrow, 1) := by decide +kernel
theorem dX8_poke_17 : decode cX8_poke 17 = .ok (.aload_n 0, 1) := by decide +kernel
theorem dX8_poke_18 : decode cX8_poke 18 = .ok (.getfield 62, 3) := by decide +kernel
theorem dX8_poke_21 : decode cX8_poke 21 = .ok (.getfield 206, 3) := by decide +kernel
theorem dX8_poke_24 : decode cX8_poke 24 = .ok (.iload_n 1, 1) := by decide +kernel
theorem dX8_poke_25 : decode cX8_poke 25 = .ok (.iload_n 2, 1) := by decide +kernel
theorem dX8_poke_26 : decode cX8_poke 26 = .ok (.iastore, 1) := by decide +kernel
theorem dX8_poke_27 : decode cX8_poke 27 = .ok (.return_, 1) := by decide +kernel
set_option maxRecDepth 20000 in
theorem ggX8_run_X8_chosen : GoodIn wsX8_run wsX8_chosen := goodIn_r _ [10, 11, 12, 71, 72, 73, 74, 75, 76, 77, 78, 79, 80, 81] (by decide +kernel) (by decide +kernel)
set_option maxRecDepth 20000 in
theorem gX8_run_X8_chosen : GoodIn wsX8_run (wsV RX8 183 RX8 yX8_chosen wsX8_chosen) := goodIn_app (goodIn_of _ (by decide +kernel)) ggX8_run_X8_chosen
set_option maxRecDepth 20000 in
theorem ggX8_run_X4_execute : GoodIn wsX8_run wsX4_execute := goodIn_r _ [17, 18, 19, 20, 21, 16, 22, 23, 24, 25, 26, 27, 28, 29, 30, 31, 32, 33, 34, 35, 36, 37, 38, 39, 40, 41, 42, 43, 44, 45, 46, 47, 48, 49, 50, 51, 52, 53, 54, 55, 56, 57, 58, 59, 60, 61, 62, 63, 64, 65, 66, 67, 68, 69, 70, 82, 83, 84, 85, 86, 87, 88, 89, 90, 91, 92, 93, 94, 95] (by decide +kernel) (by decide +kernel)
set_option maxRecDepth 20000 in
theorem gX8_run_X4_execute : GoodIn wsX8_run (wsV RX8 209 RX4 yX4_execute wsX4_execute) := goodIn_app (goodIn_of _ (by decide +kernel)) ggX8_run_X4_execute
theorem dX8_run_0 : decode cX8_run 0 = .ok (.aload_n 0, 1) := by decide +kernel
theorem dX8_run_1 : decode cX8_run 1 = .ok (.getfield 66, 3) := by decide +kernel
theorem dX8_run_4 : decode cX8_run 4 = .ok (.ifCond .ne 13, 3) := by decide +kernel
theorem dX8_run_7 : decode cX8_run 7 = .ok (.new 90, 3) := by decide +kernel
theorem dX8_run_10 : decode cX8_run 10 = .ok (.dup, 1) := by decide +kernel
theorem dX8_run_11 : decode cX8_run 11 = .ok (.ldc 181, 2) := by decide +kernel
theorem dX8_run_13 : decode cX8_run 13 = .ok (.invokespecial 94, 3) := by decide +kernel
theorem dX8_run_16 : decode cX8_run 16 = .ok (.athrow, 1) := by decide +kernel
theorem dX8_run_17 : decode cX8_run 17 = .ok (.aload_n 0, 1) := by decide +kernel
theorem dX8_run_18 : decode cX8_run 18 = .ok (.getfield 62, 3) := by decide +kernel
theorem dX8_run_21 : decode cX8_run 21 = .ok (.aload_n 0, 1) := by decide +kernel
theorem dX8_run_22 : decode cX8_run 22 = .ok (.iload_n 1, 1) := by decide +kernel
theorem dX8_run_23 : decode cX8_run 23 = .ok (.invokevirtual 183, 3) := by decide +kernel
theorem dX8_run_26 : decode cX8_run 26 = .ok (.iload_n 2, 1) := by decide +kernel
theorem dX8_run_27 : decode cX8_run 27 = .ok (.iload_n 3, 1) := by decide +kernel
theorem dX8_run_28 : decode cX8_run 28 = .ok (.invokevirtual 209, 3) := by decide +kernel
theorem dX8_run_31 : decode cX8_run 31 = .ok (.aload_n 0, 1) := by decide +kernel
theorem dX8_run_32 : decode cX8_run 32 = .ok (.getfield 62, 3) := by decide +kernel
theorem dX8_run_35 : decode cX8_run 35 = .ok (.getfield 213, 3) := by decide +kernel
theorem dX8_run_38 : decode cX8_run 38 = .ok (.ireturn, 1) := by decide +kernel
theorem dX8_value_0 : decode cX8_value 0 = .ok (.aload_n 0, 1) := by decide +kernel
theorem dX8_value_1 : decode cX8_value 1 = .ok (.getfield 62, 3) := by decide +kernel
theorem dX8_value_4 : decode cX8_value 4 = .ok (.getfield 213, 3) := by decide +kernel
theorem dX8_value_7 : decode cX8_value 7 = .ok (.ifCond .eq 13, 3) := by decide +kernel
theorem dX8_value_10 : decode cX8_value 10 = .ok (.new 172, 3) := by decide +kernel
theorem dX8_value_13 : decode cX8_value 13 = .ok (.dup, 1) := by decide +kernel
theorem dX8_value_14 : decode cX8_value 14 = .ok (.ldc 216, 2) := by decide +kernel
theorem dX8_value_16 : decode cX8_value 16 = .ok (.invokespecial 176, 3) := by decide +kernel
theorem dX8_value_19 : decode cX8_value 19 = .ok (.athrow, 1) := by decide +kernel
theorem dX8_value_20 : decode cX8_value 20 = .ok (.aload_n 0, 1) := by decide +kernel
theorem dX8_value_21 : decode cX8_value 21 = .ok (.getfield 62, 3) := by decide +kernel
theorem dX8_value_24 : decode cX8_value 24 = .ok (.getfield 218, 3) := by decide +kernel
theorem dX8_value_27 : decode cX8_value 27 = .ok (.ireturn, 1) := by decide +kernel
set_option maxRecDepth 20000 in
theorem ggX8_cell_X2_isCell : GoodIn wsX8_cell wsX2_isCell := goodIn_r _ [10] (by decide +kernel) (by decide +kernel)
set_option maxRecDepth 20000 in
theorem gX8_cell_X2_isCell : GoodIn wsX8_cell (va_wsS RX8 201 yX2_isCell wsX2_isCell) := goodIn_app (goodIn_of _ (by decide +kernel)) ggX8_cell_X2_isCell
theorem dX8_cell_0 : decode cX8_cell 0 = .ok (.iload_n 1, 1) := by decide +kernel
theorem dX8_cell_1 : decode cX8_cell 1 = .ok (.invokestatic 201, 3) := by decide +kernel
theorem dX8_cell_4 : decode cX8_cell 4 = .ok (.ifCond .ne 13, 3) := by decide +kernel
theorem dX8_cell_7 : decode cX8_cell 7 = .ok (.new 79, 3) := by decide +kernel
theorem dX8_cell_10 : decode cX8_cell 10 = .ok (.dup, 1) := by decide +kernel
theorem dX8_cell_11 : decode cX8_cell 11 = .ok (.ldc 204, 2) := by decide +kernel
theorem dX8_cell_13 : decode cX8_cell 13 = .ok (.invokespecial 83, 3) := by decide +kernel
theorem dX8_cell_16 : decode cX8_cell 16 = .ok (.athrow, 1) := by decide +kernel
theorem dX8_cell_17 : decode cX8_cell 17 = .ok (.aload_n 0, 1) := by decide +kernel
theorem dX8_cell_18 : decode cX8_cell 18 = .ok (.getfield 62, 3) := by decide +kernel
theorem dX8_cell_21 : decode cX8_cell 21 = .ok (.getfield 213, 3) := by decide +kernel
theorem dX8_cell_24 : decode cX8_cell 24 = .ok (.iconst (-1), 1) := by decide +kernel
theorem dX8_cell_25 : decode cX8_cell 25 = .ok (.if_icmp .ne 15, 3) := by decide +kernel
theorem dX8_cell_28 : decode cX8_cell 28 = .ok (.aload_n 0, 1) := by decide +kernel
theorem dX8_cell_29 : decode cX8_cell 29 = .ok (.getfield 62, 3) := by decide +kernel
theorem dX8_cell_32 : decode cX8_cell 32 = .ok (.getfield 206, 3) := by decide +kernel
theorem dX8_cell_35 : decode cX8_cell 35 = .ok (.iload_n 1, 1) := by decide +kernel
theorem dX8_cell_36 : decode cX8_cell 36 = .ok (.iaload, 1) := by decide +kernel
theorem dX8_cell_37 : decode cX8_cell 37 = .ok (.goto 12, 3) := by decide +kernel
theorem dX8_cell_40 : decode cX8_cell 40 = .ok (.aload_n 0, 1) := by decide +kernel
theorem dX8_cell_41 : decode cX8_cell 41 = .ok (.getfield 62, 3) := by decide +kernel
theorem dX8_cell_44 : decode cX8_cell 44 = .ok (.getfield 221, 3) := by decide +kernel
theorem dX8_cell_47 : decode cX8_cell 47 = .ok (.iload_n 1, 1) := by decide +kernel
theorem dX8_cell_48 : decode cX8_cell 48 = .ok (.iaload, 1) := by decide +kernel
theorem dX8_cell_49 : decode cX8_cell 49 = .ok (.ireturn, 1) := by decide +kernel
theorem dX8_traced_0 : decode cX8_traced 0 = .ok (.iload_n 1, 1) := by decide +kernel
theorem dX8_traced_1 : decode cX8_traced 1 = .ok (.ifCond .lt 14, 3) := by decide +kernel
theorem dX8_traced_4 : decode cX8_traced 4 = .ok (.iload_n 1, 1) := by decide +kernel
theorem dX8_traced_5 : decode cX8_traced 5 = .ok (.aload_n 0, 1) := by decide +kernel
theorem dX8_traced_6 : decode cX8_traced 6 = .ok (.getfield 62, 3) := by decide +kernel
theorem dX8_traced_9 : decode cX8_traced 9 = .ok (.getfield 224, 3) := by decide +kernel
theorem dX8_traced_12 : decode cX8_traced 12 = .ok (.if_icmp .lt 13, 3) := by decide +kernel
theorem dX8_traced_15 : decode cX8_traced 15 = .ok (.new 172, 3) := by decide +kernel
theorem dX8_traced_18 : decode cX8_traced 18 = .ok (.dup, 1) := by decide +kernel
theorem dX8_traced_19 : decode cX8_traced 19 = .ok (.ldc 227, 2) := by decide +kernel
theorem dX8_traced_21 : decode cX8_traced 21 = .ok (.invokespecial 176, 3) := by decide +kernel
theorem dX8_traced_24 : decode cX8_traced 24 = .ok (.athrow, 1) := by decide +kernel
theorem dX8_traced_25 : decode cX8_traced 25 = .ok (.aload_n 0, 1) := by decide +kernel
theorem dX8_traced_26 : decode cX8_traced 26 = .ok (.getfield 62, 3) := by decide +kernel
theorem dX8_traced_29 : decode cX8_traced 29 = .ok (.getfield 229, 3) := by decide +kernel
theorem dX8_traced_32 : decode cX8_traced 32 = .ok (.iload_n 1, 1) := by decide +kernel
theorem dX8_traced_33 : decode cX8_traced 33 = .ok (.iaload, 1) := by decide +kernel
theorem dX8_traced_34 : decode cX8_traced 34 = .ok (.ireturn, 1) := by decide +kernel
theorem dX8_steps_0 : decode cX8_steps 0 = .ok (.aload_n 0, 1) := by decide +kernel
theorem dX8_steps_1 : decode cX8_steps 1 = .ok (.getfield 62, 3) := by decide +kernel
theorem dX8_steps_4 : decode cX8_steps 4 = .ok (.getfield 232, 3) := by decide +kernel
theorem dX8_steps_7 : decode cX8_steps 7 = .ok (.ireturn, 1) := by decide +kernel
theorem dX8_chosen_0 : decode cX8_chosen 0 = .ok (.iload_n 1, 1) := by decide +kernel
theorem dX8_chosen_1 : decode cX8_chosen 1 = .ok (.ifCond .eq 10, 3) := by decide +kernel
theorem dX8_chosen_4 : decode cX8_chosen 4 = .ok (.aload_n 0, 1) := by decide +kernel
theorem dX8_chosen_5 : decode cX8_chosen 5 = .ok (.getfield 21, 3) := by decide +kernel
theorem dX8_chosen_8 : decode cX8_chosen 8 = .ok (.goto 7, 3) := by decide +kernel
theorem dX8_chosen_11 : decode cX8_chosen 11 = .ok (.aload_n 0, 1) := by decide +kernel
theorem dX8_chosen_12 : decode cX8_chosen 12 = .ok (.getfield 18, 3) := by decide +kernel
theorem dX8_chosen_15 : decode cX8_chosen 15 = .ok (.areturn, 1) := by decide +kernel
set_option maxRecDepth 20000 in
theorem ggX8_dropAll_X3_find : GoodIn wsX8_dropAll wsX3_find := goodIn_r _ [7, 8, 9, 10, 11, 12, 13, 14, 15, 6, 16, 17, 18, 19, 20, 21, 22, 23, 24, 25, 26, 27, 28, 29, 30, 31, 32, 33, 34, 35, 36, 37, 38, 39, 40, 41, 42, 43, 44, 45, 46, 47, 48, 49, 50, 51, 52, 53, 54, 55, 56, 57, 82, 83, 84, 85, 86, 87] (by decide +kernel) (by decide +kernel)
set_option maxRecDepth 20000 in
theorem gX8_dropAll_X3_find : GoodIn wsX8_dropAll (wsV RX8 147 RX3 yX3_find wsX3_find) := goodIn_app (goodIn_of _ (by decide +kernel)) ggX8_dropAll_X3_find
set_option maxRecDepth 20000 in
theorem ggX8_dropAll_X3_dropUnused : GoodIn wsX8_dropAll wsX3_dropUnused := goodIn_r _ [61, 17, 23, 22, 26, 27, 28, 6, 29, 8, 30, 31, 32, 33, 34, 35, 36, 37, 38, 39, 40, 41, 42, 43, 44, 45, 62, 63, 64, 65, 66, 67, 68, 69, 70, 83, 84, 85, 86, 87, 82] (by decide +kernel) (by decide +kernel)
set_option maxRecDepth 20000 in
theorem gX8_dropAll_X3_dropUnused : GoodIn wsX8_dropAll (wsV RX8 235 RX3 yX3_dropUnused wsX3_dropUnused) := goodIn_app (goodIn_of _ (by decide +kernel)) ggX8_dropAll_X3_dropUnused
theorem dX8_dropAll_0 : decode cX8_dropAll 0 = .ok (.iconst 0, 1) := by decide +kernel
theorem dX8_dropAll_1 : decode cX8_dropAll 1 = .ok (.istore_n 1, 1) := by decide +kernel
theorem dX8_dropAll_2 : decode cX8_dropAll 2 = .ok (.iconst (-1), 1) := by decide +kernel
theorem dX8_dropAll_3 : decode cX8_dropAll 3 = .ok (.istore_n 2, 1) := by decide +kernel
theorem dX8_dropAll_4 : decode cX8_dropAll 4 = .ok (.iconst 0, 1) := by decide +kernel
theorem dX8_dropAll_5 : decode cX8_dropAll 5 = .ok (.istore_n 3, 1) := by decide +kernel
theorem dX8_dropAll_6 : decode cX8_dropAll 6 = .ok (.iload_n 3, 1) := by decide +kernel
theorem dX8_dropAll_7 : decode cX8_dropAll 7 = .ok (.bipush 24, 2) := by decide +kernel
theorem dX8_dropAll_9 : decode cX8_dropAll 9 = .ok (.if_icmp .gt 41, 3) := by decide +kernel
theorem dX8_dropAll_12 : decode cX8_dropAll 12 = .ok (.iload_n 1, 1) := by decide +kernel
theorem dX8_dropAll_13 : decode cX8_dropAll 13 = .ok (.iload_n 2, 1) := by decide +kernel
theorem dX8_dropAll_14 : decode cX8_dropAll 14 = .ok (.if_icmp .eq 36, 3) := by decide +kernel
theorem dX8_dropAll_17 : decode cX8_dropAll 17 = .ok (.iload_n 1, 1) := by decide +kernel
theorem dX8_dropAll_18 : decode cX8_dropAll 18 = .ok (.istore_n 2, 1) := by decide +kernel
theorem dX8_dropAll_19 : decode cX8_dropAll 19 = .ok (.aload_n 0, 1) := by decide +kernel
theorem dX8_dropAll_20 : decode cX8_dropAll 20 = .ok (.getfield 27, 3) := by decide +kernel
theorem dX8_dropAll_23 : decode cX8_dropAll 23 = .ok (.aload_n 0, 1) := by decide +kernel
theorem dX8_dropAll_24 : decode cX8_dropAll 24 = .ok (.getfield 21, 3) := by decide +kernel
theorem dX8_dropAll_27 : decode cX8_dropAll 27 = .ok (.invokevirtual 147, 3) := by decide +kernel
theorem dX8_dropAll_30 : decode cX8_dropAll 30 = .ok (.iload_n 1, 1) := by decide +kernel
theorem dX8_dropAll_31 : decode cX8_dropAll 31 = .ok (.aload_n 0, 1) := by decide +kernel
theorem dX8_dropAll_32 : decode cX8_dropAll 32 = .ok (.getfield 27, 3) := by decide +kernel
theorem dX8_dropAll_35 : decode cX8_dropAll 35 = .ok (.aload_n 0, 1) := by decide +kernel
theorem dX8_dropAll_36 : decode cX8_dropAll 36 = .ok (.getfield 21, 3) := by decide +kernel
theorem dX8_dropAll_39 : decode cX8_dropAll 39 = .ok (.invokevirtual 235, 3) := by decide +kernel
theorem dX8_dropAll_42 : decode cX8_dropAll 42 = .ok (.iadd, 1) := by decide +kernel
theorem dX8_dropAll_43 : decode cX8_dropAll 43 = .ok (.istore_n 1, 1) := by decide +kernel
theorem dX8_dropAll_44 : decode cX8_dropAll 44 = .ok (.iinc 3 1, 3) := by decide +kernel
theorem dX8_dropAll_47 : decode cX8_dropAll 47 = .ok (.goto (-41), 3) := by decide +kernel
theorem dX8_dropAll_50 : decode cX8_dropAll 50 = .ok (.iload_n 1, 1) := by decide +kernel
theorem dX8_dropAll_51 : decode cX8_dropAll 51 = .ok (.ireturn, 1) := by decide +kernel
