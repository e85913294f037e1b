theorem dX9_given_42 : decode cX9_given 42 = .ok (.imul, 1) := by decide +kernel
theorem dX9_given_43 : decode cX9_given 43 = .ok (.aload_n 0, 1) := by decide +kernel
theorem dX9_given_44 : decode cX9_given 44 = .ok (.getfield 19, 3) := by decide +kernel
theorem dX9_given_47 : decode cX9_given 47 = .ok (.bipush 100, 2) := by decide +kernel
theorem dX9_given_49 : decode cX9_given 49 = .ok (.iload_n 1, 1) := by decide +kernel
theorem dX9_given_50 : decode cX9_given 50 = .ok (.iadd, 1) := by decide +kernel
theorem dX9_given_51 : decode cX9_given 51 = .ok (.iaload, 1) := by decide +kernel
theorem dX9_given_52 : decode cX9_given 52 = .ok (.iadd, 1) := by decide +kernel
theorem dX9_given_53 : decode cX9_given 53 = .ok (.iaload, 1) := by decide +kernel
theorem dX9_given_54 : decode cX9_given 54 = .ok (.istore_n 3, 1) := by decide +kernel
theorem dX9_given_55 : decode cX9_given 55 = .ok (.iload_n 2, 1) := by decide +kernel
theorem dX9_given_56 : decode cX9_given 56 = .ok (.iconst 2, 1) := by decide +kernel
theorem dX9_given_57 : decode cX9_given 57 = .ok (.if_icmp .ne 7, 3) := by decide +kernel
theorem dX9_given_60 : decode cX9_given 60 = .ok (.iload_n 3, 1) := by decide +kernel
theorem dX9_given_61 : decode cX9_given 61 = .ok (.goto 27, 3) := by decide +kernel
theorem dX9_given_64 : decode cX9_given 64 = .ok (.iload_n 2, 1) := by decide +kernel
theorem dX9_given_65 : decode cX9_given 65 = .ok (.iload_n 3, 1) := by decide +kernel
theorem dX9_given_66 : decode cX9_given 66 = .ok (.aload_n 0, 1) := by decide +kernel
theorem dX9_given_67 : decode cX9_given 67 = .ok (.getfield 44, 3) := by decide +kernel
theorem dX9_given_70 : decode cX9_given 70 = .ok (.bipush 8, 2) := by decide +kernel
theorem dX9_given_72 : decode cX9_given 72 = .ok (.iload_n 1, 1) := by decide +kernel
theorem dX9_given_73 : decode cX9_given 73 = .ok (.imul, 1) := by decide +kernel
theorem dX9_given_74 : decode cX9_given 74 = .ok (.aload_n 0, 1) := by decide +kernel
theorem dX9_given_75 : decode cX9_given 75 = .ok (.getfield 22, 3) := by decide +kernel
theorem dX9_given_78 : decode cX9_given 78 = .ok (.bipush 100, 2) := by decide +kernel
theorem dX9_given_80 : decode cX9_given 80 = .ok (.iload_n 1, 1) := by decide +kernel
theorem dX9_given_81 : decode cX9_given 81 = .ok (.iadd, 1) := by decide +kernel
theorem dX9_given_82 : decode cX9_given 82 = .ok (.iaload, 1) := by decide +kernel
theorem dX9_given_83 : decode cX9_given 83 = .ok (.iadd, 1) := by decide +kernel
theorem dX9_given_84 : decode cX9_given 84 = .ok (.iaload, 1) := by decide +kernel
theorem dX9_given_85 : decode cX9_given 85 = .ok (.invokestatic 145, 3) := by decide +kernel
theorem dX9_given_88 : decode cX9_given 88 = .ok (.ireturn, 1) := by decide +kernel
set_option maxRecDepth 20000 in
theorem ggX9_follow_X9_falls : GoodIn wsX9_follow wsX9_falls := goodIn_r _ [10] (by decide +kernel) (by decide +kernel)
set_option maxRecDepth 20000 in
theorem gX9_follow_X9_falls : GoodIn wsX9_follow (va_wsS RX9 112 yX9_falls wsX9_falls) := goodIn_app (goodIn_of _ (by decide +kernel)) ggX9_follow_X9_falls
set_option maxRecDepth 20000 in
theorem ggX9_follow_X9_come : GoodIn wsX9_follow wsX9_come := goodIn_r _ [14, 1, 6, 4, 5, 15, 16, 17, 18, 9, 19, 20, 21, 22, 23, 3, 2, 24, 25, 26, 27, 28, 29, 30, 31, 32, 33, 34, 38, 39, 40, 41, 42, 43, 44, 45, 46, 47, 48, 49, 50, 51, 52, 53, 54, 55, 56, 57, 58, 59, 60, 61, 62, 63, 64, 65, 66, 67, 68, 69, 70] (by decide +kernel) (by decide +kernel)
set_option maxRecDepth 20000 in
theorem gX9_follow_X9_come : GoodIn wsX9_follow (wsV RX9 149 RX9 yX9_come wsX9_come) := goodIn_app (goodIn_of _ (by decide +kernel)) ggX9_follow_X9_come
set_option maxRecDepth 20000 in
theorem ggX9_follow_X9_goes : GoodIn wsX9_follow wsX9_goes := goodIn_r _ [37] (by decide +kernel) (by decide +kernel)
set_option maxRecDepth 20000 in
theorem gX9_follow_X9_goes : GoodIn wsX9_follow (va_wsS RX9 105 yX9_goes wsX9_goes) := goodIn_app (goodIn_of _ (by decide +kernel)) ggX9_follow_X9_goes
theorem dX9_follow_0 : decode cX9_follow 0 = .ok (.aload_n 0, 1) := by decide +kernel
theorem dX9_follow_1 : decode cX9_follow 1 = .ok (.getfield 13, 3) := by decide +kernel
theorem dX9_follow_4 : decode cX9_follow 4 = .ok (.bipush 100, 2) := by decide +kernel
theorem dX9_follow_6 : decode cX9_follow 6 = .ok (.iload_n 1, 1) := by decide +kernel
theorem dX9_follow_7 : decode cX9_follow 7 = .ok (.iadd, 1) := by decide +kernel
theorem dX9_follow_8 : decode cX9_follow 8 = .ok (.iaload, 1) := by decide +kernel
theorem dX9_follow_9 : decode cX9_follow 9 = .ok (.istore_n 2, 1) := by decide +kernel
theorem dX9_follow_10 : decode cX9_follow 10 = .ok (.iload_n 2, 1) := by decide +kernel
theorem dX9_follow_11 : decode cX9_follow 11 = .ok (.bipush 6, 2) := by decide +kernel
theorem dX9_follow_13 : decode cX9_follow 13 = .ok (.if_icmp .ne 20, 3) := by decide +kernel
theorem dX9_follow_16 : decode cX9_follow 16 = .ok (.bipush 8, 2) := by decide +kernel
theorem dX9_follow_18 : decode cX9_follow 18 = .ok (.iload_n 1, 1) := by decide +kernel
theorem dX9_follow_19 : decode cX9_follow 19 = .ok (.imul, 1) := by decide +kernel
theorem dX9_follow_20 : decode cX9_follow 20 = .ok (.aload_n 0, 1) := by decide +kernel
theorem dX9_follow_21 : decode cX9_follow 21 = .ok (.getfield 22, 3) := by decide +kernel
theorem dX9_follow_24 : decode cX9_follow 24 = .ok (.bipush 100, 2) := by decide +kernel
theorem dX9_follow_26 : decode cX9_follow 26 = .ok (.iload_n 1, 1) := by decide +kernel
theorem dX9_follow_27 : decode cX9_follow 27 = .ok (.iadd, 1) := by decide +kernel
theorem dX9_follow_28 : decode cX9_follow 28 = .ok (.iaload, 1) := by decide +kernel
theorem dX9_follow_29 : decode cX9_follow 29 = .ok (.iadd, 1) := by decide +kernel
theorem dX9_follow_30 : decode cX9_follow 30 = .ok (.goto 20, 3) := by decide +kernel
theorem dX9_follow_33 : decode cX9_follow 33 = .ok (.bipush 8, 2) := by decide +kernel
theorem dX9_follow_35 : decode cX9_follow 35 = .ok (.iload_n 1, 1) := by decide +kernel
theorem dX9_follow_36 : decode cX9_follow 36 = .ok (.imul, 1) := by decide +kernel
theorem dX9_follow_37 : decode cX9_follow 37 = .ok (.aload_n 0, 1) := by decide +kernel
theorem dX9_follow_38 : decode cX9_follow 38 = .ok (.getfield 19, 3) := by decide +kernel
theorem dX9_follow_41 : decode cX9_follow 41 = .ok (.bipush 100, 2) := by decide +kernel
theorem dX9_follow_43 : decode cX9_follow 43 = .ok (.iload_n 1, 1) := by decide +kernel
theorem dX9_follow_44 : decode cX9_follow 44 = .ok (.iadd, 1) := by decide +kernel
theorem dX9_follow_45 : decode cX9_follow 45 = .ok (.iaload, 1) := by decide +kernel
theorem dX9_follow_46 : decode cX9_follow 46 = .ok (.bipush 8, 2) := by decide +kernel
theorem dX9_follow_48 : decode cX9_follow 48 = .ok (.irem, 1) := by decide +kernel
theorem dX9_follow_49 : decode cX9_follow 49 = .ok (.iadd, 1) := by decide +kernel
theorem dX9_follow_50 : decode cX9_follow 50 = .ok (.istore_n 3, 1) := by decide +kernel
theorem dX9_follow_51 : decode cX9_follow 51 = .ok (.iload_n 2, 1) := by decide +kernel
theorem dX9_follow_52 : decode cX9_follow 52 = .ok (.bipush 6, 2) := by decide +kernel
theorem dX9_follow_54 : decode cX9_follow 54 = .ok (.if_icmp .ne 22, 3) := by decide +kernel
theorem dX9_follow_57 : decode cX9_follow 57 = .ok (.aload_n 0, 1) := by decide +kernel
theorem dX9_follow_58 : decode cX9_follow 58 = .ok (.getfield 41, 3) := by decide +kernel
theorem dX9_follow_61 : decode cX9_follow 61 = .ok (.iload_n 3, 1) := by decide +kernel
theorem dX9_follow_62 : decode cX9_follow 62 = .ok (.baload, 1) := by decide +kernel
theorem dX9_follow_63 : decode cX9_follow 63 = .ok (.ifCond .eq 13, 3) := by decide +kernel
theorem dX9_follow_66 : decode cX9_follow 66 = .ok (.aload_n 0, 1) := by decide +kernel
theorem dX9_follow_67 : decode cX9_follow 67 = .ok (.getfield 44, 3) := by decide +kernel
theorem dX9_follow_70 : decode cX9_follow 70 = .ok (.iload_n 3, 1) := by decide +kernel
theorem dX9_follow_71 : decode cX9_follow 71 = .ok (.iaload, 1) := by decide +kernel
theorem dX9_follow_72 : decode cX9_follow 72 = .ok (.ifCond .ne 4, 3) := by decide +kernel
theorem dX9_follow_75 : decode cX9_follow 75 = .ok (.return_, 1) := by decide +kernel
theorem dX9_follow_76 : decode cX9_follow 76 = .ok (.iload_n 2, 1) := by decide +kernel
theorem dX9_follow_77 : decode cX9_follow 77 = .ok (.bipush 10, 2) := by decide +kernel
theorem dX9_follow_79 : decode cX9_follow 79 = .ok (.if_icmp .ne 16, 3) := by decide +kernel
theorem dX9_follow_82 : decode cX9_follow 82 = .ok (.aload_n 0, 1) := by decide +kernel
theorem dX9_follow_83 : decode cX9_follow 83 = .ok (.getfield 41, 3) := by decide +kernel
theorem dX9_follow_86 : decode cX9_follow 86 = .ok (.iload_n 3, 1) := by decide +kernel
theorem dX9_follow_87 : decode cX9_follow 87 = .ok (.baload, 1) := by decide +kernel
theorem dX9_follow_88 : decode cX9_follow 88 = .ok (.ifCond .eq 7, 3) := by decide +kernel
theorem dX9_follow_91 : decode cX9_follow 91 = .ok (.iconst 1, 1) := by decide +kernel
theorem dX9_follow_92 : decode cX9_follow 92 = .ok (.goto 4, 3) := by decide +kernel
theorem dX9_follow_95 : decode cX9_follow 95 = .ok (.iconst 0, 1) := by decide +kernel
theorem dX9_follow_96 : decode cX9_follow 96 = .ok (.istore 4, 2) := by decide +kernel
theorem dX9_follow_98 : decode cX9_follow 98 = .ok (.iload_n 2, 1) := by decide +kernel
theorem dX9_follow_99 : decode cX9_follow 99 = .ok (.invokestatic 112, 3) := by decide +kernel
theorem dX9_follow_102 : decode cX9_follow 102 = .ok (.ifCond .eq 25, 3) := by decide +kernel
theorem dX9_follow_105 : decode cX9_follow 105 = .ok (.iload 4, 2) := by decide +kernel
theorem dX9_follow_107 : decode cX9_follow 107 = .ok (.ifCond .eq 12, 3) := by decide +kernel
theorem dX9_follow_110 : decode cX9_follow 110 = .ok (.aload_n 0, 1) := by decide +kernel
theorem dX9_follow_111 : decode cX9_follow 111 = .ok (.getfield 44, 3) := by decide +kernel
theorem dX9_follow_114 : decode cX9_follow 114 = .ok (.iload_n 3, 1) := by decide +kernel
theorem dX9_follow_115 : decode cX9_follow 115 = .ok (.iaload, 1) := by decide +kernel
theorem dX9_follow_116 : decode cX9_follow 116 = .ok (.ifCond .eq 11, 3) := by decide +kernel
theorem dX9_follow_119 : decode cX9_follow 119 = .ok (.aload_n 0, 1) := by decide +kernel
theorem dX9_follow_120 : decode cX9_follow 120 = .ok (.iload_n 1, 1) := by decide +kernel
theorem dX9_follow_121 : decode cX9_follow 121 = .ok (.iconst 1, 1) := by decide +kernel
theorem dX9_follow_122 : decode cX9_follow 122 = .ok (.iadd, 1) := by decide +kernel
theorem dX9_follow_123 : decode cX9_follow 123 = .ok (.iload_n 1, 1) := by decide +kernel
theorem dX9_follow_124 : decode cX9_follow 124 = .ok (.invokevirtual 149, 3) := by decide +kernel
theorem dX9_follow_127 : decode cX9_follow 127 = .ok (.iload_n 2, 1) := by decide +kernel
theorem dX9_follow_128 : decode cX9_follow 128 = .ok (.invokestatic 105, 3) := by decide +kernel
theorem dX9_follow_131 : decode cX9_follow 131 = .ok (.ifCond .eq 31, 3) := by decide +kernel
theorem dX9_follow_134 : decode cX9_follow 134 = .ok (.iload 4, 2) := by decide +kernel
theorem dX9_follow_136 : decode cX9_follow 136 = .ok (.ifCond .eq 12, 3) := by decide +kernel
theorem dX9_follow_139 : decode cX9_follow 139 = .ok (.aload_n 0, 1) := by decide +kernel
theorem dX9_follow_140 : decode cX9_follow 140 = .ok (.getfield 44, 3) := by decide +kernel
theorem dX9_follow_143 : decode cX9_follow 143 = .ok (.iload_n 3, 1) := by decide +kernel
theorem dX9_follow_144 : decode cX9_follow 144 = .ok (.iaload, 1) := by decide +kernel
theorem dX9_follow_145 : decode cX9_follow 145 = .ok (.ifCond .ne 17, 3) := by decide +kernel
theorem dX9_follow_148 : decode cX9_follow 148 = .ok (.aload_n 0, 1) := by decide +kernel
theorem dX9_follow_149 : decode cX9_follow 149 = .ok (.aload_n 0, 1) := by decide +kernel
theorem dX9_follow_150 : decode cX9_follow 150 = .ok (.getfield 16, 3) := by decide +kernel
theorem dX9_follow_153 : decode cX9_follow 153 = .ok (.bipush 100, 2) := by decide +kernel
theorem dX9_follow_155 : decode cX9_follow 155 = .ok (.iload_n 1, 1) := by decide +kernel
theorem dX9_follow_156 : decode cX9_follow 156 = .ok (.iadd, 1) := by decide +kernel
theorem dX9_follow_157 : decode cX9_follow 157 = .ok (.iaload, 1) := by decide +kernel
theorem dX9_follow_158 : decode cX9_follow 158 = .ok (.iload_n 1, 1) := by decide +kernel
theorem dX9_follow_159 : decode cX9_follow 159 = .ok (.invokevirtual 149, 3) := by decide +kernel
theorem dX9_follow_162 : decode cX9_follow 162 = .ok (.return_, 1) := by decide +kernel
set_option maxRecDepth 20000 in
theorem ggX9_fold_X9_follow : GoodIn wsX9_fold wsX9_follow := goodIn_r _ [10, 11, 12, 13, 2, 3, 14, 15, 16, 9, 17, 18, 19, 20, 21, 1, 4, 22, 23, 24, 25, 26, 27, 28, 29, 30, 31, 32, 33, 34, 35, 36, 37, 38, 39, 40, 41, 42, 51, 52, 53, 54, 55, 56, 57, 58, 59, 60, 61, 62, 63, 64, 65, 66, 67, 68, 69, 70, 71, 72, 73, 74, 75, 76, 77, 78, 79, 80, 81, 82, 83] (by decide +kernel) (by decide +kernel)
set_option maxRecDepth 20000 in
theorem gX9_fold_X9_follow : GoodIn wsX9_fold (wsV RX9 152 RX9 yX9_follow wsX9_follow) := goodIn_app (goodIn_of _ (by decide +kernel)) ggX9_fold_X9_follow
set_option maxRecDepth 20000 in
theorem ggX9_fold_X9_folded : GoodIn wsX9_fold wsX9_folded := goodIn_r _ [46, 11, 1, 13, 3, 14, 47, 48, 49, 9, 50, 12, 29, 30, 31, 32, 2, 25, 26, 27, 28, 33, 34, 35, 36, 37, 38, 39, 51, 52, 53, 54, 55, 56, 57, 58, 59, 60, 61, 62, 63, 64, 65, 66, 67, 68, 69, 70, 71, 72, 73, 74, 75, 76, 77, 78, 79, 80, 81, 82, 83] (by decide +kernel) (by decide +kernel)
set_option maxRecDepth 20000 in
theorem gX9_fold_X9_folded : GoodIn wsX9_fold (wsV RX9 156 RX9 yX9_folded wsX9_folded) := goodIn_app (goodIn_of _ (by decide +kernel)) ggX9_fold_X9_folded
theorem dX9_fold_0 : decode cX9_fold 0 = .ok (.iconst 0, 1) := by decide +kernel
theorem dX9_fold_1 : decode cX9_fold 1 = .ok (.istore_n 1, 1) := by decide +kernel
theorem dX9_fold_2 : decode cX9_fold 2 = .ok (.iload_n 1, 1) := by decide +kernel
theorem dX9_fold_3 : decode cX9_fold 3 = .ok (.bipush 26, 2) := by decide +kernel
theorem dX9_fold_5 : decode cX9_fold 5 = .ok (.if_icmp .ge 16, 3) := by decide +kernel
theorem dX9_fold_8 : decode cX9_fold 8 = .ok (.aload_n 0, 1) := by decide +kernel
theorem dX9_fold_9 : decode cX9_fold 9 = .ok (.getfield 38, 3) := by decide +kernel
theorem dX9_fold_12 : decode cX9_fold 12 = .ok (.iload_n 1, 1) := by decide +kernel
theorem dX9_fold_13 : decode cX9_fold 13 = .ok (.iconst 0, 1) := by decide +kernel
theorem dX9_fold_14 : decode cX9_fold 14 = .ok (.bastore, 1) := by decide +kernel
theorem dX9_fold_15 : decode cX9_fold 15 = .ok (.iinc 1 1, 3) := by decide +kernel
theorem dX9_fold_18 : decode cX9_fold 18 = .ok (.goto (-16), 3) := by decide +kernel
theorem dX9_fold_21 : decode cX9_fold 21 = .ok (.aload_n 0, 1) := by decide +kernel
theorem dX9_fold_22 : decode cX9_fold 22 = .ok (.getfield 38, 3) := by decide +kernel
theorem dX9_fold_25 : decode cX9_fold 25 = .ok (.iconst 0, 1) := by decide +kernel
theorem dX9_fold_26 : decode cX9_fold 26 = .ok (.iconst 1, 1) := by decide +kernel
theorem dX9_fold_27 : decode cX9_fold 27 = .ok (.bastore, 1) := by decide +kernel
theorem dX9_fold_28 : decode cX9_fold 28 = .ok (.iconst 0, 1) := by decide +kernel
theorem dX9_fold_29 : decode cX9_fold 29 = .ok (.istore_n 1, 1) := by decide +kernel
theorem dX9_fold_30 : decode cX9_fold 30 = .ok (.iload_n 1, 1) := by decide +kernel
theorem dX9_fold_31 : decode cX9_fold 31 = .ok (.bipush 8, 2) := by decide +kernel
theorem dX9_fold_33 : decode cX9_fold 33 = .ok (.if_icmp .ge 32, 3) := by decide +kernel
theorem dX9_fold_36 : decode cX9_fold 36 = .ok (.aload_n 0, 1) := by decide +kernel
theorem dX9_fold_37 : decode cX9_fold 37 = .ok (.getfield 41, 3) := by decide +kernel
theorem dX9_fold_40 : decode cX9_fold 40 = .ok (.iload_n 1, 1) := by decide +kernel
theorem dX9_fold_41 : decode cX9_fold 41 = .ok (.iload_n 1, 1) := by decide +kernel
theorem dX9_fold_42 : decode cX9_fold 42 = .ok (.iconst 1, 1) := by decide +kernel
theorem dX9_fold_43 : decode cX9_fold 43 = .ok (.if_icmp .le 7, 3) := by decide +kernel
theorem dX9_fold_46 : decode cX9_fold 46 = .ok (.iconst 1, 1) := by decide +kernel
theorem dX9_fold_47 : decode cX9_fold 47 = .ok (.goto 4, 3) := by decide +kernel
theorem dX9_fold_50 : decode cX9_fold 50 = .ok (.iconst 0, 1) := by decide +kernel
theorem dX9_fold_51 : decode cX9_fold 51 = .ok (.bastore, 1) := by decide +kernel
theorem dX9_fold_52 : decode cX9_fold 52 = .ok (.aload_n 0, 1) := by decide +kernel
theorem dX9_fold_53 : decode cX9_fold 53 = .ok (.getfield 44, 3) := by decide +kernel
theorem dX9_fold_56 : decode cX9_fold 56 = .ok (.iload_n 1, 1) := by decide +kernel
theorem dX9_fold_57 : decode cX9_fold 57 = .ok (.iconst 0, 1) := by decide +kernel
theorem dX9_fold_58 : decode cX9_fold 58 = .ok (.iastore, 1) := by decide +kernel
theorem dX9_fold_59 : decode cX9_fold 59 = .ok (.iinc 1 1, 3) := by decide +kernel
theorem dX9_fold_62 : decode cX9_fold 62 = .ok (.goto (-32), 3) := by decide +kernel
theorem dX9_fold_65 : decode cX9_fold 65 = .ok (.aload_n 0, 1) := by decide +kernel
theorem dX9_fold_66 : decode cX9_fold 66 = .ok (.iconst 1, 1) := by decide +kernel
theorem dX9_fold_67 : decode cX9_fold 67 = .ok (.putfield 139, 3) := by decide +kernel
theorem dX9_fold_70 : decode cX9_fold 70 = .ok (.aload_n 0, 1) := by decide +kernel
theorem dX9_fold_71 : decode cX9_fold 71 = .ok (.getfield 139, 3) := by decide +kernel
theorem dX9_fold_74 : decode cX9_fold 74 = .ok (.ifCond .eq 43, 3) := by decide +kernel
theorem dX9_fold_77 : decode cX9_fold 77 = .ok (.aload_n 0, 1) := by decide +kernel
theorem dX9_fold_78 : decode cX9_fold 78 = .ok (.iconst 0, 1) := by decide +kernel
theorem dX9_fold_79 : decode cX9_fold 79 = .ok (.putfield 139, 3) := by decide +kernel
theorem dX9_fold_82 : decode cX9_fold 82 = .ok (.iconst 0, 1) := by decide +kernel
theorem dX9_fold_83 : decode cX9_fold 83 = .ok (.istore_n 1, 1) := by decide +kernel
theorem dX9_fold_84 : decode cX9_fold 84 = .ok (.iload_n 1, 1) := by decide +kernel
theorem dX9_fold_85 : decode cX9_fold 85 = .ok (.aload_n 0, 1) := by decide +kernel
theorem dX9_fold_86 : decode cX9_fold 86 = .ok (.getfield 7, 3) := by decide +kernel
theorem dX9_fold_89 : decode cX9_fold 89 = .ok (.iconst 1, 1) := by decide +kernel
theorem dX9_fold_90 : decode cX9_fold 90 = .ok (.iaload, 1) := by decide +kernel
theorem dX9_fold_91 : decode cX9_fold 91 = .ok (.if_icmp .ge 23, 3) := by decide +kernel
theorem dX9_fold_94 : decode cX9_fold 94 = .ok (.aload_n 0, 1) := by decide +kernel
theorem dX9_fold_95 : decode cX9_fold 95 = .ok (.getfield 38, 3) := by decide +kernel
theorem dX9_fold_98 : decode cX9_fold 98 = .ok (.iload_n 1, 1) := by decide +kernel
theorem dX9_fold_99 : decode cX9_fold 99 = .ok (.baload, 1) := by decide +kernel
theorem dX9_fold_100 : decode cX9_fold 100 = .ok (.ifCond .eq 8, 3) := by decide +kernel
theorem dX9_fold_103 : decode cX9_fold 103 = .ok (.aload_n 0, 1) := by decide +kernel
theorem dX9_fold_104 : decode cX9_fold 104 = .ok (.iload_n 1, 1) := by decide +kernel
theorem dX9_fold_105 : decode cX9_fold 105 = .ok (.invokevirtual 152, 3) := by decide +kernel
theorem dX9_fold_108 : decode cX9_fold 108 = .ok (.iinc 1 1, 3) := by decide +kernel
theorem dX9_fold_111 : decode cX9_fold 111 = .ok (.goto (-27), 3) := by decide +kernel
theorem dX9_fold_114 : decode cX9_fold 114 = .ok (.goto (-44), 3) := by decide +kernel
theorem dX9_fold_117 : decode cX9_fold 117 = .ok (.iconst 0, 1) := by decide +kernel
theorem dX9_fold_118 : decode cX9_fold 118 = .ok (.istore_n 1, 1) := by decide +kernel
theorem dX9_fold_119 : decode cX9_fold 119 = .ok (.iconst 0, 1) := by decide +kernel
theorem dX9_fold_120 : decode cX9_fold 120 = .ok (.istore_n 2, 1) := by decide +kernel
theorem dX9_fold_121 : decode cX9_fold 121 = .ok (.iload_n 2, 1) := by decide +kernel
theorem dX9_fold_122 : decode cX9_fold 122 = .ok (.aload_n 0, 1) := by decide +kernel
theorem dX9_fold_123 : decode cX9_fold 123 = .ok (.getfield 7, 3) := by decide +kernel
theorem dX9_fold_126 : decode cX9_fold 126 = .ok (.iconst 1, 1) := by decide +kernel
theorem dX9_fold_127 : decode cX9_fold 127 = .ok (.iaload, 1) := by decide +kernel
theorem dX9_fold_128 : decode cX9_fold 128 = .ok (.if_icmp .ge 25, 3) := by decide +kernel
theorem dX9_fold_131 : decode cX9_fold 131 = .ok (.aload_n 0, 1) := by decide +kernel
theorem dX9_fold_132 : decode cX9_fold 132 = .ok (.iload_n 2, 1) := by decide +kernel
theorem dX9_fold_133 : decode cX9_fold 133 = .ok (.invokevirtual 156, 3) := by decide +kernel
theorem dX9_fold_136 : decode cX9_fold 136 = .ok (.ifCond .eq 9, 3) := by decide +kernel
theorem dX9_fold_139 : decode cX9_fold 139 = .ok (.iload_n 1, 1) := by decide +kernel
theorem dX9_fold_140 : decode cX9_fold 140 = .ok (.iconst 1, 1) := by decide +kernel
theorem dX9_fold_141 : decode cX9_fold 141 = .ok (.iadd, 1) := by decide +kernel
theorem dX9_fold_142 : decode cX9_fold 142 = .ok (.goto 4, 3) := by decide +kernel
theorem dX9_fold_145 : decode cX9_fold 145 = .ok (.iload_n 1, 1) := by decide +kernel
theorem dX9_fold_146 : decode cX9_fold 146 = .ok (.istore_n 1, 1) := by decide +kernel
theorem dX9_fold_147 : decode cX9_fold 147 = .ok (.iinc 2 1, 3) := by decide +kernel
theorem dX9_fold_150 : decode cX9_fold 150 = .ok (.goto (-29), 3) := by decide +kernel
theorem dX9_fold_153 : decode cX9_fold 153 = .ok (.iload_n 1, 1) := by decide +kernel
theorem dX9_fold_154 : decode cX9_fold 154 = .ok (.ireturn, 1) := by decide +kernel
set_option maxRecDepth 20000 in
theorem ggX9_folded_X9_put : GoodIn wsX9_folded wsX9_put := goodIn_r _ [10, 1, 5, 3, 11, 28, 29, 30, 31, 32, 33, 34, 35, 36, 37, 38, 39, 40, 41, 42, 43, 44, 45, 46, 47, 48, 49, 50, 51, 52, 53, 54, 55, 56, 57, 58, 59, 60] (by decide +kernel) (by decide +kernel)
set_option maxRecDepth 20000 in
theorem gX9_folded_X9_put : GoodIn wsX9_folded (wsV RX9 84 RX9 yX9_put wsX9_put) := goodIn_app (goodIn_of _ (by decide +kernel)) ggX9_folded_X9_put
set_option maxRecDepth 20000 in
theorem ggX9_folded_X9_numberIn : GoodIn wsX9_folded wsX9_numberIn := goodIn_r _ [15, 16, 28, 29, 30, 31, 32, 33, 34, 35, 36, 37, 38, 39, 40, 41, 42, 43, 44, 45, 46, 47, 48, 49, 50, 51, 52, 53, 54, 55, 56, 57, 58, 59, 60] (by decide +kernel) (by decide +kernel)
set_option maxRecDepth 20000 in
theorem gX9_folded_X9_numberIn : GoodIn wsX9_folded (wsV RX9 142 RX9 yX9_numberIn wsX9_numberIn) := goodIn_app (goodIn_of _ (by decide +kernel)) ggX9_folded_X9_numberIn
set_option maxRecDepth 20000 in
theorem ggX9_folded_X9_gives : GoodIn wsX9_folded wsX9_gives := goodIn_r _ [20, 1, 3, 11, 4, 12, 13, 14, 9, 15, 16, 28, 29, 30, 31, 32, 33, 34, 35, 36, 37, 38, 39, 40, 41, 42, 43, 44, 45, 46, 47, 48, 49, 50, 51, 52, 53, 54, 55, 56, 57, 58, 59, 60] (by decide +kernel) (by decide +kernel)
set_option maxRecDepth 20000 in
theorem gX9_folded_X9_gives : GoodIn wsX9_folded (wsV RX9 132 RX9 yX9_gives wsX9_gives) := goodIn_app (goodIn_of _ (by decide +kernel)) ggX9_folded_X9_gives
set_option maxRecDepth 20000 in
theorem ggX9_folded_X9_given : GoodIn wsX9_folded wsX9_given := goodIn_r _ [24, 1, 3, 4, 11, 17, 18, 19, 9, 20, 12, 13, 14, 15, 16, 25, 26, 27, 28, 29, 30, 31, 32, 33, 34, 35, 36, 37, 38, 39, 40, 41, 42, 43, 44, 45, 46, 47, 48, 49, 50, 51, 52, 53, 54, 55, 56, 57, 58, 59, 60] (by decide +kernel) (by decide +kernel)
set_option maxRecDepth 20000 in
theorem gX9_folded_X9_given : GoodIn wsX9_folded (wsV RX9 135 RX9 yX9_given wsX9_given) := goodIn_app (goodIn_of _ (by decide +kernel)) ggX9_folded_X9_given
theorem dX9_folded_0 : decode cX9_folded 0 = .ok (.aload_n 0, 1) := by decide +kernel
theorem dX9_folded_1 : decode cX9_folded 1 = .ok (.getfield 13, 3) := by decide +kernel
theorem dX9_folded_4 : decode cX9_folded 4 = .ok (.bipush 100, 2) := by decide +kernel
theorem dX9_folded_6 : decode cX9_folded 6 = .ok (.iload_n 1, 1) := by decide +kernel
theorem dX9_folded_7 : decode cX9_folded 7 = .ok (.iadd, 1) := by decide +kernel
theorem dX9_folded_8 : decode cX9_folded 8 = .ok (.iaload, 1) := by decide +kernel
theorem dX9_folded_9 : decode cX9_folded 9 = .ok (.istore_n 2, 1) := by decide +kernel
theorem dX9_folded_10 : decode cX9_folded 10 = .ok (.aload_n 0, 1) := by decide +kernel
theorem dX9_folded_11 : decode cX9_folded 11 = .ok (.getfield 38, 3) := by decide +kernel
theorem dX9_folded_14 : decode cX9_folded 14 = .ok (.iload_n 1, 1) := by decide +kernel
theorem dX9_folded_15 : decode cX9_folded 15 = .ok (.baload, 1) := by decide +kernel
theorem dX9_folded_16 : decode cX9_folded 16 = .ok (.ifCond .ne 25, 3) := by decide +kernel
theorem dX9_folded_19 : decode cX9_folded 19 = .ok (.aload_n 0, 1) := by decide +kernel
theorem dX9_folded_20 : decode cX9_folded 20 = .ok (.bipush 100, 2) := by decide +kernel
theorem dX9_folded_22 : decode cX9_folded 22 = .ok (.iload_n 1, 1) := by decide +kernel
theorem dX9_folded_23 : decode cX9_folded 23 = .ok (.iadd, 1) := by decide +kernel
theorem dX9_folded_24 : decode cX9_folded 24 = .ok (.iconst 0, 1) := by decide +kernel
theorem dX9_folded_25 : decode cX9_folded 25 = .ok (.iconst 0, 1) := by decide +kernel
theorem dX9_folded_26 : decode cX9_folded 26 = .ok (.iconst 0, 1) := by decide +kernel
theorem dX9_folded_27 : decode cX9_folded 27 = .ok (.iconst 0, 1) := by decide +kernel
theorem dX9_folded_28 : decode cX9_folded 28 = .ok (.invokevirtual 84, 3) := by decide +kernel
theorem dX9_folded_31 : decode cX9_folded 31 = .ok (.iload_n 2, 1) := by decide +kernel
theorem dX9_folded_32 : decode cX9_folded 32 = .ok (.ifCond .eq 7, 3) := by decide +kernel
theorem dX9_folded_35 : decode cX9_folded 35 = .ok (.iconst 1, 1) := by decide +kernel
theorem dX9_folded_36 : decode cX9_folded 36 = .ok (.goto 4, 3) := by decide +kernel
theorem dX9_folded_39 : decode cX9_folded 39 = .ok (.iconst 0, 1) := by decide +kernel
theorem dX9_folded_40 : decode cX9_folded 40 = .ok (.ireturn, 1) := by decide +kernel
theorem dX9_folded_41 : decode cX9_folded 41 = .ok (.iload_n 2, 1) := by decide +kernel
theorem dX9_folded_42 : decode cX9_folded 42 = .ok (.bipush 10, 2) := by decide +kernel
theorem dX9_folded_44 : decode cX9_folded 44 = .ok (.if_icmp .ne 87, 3) := by decide +kernel
theorem dX9_folded_47 : decode cX9_folded 47 = .ok (.aload_n 0, 1) := by decide +kernel
theorem dX9_folded_48 : decode cX9_folded 48 = .ok (.iload_n 1, 1) := by decide +kernel
theorem dX9_folded_49 : decode cX9_folded 49 = .ok (.aload_n 0, 1) := by decide +kernel
theorem dX9_folded_50 : decode cX9_folded 50 = .ok (.getfield 19, 3) := by decide +kernel
theorem dX9_folded_53 : decode cX9_folded 53 = .ok (.bipush 100, 2) := by decide +kernel
theorem dX9_folded_55 : decode cX9_folded 55 = .ok (.iload_n 1, 1) := by decide +kernel
theorem dX9_folded_56 : decode cX9_folded 56 = .ok (.iadd, 1) := by decide +kernel
theorem dX9_folded_57 : decode cX9_folded 57 = .ok (.iaload, 1) := by decide +kernel
theorem dX9_folded_58 : decode cX9_folded 58 = .ok (.invokevirtual 142, 3) := by decide +kernel
theorem dX9_folded_61 : decode cX9_folded 61 = .ok (.ifCond .eq 70, 3) := by decide +kernel
theorem dX9_folded_64 : decode cX9_folded 64 = .ok (.aload_n 0, 1) := by decide +kernel
theorem dX9_folded_65 : decode cX9_folded 65 = .ok (.getfield 44, 3) := by decide +kernel
theorem dX9_folded_68 : decode cX9_folded 68 = .ok (.bipush 8, 2) := by decide +kernel
theorem dX9_folded_70 : decode cX9_folded 70 = .ok (.iload_n 1, 1) := by decide +kernel
theorem dX9_folded_71 : decode cX9_folded 71 = .ok (.imul, 1) := by decide +kernel
theorem dX9_folded_72 : decode cX9_folded 72 = .ok (.aload_n 0, 1) := by decide +kernel
theorem dX9_folded_73 : decode cX9_folded 73 = .ok (.getfield 19, 3) := by decide +kernel
theorem dX9_folded_76 : decode cX9_folded 76 = .ok (.bipush 100, 2) := by decide +kernel
theorem dX9_folded_78 : decode cX9_folded 78 = .ok (.iload_n 1, 1) := by decide +kernel
theorem dX9_folded_79 : decode cX9_folded 79 = .ok (.iadd, 1) := by decide +kernel
theorem dX9_folded_80 : decode cX9_folded 80 = .ok (.iaload, 1) := by decide +kernel
theorem dX9_folded_81 : decode cX9_folded 81 = .ok (.iadd, 1) := by decide +kernel
theorem dX9_folded_82 : decode cX9_folded 82 = .ok (.iaload, 1) := by decide +kernel
theorem dX9_folded_83 : decode cX9_folded 83 = .ok (.ifCond .ne 7, 3) := by decide +kernel
theorem dX9_folded_86 : decode cX9_folded 86 = .ok (.iconst 1, 1) := by decide +kernel
theorem dX9_folded_87 : decode cX9_folded 87 = .ok (.goto 4, 3) := by decide +kernel
theorem dX9_folded_90 : decode cX9_folded 90 = .ok (.iconst 0, 1) := by decide +kernel
theorem dX9_folded_91 : decode cX9_folded 91 = .ok (.istore_n 3, 1) := by decide +kernel
theorem dX9_folded_92 : decode cX9_folded 92 = .ok (.aload_n 0, 1) := by decide +kernel
theorem dX9_folded_93 : decode cX9_folded 93 = .ok (.bipush 100, 2) := by decide +kernel
theorem dX9_folded_95 : decode cX9_folded 95 = .ok (.iload_n 1, 1) := by decide +kernel
theorem dX9_folded_96 : decode cX9_folded 96 = .ok (.iadd, 1) := by decide +kernel
theorem dX9_folded_97 : decode cX9_folded 97 = .ok (.iload_n 3, 1) := by decide +kernel
theorem dX9_folded_98 : decode cX9_folded 98 = .ok (.ifCond .eq 8, 3) := by decide +kernel
theorem dX9_folded_101 : decode cX9_folded 101 = .ok (.bipush 9, 2) := by decide +kernel
theorem dX9_folded_103 : decode cX9_folded 103 = .ok (.goto 4, 3) := by decide +kernel
theorem dX9_folded_106 : decode cX9_folded 106 = .ok (.iconst 0, 1) := by decide +kernel
theorem dX9_folded_107 : decode cX9_folded 107 = .ok (.iload_n 3, 1) := by decide +kernel
theorem dX9_folded_108 : decode cX9_folded 108 = .ok (.ifCond .eq 15, 3) := by decide +kernel
theorem dX9_folded_111 : decode cX9_folded 111 = .ok (.aload_n 0, 1) := by decide +kernel
theorem dX9_folded_112 : decode cX9_folded 112 = .ok (.getfield 16, 3) := by decide +kernel
theorem dX9_folded_115 : decode cX9_folded 115 = .ok (.bipush 100, 2) := by decide +kernel
theorem dX9_folded_117 : decode cX9_folded 117 = .ok (.iload_n 1, 1) := by decide +kernel
theorem dX9_folded_118 : decode cX9_folded 118 = .ok (.iadd, 1) := by decide +kernel
theorem dX9_folded_119 : decode cX9_folded 119 = .ok (.iaload, 1) := by decide +kernel
theorem dX9_folded_120 : decode cX9_folded 120 = .ok (.goto 4, 3) := by decide +kernel
theorem dX9_folded_123 : decode cX9_folded 123 = .ok (.iconst 0, 1) := by decide +kernel
theorem dX9_folded_124 : decode cX9_folded 124 = .ok (.iconst 0, 1) := by decide +kernel
theorem dX9_folded_125 : decode cX9_folded 125 = .ok (.iconst 0, 1) := by decide +kernel
theorem dX9_folded_126 : decode cX9_folded 126 = .ok (.invokevirtual 84, 3) := by decide +kernel
theorem dX9_folded_129 : decode cX9_folded 129 = .ok (.iconst 1, 1) := by decide +kernel
theorem dX9_folded_130 : decode cX9_folded 130 = .ok (.ireturn, 1) := by decide +kernel
theorem dX9_folded_131 : decode cX9_folded 131 = .ok (.iload_n 2, 1) := by decide +kernel
theorem dX9_folded_132 : decode cX9_folded 132 = .ok (.iconst 1, 1) := by decide +kernel
theorem dX9_folded_133 : decode cX9_folded 133 = .ok (.if_icmp .eq 11, 3) := by decide +kernel
theorem dX9_folded_136 : decode cX9_folded 136 = .ok (.aload_n 0, 1) := by decide +kernel
theorem dX9_folded_137 : decode cX9_folded 137 = .ok (.iload_n 1, 1) := by decide +kernel
theorem dX9_folded_138 : decode cX9_folded 138 = .ok (.invokevirtual 132, 3) := by decide +kernel
theorem dX9_folded_141 : decode cX9_folded 141 = .ok (.ifCond .ne 5, 3) := by decide +kernel
theorem dX9_folded_144 : decode cX9_folded 144 = .ok (.iconst 0, 1) := by decide +kernel
theorem dX9_folded_145 : decode cX9_folded 145 = .ok (.ireturn, 1) := by decide +kernel
theorem dX9_folded_146 : decode cX9_folded 146 = .ok (.aload_n 0, 1) := by decide +kernel
theorem dX9_folded_147 : decode cX9_folded 147 = .ok (.bipush 100, 2) := by decide +kernel
theorem dX9_folded_149 : decode cX9_folded 149 = .ok (.iload_n 1, 1) := by decide +kernel
theorem dX9_folded_150 : decode cX9_folded 150 = .ok (.iadd, 1) := by decide +kernel
theorem dX9_folded_151 : decode cX9_folded 151 = .ok (.iconst 1, 1) := by decide +kernel
theorem dX9_folded_152 : decode cX9_folded 152 = .ok (.aload_n 0, 1) := by decide +kernel
theorem dX9_folded_153 : decode cX9_folded 153 = .ok (.getfield 16, 3) := by decide +kernel
theorem dX9_folded_156 : decode cX9_folded 156 = .ok (.bipush 100, 2) := by decide +kernel
theorem dX9_folded_158 : decode cX9_folded 158 = .ok (.iload_n 1, 1) := by decide +kernel
theorem dX9_folded_159 : decode cX9_folded 159 = .ok (.iadd, 1) := by decide +kernel
theorem dX9_folded_160 : decode cX9_folded 160 = .ok (.iaload, 1) := by decide +kernel
theorem dX9_folded_161 : decode cX9_folded 161 = .ok (.aload_n 0, 1) := by decide +kernel
theorem dX9_folded_162 : decode cX9_folded 162 = .ok (.iload_n 1, 1) := by decide +kernel
theorem dX9_folded_163 : decode cX9_folded 163 = .ok (.invokevirtual 135, 3) := by decide +kernel
theorem dX9_folded_166 : decode cX9_folded 166 = .ok (.iconst 0, 1) := by decide +kernel
theorem dX9_folded_167 : decode cX9_folded 167 = .ok (.invokevirtual 84, 3) := by decide +kernel
theorem dX9_folded_170 : decode cX9_folded 170 = .ok (.iconst 1, 1) := by decide +kernel
theorem dX9_folded_171 : decode cX9_folded 171 = .ok (.ireturn, 1) := by decide +kernel
set_option maxRecDepth 20000 in
theorem ggX9_isBegin_X9_goes : GoodIn wsX9_isBegin wsX9_goes := goodIn_r _ [7] (by decide +kernel) (by decide +kernel)
set_option maxRecDepth 20000 in
theorem gX9_isBegin_X9_goes : GoodIn wsX9_isBegin (va_wsS RX9 105 yX9_goes wsX9_goes) := goodIn_app (goodIn_of _ (by decide +kernel)) ggX9_isBegin_X9_goes
theorem dX9_isBegin_0 : decode cX9_isBegin 0 = .ok (.iload_n 1, 1) := by decide +kernel
theorem dX9_isBegin_1 : decode cX9_isBegin 1 = .ok (.ifCond .eq 32, 3) := by decide +kernel
theorem dX9_isBegin_4 : decode cX9_isBegin 4 = .ok (.aload_n 0, 1) := by decide +kernel
theorem dX9_isBegin_5 : decode cX9_isBegin 5 = .ok (.getfield 13, 3) := by decide +kernel
theorem dX9_isBegin_8 : decode cX9_isBegin 8 = .ok (.bipush 99, 2) := by decide +kernel
theorem dX9_isBegin_10 : decode cX9_isBegin 10 = .ok (.iload_n 1, 1) := by decide +kernel
theorem dX9_isBegin_11 : decode cX9_isBegin 11 = .ok (.iadd, 1) := by decide +kernel
theorem dX9_isBegin_12 : decode cX9_isBegin 12 = .ok (.iaload, 1) := by decide +kernel
theorem dX9_isBegin_13 : decode cX9_isBegin 13 = .ok (.invokestatic 105, 3) := by decide +kernel
theorem dX9_isBegin_16 : decode cX9_isBegin 16 = .ok (.ifCond .ne 17, 3) := by decide +kernel
theorem dX9_isBegin_19 : decode cX9_isBegin 19 = .ok (.aload_n 0, 1) := by decide +kernel
theorem dX9_isBegin_20 : decode cX9_isBegin 20 = .ok (.getfield 13, 3) := by decide +kernel
theorem dX9_isBegin_23 : decode cX9_isBegin 23 = .ok (.bipush 99, 2) := by decide +kernel
theorem dX9_isBegin_25 : decode cX9_isBegin 25 = .ok (.iload_n 1, 1) := by decide +kernel
theorem dX9_isBegin_26 : decode cX9_isBegin 26 = .ok (.iadd, 1) := by decide +kernel
theorem dX9_isBegin_27 : decode cX9_isBegin 27 = .ok (.iaload, 1) := by decide +kernel
theorem dX9_isBegin_28 : decode cX9_isBegin 28 = .ok (.bipush 12, 2) := by decide +kernel
theorem dX9_isBegin_30 : decode cX9_isBegin 30 = .ok (.if_icmp .ne 7, 3) := by decide +kernel
theorem dX9_isBegin_33 : decode cX9_isBegin 33 = .ok (.iconst 1, 1) := by decide +kernel
theorem dX9_isBegin_34 : decode cX9_isBegin 34 = .ok (.goto 4, 3) := by decide +kernel
theorem dX9_isBegin_37 : decode cX9_isBegin 37 = .ok (.iconst 0, 1) := by decide +kernel
theorem dX9_isBegin_38 : decode cX9_isBegin 38 = .ok (.istore_n 2, 1) := by decide +kernel
theorem dX9_isBegin_39 : decode cX9_isBegin 39 = .ok (.bipush 100, 2) := by decide +kernel
theorem dX9_isBegin_41 : decode cX9_isBegin 41 = .ok (.istore_n 3, 1) := by decide +kernel
theorem dX9_isBegin_42 : decode cX9_isBegin 42 = .ok (.iload_n 3, 1) := by decide +kernel
theorem dX9_isBegin_43 : decode cX9_isBegin 43 = .ok (.bipush 100, 2) := by decide +kernel
theorem dX9_isBegin_45 : decode cX9_isBegin 45 = .ok (.aload_n 0, 1) := by decide +kernel
theorem dX9_isBegin_46 : decode cX9_isBegin 46 = .ok (.getfield 7, 3) := by decide +kernel
theorem dX9_isBegin_49 : decode cX9_isBegin 49 = .ok (.iconst 1, 1) := by decide +kernel
theorem dX9_isBegin_50 : decode cX9_isBegin 50 = .ok (.iaload, 1) := by decide +kernel
theorem dX9_isBegin_51 : decode cX9_isBegin 51 = .ok (.iadd, 1) := by decide +kernel
theorem dX9_isBegin_52 : decode cX9_isBegin 52 = .ok (.if_icmp .ge 41, 3) := by decide +kernel
theorem dX9_isBegin_55 : decode cX9_isBegin 55 = .ok (.iload_n 2, 1) := by decide +kernel
theorem dX9_isBegin_56 : decode cX9_isBegin 56 = .ok (.ifCond .ne 25, 3) := by decide +kernel
theorem dX9_isBegin_59 : decode cX9_isBegin 59 = .ok (.aload_n 0, 1) := by decide +kernel
theorem dX9_isBegin_60 : decode cX9_isBegin 60 = .ok (.getfield 13, 3) := by decide +kernel
theorem dX9_isBegin_63 : decode cX9_isBegin 63 = .ok (.iload_n 3, 1) := by decide +kernel
theorem dX9_isBegin_64 : decode cX9_isBegin 64 = .ok (.iaload, 1) := by decide +kernel
theorem dX9_isBegin_65 : decode cX9_isBegin 65 = .ok (.invokestatic 105, 3) := by decide +kernel
theorem dX9_isBegin_68 : decode cX9_isBegin 68 = .ok (.ifCond .eq 17, 3) := by decide +kernel
theorem dX9_isBegin_71 : decode cX9_isBegin 71 = .ok (.aload_n 0, 1) := by decide +kernel
theorem dX9_isBegin_72 : decode cX9_isBegin 72 = .ok (.getfield 16, 3) := by decide +kernel
theorem dX9_isBegin_75 : decode cX9_isBegin 75 = .ok (.iload_n 3, 1) := by decide +kernel
theorem dX9_isBegin_76 : decode cX9_isBegin 76 = .ok (.iaload, 1) := by decide +kernel
theorem dX9_isBegin_77 : decode cX9_isBegin 77 = .ok (.iload_n 1, 1) := by decide +kernel
theorem dX9_isBegin_78 : decode cX9_isBegin 78 = .ok (.if_icmp .ne 7, 3) := by decide +kernel
theorem dX9_isBegin_81 : decode cX9_isBegin 81 = .ok (.iconst 1, 1) := by decide +kernel
theorem dX9_isBegin_82 : decode cX9_isBegin 82 = .ok (.goto 4, 3) := by decide +kernel
theorem dX9_isBegin_85 : decode cX9_isBegin 85 = .ok (.iconst 0, 1) := by decide +kernel
theorem dX9_isBegin_86 : decode cX9_isBegin 86 = .ok (.istore_n 2, 1) := by decide +kernel
theorem dX9_isBegin_87 : decode cX9_isBegin 87 = .ok (.iinc 3 1, 3) := by decide +kernel
theorem dX9_isBegin_90 : decode cX9_isBegin 90 = .ok (.goto (-48), 3) := by decide +kernel
theorem dX9_isBegin_93 : decode cX9_isBegin 93 = .ok (.iload_n 2, 1) := by decide +kernel
theorem dX9_isBegin_94 : decode cX9_isBegin 94 = .ok (.ireturn, 1) := by decide +kernel
theorem dX9_newValue_0 : decode cX9_newValue 0 = .ok (.aload_n 0, 1) := by decide +kernel
theorem dX9_newValue_1 : decode cX9_newValue 1 = .ok (.getfield 50, 3) := by decide +kernel
theorem dX9_newValue_4 : decode cX9_newValue 4 = .ok (.aload_n 0, 1) := by decide +kernel
theorem dX9_newValue_5 : decode cX9_newValue 5 = .ok (.getfield 159, 3) := by decide +kernel
theorem dX9_newValue_8 : decode cX9_newValue 8 = .ok (.iload_n 1, 1) := by decide +kernel
theorem dX9_newValue_9 : decode cX9_newValue 9 = .ok (.iastore, 1) := by decide +kernel
theorem dX9_newValue_10 : decode cX9_newValue 10 = .ok (.aload_n 0, 1) := by decide +kernel
theorem dX9_newValue_11 : decode cX9_newValue 11 = .ok (.getfield 53, 3) := by decide +kernel
theorem dX9_newValue_14 : decode cX9_newValue 14 = .ok (.aload_n 0, 1) := by decide +kernel
theorem dX9_newValue_15 : decode cX9_newValue 15 = .ok (.getfield 159, 3) := by decide +kernel
theorem dX9_newValue_18 : decode cX9_newValue 18 = .ok (.iload_n 2, 1) := by decide +kernel
theorem dX9_newValue_19 : decode cX9_newValue 19 = .ok (.iastore, 1) := by decide +kernel
theorem dX9_newValue_20 : decode cX9_newValue 20 = .ok (.aload_n 0, 1) := by decide +kernel
theorem dX9_newValue_21 : decode cX9_newValue 21 = .ok (.getfield 56, 3) := by decide +kernel
theorem dX9_newValue_24 : decode cX9_newValue 24 = .ok (.aload_n 0, 1) := by decide +kernel
theorem dX9_newValue_25 : decode cX9_newValue 25 = .ok (.getfield 159, 3) := by decide +kernel
theorem dX9_newValue_28 : decode cX9_newValue 28 = .ok (.iload_n 3, 1) := by decide +kernel
theorem dX9_newValue_29 : decode cX9_newValue 29 = .ok (.iastore, 1) := by decide +kernel
theorem dX9_newValue_30 : decode cX9_newValue 30 = .ok (.aload_n 0, 1) := by decide +kernel
theorem dX9_newValue_31 : decode cX9_newValue 31 = .ok (.dup, 1) := by decide +kernel
theorem dX9_newValue_32 : decode cX9_newValue 32 = .ok (.getfield 159, 3) := by decide +kernel
theorem dX9_newValue_35 : decode cX9_newValue 35 = .ok (.iconst 1, 1) := by decide +kernel
theorem dX9_newValue_36 : decode cX9_newValue 36 = .ok (.iadd, 1) := by decide +kernel
theorem dX9_newValue_37 : decode cX9_newValue 37 = .ok (.putfield 159, 3) := by decide +kernel
theorem dX9_newValue_40 : decode cX9_newValue 40 = .ok (.aload_n 0, 1) := by decide +kernel
theorem dX9_newValue_41 : decode cX9_newValue 41 = .ok (.getfield 159, 3) := by decide +kernel
theorem dX9_newValue_44 : decode cX9_newValue 44 = .ok (.iconst 1, 1) := by decide +kernel
theorem dX9_newValue_45 : decode cX9_newValue 45 = .ok (.isub, 1) := by decide +kernel
theorem dX9_newValue_46 : decode cX9_newValue 46 = .ok (.ireturn, 1) := by decide +kernel
set_option maxRecDepth 20000 in
theorem ggX9_valueOf_X9_newValue : GoodIn wsX9_valueOf wsX9_newValue := goodIn_r _ [10, 5, 2, 3, 4, 11, 12, 13, 14, 15, 16, 17, 18, 19, 20, 21, 22, 23, 24, 25, 26, 27, 28, 29, 30, 31, 32, 33, 34, 35, 36, 37, 38, 39, 40, 41, 42, 43] (by decide +kernel) (by decide +kernel)
set_option maxRecDepth 20000 in
theorem gX9_valueOf_X9_newValue : GoodIn wsX9_valueOf (wsV RX9 165 RX9 yX9_newValue wsX9_newValue) := goodIn_app (goodIn_of _ (by decide +kernel)) ggX9_valueOf_X9_newValue
theorem dX9_valueOf_0 : decode cX9_valueOf 0 = .ok (.aload_n 0, 1) := by decide +kernel
theorem dX9_valueOf_1 : decode cX9_valueOf 1 = .ok (.getfield 162, 3) := by decide +kernel
theorem dX9_valueOf_4 : decode cX9_valueOf 4 = .ok (.istore 4, 2) := by decide +kernel
theorem dX9_valueOf_6 : decode cX9_valueOf 6 = .ok (.iload 4, 2) := by decide +kernel
theorem dX9_valueOf_8 : decode cX9_valueOf 8 = .ok (.aload_n 0, 1) := by decide +kernel
theorem dX9_valueOf_9 : decode cX9_valueOf 9 = .ok (.getfield 159, 3) := by decide +kernel
theorem dX9_valueOf_12 : decode cX9_valueOf 12 = .ok (.if_icmp .ge 101, 3) := by decide +kernel
theorem dX9_valueOf_15 : decode cX9_valueOf 15 = .ok (.aload_n 0, 1) := by decide +kernel
theorem dX9_valueOf_16 : decode cX9_valueOf 16 = .ok (.getfield 53, 3) := by decide +kernel
theorem dX9_valueOf_19 : decode cX9_valueOf 19 = .ok (.iload 4, 2) := by decide +kernel
theorem dX9_valueOf_21 : decode cX9_valueOf 21 = .ok (.iaload, 1) := by decide +kernel
theorem dX9_valueOf_22 : decode cX9_valueOf 22 = .ok (.iload_n 2, 1) := by decide +kernel
theorem dX9_valueOf_23 : decode cX9_valueOf 23 = .ok (.if_icmp .ne 18, 3) := by decide +kernel
theorem dX9_valueOf_26 : decode cX9_valueOf 26 = .ok (.aload_n 0, 1) := by decide +kernel
theorem dX9_valueOf_27 : decode cX9_valueOf 27 = .ok (.getfield 56, 3) := by decide +kernel
theorem dX9_valueOf_30 : decode cX9_valueOf 30 = .ok (.iload 4, 2) := by decide +kernel
theorem dX9_valueOf_32 : decode cX9_valueOf 32 = .ok (.iaload, 1) := by decide +kernel
theorem dX9_valueOf_33 : decode cX9_valueOf 33 = .ok (.iload_n 3, 1) := by decide +kernel
theorem dX9_valueOf_34 : decode cX9_valueOf 34 = .ok (.if_icmp .ne 7, 3) := by decide +kernel
theorem dX9_valueOf_37 : decode cX9_valueOf 37 = .ok (.iconst 1, 1) := by decide +kernel
theorem dX9_valueOf_38 : decode cX9_valueOf 38 = .ok (.goto 4, 3) := by decide +kernel
theorem dX9_valueOf_41 : decode cX9_valueOf 41 = .ok (.iconst 0, 1) := by decide +kernel
theorem dX9_valueOf_42 : decode cX9_valueOf 42 = .ok (.istore 5, 2) := by decide +kernel
theorem dX9_valueOf_44 : decode cX9_valueOf 44 = .ok (.iload_n 1, 1) := by decide +kernel
theorem dX9_valueOf_45 : decode cX9_valueOf 45 = .ok (.iconst 3, 1) := by decide +kernel
theorem dX9_valueOf_46 : decode cX9_valueOf 46 = .ok (.if_icmp .eq 8, 3) := by decide +kernel
theorem dX9_valueOf_49 : decode cX9_valueOf 49 = .ok (.iload_n 1, 1) := by decide +kernel
theorem dX9_valueOf_50 : decode cX9_valueOf 50 = .ok (.iconst 5, 1) := by decide +kernel
theorem dX9_valueOf_51 : decode cX9_valueOf 51 = .ok (.if_icmp .ne 29, 3) := by decide +kernel
theorem dX9_valueOf_54 : decode cX9_valueOf 54 = .ok (.aload_n 0, 1) := by decide +kernel
theorem dX9_valueOf_55 : decode cX9_valueOf 55 = .ok (.getfield 53, 3) := by decide +kernel
theorem dX9_valueOf_58 : decode cX9_valueOf 58 = .ok (.iload 4, 2) := by decide +kernel
theorem dX9_valueOf_60 : decode cX9_valueOf 60 = .ok (.iaload, 1) := by decide +kernel
theorem dX9_valueOf_61 : decode cX9_valueOf 61 = .ok (.iload_n 3, 1) := by decide +kernel
theorem dX9_valueOf_62 : decode cX9_valueOf 62 = .ok (.if_icmp .ne 18, 3) := by decide +kernel
theorem dX9_valueOf_65 : decode cX9_valueOf 65 = .ok (.aload_n 0, 1) := by decide +kernel
theorem dX9_valueOf_66 : decode cX9_valueOf 66 = .ok (.getfield 56, 3) := by decide +kernel
theorem dX9_valueOf_69 : decode cX9_valueOf 69 = .ok (.iload 4, 2) := by decide +kernel
theorem dX9_valueOf_71 : decode cX9_valueOf 71 = .ok (.iaload, 1) := by decide +kernel
theorem dX9_valueOf_72 : decode cX9_valueOf 72 = .ok (.iload_n 2, 1) := by decide +kernel
theorem dX9_valueOf_73 : decode cX9_valueOf 73 = .ok (.if_icmp .ne 7, 3) := by decide +kernel
theorem dX9_valueOf_76 : decode cX9_valueOf 76 = .ok (.iconst 1, 1) := by decide +kernel
theorem dX9_valueOf_77 : decode cX9_valueOf 77 = .ok (.goto 4, 3) := by decide +kernel
theorem dX9_valueOf_80 : decode cX9_valueOf 80 = .ok (.iconst 0, 1) := by decide +kernel
theorem dX9_valueOf_81 : decode cX9_valueOf 81 = .ok (.istore 6, 2) := by decide +kernel
theorem dX9_valueOf_83 : decode cX9_valueOf 83 = .ok (.aload_n 0, 1) := by decide +kernel
theorem dX9_valueOf_84 : decode cX9_valueOf 84 = .ok (.getfield 50, 3) := by decide +kernel
theorem dX9_valueOf_87 : decode cX9_valueOf 87 = .ok (.iload 4, 2) := by decide +kernel
theorem dX9_valueOf_89 : decode cX9_valueOf 89 = .ok (.iaload, 1) := by decide +kernel
theorem dX9_valueOf_90 : decode cX9_valueOf 90 = .ok (.iload_n 1, 1) := by decide +kernel
theorem dX9_valueOf_91 : decode cX9_valueOf 91 = .ok (.if_icmp .ne 16, 3) := by decide +kernel
theorem dX9_valueOf_94 : decode cX9_valueOf 94 = .ok (.iload 5, 2) := by decide +kernel
theorem dX9_valueOf_96 : decode cX9_valueOf 96 = .ok (.ifCond .ne 8, 3) := by decide +kernel
theorem dX9_valueOf_99 : decode cX9_valueOf 99 = .ok (.iload 6, 2) := by decide +kernel
theorem dX9_valueOf_101 : decode cX9_valueOf 101 = .ok (.ifCond .eq 6, 3) := by decide +kernel
theorem dX9_valueOf_104 : decode cX9_valueOf 104 = .ok (.iload 4, 2) := by decide +kernel
theorem dX9_valueOf_106 : decode cX9_valueOf 106 = .ok (.ireturn, 1) := by decide +kernel
theorem dX9_valueOf_107 : decode cX9_valueOf 107 = .ok (.iinc 4 1, 3) := by decide +kernel
theorem dX9_valueOf_110 : decode cX9_valueOf 110 = .ok (.goto (-104), 3) := by decide +kernel
theorem dX9_valueOf_113 : decode cX9_valueOf 113 = .ok (.aload_n 0, 1) := by decide +kernel
theorem dX9_valueOf_114 : decode cX9_valueOf 114 = .ok (.iload_n 1, 1) := by decide +kernel
theorem dX9_valueOf_115 : decode cX9_valueOf 115 = .ok (.iload_n 2, 1) := by decide +kernel
theorem dX9_valueOf_116 : decode cX9_valueOf 116 = .ok (.iload_n 3, 1) := by decide +kernel
theorem dX9_valueOf_117 : decode cX9_valueOf 117 = .ok (.invokevirtual 165, 3) := by decide +kernel
theorem dX9_valueOf_120 : decode cX9_valueOf 120 = .ok (.ireturn, 1) := by decide +kernel
theorem dX9_lowest_0 : decode cX9_lowest 0 = .ok (.iconst 0, 1) := by decide +kernel
theorem dX9_lowest_1 : decode cX9_lowest 1 = .ok (.istore_n 2, 1) := by decide +kernel
theorem dX9_lowest_2 : decode cX9_lowest 2 = .ok (.iload_n 2, 1) := by decide +kernel
theorem dX9_lowest_3 : decode cX9_lowest 3 = .ok (.bipush 8, 2) := by decide +kernel
theorem dX9_lowest_5 : decode cX9_lowest 5 = .ok (.if_icmp .ge 21, 3) := by decide +kernel
theorem dX9_lowest_8 : decode cX9_lowest 8 = .ok (.aload_n 0, 1) := by decide +kernel
theorem dX9_lowest_9 : decode cX9_lowest 9 = .ok (.getfield 47, 3) := by decide +kernel
theorem dX9_lowest_12 : decode cX9_lowest 12 = .ok (.iload_n 2, 1) := by decide +kernel
theorem dX9_lowest_13 : decode cX9_lowest 13 = .ok (.iaload, 1) := by decide +kernel
theorem dX9_lowest_14 : decode cX9_lowest 14 = .ok (.iload_n 1, 1) := by decide +kernel
theorem dX9_lowest_15 : decode cX9_lowest 15 = .ok (.if_icmp .ne 5, 3) := by decide +kernel
theorem dX9_lowest_18 : decode cX9_lowest 18 = .ok (.iload_n 2, 1) := by decide +kernel
theorem dX9_lowest_19 : decode cX9_lowest 19 = .ok (.ireturn, 1) := by decide +kernel
theorem dX9_lowest_20 : decode cX9_lowest 20 = .ok (.iinc 2 1, 3) := by decide +kernel
theorem dX9_lowest_23 : decode cX9_lowest 23 = .ok (.goto (-21), 3) := by decide +kernel
theorem dX9_lowest_26 : decode cX9_lowest 26 = .ok (.iconst (-1), 1) := by decide +kernel
theorem dX9_lowest_27 : decode cX9_lowest 27 = .ok (.ireturn, 1) := by decide +kernel
set_option maxRecDepth 20000 in
theorem ggX9_shared_X9_readsA : GoodIn wsX9_shared wsX9_readsA := goodIn_r _ [9] (by decide +kernel) (by decide +kernel)
set_option maxRecDepth 20000 in
theorem gX9_shared_X9_readsA : GoodIn wsX9_shared (va_wsS RX9 99 yX9_readsA wsX9_readsA) := goodIn_app (goodIn_of _ (by decide +kernel)) ggX9_shared_X9_readsA
set_option maxRecDepth 20000 in
theorem ggX9_shared_X9_lowest : GoodIn wsX9_shared wsX9_lowest := goodIn_r _ [13, 2, 37, 38, 39, 40, 41, 42, 43, 44, 45, 46, 47, 48, 49, 50, 51, 52, 53, 54, 55, 56, 57, 58, 59, 60, 61, 62, 63, 64, 65, 66, 67, 68, 69] (by decide +kernel) (by decide +kernel)
set_option maxRecDepth 20000 in
theorem gX9_shared_X9_lowest : GoodIn wsX9_shared (wsV RX9 168 RX9 yX9_lowest wsX9_lowest) := goodIn_app (goodIn_of _ (by decide +kernel)) ggX9_shared_X9_lowest
set_option maxRecDepth 20000 in
theorem ggX9_shared_X9_readsB : GoodIn wsX9_shared wsX9_readsB := goodIn_r _ [16] (by decide +kernel) (by decide +kernel)
set_option maxRecDepth 20000 in
theorem gX9_shared_X9_readsB : GoodIn wsX9_shared (va_wsS RX9 102 yX9_readsB wsX9_readsB) := goodIn_app (goodIn_of _ (by decide +kernel)) ggX9_shared_X9_readsB
set_option maxRecDepth 20000 in
theorem ggX9_shared_X9_writes : GoodIn wsX9_shared wsX9_writes := goodIn_r _ [19] (by decide +kernel) (by decide +kernel)
set_option maxRecDepth 20000 in
theorem gX9_shared_X9_writes : GoodIn wsX9_shared (va_wsS RX9 95 yX9_writes wsX9_writes) := goodIn_app (goodIn_of _ (by decide +kernel)) ggX9_shared_X9_writes
set_option maxRecDepth 20000 in
theorem ggX9_shared_X9_valueOf : GoodIn wsX9_shared wsX9_valueOf := goodIn_r _ [23, 24, 25, 26, 27, 28, 29, 30, 31, 8, 32, 37, 38, 39, 40, 41, 42, 43, 44, 45, 46, 47, 48, 49, 50, 51, 52, 53, 54, 55, 56, 57, 58, 59, 60, 61, 62, 63, 64, 65, 66, 67, 68, 69] (by decide +kernel) (by decide +kernel)
set_option maxRecDepth 20000 in
theorem gX9_shared_X9_valueOf : GoodIn wsX9_shared (wsV RX9 171 RX9 yX9_valueOf wsX9_valueOf) := goodIn_app (goodIn_of _ (by decide +kernel)) ggX9_shared_X9_valueOf
set_option maxRecDepth 20000 in
theorem ggX9_shared_X9_newValue : GoodIn wsX9_shared wsX9_newValue := goodIn_r _ [32, 28, 25, 26, 27, 37, 38, 39, 40, 41, 42, 43, 44, 45, 46, 47, 48, 49, 50, 51, 52, 53, 54, 55, 56, 57, 58, 59, 60, 61, 62, 63, 64, 65, 66, 67, 68, 69] (by decide +kernel) (by decide +kernel)
set_option maxRecDepth 20000 in
theorem gX9_shared_X9_newValue : GoodIn wsX9_shared (wsV RX9 165 RX9 yX9_newValue wsX9_newValue) := goodIn_app (goodIn_of _ (by decide +kernel)) ggX9_shared_X9_newValue
set_option maxRecDepth 20000 in
theorem ggX9_shared_X9_put : GoodIn wsX9_shared wsX9_put := goodIn_r _ [36, 1, 5, 3, 4, 37, 38, 39, 40, 41, 42, 43, 44, 45, 46, 47, 48, 49, 50, 51, 52, 53, 54, 55, 56, 57, 58, 59, 60, 61, 62, 63, 64, 65, 66, 67, 68, 69] (by decide +kernel) (by decide +kernel)
set_option maxRecDepth 20000 in
theorem gX9_shared_X9_put : GoodIn wsX9_shared (wsV RX9 84 RX9 yX9_put wsX9_put) := goodIn_app (goodIn_of _ (by decide +kernel)) ggX9_shared_X9_put
theorem dX9_shared_0 : decode cX9_shared 0 = .ok (.aload_n 0, 1) := by decide +kernel
theorem dX9_shared_1 : decode cX9_shared 1 = .ok (.getfield 13, 3) := by decide +kernel
theorem dX9_shared_4 : decode cX9_shared 4 = .ok (.bipush 100, 2) := by decide +kernel
theorem dX9_shared_6 : decode cX9_shared 6 = .ok (.iload_n 1, 1) := by decide +kernel
theorem dX9_shared_7 : decode cX9_shared 7 = .ok (.iadd, 1) := by decide +kernel
theorem dX9_shared_8 : decode cX9_shared 8 = .ok (.iaload, 1) := by decide +kernel
theorem dX9_shared_9 : decode cX9_shared 9 = .ok (.istore_n 2, 1) := by decide +kernel
theorem dX9_shared_10 : decode cX9_shared 10 = .ok (.iload_n 2, 1) := by decide +kernel
theorem dX9_shared_11 : decode cX9_shared 11 = .ok (.invokestatic 99, 3) := by decide +kernel
theorem dX9_shared_14 : decode cX9_shared 14 = .ok (.ifCond .eq 24, 3) := by decide +kernel
theorem dX9_shared_17 : decode cX9_shared 17 = .ok (.aload_n 0, 1) := by decide +kernel
theorem dX9_shared_18 : decode cX9_shared 18 = .ok (.aload_n 0, 1) := by decide +kernel
theorem dX9_shared_19 : decode cX9_shared 19 = .ok (.getfield 47, 3) := by decide +kernel
theorem dX9_shared_22 : decode cX9_shared 22 = .ok (.aload_n 0, 1) := by decide +kernel
theorem dX9_shared_23 : decode cX9_shared 23 = .ok (.getfield 19, 3) := by decide +kernel
theorem dX9_shared_26 : decode cX9_shared 26 = .ok (.bipush 100, 2) := by decide +kernel
theorem dX9_shared_28 : decode cX9_shared 28 = .ok (.iload_n 1, 1) := by decide +kernel
theorem dX9_shared_29 : decode cX9_shared 29 = .ok (.iadd, 1) := by decide +kernel
theorem dX9_shared_30 : decode cX9_shared 30 = .ok (.iaload, 1) := by decide +kernel
theorem dX9_shared_31 : decode cX9_shared 31 = .ok (.iaload, 1) := by decide +kernel
theorem dX9_shared_32 : decode cX9_shared 32 = .ok (.invokevirtual 168, 3) := by decide +kernel
theorem dX9_shared_35 : decode cX9_shared 35 = .ok (.goto 12, 3) := by decide +kernel
theorem dX9_shared_38 : decode cX9_shared 38 = .ok (.aload_n 0, 1) := by decide +kernel
theorem dX9_shared_39 : decode cX9_shared 39 = .ok (.getfield 19, 3) := by decide +kernel
theorem dX9_shared_42 : decode cX9_shared 42 = .ok (.bipush 100, 2) := by decide +kernel
theorem dX9_shared_44 : decode cX9_shared 44 = .ok (.iload_n 1, 1) := by decide +kernel
theorem dX9_shared_45 : decode cX9_shared 45 = .ok (.iadd, 1) := by decide +kernel
theorem dX9_shared_46 : decode cX9_shared 46 = .ok (.iaload, 1) := by decide +kernel
theorem dX9_shared_47 : decode cX9_shared 47 = .ok (.istore_n 3, 1) := by decide +kernel
theorem dX9_shared_48 : decode cX9_shared 48 = .ok (.iload_n 2, 1) := by decide +kernel
theorem dX9_shared_49 : decode cX9_shared 49 = .ok (.invokestatic 102, 3) := by decide +kernel
theorem dX9_shared_52 : decode cX9_shared 52 = .ok (.ifCond .eq 24, 3) := by decide +kernel
theorem dX9_shared_55 : decode cX9_shared 55 = .ok (.aload_n 0, 1) := by decide +kernel
theorem dX9_shared_56 : decode cX9_shared 56 = .ok (.aload_n 0, 1) := by decide +kernel
theorem dX9_shared_57 : decode cX9_shared 57 = .ok (.getfield 47, 3) := by decide +kernel
theorem dX9_shared_60 : decode cX9_shared 60 = .ok (.aload_n 0, 1) := by decide +kernel
theorem dX9_shared_61 : decode cX9_shared 61 = .ok (.getfield 22, 3) := by decide +kernel
theorem dX9_shared_64 : decode cX9_shared 64 = .ok (.bipush 100, 2) := by decide +kernel
theorem dX9_shared_66 : decode cX9_shared 66 = .ok (.iload_n 1, 1) := by decide +kernel
theorem dX9_shared_67 : decode cX9_shared 67 = .ok (.iadd, 1) := by decide +kernel
theorem dX9_shared_68 : decode cX9_shared 68 = .ok (.iaload, 1) := by decide +kernel
theorem dX9_shared_69 : decode cX9_shared 69 = .ok (.iaload, 1) := by decide +kernel
theorem dX9_shared_70 : decode cX9_shared 70 = .ok (.invokevirtual 168, 3) := by decide +kernel
theorem dX9_shared_73 : decode cX9_shared 73 = .ok (.goto 12, 3) := by decide +kernel
theorem dX9_shared_76 : decode cX9_shared 76 = .ok (.aload_n 0, 1) := by decide +kernel
theorem dX9_shared_77 : decode cX9_shared 77 = .ok (.getfield 22, 3) := by decide +kernel
theorem dX9_shared_80 : decode cX9_shared 80 = .ok (.bipush 100, 2) := by decide +kernel
theorem dX9_shared_82 : decode cX9_shared 82 = .ok (.iload_n 1, 1) := by decide +kernel
theorem dX9_shared_83 : decode cX9_shared 83 = .ok (.iadd, 1) := by decide +kernel
theorem dX9_shared_84 : decode cX9_shared 84 = .ok (.iaload, 1) := by decide +kernel
theorem dX9_shared_85 : decode cX9_shared 85 = .ok (.istore 4, 2) := by decide +kernel
theorem dX9_shared_87 : decode cX9_shared 87 = .ok (.iload_n 3, 1) := by decide +kernel
theorem dX9_shared_88 : decode cX9_shared 88 = .ok (.aload_n 0, 1) := by decide +kernel
theorem dX9_shared_89 : decode cX9_shared 89 = .ok (.getfield 19, 3) := by decide +kernel
theorem dX9_shared_92 : decode cX9_shared 92 = .ok (.bipush 100, 2) := by decide +kernel
theorem dX9_shared_94 : decode cX9_shared 94 = .ok (.iload_n 1, 1) := by decide +kernel
theorem dX9_shared_95 : decode cX9_shared 95 = .ok (.iadd, 1) := by decide +kernel
theorem dX9_shared_96 : decode cX9_shared 96 = .ok (.iaload, 1) := by decide +kernel
theorem dX9_shared_97 : decode cX9_shared 97 = .ok (.if_icmp .ne 17, 3) := by decide +kernel
theorem dX9_shared_100 : decode cX9_shared 100 = .ok (.iload 4, 2) := by decide +kernel
theorem dX9_shared_102 : decode cX9_shared 102 = .ok (.aload_n 0, 1) := by decide +kernel
theorem dX9_shared_103 : decode cX9_shared 103 = .ok (.getfield 22, 3) := by decide +kernel
theorem dX9_shared_106 : decode cX9_shared 106 = .ok (.bipush 100, 2) := by decide +kernel
theorem dX9_shared_108 : decode cX9_shared 108 = .ok (.iload_n 1, 1) := by decide +kernel
theorem dX9_shared_109 : decode cX9_shared 109 = .ok (.iadd, 1) := by decide +kernel
theorem dX9_shared_110 : decode cX9_shared 110 = .ok (.iaload, 1) := by decide +kernel
theorem dX9_shared_111 : decode cX9_shared 111 = .ok (.if_icmp .eq 7, 3) := by decide +kernel
theorem dX9_shared_114 : decode cX9_shared 114 = .ok (.iconst 1, 1) := by decide +kernel
theorem dX9_shared_115 : decode cX9_shared 115 = .ok (.goto 4, 3) := by decide +kernel
theorem dX9_shared_118 : decode cX9_shared 118 = .ok (.iconst 0, 1) := by decide +kernel
theorem dX9_shared_119 : decode cX9_shared 119 = .ok (.istore 5, 2) := by decide +kernel
theorem dX9_shared_121 : decode cX9_shared 121 = .ok (.aload_n 0, 1) := by decide +kernel
theorem dX9_shared_122 : decode cX9_shared 122 = .ok (.getfield 19, 3) := by decide +kernel
theorem dX9_shared_125 : decode cX9_shared 125 = .ok (.bipush 100, 2) := by decide +kernel
theorem dX9_shared_127 : decode cX9_shared 127 = .ok (.iload_n 1, 1) := by decide +kernel
theorem dX9_shared_128 : decode cX9_shared 128 = .ok (.iadd, 1) := by decide +kernel
theorem dX9_shared_129 : decode cX9_shared 129 = .ok (.iload_n 3, 1) := by decide +kernel
theorem dX9_shared_130 : decode cX9_shared 130 = .ok (.iastore, 1) := by decide +kernel
theorem dX9_shared_131 : decode cX9_shared 131 = .ok (.aload_n 0, 1) := by decide +kernel
theorem dX9_shared_132 : decode cX9_shared 132 = .ok (.getfield 22, 3) := by decide +kernel
theorem dX9_shared_135 : decode cX9_shared 135 = .ok (.bipush 100, 2) := by decide +kernel
theorem dX9_shared_137 : decode cX9_shared 137 = .ok (.iload_n 1, 1) := by decide +kernel
theorem dX9_shared_138 : decode cX9_shared 138 = .ok (.iadd, 1) := by decide +kernel
theorem dX9_shared_139 : decode cX9_shared 139 = .ok (.iload 4, 2) := by decide +kernel
theorem dX9_shared_141 : decode cX9_shared 141 = .ok (.iastore, 1) := by decide +kernel
theorem dX9_shared_142 : decode cX9_shared 142 = .ok (.iload_n 2, 1) := by decide +kernel
theorem dX9_shared_143 : decode cX9_shared 143 = .ok (.invokestatic 95, 3) := by decide +kernel
theorem dX9_shared_146 : decode cX9_shared 146 = .ok (.ifCond .ne 6, 3) := by decide +kernel
theorem dX9_shared_149 : decode cX9_shared 149 = .ok (.iload 5, 2) := by decide +kernel
theorem dX9_shared_151 : decode cX9_shared 151 = .ok (.ireturn, 1) := by decide +kernel
theorem dX9_shared_152 : decode cX9_shared 152 = .ok (.iload_n 2, 1) := by decide +kernel
theorem dX9_shared_153 : decode cX9_shared 153 = .ok (.iconst 3, 1) := by decide +kernel
theorem dX9_shared_154 : decode cX9_shared 154 = .ok (.if_icmp .lt 12, 3) := by decide +kernel
theorem dX9_shared_157 : decode cX9_shared 157 = .ok (.iload_n 2, 1) := by decide +kernel
theorem dX9_shared_158 : decode cX9_shared 158 = .ok (.iconst 5, 1) := by decide +kernel
theorem dX9_shared_159 : decode cX9_shared 159 = .ok (.if_icmp .gt 7, 3) := by decide +kernel
theorem dX9_shared_162 : decode cX9_shared 162 = .ok (.iconst 1, 1) := by decide +kernel
theorem dX9_shared_163 : decode cX9_shared 163 = .ok (.goto 4, 3) := by decide +kernel
theorem dX9_shared_166 : decode cX9_shared 166 = .ok (.iconst 0, 1) := by decide +kernel
theorem dX9_shared_167 : decode cX9_shared 167 = .ok (.istore 6, 2) := by decide +kernel
theorem dX9_shared_169 : decode cX9_shared 169 = .ok (.iload_n 2, 1) := by decide +kernel
theorem dX9_shared_170 : decode cX9_shared 170 = .ok (.iconst 1, 1) := by decide +kernel
theorem dX9_shared_171 : decode cX9_shared 171 = .ok (.if_icmp .ne 13, 3) := by decide +kernel
theorem dX9_shared_174 : decode cX9_shared 174 = .ok (.aload_n 0, 1) := by decide +kernel
theorem dX9_shared_175 : decode cX9_shared 175 = .ok (.iconst 1, 1) := by decide +kernel
theorem dX9_shared_176 : decode cX9_shared 176 = .ok (.iload_n 3, 1) := by decide +kernel
theorem dX9_shared_177 : decode cX9_shared 177 = .ok (.iconst 0, 1) := by decide +kernel
theorem dX9_shared_178 : decode cX9_shared 178 = .ok (.invokevirtual 171, 3) := by decide +kernel
theorem dX9_shared_181 : decode cX9_shared 181 = .ok (.goto 50, 3) := by decide +kernel
theorem dX9_shared_184 : decode cX9_shared 184 = .ok (.iload_n 2, 1) := by decide +kernel
theorem dX9_shared_185 : decode cX9_shared 185 = .ok (.iconst 2, 1) := by decide +kernel
theorem dX9_shared_186 : decode cX9_shared 186 = .ok (.if_icmp .ne 12, 3) := by decide +kernel
theorem dX9_shared_189 : decode cX9_shared 189 = .ok (.aload_n 0, 1) := by decide +kernel
theorem dX9_shared_190 : decode cX9_shared 190 = .ok (.getfield 47, 3) := by decide +kernel
theorem dX9_shared_193 : decode cX9_shared 193 = .ok (.iload_n 3, 1) := by decide +kernel
theorem dX9_shared_194 : decode cX9_shared 194 = .ok (.iaload, 1) := by decide +kernel
theorem dX9_shared_195 : decode cX9_shared 195 = .ok (.goto 36, 3) := by decide +kernel
theorem dX9_shared_198 : decode cX9_shared 198 = .ok (.iload 6, 2) := by decide +kernel
theorem dX9_shared_200 : decode cX9_shared 200 = .ok (.ifCond .eq 24, 3) := by decide +kernel
theorem dX9_shared_203 : decode cX9_shared 203 = .ok (.aload_n 0, 1) := by decide +kernel
theorem dX9_shared_204 : decode cX9_shared 204 = .ok (.iload_n 2, 1) := by decide +kernel
theorem dX9_shared_205 : decode cX9_shared 205 = .ok (.aload_n 0, 1) := by decide +kernel
theorem dX9_shared_206 : decode cX9_shared 206 = .ok (.getfield 47, 3) := by decide +kernel
theorem dX9_shared_209 : decode cX9_shared 209 = .ok (.iload_n 3, 1) := by decide +kernel
theorem dX9_shared_210 : decode cX9_shared 210 = .ok (.iaload, 1) := by decide +kernel
theorem dX9_shared_211 : decode cX9_shared 211 = .ok (.aload_n 0, 1) := by decide +kernel
theorem dX9_shared_212 : decode cX9_shared 212 = .ok (.getfield 47, 3) := by decide +kernel
theorem dX9_shared_215 : decode cX9_shared 215 = .ok (.iload 4, 2) := by decide +kernel
theorem dX9_shared_217 : decode cX9_shared 217 = .ok (.iaload, 1) := by decide +kernel
theorem dX9_shared_218 : decode cX9_shared 218 = .ok (.invokevirtual 171, 3) := by decide +kernel
theorem dX9_shared_221 : decode cX9_shared 221 = .ok (.goto 10, 3) := by decide +kernel
theorem dX9_shared_224 : decode cX9_shared 224 = .ok (.aload_n 0, 1) := by decide +kernel
theorem dX9_shared_225 : decode cX9_shared 225 = .ok (.iconst 0, 1) := by decide +kernel
theorem dX9_shared_226 : decode cX9_shared 226 = .ok (.iconst 0, 1) := by decide +kernel
theorem dX9_shared_227 : decode cX9_shared 227 = .ok (.iconst 0, 1) := by decide +kernel
theorem dX9_shared_228 : decode cX9_shared 228 = .ok (.invokevirtual 165, 3) := by decide +kernel
theorem dX9_shared_231 : decode cX9_shared 231 = .ok (.istore 7, 2) := by decide +kernel
theorem dX9_shared_233 : decode cX9_shared 233 = .ok (.aload_n 0, 1) := by decide +kernel
theorem dX9_shared_234 : decode cX9_shared 234 = .ok (.getfield 16, 3) := by decide +kernel
theorem dX9_shared_237 : decode cX9_shared 237 = .ok (.bipush 100, 2) := by decide +kernel
theorem dX9_shared_239 : decode cX9_shared 239 = .ok (.iload_n 1, 1) := by decide +kernel
theorem dX9_shared_240 : decode cX9_shared 240 = .ok (.iadd, 1) := by decide +kernel
theorem dX9_shared_241 : decode cX9_shared 241 = .ok (.iaload, 1) := by decide +kernel
theorem dX9_shared_242 : decode cX9_shared 242 = .ok (.istore 8, 2) := by decide +kernel
theorem dX9_shared_244 : decode cX9_shared 244 = .ok (.aload_n 0, 1) := by decide +kernel
theorem dX9_shared_245 : decode cX9_shared 245 = .ok (.iload 7, 2) := by decide +kernel
theorem dX9_shared_247 : decode cX9_shared 247 = .ok (.invokevirtual 168, 3) := by decide +kernel
theorem dX9_shared_250 : decode cX9_shared 250 = .ok (.istore 9, 2) := by decide +kernel
theorem dX9_shared_252 : decode cX9_shared 252 = .ok (.aload_n 0, 1) := by decide +kernel
theorem dX9_shared_253 : decode cX9_shared 253 = .ok (.getfield 47, 3) := by decide +kernel
theorem dX9_shared_256 : decode cX9_shared 256 = .ok (.iload 8, 2) := by decide +kernel
theorem dX9_shared_258 : decode cX9_shared 258 = .ok (.iaload, 1) := by decide +kernel
theorem dX9_shared_259 : decode cX9_shared 259 = .ok (.iload 7, 2) := by decide +kernel
theorem dX9_shared_261 : decode cX9_shared 261 = .ok (.if_icmp .ne 7, 3) := by decide +kernel
theorem dX9_shared_264 : decode cX9_shared 264 = .ok (.iconst 1, 1) := by decide +kernel
theorem dX9_shared_265 : decode cX9_shared 265 = .ok (.goto 4, 3) := by decide +kernel
theorem dX9_shared_268 : decode cX9_shared 268 = .ok (.iconst 0, 1) := by decide +kernel
theorem dX9_shared_269 : decode cX9_shared 269 = .ok (.istore 10, 2) := by decide +kernel
theorem dX9_shared_271 : decode cX9_shared 271 = .ok (.iload 6, 2) := by decide +kernel
theorem dX9_shared_273 : decode cX9_shared 273 = .ok (.ifCond .ne 8, 3) := by decide +kernel
theorem dX9_shared_276 : decode cX9_shared 276 = .ok (.iload_n 2, 1) := by decide +kernel
theorem dX9_shared_277 : decode cX9_shared 277 = .ok (.iconst 1, 1) := by decide +kernel
theorem dX9_shared_278 : decode cX9_shared 278 = .ok (.if_icmp .ne 22, 3) := by decide +kernel
theorem dX9_shared_281 : decode cX9_shared 281 = .ok (.iload 9, 2) := by decide +kernel
theorem dX9_shared_283 : decode cX9_shared 283 = .ok (.ifCond .lt 17, 3) := by decide +kernel
theorem dX9_shared_286 : decode cX9_shared 286 = .ok (.aload_n 0, 1) := by decide +kernel
theorem dX9_shared_287 : decode cX9_shared 287 = .ok (.bipush 100, 2) := by decide +kernel
theorem dX9_shared_289 : decode cX9_shared 289 = .ok (.iload_n 1, 1) := by decide +kernel
theorem dX9_shared_290 : decode cX9_shared 290 = .ok (.iadd, 1) := by decide +kernel
theorem dX9_shared_291 : decode cX9_shared 291 = .ok (.iconst 2, 1) := by decide +kernel
theorem dX9_shared_292 : decode cX9_shared 292 = .ok (.iload 8, 2) := by decide +kernel
theorem dX9_shared_294 : decode cX9_shared 294 = .ok (.iload 9, 2) := by decide +kernel
theorem dX9_shared_296 : decode cX9_shared 296 = .ok (.iconst 0, 1) := by decide +kernel
theorem dX9_shared_297 : decode cX9_shared 297 = .ok (.invokevirtual 84, 3) := by decide +kernel
theorem dX9_shared_300 : decode cX9_shared 300 = .ok (.iload 6, 2) := by decide +kernel
theorem dX9_shared_302 : decode cX9_shared 302 = .ok (.ifCond .ne 13, 3) := by decide +kernel
theorem dX9_shared_305 : decode cX9_shared 305 = .ok (.iload_n 2, 1) := by decide +kernel
theorem dX9_shared_306 : decode cX9_shared 306 = .ok (.iconst 1, 1) := by decide +kernel
theorem dX9_shared_307 : decode cX9_shared 307 = .ok (.if_icmp .eq 8, 3) := by decide +kernel
theorem dX9_shared_310 : decode cX9_shared 310 = .ok (.iload_n 2, 1) := by decide +kernel
theorem dX9_shared_311 : decode cX9_shared 311 = .ok (.iconst 2, 1) := by decide +kernel
theorem dX9_shared_312 : decode cX9_shared 312 = .ok (.if_icmp .ne 20, 3) := by decide +kernel
theorem dX9_shared_315 : decode cX9_shared 315 = .ok (.iload 10, 2) := by decide +kernel
theorem dX9_shared_317 : decode cX9_shared 317 = .ok (.ifCond .eq 15, 3) := by decide +kernel
theorem dX9_shared_320 : decode cX9_shared 320 = .ok (.aload_n 0, 1) := by decide +kernel
theorem dX9_shared_321 : decode cX9_shared 321 = .ok (.bipush 100, 2) := by decide +kernel
theorem dX9_shared_323 : decode cX9_shared 323 = .ok (.iload_n 1, 1) := by decide +kernel
theorem dX9_shared_324 : decode cX9_shared 324 = .ok (.iadd, 1) := by decide +kernel
theorem dX9_shared_325 : decode cX9_shared 325 = .ok (.iconst 0, 1) := by decide +kernel
theorem dX9_shared_326 : decode cX9_shared 326 = .ok (.iconst 0, 1) := by decide +kernel
theorem dX9_shared_327 : decode cX9_shared 327 = .ok (.iconst 0, 1) := by decide +kernel
theorem dX9_shared_328 : decode cX9_shared 328 = .ok (.iconst 0, 1) := by decide +kernel
theorem dX9_shared_329 : decode cX9_shared 329 = .ok (.invokevirtual 84, 3) := by decide +kernel
theorem dX9_shared_332 : decode cX9_shared 332 = .ok (.aload_n 0, 1) := by decide +kernel
theorem dX9_shared_333 : decode cX9_shared 333 = .ok (.getfield 47, 3) := by decide +kernel
theorem dX9_shared_336 : decode cX9_shared 336 = .ok (.iload 8, 2) := by decide +kernel
theorem dX9_shared_338 : decode cX9_shared 338 = .ok (.iload 7, 2) := by decide +kernel
theorem dX9_shared_340 : decode cX9_shared 340 = .ok (.iastore, 1) := by decide +kernel
theorem dX9_shared_341 : decode cX9_shared 341 = .ok (.iload 5, 2) := by decide +kernel
theorem dX9_shared_343 : decode cX9_shared 343 = .ok (.ifCond .ne 16, 3) := by decide +kernel
theorem dX9_shared_346 : decode cX9_shared 346 = .ok (.aload_n 0, 1) := by decide +kernel
theorem dX9_shared_347 : decode cX9_shared 347 = .ok (.getfield 13, 3) := by decide +kernel
theorem dX9_shared_350 : decode cX9_shared 350 = .ok (.bipush 100, 2) := by decide +kernel
theorem dX9_shared_352 : decode cX9_shared 352 = .ok (.iload_n 1, 1) := by decide +kernel
theorem dX9_shared_353 : decode cX9_shared 353 = .ok (.iadd, 1) := by decide +kernel
theorem dX9_shared_354 : decode cX9_shared 354 = .ok (.iaload, 1) := by decide +kernel
theorem dX9_shared_355 : decode cX9_shared 355 = .ok (.iload_n 2, 1) := by decide +kernel
theorem dX9_shared_356 : decode cX9_shared 356 = .ok (.if_icmp .eq 7, 3) := by decide +kernel
theorem dX9_shared_359 : decode cX9_shared 359 = .ok (.iconst 1, 1) := by decide +kernel
theorem dX9_shared_360 : decode cX9_shared 360 = .ok (.goto 4, 3) := by decide +kernel
theorem dX9_shared_363 : decode cX9_shared 363 = .ok (.iconst 0, 1) := by decide +kernel
theorem dX9_shared_364 : decode cX9_shared 364 = .ok (.ireturn, 1) := by decide +kernel
set_option maxRecDepth 20000 in
theorem ggX9_share_X9_isBegin : GoodIn wsX9_share wsX9_isBegin := goodIn_r _ [9, 10, 2, 11, 12, 13, 8, 14, 49, 50, 51, 52, 53, 54, 55, 56, 57, 58, 59, 60, 61, 62, 63, 64, 65, 66, 67, 68, 69, 70, 71, 72, 73, 74, 75, 76, 77, 78, 79, 80, 81] (by decide +kernel) (by decide +kernel)
set_option maxRecDepth 20000 in
theorem gX9_share_X9_isBegin : GoodIn wsX9_share (wsV RX9 174 RX9 yX9_isBegin wsX9_isBegin) := goodIn_app (goodIn_of _ (by decide +kernel)) ggX9_share_X9_isBegin
set_option maxRecDepth 20000 in
theorem ggX9_share_X9_newValue : GoodIn wsX9_share wsX9_newValue := goodIn_r _ [18, 19, 1, 20, 21, 49, 50, 51, 52, 53, 54, 55, 56, 57, 58, 59, 60, 61, 62, 63, 64, 65, 66, 67, 68, 69, 70, 71, 72, 73, 74, 75, 76, 77, 78, 79, 80, 81] (by decide +kernel) (by decide +kernel)
set_option maxRecDepth 20000 in
theorem gX9_share_X9_newValue : GoodIn wsX9_share (wsV RX9 165 RX9 yX9_newValue wsX9_newValue) := goodIn_app (goodIn_of _ (by decide +kernel)) ggX9_share_X9_newValue
set_option maxRecDepth 20000 in
theorem ggX9_share_X9_shared : GoodIn wsX9_share wsX9_shared := goodIn_r _ [25, 10, 4, 26, 27, 11, 28, 29, 8, 30, 31, 32, 33, 34, 35, 36, 37, 38, 39, 40, 41, 42, 43, 44, 3, 1, 20, 21, 19, 15, 16, 17, 18, 45, 46, 47, 48, 49, 50, 51, 52, 53, 54, 55, 56, 57, 58, 59, 60, 61, 62, 63, 64, 65, 66, 67, 68, 69, 70, 71, 72, 73, 74, 75, 76, 77, 78, 79, 80, 81] (by decide +kernel) (by decide +kernel)
set_option maxRecDepth 20000 in
theorem gX9_share_X9_shared : GoodIn wsX9_share (wsV RX9 177 RX9 yX9_shared wsX9_shared) := goodIn_app (goodIn_of _ (by decide +kernel)) ggX9_share_X9_shared
theorem dX9_share_0 : decode cX9_share 0 = .ok (.iconst 0, 1) := by decide +kernel
theorem dX9_share_1 : decode cX9_share 1 = .ok (.istore_n 1, 1) := by decide +kernel
theorem dX9_share_2 : decode cX9_share 2 = .ok (.aload_n 0, 1) := by decide +kernel
theorem dX9_share_3 : decode cX9_share 3 = .ok (.iconst 0, 1) := by decide +kernel
theorem dX9_share_4 : decode cX9_share 4 = .ok (.putfield 159, 3) := by decide +kernel
theorem dX9_share_7 : decode cX9_share 7 = .ok (.iconst 0, 1) := by decide +kernel
theorem dX9_share_8 : decode cX9_share 8 = .ok (.istore_n 2, 1) := by decide +kernel
theorem dX9_share_9 : decode cX9_share 9 = .ok (.iload_n 2, 1) := by decide +kernel
theorem dX9_share_10 : decode cX9_share 10 = .ok (.aload_n 0, 1) := by decide +kernel
theorem dX9_share_11 : decode cX9_share 11 = .ok (.getfield 7, 3) := by decide +kernel
theorem dX9_share_14 : decode cX9_share 14 = .ok (.iconst 1, 1) := by decide +kernel
theorem dX9_share_15 : decode cX9_share 15 = .ok (.iaload, 1) := by decide +kernel
theorem dX9_share_16 : decode cX9_share 16 = .ok (.if_icmp .ge 68, 3) := by decide +kernel
theorem dX9_share_19 : decode cX9_share 19 = .ok (.aload_n 0, 1) := by decide +kernel
theorem dX9_share_20 : decode cX9_share 20 = .ok (.iload_n 2, 1) := by decide +kernel
theorem dX9_share_21 : decode cX9_share 21 = .ok (.invokevirtual 174, 3) := by decide +kernel
theorem dX9_share_24 : decode cX9_share 24 = .ok (.ifCond .eq 38, 3) := by decide +kernel
theorem dX9_share_27 : decode cX9_share 27 = .ok (.aload_n 0, 1) := by decide +kernel
theorem dX9_share_28 : decode cX9_share 28 = .ok (.aload_n 0, 1) := by decide +kernel
theorem dX9_share_29 : decode cX9_share 29 = .ok (.getfield 159, 3) := by decide +kernel
theorem dX9_share_32 : decode cX9_share 32 = .ok (.putfield 162, 3) := by decide +kernel
theorem dX9_share_35 : decode cX9_share 35 = .ok (.iconst 0, 1) := by decide +kernel
theorem dX9_share_36 : decode cX9_share 36 = .ok (.istore_n 3, 1) := by decide +kernel
theorem dX9_share_37 : decode cX9_share 37 = .ok (.iload_n 3, 1) := by decide +kernel
theorem dX9_share_38 : decode cX9_share 38 = .ok (.bipush 8, 2) := by decide +kernel
theorem dX9_share_40 : decode cX9_share 40 = .ok (.if_icmp .ge 22, 3) := by decide +kernel
theorem dX9_share_43 : decode cX9_share 43 = .ok (.aload_n 0, 1) := by decide +kernel
theorem dX9_share_44 : decode cX9_share 44 = .ok (.getfield 47, 3) := by decide +kernel
theorem dX9_share_47 : decode cX9_share 47 = .ok (.iload_n 3, 1) := by decide +kernel
theorem dX9_share_48 : decode cX9_share 48 = .ok (.aload_n 0, 1) := by decide +kernel
theorem dX9_share_49 : decode cX9_share 49 = .ok (.iconst 0, 1) := by decide +kernel
theorem dX9_share_50 : decode cX9_share 50 = .ok (.iconst 0, 1) := by decide +kernel
theorem dX9_share_51 : decode cX9_share 51 = .ok (.iconst 0, 1) := by decide +kernel
theorem dX9_share_52 : decode cX9_share 52 = .ok (.invokevirtual 165, 3) := by decide +kernel
theorem dX9_share_55 : decode cX9_share 55 = .ok (.iastore, 1) := by decide +kernel
theorem dX9_share_56 : decode cX9_share 56 = .ok (.iinc 3 1, 3) := by decide +kernel
theorem dX9_share_59 : decode cX9_share 59 = .ok (.goto (-22), 3) := by decide +kernel
theorem dX9_share_62 : decode cX9_share 62 = .ok (.aload_n 0, 1) := by decide +kernel
theorem dX9_share_63 : decode cX9_share 63 = .ok (.iload_n 2, 1) := by decide +kernel
theorem dX9_share_64 : decode cX9_share 64 = .ok (.invokevirtual 177, 3) := by decide +kernel
theorem dX9_share_67 : decode cX9_share 67 = .ok (.ifCond .eq 9, 3) := by decide +kernel
theorem dX9_share_70 : decode cX9_share 70 = .ok (.iload_n 1, 1) := by decide +kernel
theorem dX9_share_71 : decode cX9_share 71 = .ok (.iconst 1, 1) := by decide +kernel
theorem dX9_share_72 : decode cX9_share 72 = .ok (.iadd, 1) := by decide +kernel
theorem dX9_share_73 : decode cX9_share 73 = .ok (.goto 4, 3) := by decide +kernel
theorem dX9_share_76 : decode cX9_share 76 = .ok (.iload_n 1, 1) := by decide +kernel
theorem dX9_share_77 : decode cX9_share 77 = .ok (.istore_n 1, 1) := by decide +kernel
theorem dX9_share_78 : decode cX9_share 78 = .ok (.iinc 2 1, 3) := by decide +kernel
theorem dX9_share_81 : decode cX9_share 81 = .ok (.goto (-72), 3) := by decide +kernel
theorem dX9_share_84 : decode cX9_share 84 = .ok (.iload_n 1, 1) := by decide +kernel
theorem dX9_share_85 : decode cX9_share 85 = .ok (.ireturn, 1) := by decide +kernel
set_option maxRecDepth 20000 in
theorem ggX9_drop_X9_liveBehind : GoodIn wsX9_drop wsX9_liveBehind := goodIn_r _ [9, 2, 4, 10, 11, 8, 12, 13, 14, 15, 16, 17, 18, 1, 19, 20, 21, 22, 23, 24, 25, 26, 27, 28, 29, 30, 31, 32, 33, 34, 35, 36, 41, 42, 43, 44, 45, 46, 47, 48, 49, 50, 51, 52, 53, 54, 55, 56, 57, 58, 59, 60, 61, 62, 63, 64, 65, 66, 67, 68, 69, 70, 71, 72, 73] (by decide +kernel) (by decide +kernel)
set_option maxRecDepth 20000 in
theorem gX9_drop_X9_liveBehind : GoodIn wsX9_drop (wsV RX9 180 RX9 yX9_liveBehind wsX9_liveBehind) := goodIn_app (goodIn_of _ (by decide +kernel)) ggX9_drop_X9_liveBehind
set_option maxRecDepth 20000 in
theorem ggX9_drop_X9_put : GoodIn wsX9_drop wsX9_put := goodIn_r _ [40, 2, 4, 23, 24, 41, 42, 43, 44, 45, 46, 47, 48, 49, 50, 51, 52, 53, 54, 55, 56, 57, 58, 59, 60, 61, 62, 63, 64, 65, 66, 67, 68, 69, 70, 71, 72, 73] (by decide +kernel) (by decide +kernel)
set_option maxRecDepth 20000 in
theorem gX9_drop_X9_put : GoodIn wsX9_drop (wsV RX9 84 RX9 yX9_put wsX9_put) := goodIn_app (goodIn_of _ (by decide +kernel)) ggX9_drop_X9_put
theorem dX9_drop_0 : decode cX9_drop 0 = .ok (.iconst 0, 1) := by decide +kernel
theorem dX9_drop_1 : decode cX9_drop 1 = .ok (.istore_n 1, 1) := by decide +kernel
theorem dX9_drop_2 : decode cX9_drop 2 = .ok (.iconst (-1), 1) := by decide +kernel
theorem dX9_drop_3 : decode cX9_drop 3 = .ok (.istore_n 2, 1) := by decide +kernel
theorem dX9_drop_4 : decode cX9_drop 4 = .ok (.iload_n 1, 1) := by decide +kernel
theorem dX9_drop_5 : decode cX9_drop 5 = .ok (.iload_n 2, 1) := by decide +kernel
theorem dX9_drop_6 : decode cX9_drop 6 = .ok (.if_icmp .le 122, 3) := by decide +kernel
theorem dX9_drop_9 : decode cX9_drop 9 = .ok (.iload_n 1, 1) := by decide +kernel
theorem dX9_drop_10 : decode cX9_drop 10 = .ok (.istore_n 2, 1) := by decide +kernel
theorem dX9_drop_11 : decode cX9_drop 11 = .ok (.iconst 0, 1) := by decide +kernel
theorem dX9_drop_12 : decode cX9_drop 12 = .ok (.istore_n 3, 1) := by decide +kernel
theorem dX9_drop_13 : decode cX9_drop 13 = .ok (.iload_n 3, 1) := by decide +kernel
theorem dX9_drop_14 : decode cX9_drop 14 = .ok (.aload_n 0, 1) := by decide +kernel
theorem dX9_drop_15 : decode cX9_drop 15 = .ok (.getfield 7, 3) := by decide +kernel
theorem dX9_drop_18 : decode cX9_drop 18 = .ok (.iconst 1, 1) := by decide +kernel
theorem dX9_drop_19 : decode cX9_drop 19 = .ok (.iaload, 1) := by decide +kernel
theorem dX9_drop_20 : decode cX9_drop 20 = .ok (.if_icmp .ge 60, 3) := by decide +kernel
theorem dX9_drop_23 : decode cX9_drop 23 = .ok (.aload_n 0, 1) := by decide +kernel
theorem dX9_drop_24 : decode cX9_drop 24 = .ok (.getfield 13, 3) := by decide +kernel
theorem dX9_drop_27 : decode cX9_drop 27 = .ok (.bipush 100, 2) := by decide +kernel
theorem dX9_drop_29 : decode cX9_drop 29 = .ok (.iload_n 3, 1) := by decide +kernel
theorem dX9_drop_30 : decode cX9_drop 30 = .ok (.iadd, 1) := by decide +kernel
theorem dX9_drop_31 : decode cX9_drop 31 = .ok (.iaload, 1) := by decide +kernel
theorem dX9_drop_32 : decode cX9_drop 32 = .ok (.istore 4, 2) := by decide +kernel
theorem dX9_drop_34 : decode cX9_drop 34 = .ok (.aload_n 0, 1) := by decide +kernel
theorem dX9_drop_35 : decode cX9_drop 35 = .ok (.getfield 32, 3) := by decide +kernel
theorem dX9_drop_38 : decode cX9_drop 38 = .ok (.iload_n 3, 1) := by decide +kernel
theorem dX9_drop_39 : decode cX9_drop 39 = .ok (.iload 4, 2) := by decide +kernel
theorem dX9_drop_41 : decode cX9_drop 41 = .ok (.iconst 1, 1) := by decide +kernel
theorem dX9_drop_42 : decode cX9_drop 42 = .ok (.if_icmp .lt 30, 3) := by decide +kernel
theorem dX9_drop_45 : decode cX9_drop 45 = .ok (.iload 4, 2) := by decide +kernel
theorem dX9_drop_47 : decode cX9_drop 47 = .ok (.iconst 5, 1) := by decide +kernel
theorem dX9_drop_48 : decode cX9_drop 48 = .ok (.if_icmp .gt 24, 3) := by decide +kernel
theorem dX9_drop_51 : decode cX9_drop 51 = .ok (.aload_n 0, 1) := by decide +kernel
theorem dX9_drop_52 : decode cX9_drop 52 = .ok (.aload_n 0, 1) := by decide +kernel
theorem dX9_drop_53 : decode cX9_drop 53 = .ok (.getfield 16, 3) := by decide +kernel
theorem dX9_drop_56 : decode cX9_drop 56 = .ok (.bipush 100, 2) := by decide +kernel
theorem dX9_drop_58 : decode cX9_drop 58 = .ok (.iload_n 3, 1) := by decide +kernel
theorem dX9_drop_59 : decode cX9_drop 59 = .ok (.iadd, 1) := by decide +kernel
theorem dX9_drop_60 : decode cX9_drop 60 = .ok (.iaload, 1) := by decide +kernel
theorem dX9_drop_61 : decode cX9_drop 61 = .ok (.iload_n 3, 1) := by decide +kernel
theorem dX9_drop_62 : decode cX9_drop 62 = .ok (.invokevirtual 180, 3) := by decide +kernel
theorem dX9_drop_65 : decode cX9_drop 65 = .ok (.ifCond .ne 7, 3) := by decide +kernel
theorem dX9_drop_68 : decode cX9_drop 68 = .ok (.iconst 1, 1) := by decide +kernel
theorem dX9_drop_69 : decode cX9_drop 69 = .ok (.goto 4, 3) := by decide +kernel
theorem dX9_drop_72 : decode cX9_drop 72 = .ok (.iconst 0, 1) := by decide +kernel
theorem dX9_drop_73 : decode cX9_drop 73 = .ok (.bastore, 1) := by decide +kernel
theorem dX9_drop_74 : decode cX9_drop 74 = .ok (.iinc 3 1, 3) := by decide +kernel
theorem dX9_drop_77 : decode cX9_drop 77 = .ok (.goto (-64), 3) := by decide +kernel
theorem dX9_drop_80 : decode cX9_drop 80 = .ok (.iconst 0, 1) := by decide +kernel
theorem dX9_drop_81 : decode cX9_drop 81 = .ok (.istore_n 3, 1) := by decide +kernel
theorem dX9_drop_82 : decode cX9_drop 82 = .ok (.iload_n 3, 1) := by decide +kernel
theorem dX9_drop_83 : decode cX9_drop 83 = .ok (.aload_n 0, 1) := by decide +kernel
theorem dX9_drop_84 : decode cX9_drop 84 = .ok (.getfield 7, 3) := by decide +kernel
theorem dX9_drop_87 : decode cX9_drop 87 = .ok (.iconst 1, 1) := by decide +kernel
theorem dX9_drop_88 : decode cX9_drop 88 = .ok (.iaload, 1) := by decide +kernel
theorem dX9_drop_89 : decode cX9_drop 89 = .ok (.if_icmp .ge 36, 3) := by decide +kernel
theorem dX9_drop_92 : decode cX9_drop 92 = .ok (.aload_n 0, 1) := by decide +kernel
theorem dX9_drop_93 : decode cX9_drop 93 = .ok (.getfield 32, 3) := by decide +kernel
theorem dX9_drop_96 : decode cX9_drop 96 = .ok (.iload_n 3, 1) := by decide +kernel
theorem dX9_drop_97 : decode cX9_drop 97 = .ok (.baload, 1) := by decide +kernel
theorem dX9_drop_98 : decode cX9_drop 98 = .ok (.ifCond .ne 6, 3) := by decide +kernel
theorem dX9_drop_101 : decode cX9_drop 101 = .ok (.goto 18, 3) := by decide +kernel
theorem dX9_drop_104 : decode cX9_drop 104 = .ok (.aload_n 0, 1) := by decide +kernel
theorem dX9_drop_105 : decode cX9_drop 105 = .ok (.bipush 100, 2) := by decide +kernel
theorem dX9_drop_107 : decode cX9_drop 107 = .ok (.iload_n 3, 1) := by decide +kernel
theorem dX9_drop_108 : decode cX9_drop 108 = .ok (.iadd, 1) := by decide +kernel
theorem dX9_drop_109 : decode cX9_drop 109 = .ok (.iconst 0, 1) := by decide +kernel
theorem dX9_drop_110 : decode cX9_drop 110 = .ok (.iconst 0, 1) := by decide +kernel
theorem dX9_drop_111 : decode cX9_drop 111 = .ok (.iconst 0, 1) := by decide +kernel
theorem dX9_drop_112 : decode cX9_drop 112 = .ok (.iconst 0, 1) := by decide +kernel
theorem dX9_drop_113 : decode cX9_drop 113 = .ok (.invokevirtual 84, 3) := by decide +kernel
theorem dX9_drop_116 : decode cX9_drop 116 = .ok (.iinc 1 1, 3) := by decide +kernel
theorem dX9_drop_119 : decode cX9_drop 119 = .ok (.iinc 3 1, 3) := by decide +kernel
theorem dX9_drop_122 : decode cX9_drop 122 = .ok (.goto (-40), 3) := by decide +kernel
theorem dX9_drop_125 : decode cX9_drop 125 = .ok (.goto (-121), 3) := by decide +kernel
theorem dX9_drop_128 : decode cX9_drop 128 = .ok (.iload_n 1, 1) := by decide +kernel
theorem dX9_drop_129 : decode cX9_drop 129 = .ok (.ireturn, 1) := by decide +kernel
theorem dX9_past_0 : decode cX9_past 0 = .ok (.iload_n 1, 1) := by decide +kernel
theorem dX9_past_1 : decode cX9_past 1 = .ok (.istore_n 2, 1) := by decide +kernel
theorem dX9_past_2 : decode cX9_past 2 = .ok (.iload_n 2, 1) := by decide +kernel
theorem dX9_past_3 : decode cX9_past 3 = .ok (.aload_n 0, 1) := by decide +kernel
theorem dX9_past_4 : decode cX9_past 4 = .ok (.getfield 7, 3) := by decide +kernel
theorem dX9_past_7 : decode cX9_past 7 = .ok (.iconst 1, 1) := by decide +kernel
theorem dX9_past_8 : decode cX9_past 8 = .ok (.iaload, 1) := by decide +kernel
theorem dX9_past_9 : decode cX9_past 9 = .ok (.if_icmp .ge 21, 3) := by decide +kernel
theorem dX9_past_12 : decode cX9_past 12 = .ok (.aload_n 0, 1) := by decide +kernel
theorem dX9_past_13 : decode cX9_past 13 = .ok (.getfield 13, 3) := by decide +kernel
theorem dX9_past_16 : decode cX9_past 16 = .ok (.bipush 100, 2) := by decide +kernel
theorem dX9_past_18 : decode cX9_past 18 = .ok (.iload_n 2, 1) := by decide +kernel
theorem dX9_past_19 : decode cX9_past 19 = .ok (.iadd, 1) := by decide +kernel
theorem dX9_past_20 : decode cX9_past 20 = .ok (.iaload, 1) := by decide +kernel
theorem dX9_past_21 : decode cX9_past 21 = .ok (.ifCond .ne 9, 3) := by decide +kernel
theorem dX9_past_24 : decode cX9_past 24 = .ok (.iinc 2 1, 3) := by decide +kernel
theorem dX9_past_27 : decode cX9_past 27 = .ok (.goto (-25), 3) := by decide +kernel
theorem dX9_past_30 : decode cX9_past 30 = .ok (.iload_n 2, 1) := by decide +kernel
theorem dX9_past_31 : decode cX9_past 31 = .ok (.ireturn, 1) := by decide +kernel
set_option maxRecDepth 20000 in
theorem ggX9_pack_X9_goes : GoodIn wsX9_pack wsX9_goes := goodIn_r _ [11] (by decide +kernel) (by decide +kernel)
set_option maxRecDepth 20000 in
theorem gX9_pack_X9_goes : GoodIn wsX9_pack (va_wsS RX9 105 yX9_goes wsX9_goes) := goodIn_app (goodIn_of _ (by decide +kernel)) ggX9_pack_X9_goes
set_option maxRecDepth 20000 in
theorem ggX9_pack_X9_past : GoodIn wsX9_pack wsX9_past := goodIn_r _ [15, 1, 2, 28, 29, 30, 31, 32, 33, 34, 35, 36, 37, 38, 39, 40, 41, 42, 43, 44, 45, 46, 47, 48, 49, 50, 51, 52, 53, 54, 55, 56, 57, 58, 59, 60] (by decide +kernel) (by decide +kernel)
set_option maxRecDepth 20000 in
theorem gX9_pack_X9_past : GoodIn wsX9_pack (wsV RX9 183 RX9 yX9_past wsX9_past) := goodIn_app (goodIn_of _ (by decide +kernel)) ggX9_pack_X9_past
set_option maxRecDepth 20000 in
theorem ggX9_pack_X9_append : GoodIn wsX9_pack wsX9_append := goodIn_r _ [19, 1, 20, 21, 22, 10, 23, 2, 3, 6, 7, 28, 29, 30, 31, 32, 33, 34, 35, 36, 37, 38, 39, 40, 41, 42, 43, 44, 45, 46, 47, 48, 49, 50, 51, 52, 53, 54, 55, 56, 57, 58, 59, 60] (by decide +kernel) (by decide +kernel)
set_option maxRecDepth 20000 in
theorem gX9_pack_X9_append : GoodIn wsX9_pack (wsV RX9 88 RX9 yX9_append wsX9_append) := goodIn_app (goodIn_of _ (by decide +kernel)) ggX9_pack_X9_append
set_option maxRecDepth 20000 in
theorem ggX9_pack_X9_copy : GoodIn wsX9_pack wsX9_copy := goodIn_r _ [27, 1, 2, 3, 6, 7, 16, 17, 18, 10, 19, 20, 21, 22, 23, 28, 29, 30, 31, 32, 33, 34, 35, 36, 37, 38, 39, 40, 41, 42, 43, 44, 45, 46, 47, 48, 49, 50, 51, 52, 53, 54, 55, 56, 57, 58, 59, 60] (by decide +kernel) (by decide +kernel)
set_option maxRecDepth 20000 in
theorem gX9_pack_X9_copy : GoodIn wsX9_pack (wsV RX9 115 RX9 yX9_copy wsX9_copy) := goodIn_app (goodIn_of _ (by decide +kernel)) ggX9_pack_X9_copy
theorem dX9_pack_0 : decode cX9_pack 0 = .ok (.aload_n 0, 1) := by decide +kernel
theorem dX9_pack_1 : decode cX9_pack 1 = .ok (.getfield 7, 3) := by decide +kernel
theorem dX9_pack_4 : decode cX9_pack 4 = .ok (.iconst 1, 1) := by decide +kernel
theorem dX9_pack_5 : decode cX9_pack 5 = .ok (.iaload, 1) := by decide +kernel
theorem dX9_pack_6 : decode cX9_pack 6 = .ok (.istore_n 1, 1) := by decide +kernel
theorem dX9_pack_7 : decode cX9_pack 7 = .ok (.iconst 0, 1) := by decide +kernel
theorem dX9_pack_8 : decode cX9_pack 8 = .ok (.istore_n 2, 1) := by decide +kernel
theorem dX9_pack_9 : decode cX9_pack 9 = .ok (.iload_n 2, 1) := by decide +kernel
theorem dX9_pack_10 : decode cX9_pack 10 = .ok (.iload_n 1, 1) := by decide +kernel
theorem dX9_pack_11 : decode cX9_pack 11 = .ok (.if_icmp .ge 93, 3) := by decide +kernel
theorem dX9_pack_14 : decode cX9_pack 14 = .ok (.iconst 0, 1) := by decide +kernel
theorem dX9_pack_15 : decode cX9_pack 15 = .ok (.istore_n 3, 1) := by decide +kernel
theorem dX9_pack_16 : decode cX9_pack 16 = .ok (.iload_n 3, 1) := by decide +kernel
theorem dX9_pack_17 : decode cX9_pack 17 = .ok (.bipush 24, 2) := by decide +kernel
theorem dX9_pack_19 : decode cX9_pack 19 = .ok (.if_icmp .ge 79, 3) := by decide +kernel
theorem dX9_pack_22 : decode cX9_pack 22 = .ok (.aload_n 0, 1) := by decide +kernel
theorem dX9_pack_23 : decode cX9_pack 23 = .ok (.getfield 13, 3) := by decide +kernel
theorem dX9_pack_26 : decode cX9_pack 26 = .ok (.bipush 100, 2) := by decide +kernel
theorem dX9_pack_28 : decode cX9_pack 28 = .ok (.iload_n 2, 1) := by decide +kernel
theorem dX9_pack_29 : decode cX9_pack 29 = .ok (.iadd, 1) := by decide +kernel
theorem dX9_pack_30 : decode cX9_pack 30 = .ok (.iaload, 1) := by decide +kernel
theorem dX9_pack_31 : decode cX9_pack 31 = .ok (.invokestatic 105, 3) := by decide +kernel
theorem dX9_pack_34 : decode cX9_pack 34 = .ok (.ifCond .eq 64, 3) := by decide +kernel
theorem dX9_pack_37 : decode cX9_pack 37 = .ok (.aload_n 0, 1) := by decide +kernel
theorem dX9_pack_38 : decode cX9_pack 38 = .ok (.aload_n 0, 1) := by decide +kernel
theorem dX9_pack_39 : decode cX9_pack 39 = .ok (.getfield 16, 3) := by decide +kernel
theorem dX9_pack_42 : decode cX9_pack 42 = .ok (.bipush 100, 2) := by decide +kernel
theorem dX9_pack_44 : decode cX9_pack 44 = .ok (.iload_n 2, 1) := by decide +kernel
theorem dX9_pack_45 : decode cX9_pack 45 = .ok (.iadd, 1) := by decide +kernel
theorem dX9_pack_46 : decode cX9_pack 46 = .ok (.iaload, 1) := by decide +kernel
theorem dX9_pack_47 : decode cX9_pack 47 = .ok (.invokevirtual 183, 3) := by decide +kernel
theorem dX9_pack_50 : decode cX9_pack 50 = .ok (.istore 4, 2) := by decide +kernel
theorem dX9_pack_52 : decode cX9_pack 52 = .ok (.iload 4, 2) := by decide +kernel
theorem dX9_pack_54 : decode cX9_pack 54 = .ok (.iload_n 1, 1) := by decide +kernel
theorem dX9_pack_55 : decode cX9_pack 55 = .ok (.if_icmp .ge 37, 3) := by decide +kernel
theorem dX9_pack_58 : decode cX9_pack 58 = .ok (.aload_n 0, 1) := by decide +kernel
theorem dX9_pack_59 : decode cX9_pack 59 = .ok (.getfield 13, 3) := by decide +kernel
theorem dX9_pack_62 : decode cX9_pack 62 = .ok (.bipush 100, 2) := by decide +kernel
theorem dX9_pack_64 : decode cX9_pack 64 = .ok (.iload 4, 2) := by decide +kernel
theorem dX9_pack_66 : decode cX9_pack 66 = .ok (.iadd, 1) := by decide +kernel
theorem dX9_pack_67 : decode cX9_pack 67 = .ok (.iaload, 1) := by decide +kernel
theorem dX9_pack_68 : decode cX9_pack 68 = .ok (.bipush 9, 2) := by decide +kernel
theorem dX9_pack_70 : decode cX9_pack 70 = .ok (.if_icmp .ne 22, 3) := by decide +kernel
theorem dX9_pack_73 : decode cX9_pack 73 = .ok (.aload_n 0, 1) := by decide +kernel
theorem dX9_pack_74 : decode cX9_pack 74 = .ok (.getfield 16, 3) := by decide +kernel
theorem dX9_pack_77 : decode cX9_pack 77 = .ok (.bipush 100, 2) := by decide +kernel
theorem dX9_pack_79 : decode cX9_pack 79 = .ok (.iload_n 2, 1) := by decide +kernel
theorem dX9_pack_80 : decode cX9_pack 80 = .ok (.iadd, 1) := by decide +kernel
theorem dX9_pack_81 : decode cX9_pack 81 = .ok (.aload_n 0, 1) := by decide +kernel
theorem dX9_pack_82 : decode cX9_pack 82 = .ok (.getfield 16, 3) := by decide +kernel
theorem dX9_pack_85 : decode cX9_pack 85 = .ok (.bipush 100, 2) := by decide +kernel
theorem dX9_pack_87 : decode cX9_pack 87 = .ok (.iload 4, 2) := by decide +kernel
theorem dX9_pack_89 : decode cX9_pack 89 = .ok (.iadd, 1) := by decide +kernel
theorem dX9_pack_90 : decode cX9_pack 90 = .ok (.iaload, 1) := by decide +kernel
theorem dX9_pack_91 : decode cX9_pack 91 = .ok (.iastore, 1) := by decide +kernel
theorem dX9_pack_92 : decode cX9_pack 92 = .ok (.iinc 3 1, 3) := by decide +kernel
theorem dX9_pack_95 : decode cX9_pack 95 = .ok (.goto (-79), 3) := by decide +kernel
theorem dX9_pack_98 : decode cX9_pack 98 = .ok (.iinc 2 1, 3) := by decide +kernel
theorem dX9_pack_101 : decode cX9_pack 101 = .ok (.goto (-92), 3) := by decide +kernel
theorem dX9_pack_104 : decode cX9_pack 104 = .ok (.iconst 0, 1) := by decide +kernel
theorem dX9_pack_105 : decode cX9_pack 105 = .ok (.istore_n 2, 1) := by decide +kernel
theorem dX9_pack_106 : decode cX9_pack 106 = .ok (.iconst 0, 1) := by decide +kernel
theorem dX9_pack_107 : decode cX9_pack 107 = .ok (.istore_n 3, 1) := by decide +kernel
theorem dX9_pack_108 : decode cX9_pack 108 = .ok (.iload_n 3, 1) := by decide +kernel
theorem dX9_pack_109 : decode cX9_pack 109 = .ok (.iload_n 1, 1) := by decide +kernel
theorem dX9_pack_110 : decode cX9_pack 110 = .ok (.if_icmp .ge 93, 3) := by decide +kernel
theorem dX9_pack_113 : decode cX9_pack 113 = .ok (.aload_n 0, 1) := by decide +kernel
theorem dX9_pack_114 : decode cX9_pack 114 = .ok (.getfield 32, 3) := by decide +kernel
theorem dX9_pack_117 : decode cX9_pack 117 = .ok (.iload_n 3, 1) := by decide +kernel
theorem dX9_pack_118 : decode cX9_pack 118 = .ok (.aload_n 0, 1) := by decide +kernel
theorem dX9_pack_119 : decode cX9_pack 119 = .ok (.getfield 13, 3) := by decide +kernel
theorem dX9_pack_122 : decode cX9_pack 122 = .ok (.bipush 100, 2) := by decide +kernel
theorem dX9_pack_124 : decode cX9_pack 124 = .ok (.iload_n 3, 1) := by decide +kernel
theorem dX9_pack_125 : decode cX9_pack 125 = .ok (.iadd, 1) := by decide +kernel
theorem dX9_pack_126 : decode cX9_pack 126 = .ok (.iaload, 1) := by decide +kernel
theorem dX9_pack_127 : decode cX9_pack 127 = .ok (.ifCond .eq 40, 3) := by decide +kernel
theorem dX9_pack_130 : decode cX9_pack 130 = .ok (.aload_n 0, 1) := by decide +kernel
theorem dX9_pack_131 : decode cX9_pack 131 = .ok (.getfield 13, 3) := by decide +kernel
theorem dX9_pack_134 : decode cX9_pack 134 = .ok (.bipush 100, 2) := by decide +kernel
theorem dX9_pack_136 : decode cX9_pack 136 = .ok (.iload_n 3, 1) := by decide +kernel
theorem dX9_pack_137 : decode cX9_pack 137 = .ok (.iadd, 1) := by decide +kernel
theorem dX9_pack_138 : decode cX9_pack 138 = .ok (.iaload, 1) := by decide +kernel
theorem dX9_pack_139 : decode cX9_pack 139 = .ok (.bipush 9, 2) := by decide +kernel
theorem dX9_pack_141 : decode cX9_pack 141 = .ok (.if_icmp .ne 30, 3) := by decide +kernel
theorem dX9_pack_144 : decode cX9_pack 144 = .ok (.aload_n 0, 1) := by decide +kernel
theorem dX9_pack_145 : decode cX9_pack 145 = .ok (.aload_n 0, 1) := by decide +kernel
theorem dX9_pack_146 : decode cX9_pack 146 = .ok (.getfield 16, 3) := by decide +kernel
theorem dX9_pack_149 : decode cX9_pack 149 = .ok (.bipush 100, 2) := by decide +kernel
theorem dX9_pack_151 : decode cX9_pack 151 = .ok (.iload_n 3, 1) := by decide +kernel
theorem dX9_pack_152 : decode cX9_pack 152 = .ok (.iadd, 1) := by decide +kernel
theorem dX9_pack_153 : decode cX9_pack 153 = .ok (.iaload, 1) := by decide +kernel
theorem dX9_pack_154 : decode cX9_pack 154 = .ok (.invokevirtual 183, 3) := by decide +kernel
theorem dX9_pack_157 : decode cX9_pack 157 = .ok (.aload_n 0, 1) := by decide +kernel
theorem dX9_pack_158 : decode cX9_pack 158 = .ok (.iload_n 3, 1) := by decide +kernel
theorem dX9_pack_159 : decode cX9_pack 159 = .ok (.iconst 1, 1) := by decide +kernel
theorem dX9_pack_160 : decode cX9_pack 160 = .ok (.iadd, 1) := by decide +kernel
theorem dX9_pack_161 : decode cX9_pack 161 = .ok (.invokevirtual 183, 3) := by decide +kernel
theorem dX9_pack_164 : decode cX9_pack 164 = .ok (.if_icmp .ne 7, 3) := by decide +kernel
theorem dX9_pack_167 : decode cX9_pack 167 = .ok (.iconst 1, 1) := by decide +kernel
theorem dX9_pack_168 : decode cX9_pack 168 = .ok (.goto 4, 3) := by decide +kernel
theorem dX9_pack_171 : decode cX9_pack 171 = .ok (.iconst 0, 1) := by decide +kernel
theorem dX9_pack_172 : decode cX9_pack 172 = .ok (.bastore, 1) := by decide +kernel
theorem dX9_pack_173 : decode cX9_pack 173 = .ok (.aload_n 0, 1) := by decide +kernel
theorem dX9_pack_174 : decode cX9_pack 174 = .ok (.getfield 35, 3) := by decide +kernel
theorem dX9_pack_177 : decode cX9_pack 177 = .ok (.iload_n 3, 1) := by decide +kernel
theorem dX9_pack_178 : decode cX9_pack 178 = .ok (.iload_n 2, 1) := by decide +kernel
theorem dX9_pack_179 : decode cX9_pack 179 = .ok (.iastore, 1) := by decide +kernel
theorem dX9_pack_180 : decode cX9_pack 180 = .ok (.aload_n 0, 1) := by decide +kernel
theorem dX9_pack_181 : decode cX9_pack 181 = .ok (.getfield 32, 3) := by decide +kernel
theorem dX9_pack_184 : decode cX9_pack 184 = .ok (.iload_n 3, 1) := by decide +kernel
theorem dX9_pack_185 : decode cX9_pack 185 = .ok (.baload, 1) := by decide +kernel
theorem dX9_pack_186 : decode cX9_pack 186 = .ok (.ifCond .eq 7, 3) := by decide +kernel
theorem dX9_pack_189 : decode cX9_pack 189 = .ok (.iload_n 2, 1) := by decide +kernel
theorem dX9_pack_190 : decode cX9_pack 190 = .ok (.goto 6, 3) := by decide +kernel
theorem dX9_pack_193 : decode cX9_pack 193 = .ok (.iload_n 2, 1) := by decide +kernel
