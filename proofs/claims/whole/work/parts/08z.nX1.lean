theorem dX1_init_0 : decode cX1_init 0 = .ok (.aload_n 0, 1) := by decide +kernel
theorem dX1_init_1 : decode cX1_init 1 = .ok (.invokespecial 3, 3) := by decide +kernel
theorem dX1_init_4 : decode cX1_init 4 = .ok (.aload_n 0, 1) := by decide +kernel
theorem dX1_init_5 : decode cX1_init 5 = .ok (.bipush 24, 2) := by decide +kernel
theorem dX1_init_7 : decode cX1_init 7 = .ok (.newarray .boolean, 2) := by decide +kernel
theorem dX1_init_9 : decode cX1_init 9 = .ok (.putfield 9, 3) := by decide +kernel
theorem dX1_init_12 : decode cX1_init 12 = .ok (.aload_n 0, 1) := by decide +kernel
theorem dX1_init_13 : decode cX1_init 13 = .ok (.bipush 24, 2) := by decide +kernel
theorem dX1_init_15 : decode cX1_init 15 = .ok (.newarray .int, 2) := by decide +kernel
theorem dX1_init_17 : decode cX1_init 17 = .ok (.putfield 15, 3) := by decide +kernel
theorem dX1_init_20 : decode cX1_init 20 = .ok (.aload_n 0, 1) := by decide +kernel
theorem dX1_init_21 : decode cX1_init 21 = .ok (.sipush 192, 3) := by decide +kernel
theorem dX1_init_24 : decode cX1_init 24 = .ok (.newarray .int, 2) := by decide +kernel
theorem dX1_init_26 : decode cX1_init 26 = .ok (.putfield 19, 3) := by decide +kernel
theorem dX1_init_29 : decode cX1_init 29 = .ok (.aload_n 0, 1) := by decide +kernel
theorem dX1_init_30 : decode cX1_init 30 = .ok (.iconst 0, 1) := by decide +kernel
theorem dX1_init_31 : decode cX1_init 31 = .ok (.putfield 22, 3) := by decide +kernel
theorem dX1_init_34 : decode cX1_init 34 = .ok (.aload_n 0, 1) := by decide +kernel
theorem dX1_init_35 : decode cX1_init 35 = .ok (.bipush 8, 2) := by decide +kernel
theorem dX1_init_37 : decode cX1_init 37 = .ok (.newarray .int, 2) := by decide +kernel
theorem dX1_init_39 : decode cX1_init 39 = .ok (.putfield 26, 3) := by decide +kernel
theorem dX1_init_42 : decode cX1_init 42 = .ok (.aload_n 0, 1) := by decide +kernel
theorem dX1_init_43 : decode cX1_init 43 = .ok (.iconst 0, 1) := by decide +kernel
theorem dX1_init_44 : decode cX1_init 44 = .ok (.putfield 29, 3) := by decide +kernel
theorem dX1_init_47 : decode cX1_init 47 = .ok (.return_, 1) := by decide +kernel
set_option maxRecDepth 20000 in
theorem ggX1_fold_X1_begin : GoodIn wsX1_fold wsX1_begin := goodIn_r _ [8, 3, 9, 10, 11, 12, 13, 14, 15, 16, 17, 7, 18, 19, 20, 21, 22, 23, 24, 1, 25, 26, 27, 28, 100, 101, 102, 103, 104, 105] (by decide +kernel) (by decide +kernel)
set_option maxRecDepth 20000 in
theorem gX1_fold_X1_begin : GoodIn wsX1_fold (wsV RX1 33 RX1 yX1_begin wsX1_begin) := goodIn_app (goodIn_of _ (by decide +kernel)) ggX1_fold_X1_begin
set_option maxRecDepth 20000 in
theorem ggX1_fold_X1_follow : GoodIn wsX1_fold wsX1_follow := goodIn_r _ [32, 33, 34, 20, 9, 21, 22, 23, 24, 19, 10, 35, 36, 37, 38, 7, 39, 40, 41, 42, 43, 44, 45, 46, 47, 48, 49, 50, 51, 52, 53, 54, 55, 56, 57, 58, 59, 60, 61, 62, 63, 64, 65, 66, 67, 68, 69, 70, 71, 72, 73, 74, 75, 76, 77, 15, 16, 17, 18, 3, 1, 25, 26, 27, 28, 78, 79, 80, 81, 82, 83, 84, 85, 106, 107, 108, 109, 110, 100, 101, 102, 103, 104, 105] (by decide +kernel) (by decide +kernel)
set_option maxRecDepth 20000 in
theorem gX1_fold_X1_follow : GoodIn wsX1_fold (wsV RX1 41 RX1 yX1_follow wsX1_follow) := goodIn_app (goodIn_of _ (by decide +kernel)) ggX1_fold_X1_follow
set_option maxRecDepth 20000 in
theorem ggX1_fold_X1_rewriteAll : GoodIn wsX1_fold wsX1_rewriteAll := goodIn_r _ [89, 2, 90, 91, 92, 7, 93, 33, 3, 56, 35, 94, 95, 96, 74, 97, 76, 82, 98, 99, 48, 49, 50, 51, 57, 58, 59, 60, 34, 40, 41, 42, 43, 19, 36, 37, 38, 39, 44, 45, 46, 47, 20, 61, 62, 63, 64, 65, 66, 67, 68, 69, 70, 106, 107, 108, 109, 110, 100, 101, 102, 103, 104, 105] (by decide +kernel) (by decide +kernel)
set_option maxRecDepth 20000 in
theorem gX1_fold_X1_rewriteAll : GoodIn wsX1_fold (wsV RX1 45 RX1 yX1_rewriteAll wsX1_rewriteAll) := goodIn_app (goodIn_of _ (by decide +kernel)) ggX1_fold_X1_rewriteAll
theorem dX1_fold_0 : decode cX1_fold 0 = .ok (.aload_n 0, 1) := by decide +kernel
theorem dX1_fold_1 : decode cX1_fold 1 = .ok (.invokevirtual 33, 3) := by decide +kernel
theorem dX1_fold_4 : decode cX1_fold 4 = .ok (.iconst 0, 1) := by decide +kernel
theorem dX1_fold_5 : decode cX1_fold 5 = .ok (.istore_n 2, 1) := by decide +kernel
theorem dX1_fold_6 : decode cX1_fold 6 = .ok (.aload_n 0, 1) := by decide +kernel
theorem dX1_fold_7 : decode cX1_fold 7 = .ok (.getfield 29, 3) := by decide +kernel
theorem dX1_fold_10 : decode cX1_fold 10 = .ok (.ifCond .eq 52, 3) := by decide +kernel
theorem dX1_fold_13 : decode cX1_fold 13 = .ok (.iload_n 2, 1) := by decide +kernel
theorem dX1_fold_14 : decode cX1_fold 14 = .ok (.sipush 1000, 3) := by decide +kernel
theorem dX1_fold_17 : decode cX1_fold 17 = .ok (.if_icmp .ge 45, 3) := by decide +kernel
theorem dX1_fold_20 : decode cX1_fold 20 = .ok (.aload_n 0, 1) := by decide +kernel
theorem dX1_fold_21 : decode cX1_fold 21 = .ok (.iconst 0, 1) := by decide +kernel
theorem dX1_fold_22 : decode cX1_fold 22 = .ok (.putfield 29, 3) := by decide +kernel
theorem dX1_fold_25 : decode cX1_fold 25 = .ok (.iconst 0, 1) := by decide +kernel
theorem dX1_fold_26 : decode cX1_fold 26 = .ok (.istore_n 3, 1) := by decide +kernel
theorem dX1_fold_27 : decode cX1_fold 27 = .ok (.iload_n 3, 1) := by decide +kernel
theorem dX1_fold_28 : decode cX1_fold 28 = .ok (.aload_n 1, 1) := by decide +kernel
theorem dX1_fold_29 : decode cX1_fold 29 = .ok (.getfield 36, 3) := by decide +kernel
theorem dX1_fold_32 : decode cX1_fold 32 = .ok (.if_icmp .ge 24, 3) := by decide +kernel
theorem dX1_fold_35 : decode cX1_fold 35 = .ok (.aload_n 0, 1) := by decide +kernel
theorem dX1_fold_36 : decode cX1_fold 36 = .ok (.getfield 9, 3) := by decide +kernel
theorem dX1_fold_39 : decode cX1_fold 39 = .ok (.iload_n 3, 1) := by decide +kernel
theorem dX1_fold_40 : decode cX1_fold 40 = .ok (.baload, 1) := by decide +kernel
theorem dX1_fold_41 : decode cX1_fold 41 = .ok (.ifCond .eq 9, 3) := by decide +kernel
theorem dX1_fold_44 : decode cX1_fold 44 = .ok (.aload_n 0, 1) := by decide +kernel
theorem dX1_fold_45 : decode cX1_fold 45 = .ok (.aload_n 1, 1) := by decide +kernel
theorem dX1_fold_46 : decode cX1_fold 46 = .ok (.iload_n 3, 1) := by decide +kernel
theorem dX1_fold_47 : decode cX1_fold 47 = .ok (.invokevirtual 41, 3) := by decide +kernel
theorem dX1_fold_50 : decode cX1_fold 50 = .ok (.iinc 3 1, 3) := by decide +kernel
theorem dX1_fold_53 : decode cX1_fold 53 = .ok (.goto (-26), 3) := by decide +kernel
theorem dX1_fold_56 : decode cX1_fold 56 = .ok (.iinc 2 1, 3) := by decide +kernel
theorem dX1_fold_59 : decode cX1_fold 59 = .ok (.goto (-53), 3) := by decide +kernel
theorem dX1_fold_62 : decode cX1_fold 62 = .ok (.aload_n 0, 1) := by decide +kernel
theorem dX1_fold_63 : decode cX1_fold 63 = .ok (.aload_n 1, 1) := by decide +kernel
theorem dX1_fold_64 : decode cX1_fold 64 = .ok (.invokevirtual 45, 3) := by decide +kernel
theorem dX1_fold_67 : decode cX1_fold 67 = .ok (.ireturn, 1) := by decide +kernel
set_option maxRecDepth 20000 in
theorem ggX1_begin_J7_fill_53178 : GoodIn wsX1_begin wsJ7_fill_53178 := goodIn_r _ [7] (by decide +kernel) (by decide +kernel)
set_option maxRecDepth 20000 in
theorem gX1_begin_J7_fill_53178 : GoodIn wsX1_begin (va_wsS RX1 49 yJ7_fill_53178 wsJ7_fill_53178) := goodIn_app (goodIn_of _ (by decide +kernel)) ggX1_begin_J7_fill_53178
set_option maxRecDepth 20000 in
theorem ggX1_begin_X1_flowTo : GoodIn wsX1_begin wsX1_flowTo := goodIn_r _ [12, 1, 13, 3, 2, 14, 15, 16, 17, 18, 19, 20, 21, 22, 11, 23, 24, 25, 26, 27, 28, 29] (by decide +kernel) (by decide +kernel)
set_option maxRecDepth 20000 in
theorem gX1_begin_X1_flowTo : GoodIn wsX1_begin (wsV RX1 55 RX1 yX1_flowTo wsX1_flowTo) := goodIn_app (goodIn_of _ (by decide +kernel)) ggX1_begin_X1_flowTo
theorem dX1_begin_0 : decode cX1_begin 0 = .ok (.iconst 0, 1) := by decide +kernel
theorem dX1_begin_1 : decode cX1_begin 1 = .ok (.istore_n 1, 1) := by decide +kernel
theorem dX1_begin_2 : decode cX1_begin 2 = .ok (.iload_n 1, 1) := by decide +kernel
theorem dX1_begin_3 : decode cX1_begin 3 = .ok (.bipush 24, 2) := by decide +kernel
theorem dX1_begin_5 : decode cX1_begin 5 = .ok (.if_icmp .ge 16, 3) := by decide +kernel
theorem dX1_begin_8 : decode cX1_begin 8 = .ok (.aload_n 0, 1) := by decide +kernel
theorem dX1_begin_9 : decode cX1_begin 9 = .ok (.getfield 9, 3) := by decide +kernel
theorem dX1_begin_12 : decode cX1_begin 12 = .ok (.iload_n 1, 1) := by decide +kernel
theorem dX1_begin_13 : decode cX1_begin 13 = .ok (.iconst 0, 1) := by decide +kernel
theorem dX1_begin_14 : decode cX1_begin 14 = .ok (.bastore, 1) := by decide +kernel
theorem dX1_begin_15 : decode cX1_begin 15 = .ok (.iinc 1 1, 3) := by decide +kernel
theorem dX1_begin_18 : decode cX1_begin 18 = .ok (.goto (-16), 3) := by decide +kernel
theorem dX1_begin_21 : decode cX1_begin 21 = .ok (.aload_n 0, 1) := by decide +kernel
theorem dX1_begin_22 : decode cX1_begin 22 = .ok (.getfield 26, 3) := by decide +kernel
theorem dX1_begin_25 : decode cX1_begin 25 = .ok (.iconst 0, 1) := by decide +kernel
theorem dX1_begin_26 : decode cX1_begin 26 = .ok (.invokestatic 49, 3) := by decide +kernel
theorem dX1_begin_29 : decode cX1_begin 29 = .ok (.aload_n 0, 1) := by decide +kernel
theorem dX1_begin_30 : decode cX1_begin 30 = .ok (.sipush 252, 3) := by decide +kernel
theorem dX1_begin_33 : decode cX1_begin 33 = .ok (.putfield 22, 3) := by decide +kernel
theorem dX1_begin_36 : decode cX1_begin 36 = .ok (.aload_n 0, 1) := by decide +kernel
theorem dX1_begin_37 : decode cX1_begin 37 = .ok (.iconst 0, 1) := by decide +kernel
theorem dX1_begin_38 : decode cX1_begin 38 = .ok (.invokevirtual 55, 3) := by decide +kernel
theorem dX1_begin_41 : decode cX1_begin 41 = .ok (.return_, 1) := by decide +kernel
set_option maxRecDepth 20000 in
theorem ggX1_follow_X1_isZero : GoodIn wsX1_follow wsX1_isZero := goodIn_r _ [16, 17, 18, 19, 15, 20, 9, 21, 22, 23, 24, 3, 78, 79, 80, 81, 82, 83] (by decide +kernel) (by decide +kernel)
set_option maxRecDepth 20000 in
theorem gX1_follow_X1_isZero : GoodIn wsX1_follow (wsV RX1 65 RX1 yX1_isZero wsX1_isZero) := goodIn_app (goodIn_of _ (by decide +kernel)) ggX1_follow_X1_isZero
set_option maxRecDepth 20000 in
theorem ggX1_follow_X2_writesD : GoodIn wsX1_follow wsX2_writesD := goodIn_r _ [28] (by decide +kernel) (by decide +kernel)
set_option maxRecDepth 20000 in
theorem gX1_follow_X2_writesD : GoodIn wsX1_follow (va_wsS RX1 75 yX2_writesD wsX2_writesD) := goodIn_app (goodIn_of _ (by decide +kernel)) ggX1_follow_X2_writesD
set_option maxRecDepth 20000 in
theorem ggX1_follow_X1_write : GoodIn wsX1_follow wsX1_write := goodIn_r _ [32, 33, 10, 4, 34, 35, 36, 15, 37, 1, 11, 2, 17, 18, 19, 20, 9, 12, 13, 14, 16, 21, 22, 23, 24, 3, 38, 39, 27, 40, 41, 42, 43, 44, 45, 46, 47, 73, 74, 75, 76, 77, 78, 79, 80, 81, 82, 83] (by decide +kernel) (by decide +kernel)
set_option maxRecDepth 20000 in
theorem gX1_follow_X1_write : GoodIn wsX1_follow (wsV RX1 81 RX1 yX1_write wsX1_write) := goodIn_app (goodIn_of _ (by decide +kernel)) ggX1_follow_X1_write
set_option maxRecDepth 20000 in
theorem ggX1_follow_X1_knows : GoodIn wsX1_follow wsX1_knows := goodIn_r _ [20, 9, 78, 79, 80, 81, 82, 83] (by decide +kernel) (by decide +kernel)
set_option maxRecDepth 20000 in
theorem gX1_follow_X1_knows : GoodIn wsX1_follow (wsV RX1 87 RX1 yX1_knows wsX1_knows) := goodIn_app (goodIn_of _ (by decide +kernel)) ggX1_follow_X1_knows
set_option maxRecDepth 20000 in
theorem ggX1_follow_X6_follower : GoodIn wsX1_follow wsX6_follower := goodIn_r _ [52, 53, 54, 73, 74, 75, 76, 77] (by decide +kernel) (by decide +kernel)
set_option maxRecDepth 20000 in
theorem gX1_follow_X6_follower : GoodIn wsX1_follow (wsV RX1 90 RX6 yX6_follower wsX6_follower) := goodIn_app (goodIn_of _ (by decide +kernel)) ggX1_follow_X6_follower
set_option maxRecDepth 20000 in
theorem ggX1_follow_X1_flowTo : GoodIn wsX1_follow wsX1_flowTo := goodIn_r _ [58, 59, 9, 10, 4, 3, 5, 6, 7, 8, 60, 61, 62, 63, 15, 64, 78, 79, 80, 81, 82, 83] (by decide +kernel) (by decide +kernel)
set_option maxRecDepth 20000 in
theorem gX1_follow_X1_flowTo : GoodIn wsX1_follow (wsV RX1 55 RX1 yX1_flowTo wsX1_flowTo) := goodIn_app (goodIn_of _ (by decide +kernel)) ggX1_follow_X1_flowTo
set_option maxRecDepth 20000 in
theorem ggX1_follow_X6_target : GoodIn wsX1_follow wsX6_target := goodIn_r _ [68, 53, 69, 54, 70, 71, 27, 72, 73, 74, 75, 76, 77] (by decide +kernel) (by decide +kernel)
set_option maxRecDepth 20000 in
theorem gX1_follow_X6_target : GoodIn wsX1_follow (wsV RX1 94 RX6 yX6_target wsX6_target) := goodIn_app (goodIn_of _ (by decide +kernel)) ggX1_follow_X6_target
theorem dX1_follow_0 : decode cX1_follow 0 = .ok (.aload_n 1, 1) := by decide +kernel
theorem dX1_follow_1 : decode cX1_follow 1 = .ok (.getfield 59, 3) := by decide +kernel
theorem dX1_follow_4 : decode cX1_follow 4 = .ok (.iload_n 2, 1) := by decide +kernel
theorem dX1_follow_5 : decode cX1_follow 5 = .ok (.iaload, 1) := by decide +kernel
theorem dX1_follow_6 : decode cX1_follow 6 = .ok (.istore_n 3, 1) := by decide +kernel
theorem dX1_follow_7 : decode cX1_follow 7 = .ok (.iload_n 3, 1) := by decide +kernel
theorem dX1_follow_8 : decode cX1_follow 8 = .ok (.bipush 6, 2) := by decide +kernel
theorem dX1_follow_10 : decode cX1_follow 10 = .ok (.if_icmp .ne 18, 3) := by decide +kernel
theorem dX1_follow_13 : decode cX1_follow 13 = .ok (.aload_n 0, 1) := by decide +kernel
theorem dX1_follow_14 : decode cX1_follow 14 = .ok (.iload_n 2, 1) := by decide +kernel
theorem dX1_follow_15 : decode cX1_follow 15 = .ok (.aload_n 1, 1) := by decide +kernel
theorem dX1_follow_16 : decode cX1_follow 16 = .ok (.getfield 62, 3) := by decide +kernel
theorem dX1_follow_19 : decode cX1_follow 19 = .ok (.iload_n 2, 1) := by decide +kernel
theorem dX1_follow_20 : decode cX1_follow 20 = .ok (.iaload, 1) := by decide +kernel
theorem dX1_follow_21 : decode cX1_follow 21 = .ok (.invokevirtual 65, 3) := by decide +kernel
theorem dX1_follow_24 : decode cX1_follow 24 = .ok (.ifCond .eq 4, 3) := by decide +kernel
theorem dX1_follow_27 : decode cX1_follow 27 = .ok (.return_, 1) := by decide +kernel
theorem dX1_follow_28 : decode cX1_follow 28 = .ok (.aload_n 0, 1) := by decide +kernel
theorem dX1_follow_29 : decode cX1_follow 29 = .ok (.getfield 19, 3) := by decide +kernel
theorem dX1_follow_32 : decode cX1_follow 32 = .ok (.iload_n 2, 1) := by decide +kernel
theorem dX1_follow_33 : decode cX1_follow 33 = .ok (.bipush 8, 2) := by decide +kernel
theorem dX1_follow_35 : decode cX1_follow 35 = .ok (.imul, 1) := by decide +kernel
theorem dX1_follow_36 : decode cX1_follow 36 = .ok (.aload_n 0, 1) := by decide +kernel
theorem dX1_follow_37 : decode cX1_follow 37 = .ok (.getfield 26, 3) := by decide +kernel
theorem dX1_follow_40 : decode cX1_follow 40 = .ok (.iconst 0, 1) := by decide +kernel
theorem dX1_follow_41 : decode cX1_follow 41 = .ok (.bipush 8, 2) := by decide +kernel
theorem dX1_follow_43 : decode cX1_follow 43 = .ok (.invokestatic 69, 3) := by decide +kernel
theorem dX1_follow_46 : decode cX1_follow 46 = .ok (.aload_n 0, 1) := by decide +kernel
theorem dX1_follow_47 : decode cX1_follow 47 = .ok (.aload_n 0, 1) := by decide +kernel
theorem dX1_follow_48 : decode cX1_follow 48 = .ok (.getfield 15, 3) := by decide +kernel
theorem dX1_follow_51 : decode cX1_follow 51 = .ok (.iload_n 2, 1) := by decide +kernel
theorem dX1_follow_52 : decode cX1_follow 52 = .ok (.iaload, 1) := by decide +kernel
theorem dX1_follow_53 : decode cX1_follow 53 = .ok (.putfield 22, 3) := by decide +kernel
theorem dX1_follow_56 : decode cX1_follow 56 = .ok (.iload_n 3, 1) := by decide +kernel
theorem dX1_follow_57 : decode cX1_follow 57 = .ok (.invokestatic 75, 3) := by decide +kernel
theorem dX1_follow_60 : decode cX1_follow 60 = .ok (.ifCond .eq 9, 3) := by decide +kernel
theorem dX1_follow_63 : decode cX1_follow 63 = .ok (.aload_n 0, 1) := by decide +kernel
theorem dX1_follow_64 : decode cX1_follow 64 = .ok (.aload_n 1, 1) := by decide +kernel
theorem dX1_follow_65 : decode cX1_follow 65 = .ok (.iload_n 2, 1) := by decide +kernel
theorem dX1_follow_66 : decode cX1_follow 66 = .ok (.invokevirtual 81, 3) := by decide +kernel
theorem dX1_follow_69 : decode cX1_follow 69 = .ok (.iload_n 3, 1) := by decide +kernel
theorem dX1_follow_70 : decode cX1_follow 70 = .ok (.bipush 10, 2) := by decide +kernel
theorem dX1_follow_72 : decode cX1_follow 72 = .ok (.if_icmp .ne 21, 3) := by decide +kernel
theorem dX1_follow_75 : decode cX1_follow 75 = .ok (.aload_n 0, 1) := by decide +kernel
theorem dX1_follow_76 : decode cX1_follow 76 = .ok (.iload_n 2, 1) := by decide +kernel
theorem dX1_follow_77 : decode cX1_follow 77 = .ok (.aload_n 1, 1) := by decide +kernel
theorem dX1_follow_78 : decode cX1_follow 78 = .ok (.getfield 84, 3) := by decide +kernel
theorem dX1_follow_81 : decode cX1_follow 81 = .ok (.iload_n 2, 1) := by decide +kernel
theorem dX1_follow_82 : decode cX1_follow 82 = .ok (.iaload, 1) := by decide +kernel
theorem dX1_follow_83 : decode cX1_follow 83 = .ok (.invokevirtual 87, 3) := by decide +kernel
theorem dX1_follow_86 : decode cX1_follow 86 = .ok (.ifCond .eq 7, 3) := by decide +kernel
theorem dX1_follow_89 : decode cX1_follow 89 = .ok (.iconst 1, 1) := by decide +kernel
theorem dX1_follow_90 : decode cX1_follow 90 = .ok (.goto 4, 3) := by decide +kernel
theorem dX1_follow_93 : decode cX1_follow 93 = .ok (.iconst 0, 1) := by decide +kernel
theorem dX1_follow_94 : decode cX1_follow 94 = .ok (.istore 4, 2) := by decide +kernel
theorem dX1_follow_96 : decode cX1_follow 96 = .ok (.iload 4, 2) := by decide +kernel
theorem dX1_follow_98 : decode cX1_follow 98 = .ok (.ifCond .eq 17, 3) := by decide +kernel
theorem dX1_follow_101 : decode cX1_follow 101 = .ok (.aload_n 0, 1) := by decide +kernel
theorem dX1_follow_102 : decode cX1_follow 102 = .ok (.iload_n 2, 1) := by decide +kernel
theorem dX1_follow_103 : decode cX1_follow 103 = .ok (.aload_n 1, 1) := by decide +kernel
theorem dX1_follow_104 : decode cX1_follow 104 = .ok (.getfield 84, 3) := by decide +kernel
theorem dX1_follow_107 : decode cX1_follow 107 = .ok (.iload_n 2, 1) := by decide +kernel
theorem dX1_follow_108 : decode cX1_follow 108 = .ok (.iaload, 1) := by decide +kernel
theorem dX1_follow_109 : decode cX1_follow 109 = .ok (.invokevirtual 65, 3) := by decide +kernel
theorem dX1_follow_112 : decode cX1_follow 112 = .ok (.ifCond .ne 12, 3) := by decide +kernel
theorem dX1_follow_115 : decode cX1_follow 115 = .ok (.aload_n 0, 1) := by decide +kernel
theorem dX1_follow_116 : decode cX1_follow 116 = .ok (.aload_n 1, 1) := by decide +kernel
theorem dX1_follow_117 : decode cX1_follow 117 = .ok (.iload_n 2, 1) := by decide +kernel
theorem dX1_follow_118 : decode cX1_follow 118 = .ok (.invokevirtual 90, 3) := by decide +kernel
theorem dX1_follow_121 : decode cX1_follow 121 = .ok (.invokevirtual 55, 3) := by decide +kernel
theorem dX1_follow_124 : decode cX1_follow 124 = .ok (.iload 4, 2) := by decide +kernel
theorem dX1_follow_126 : decode cX1_follow 126 = .ok (.ifCond .eq 17, 3) := by decide +kernel
theorem dX1_follow_129 : decode cX1_follow 129 = .ok (.aload_n 0, 1) := by decide +kernel
theorem dX1_follow_130 : decode cX1_follow 130 = .ok (.iload_n 2, 1) := by decide +kernel
theorem dX1_follow_131 : decode cX1_follow 131 = .ok (.aload_n 1, 1) := by decide +kernel
theorem dX1_follow_132 : decode cX1_follow 132 = .ok (.getfield 84, 3) := by decide +kernel
theorem dX1_follow_135 : decode cX1_follow 135 = .ok (.iload_n 2, 1) := by decide +kernel
theorem dX1_follow_136 : decode cX1_follow 136 = .ok (.iaload, 1) := by decide +kernel
theorem dX1_follow_137 : decode cX1_follow 137 = .ok (.invokevirtual 65, 3) := by decide +kernel
theorem dX1_follow_140 : decode cX1_follow 140 = .ok (.ifCond .eq 12, 3) := by decide +kernel
theorem dX1_follow_143 : decode cX1_follow 143 = .ok (.aload_n 0, 1) := by decide +kernel
theorem dX1_follow_144 : decode cX1_follow 144 = .ok (.aload_n 1, 1) := by decide +kernel
theorem dX1_follow_145 : decode cX1_follow 145 = .ok (.iload_n 2, 1) := by decide +kernel
theorem dX1_follow_146 : decode cX1_follow 146 = .ok (.invokevirtual 94, 3) := by decide +kernel
theorem dX1_follow_149 : decode cX1_follow 149 = .ok (.invokevirtual 55, 3) := by decide +kernel
theorem dX1_follow_152 : decode cX1_follow 152 = .ok (.return_, 1) := by decide +kernel
set_option maxRecDepth 20000 in
theorem ggX1_write_X1_givesNumber : GoodIn wsX1_write wsX1_givesNumber := goodIn_r _ [8, 9, 10, 11, 12, 13, 14, 7, 15, 16, 17, 18, 19, 20, 21, 22, 23, 24, 25, 26, 27, 28, 29, 37, 38, 39, 40, 41, 42, 43, 44, 45, 46, 47] (by decide +kernel) (by decide +kernel)
set_option maxRecDepth 20000 in
theorem gX1_write_X1_givesNumber : GoodIn wsX1_write (wsV RX1 100 RX1 yX1_givesNumber wsX1_givesNumber) := goodIn_app (goodIn_of _ (by decide +kernel)) ggX1_write_X1_givesNumber
set_option maxRecDepth 20000 in
theorem ggX1_write_X1_givenNumber : GoodIn wsX1_write wsX1_givenNumber := goodIn_r _ [33, 9, 10, 11, 21, 22, 23, 7, 24, 25, 34, 35, 28, 36, 37, 38, 39, 40, 41, 42, 43, 44, 45, 46, 47] (by decide +kernel) (by decide +kernel)
set_option maxRecDepth 20000 in
theorem gX1_write_X1_givenNumber : GoodIn wsX1_write (wsV RX1 104 RX1 yX1_givenNumber wsX1_givenNumber) := goodIn_app (goodIn_of _ (by decide +kernel)) ggX1_write_X1_givenNumber
theorem dX1_write_0 : decode cX1_write 0 = .ok (.aload_n 1, 1) := by decide +kernel
theorem dX1_write_1 : decode cX1_write 1 = .ok (.getfield 97, 3) := by decide +kernel
theorem dX1_write_4 : decode cX1_write 4 = .ok (.iload_n 2, 1) := by decide +kernel
theorem dX1_write_5 : decode cX1_write 5 = .ok (.iaload, 1) := by decide +kernel
theorem dX1_write_6 : decode cX1_write 6 = .ok (.istore_n 3, 1) := by decide +kernel
theorem dX1_write_7 : decode cX1_write 7 = .ok (.aload_n 0, 1) := by decide +kernel
theorem dX1_write_8 : decode cX1_write 8 = .ok (.aload_n 1, 1) := by decide +kernel
theorem dX1_write_9 : decode cX1_write 9 = .ok (.iload_n 2, 1) := by decide +kernel
theorem dX1_write_10 : decode cX1_write 10 = .ok (.invokevirtual 100, 3) := by decide +kernel
theorem dX1_write_13 : decode cX1_write 13 = .ok (.ifCond .eq 30, 3) := by decide +kernel
theorem dX1_write_16 : decode cX1_write 16 = .ok (.aload_n 0, 1) := by decide +kernel
theorem dX1_write_17 : decode cX1_write 17 = .ok (.dup, 1) := by decide +kernel
theorem dX1_write_18 : decode cX1_write 18 = .ok (.getfield 22, 3) := by decide +kernel
theorem dX1_write_21 : decode cX1_write 21 = .ok (.iconst 1, 1) := by decide +kernel
theorem dX1_write_22 : decode cX1_write 22 = .ok (.iload_n 3, 1) := by decide +kernel
theorem dX1_write_23 : decode cX1_write 23 = .ok (.ishl, 1) := by decide +kernel
theorem dX1_write_24 : decode cX1_write 24 = .ok (.ior, 1) := by decide +kernel
theorem dX1_write_25 : decode cX1_write 25 = .ok (.putfield 22, 3) := by decide +kernel
theorem dX1_write_28 : decode cX1_write 28 = .ok (.aload_n 0, 1) := by decide +kernel
theorem dX1_write_29 : decode cX1_write 29 = .ok (.getfield 26, 3) := by decide +kernel
theorem dX1_write_32 : decode cX1_write 32 = .ok (.iload_n 3, 1) := by decide +kernel
theorem dX1_write_33 : decode cX1_write 33 = .ok (.aload_n 0, 1) := by decide +kernel
theorem dX1_write_34 : decode cX1_write 34 = .ok (.aload_n 1, 1) := by decide +kernel
theorem dX1_write_35 : decode cX1_write 35 = .ok (.iload_n 2, 1) := by decide +kernel
theorem dX1_write_36 : decode cX1_write 36 = .ok (.invokevirtual 104, 3) := by decide +kernel
theorem dX1_write_39 : decode cX1_write 39 = .ok (.iastore, 1) := by decide +kernel
theorem dX1_write_40 : decode cX1_write 40 = .ok (.goto 17, 3) := by decide +kernel
theorem dX1_write_43 : decode cX1_write 43 = .ok (.aload_n 0, 1) := by decide +kernel
theorem dX1_write_44 : decode cX1_write 44 = .ok (.dup, 1) := by decide +kernel
theorem dX1_write_45 : decode cX1_write 45 = .ok (.getfield 22, 3) := by decide +kernel
theorem dX1_write_48 : decode cX1_write 48 = .ok (.iconst 1, 1) := by decide +kernel
theorem dX1_write_49 : decode cX1_write 49 = .ok (.iload_n 3, 1) := by decide +kernel
theorem dX1_write_50 : decode cX1_write 50 = .ok (.ishl, 1) := by decide +kernel
theorem dX1_write_51 : decode cX1_write 51 = .ok (.iconst (-1), 1) := by decide +kernel
theorem dX1_write_52 : decode cX1_write 52 = .ok (.ixor, 1) := by decide +kernel
theorem dX1_write_53 : decode cX1_write 53 = .ok (.iand, 1) := by decide +kernel
theorem dX1_write_54 : decode cX1_write 54 = .ok (.putfield 22, 3) := by decide +kernel
theorem dX1_write_57 : decode cX1_write 57 = .ok (.return_, 1) := by decide +kernel
set_option maxRecDepth 20000 in
theorem ggX1_flowTo_X1_sameNumbers : GoodIn wsX1_flowTo wsX1_sameNumbers := goodIn_r _ [15, 5, 4, 16, 17, 18, 19, 20, 21] (by decide +kernel) (by decide +kernel)
set_option maxRecDepth 20000 in
theorem gX1_flowTo_X1_sameNumbers : GoodIn wsX1_flowTo (wsV RX1 108 RX1 yX1_sameNumbers wsX1_sameNumbers) := goodIn_app (goodIn_of _ (by decide +kernel)) ggX1_flowTo_X1_sameNumbers
theorem dX1_flowTo_0 : decode cX1_flowTo 0 = .ok (.iload_n 1, 1) := by decide +kernel
theorem dX1_flowTo_1 : decode cX1_flowTo 1 = .ok (.iconst (-1), 1) := by decide +kernel
theorem dX1_flowTo_2 : decode cX1_flowTo 2 = .ok (.if_icmp .ne 4, 3) := by decide +kernel
theorem dX1_flowTo_5 : decode cX1_flowTo 5 = .ok (.return_, 1) := by decide +kernel
theorem dX1_flowTo_6 : decode cX1_flowTo 6 = .ok (.aload_n 0, 1) := by decide +kernel
theorem dX1_flowTo_7 : decode cX1_flowTo 7 = .ok (.getfield 9, 3) := by decide +kernel
theorem dX1_flowTo_10 : decode cX1_flowTo 10 = .ok (.iload_n 1, 1) := by decide +kernel
theorem dX1_flowTo_11 : decode cX1_flowTo 11 = .ok (.baload, 1) := by decide +kernel
theorem dX1_flowTo_12 : decode cX1_flowTo 12 = .ok (.ifCond .ne 44, 3) := by decide +kernel
theorem dX1_flowTo_15 : decode cX1_flowTo 15 = .ok (.aload_n 0, 1) := by decide +kernel
theorem dX1_flowTo_16 : decode cX1_flowTo 16 = .ok (.getfield 9, 3) := by decide +kernel
theorem dX1_flowTo_19 : decode cX1_flowTo 19 = .ok (.iload_n 1, 1) := by decide +kernel
theorem dX1_flowTo_20 : decode cX1_flowTo 20 = .ok (.iconst 1, 1) := by decide +kernel
theorem dX1_flowTo_21 : decode cX1_flowTo 21 = .ok (.bastore, 1) := by decide +kernel
theorem dX1_flowTo_22 : decode cX1_flowTo 22 = .ok (.aload_n 0, 1) := by decide +kernel
theorem dX1_flowTo_23 : decode cX1_flowTo 23 = .ok (.getfield 15, 3) := by decide +kernel
theorem dX1_flowTo_26 : decode cX1_flowTo 26 = .ok (.iload_n 1, 1) := by decide +kernel
theorem dX1_flowTo_27 : decode cX1_flowTo 27 = .ok (.aload_n 0, 1) := by decide +kernel
theorem dX1_flowTo_28 : decode cX1_flowTo 28 = .ok (.getfield 22, 3) := by decide +kernel
theorem dX1_flowTo_31 : decode cX1_flowTo 31 = .ok (.iastore, 1) := by decide +kernel
theorem dX1_flowTo_32 : decode cX1_flowTo 32 = .ok (.aload_n 0, 1) := by decide +kernel
theorem dX1_flowTo_33 : decode cX1_flowTo 33 = .ok (.getfield 26, 3) := by decide +kernel
theorem dX1_flowTo_36 : decode cX1_flowTo 36 = .ok (.iconst 0, 1) := by decide +kernel
theorem dX1_flowTo_37 : decode cX1_flowTo 37 = .ok (.aload_n 0, 1) := by decide +kernel
theorem dX1_flowTo_38 : decode cX1_flowTo 38 = .ok (.getfield 19, 3) := by decide +kernel
theorem dX1_flowTo_41 : decode cX1_flowTo 41 = .ok (.iload_n 1, 1) := by decide +kernel
theorem dX1_flowTo_42 : decode cX1_flowTo 42 = .ok (.bipush 8, 2) := by decide +kernel
theorem dX1_flowTo_44 : decode cX1_flowTo 44 = .ok (.imul, 1) := by decide +kernel
theorem dX1_flowTo_45 : decode cX1_flowTo 45 = .ok (.bipush 8, 2) := by decide +kernel
theorem dX1_flowTo_47 : decode cX1_flowTo 47 = .ok (.invokestatic 69, 3) := by decide +kernel
theorem dX1_flowTo_50 : decode cX1_flowTo 50 = .ok (.aload_n 0, 1) := by decide +kernel
theorem dX1_flowTo_51 : decode cX1_flowTo 51 = .ok (.iconst 1, 1) := by decide +kernel
theorem dX1_flowTo_52 : decode cX1_flowTo 52 = .ok (.putfield 29, 3) := by decide +kernel
theorem dX1_flowTo_55 : decode cX1_flowTo 55 = .ok (.return_, 1) := by decide +kernel
theorem dX1_flowTo_56 : decode cX1_flowTo 56 = .ok (.aload_n 0, 1) := by decide +kernel
theorem dX1_flowTo_57 : decode cX1_flowTo 57 = .ok (.getfield 15, 3) := by decide +kernel
theorem dX1_flowTo_60 : decode cX1_flowTo 60 = .ok (.iload_n 1, 1) := by decide +kernel
theorem dX1_flowTo_61 : decode cX1_flowTo 61 = .ok (.iaload, 1) := by decide +kernel
theorem dX1_flowTo_62 : decode cX1_flowTo 62 = .ok (.aload_n 0, 1) := by decide +kernel
theorem dX1_flowTo_63 : decode cX1_flowTo 63 = .ok (.getfield 22, 3) := by decide +kernel
theorem dX1_flowTo_66 : decode cX1_flowTo 66 = .ok (.iand, 1) := by decide +kernel
theorem dX1_flowTo_67 : decode cX1_flowTo 67 = .ok (.aload_n 0, 1) := by decide +kernel
theorem dX1_flowTo_68 : decode cX1_flowTo 68 = .ok (.iload_n 1, 1) := by decide +kernel
theorem dX1_flowTo_69 : decode cX1_flowTo 69 = .ok (.invokevirtual 108, 3) := by decide +kernel
theorem dX1_flowTo_72 : decode cX1_flowTo 72 = .ok (.iand, 1) := by decide +kernel
theorem dX1_flowTo_73 : decode cX1_flowTo 73 = .ok (.istore_n 2, 1) := by decide +kernel
theorem dX1_flowTo_74 : decode cX1_flowTo 74 = .ok (.aload_n 0, 1) := by decide +kernel
theorem dX1_flowTo_75 : decode cX1_flowTo 75 = .ok (.aload_n 0, 1) := by decide +kernel
theorem dX1_flowTo_76 : decode cX1_flowTo 76 = .ok (.getfield 29, 3) := by decide +kernel
theorem dX1_flowTo_79 : decode cX1_flowTo 79 = .ok (.ifCond .ne 13, 3) := by decide +kernel
theorem dX1_flowTo_82 : decode cX1_flowTo 82 = .ok (.iload_n 2, 1) := by decide +kernel
theorem dX1_flowTo_83 : decode cX1_flowTo 83 = .ok (.aload_n 0, 1) := by decide +kernel
theorem dX1_flowTo_84 : decode cX1_flowTo 84 = .ok (.getfield 15, 3) := by decide +kernel
theorem dX1_flowTo_87 : decode cX1_flowTo 87 = .ok (.iload_n 1, 1) := by decide +kernel
theorem dX1_flowTo_88 : decode cX1_flowTo 88 = .ok (.iaload, 1) := by decide +kernel
theorem dX1_flowTo_89 : decode cX1_flowTo 89 = .ok (.if_icmp .eq 7, 3) := by decide +kernel
theorem dX1_flowTo_92 : decode cX1_flowTo 92 = .ok (.iconst 1, 1) := by decide +kernel
theorem dX1_flowTo_93 : decode cX1_flowTo 93 = .ok (.goto 4, 3) := by decide +kernel
theorem dX1_flowTo_96 : decode cX1_flowTo 96 = .ok (.iconst 0, 1) := by decide +kernel
theorem dX1_flowTo_97 : decode cX1_flowTo 97 = .ok (.putfield 29, 3) := by decide +kernel
theorem dX1_flowTo_100 : decode cX1_flowTo 100 = .ok (.aload_n 0, 1) := by decide +kernel
theorem dX1_flowTo_101 : decode cX1_flowTo 101 = .ok (.getfield 15, 3) := by decide +kernel
theorem dX1_flowTo_104 : decode cX1_flowTo 104 = .ok (.iload_n 1, 1) := by decide +kernel
theorem dX1_flowTo_105 : decode cX1_flowTo 105 = .ok (.iload_n 2, 1) := by decide +kernel
theorem dX1_flowTo_106 : decode cX1_flowTo 106 = .ok (.iastore, 1) := by decide +kernel
theorem dX1_flowTo_107 : decode cX1_flowTo 107 = .ok (.return_, 1) := by decide +kernel
theorem dX1_sameNumbers_0 : decode cX1_sameNumbers 0 = .ok (.iconst 0, 1) := by decide +kernel
theorem dX1_sameNumbers_1 : decode cX1_sameNumbers 1 = .ok (.istore_n 2, 1) := by decide +kernel
theorem dX1_sameNumbers_2 : decode cX1_sameNumbers 2 = .ok (.iconst 0, 1) := by decide +kernel
theorem dX1_sameNumbers_3 : decode cX1_sameNumbers 3 = .ok (.istore_n 3, 1) := by decide +kernel
theorem dX1_sameNumbers_4 : decode cX1_sameNumbers 4 = .ok (.iload_n 3, 1) := by decide +kernel
theorem dX1_sameNumbers_5 : decode cX1_sameNumbers 5 = .ok (.bipush 8, 2) := by decide +kernel
theorem dX1_sameNumbers_7 : decode cX1_sameNumbers 7 = .ok (.if_icmp .ge 35, 3) := by decide +kernel
theorem dX1_sameNumbers_10 : decode cX1_sameNumbers 10 = .ok (.aload_n 0, 1) := by decide +kernel
theorem dX1_sameNumbers_11 : decode cX1_sameNumbers 11 = .ok (.getfield 19, 3) := by decide +kernel
theorem dX1_sameNumbers_14 : decode cX1_sameNumbers 14 = .ok (.iload_n 1, 1) := by decide +kernel
theorem dX1_sameNumbers_15 : decode cX1_sameNumbers 15 = .ok (.bipush 8, 2) := by decide +kernel
theorem dX1_sameNumbers_17 : decode cX1_sameNumbers 17 = .ok (.imul, 1) := by decide +kernel
theorem dX1_sameNumbers_18 : decode cX1_sameNumbers 18 = .ok (.iload_n 3, 1) := by decide +kernel
theorem dX1_sameNumbers_19 : decode cX1_sameNumbers 19 = .ok (.iadd, 1) := by decide +kernel
theorem dX1_sameNumbers_20 : decode cX1_sameNumbers 20 = .ok (.iaload, 1) := by decide +kernel
theorem dX1_sameNumbers_21 : decode cX1_sameNumbers 21 = .ok (.aload_n 0, 1) := by decide +kernel
theorem dX1_sameNumbers_22 : decode cX1_sameNumbers 22 = .ok (.getfield 26, 3) := by decide +kernel
theorem dX1_sameNumbers_25 : decode cX1_sameNumbers 25 = .ok (.iload_n 3, 1) := by decide +kernel
theorem dX1_sameNumbers_26 : decode cX1_sameNumbers 26 = .ok (.iaload, 1) := by decide +kernel
theorem dX1_sameNumbers_27 : decode cX1_sameNumbers 27 = .ok (.if_icmp .ne 9, 3) := by decide +kernel
theorem dX1_sameNumbers_30 : decode cX1_sameNumbers 30 = .ok (.iload_n 2, 1) := by decide +kernel
theorem dX1_sameNumbers_31 : decode cX1_sameNumbers 31 = .ok (.iconst 1, 1) := by decide +kernel
theorem dX1_sameNumbers_32 : decode cX1_sameNumbers 32 = .ok (.iload_n 3, 1) := by decide +kernel
theorem dX1_sameNumbers_33 : decode cX1_sameNumbers 33 = .ok (.ishl, 1) := by decide +kernel
theorem dX1_sameNumbers_34 : decode cX1_sameNumbers 34 = .ok (.ior, 1) := by decide +kernel
theorem dX1_sameNumbers_35 : decode cX1_sameNumbers 35 = .ok (.istore_n 2, 1) := by decide +kernel
theorem dX1_sameNumbers_36 : decode cX1_sameNumbers 36 = .ok (.iinc 3 1, 3) := by decide +kernel
theorem dX1_sameNumbers_39 : decode cX1_sameNumbers 39 = .ok (.goto (-35), 3) := by decide +kernel
theorem dX1_sameNumbers_42 : decode cX1_sameNumbers 42 = .ok (.iload_n 2, 1) := by decide +kernel
theorem dX1_sameNumbers_43 : decode cX1_sameNumbers 43 = .ok (.ireturn, 1) := by decide +kernel
theorem dX1_knows_0 : decode cX1_knows 0 = .ok (.aload_n 0, 1) := by decide +kernel
theorem dX1_knows_1 : decode cX1_knows 1 = .ok (.getfield 15, 3) := by decide +kernel
theorem dX1_knows_4 : decode cX1_knows 4 = .ok (.iload_n 1, 1) := by decide +kernel
theorem dX1_knows_5 : decode cX1_knows 5 = .ok (.iaload, 1) := by decide +kernel
theorem dX1_knows_6 : decode cX1_knows 6 = .ok (.iload_n 2, 1) := by decide +kernel
theorem dX1_knows_7 : decode cX1_knows 7 = .ok (.ishr, 1) := by decide +kernel
theorem dX1_knows_8 : decode cX1_knows 8 = .ok (.iconst 1, 1) := by decide +kernel
theorem dX1_knows_9 : decode cX1_knows 9 = .ok (.iand, 1) := by decide +kernel
theorem dX1_knows_10 : decode cX1_knows 10 = .ok (.iconst 1, 1) := by decide +kernel
theorem dX1_knows_11 : decode cX1_knows 11 = .ok (.if_icmp .ne 7, 3) := by decide +kernel
theorem dX1_knows_14 : decode cX1_knows 14 = .ok (.iconst 1, 1) := by decide +kernel
theorem dX1_knows_15 : decode cX1_knows 15 = .ok (.goto 4, 3) := by decide +kernel
theorem dX1_knows_18 : decode cX1_knows 18 = .ok (.iconst 0, 1) := by decide +kernel
theorem dX1_knows_19 : decode cX1_knows 19 = .ok (.ireturn, 1) := by decide +kernel
theorem dX1_number_0 : decode cX1_number 0 = .ok (.aload_n 0, 1) := by decide +kernel
theorem dX1_number_1 : decode cX1_number 1 = .ok (.getfield 19, 3) := by decide +kernel
theorem dX1_number_4 : decode cX1_number 4 = .ok (.iload_n 1, 1) := by decide +kernel
theorem dX1_number_5 : decode cX1_number 5 = .ok (.bipush 8, 2) := by decide +kernel
theorem dX1_number_7 : decode cX1_number 7 = .ok (.imul, 1) := by decide +kernel
theorem dX1_number_8 : decode cX1_number 8 = .ok (.iload_n 2, 1) := by decide +kernel
theorem dX1_number_9 : decode cX1_number 9 = .ok (.iadd, 1) := by decide +kernel
theorem dX1_number_10 : decode cX1_number 10 = .ok (.iaload, 1) := by decide +kernel
theorem dX1_number_11 : decode cX1_number 11 = .ok (.ireturn, 1) := by decide +kernel
set_option maxRecDepth 20000 in
theorem ggX1_isZero_X1_knows : GoodIn wsX1_isZero wsX1_knows := goodIn_r _ [5, 6, 12, 13, 14, 15, 16, 17] (by decide +kernel) (by decide +kernel)
set_option maxRecDepth 20000 in
theorem gX1_isZero_X1_knows : GoodIn wsX1_isZero (wsV RX1 87 RX1 yX1_knows wsX1_knows) := goodIn_app (goodIn_of _ (by decide +kernel)) ggX1_isZero_X1_knows
set_option maxRecDepth 20000 in
theorem ggX1_isZero_X1_number : GoodIn wsX1_isZero wsX1_number := goodIn_r _ [10, 11, 12, 13, 14, 15, 16, 17] (by decide +kernel) (by decide +kernel)
set_option maxRecDepth 20000 in
theorem gX1_isZero_X1_number : GoodIn wsX1_isZero (wsV RX1 111 RX1 yX1_number wsX1_number) := goodIn_app (goodIn_of _ (by decide +kernel)) ggX1_isZero_X1_number
theorem dX1_isZero_0 : decode cX1_isZero 0 = .ok (.aload_n 0, 1) := by decide +kernel
theorem dX1_isZero_1 : decode cX1_isZero 1 = .ok (.iload_n 1, 1) := by decide +kernel
theorem dX1_isZero_2 : decode cX1_isZero 2 = .ok (.iload_n 2, 1) := by decide +kernel
theorem dX1_isZero_3 : decode cX1_isZero 3 = .ok (.invokevirtual 87, 3) := by decide +kernel
theorem dX1_isZero_6 : decode cX1_isZero 6 = .ok (.ifCond .eq 16, 3) := by decide +kernel
theorem dX1_isZero_9 : decode cX1_isZero 9 = .ok (.aload_n 0, 1) := by decide +kernel
theorem dX1_isZero_10 : decode cX1_isZero 10 = .ok (.iload_n 1, 1) := by decide +kernel
theorem dX1_isZero_11 : decode cX1_isZero 11 = .ok (.iload_n 2, 1) := by decide +kernel
theorem dX1_isZero_12 : decode cX1_isZero 12 = .ok (.invokevirtual 111, 3) := by decide +kernel
theorem dX1_isZero_15 : decode cX1_isZero 15 = .ok (.ifCond .ne 7, 3) := by decide +kernel
theorem dX1_isZero_18 : decode cX1_isZero 18 = .ok (.iconst 1, 1) := by decide +kernel
theorem dX1_isZero_19 : decode cX1_isZero 19 = .ok (.goto 4, 3) := by decide +kernel
theorem dX1_isZero_22 : decode cX1_isZero 22 = .ok (.iconst 0, 1) := by decide +kernel
theorem dX1_isZero_23 : decode cX1_isZero 23 = .ok (.ireturn, 1) := by decide +kernel
set_option maxRecDepth 20000 in
theorem ggX1_givesNumber_X1_knows : GoodIn wsX1_givesNumber wsX1_knows := goodIn_r _ [8, 9, 28, 29, 30, 31, 32, 33] (by decide +kernel) (by decide +kernel)
set_option maxRecDepth 20000 in
theorem gX1_givesNumber_X1_knows : GoodIn wsX1_givesNumber (wsV RX1 87 RX1 yX1_knows wsX1_knows) := goodIn_app (goodIn_of _ (by decide +kernel)) ggX1_givesNumber_X1_knows
set_option maxRecDepth 20000 in
theorem ggX1_givesNumber_X1_isZero : GoodIn wsX1_givesNumber wsX1_isZero := goodIn_r _ [13, 4, 5, 6, 7, 8, 9, 14, 15, 16, 17, 18, 28, 29, 30, 31, 32, 33] (by decide +kernel) (by decide +kernel)
set_option maxRecDepth 20000 in
theorem gX1_givesNumber_X1_isZero : GoodIn wsX1_givesNumber (wsV RX1 65 RX1 yX1_isZero wsX1_isZero) := goodIn_app (goodIn_of _ (by decide +kernel)) ggX1_givesNumber_X1_isZero
set_option maxRecDepth 20000 in
theorem ggX1_givesNumber_X2_isArithmetic : GoodIn wsX1_givesNumber wsX2_isArithmetic := goodIn_r _ [22] (by decide +kernel) (by decide +kernel)
set_option maxRecDepth 20000 in
theorem gX1_givesNumber_X2_isArithmetic : GoodIn wsX1_givesNumber (va_wsS RX1 115 yX2_isArithmetic wsX2_isArithmetic) := goodIn_app (goodIn_of _ (by decide +kernel)) ggX1_givesNumber_X2_isArithmetic
theorem dX1_givesNumber_0 : decode cX1_givesNumber 0 = .ok (.aload_n 1, 1) := by decide +kernel
theorem dX1_givesNumber_1 : decode cX1_givesNumber 1 = .ok (.getfield 59, 3) := by decide +kernel
theorem dX1_givesNumber_4 : decode cX1_givesNumber 4 = .ok (.iload_n 2, 1) := by decide +kernel
theorem dX1_givesNumber_5 : decode cX1_givesNumber 5 = .ok (.iaload, 1) := by decide +kernel
theorem dX1_givesNumber_6 : decode cX1_givesNumber 6 = .ok (.istore_n 3, 1) := by decide +kernel
theorem dX1_givesNumber_7 : decode cX1_givesNumber 7 = .ok (.iload_n 3, 1) := by decide +kernel
theorem dX1_givesNumber_8 : decode cX1_givesNumber 8 = .ok (.iconst 1, 1) := by decide +kernel
theorem dX1_givesNumber_9 : decode cX1_givesNumber 9 = .ok (.if_icmp .ne 5, 3) := by decide +kernel
theorem dX1_givesNumber_12 : decode cX1_givesNumber 12 = .ok (.iconst 1, 1) := by decide +kernel
theorem dX1_givesNumber_13 : decode cX1_givesNumber 13 = .ok (.ireturn, 1) := by decide +kernel
theorem dX1_givesNumber_14 : decode cX1_givesNumber 14 = .ok (.iload_n 3, 1) := by decide +kernel
theorem dX1_givesNumber_15 : decode cX1_givesNumber 15 = .ok (.iconst 2, 1) := by decide +kernel
theorem dX1_givesNumber_16 : decode cX1_givesNumber 16 = .ok (.if_icmp .ne 15, 3) := by decide +kernel
theorem dX1_givesNumber_19 : decode cX1_givesNumber 19 = .ok (.aload_n 0, 1) := by decide +kernel
theorem dX1_givesNumber_20 : decode cX1_givesNumber 20 = .ok (.iload_n 2, 1) := by decide +kernel
theorem dX1_givesNumber_21 : decode cX1_givesNumber 21 = .ok (.aload_n 1, 1) := by decide +kernel
theorem dX1_givesNumber_22 : decode cX1_givesNumber 22 = .ok (.getfield 84, 3) := by decide +kernel
theorem dX1_givesNumber_25 : decode cX1_givesNumber 25 = .ok (.iload_n 2, 1) := by decide +kernel
theorem dX1_givesNumber_26 : decode cX1_givesNumber 26 = .ok (.iaload, 1) := by decide +kernel
theorem dX1_givesNumber_27 : decode cX1_givesNumber 27 = .ok (.invokevirtual 87, 3) := by decide +kernel
theorem dX1_givesNumber_30 : decode cX1_givesNumber 30 = .ok (.ireturn, 1) := by decide +kernel
theorem dX1_givesNumber_31 : decode cX1_givesNumber 31 = .ok (.iload_n 3, 1) := by decide +kernel
theorem dX1_givesNumber_32 : decode cX1_givesNumber 32 = .ok (.bipush 6, 2) := by decide +kernel
theorem dX1_givesNumber_34 : decode cX1_givesNumber 34 = .ok (.if_icmp .ne 21, 3) := by decide +kernel
theorem dX1_givesNumber_37 : decode cX1_givesNumber 37 = .ok (.aload_n 0, 1) := by decide +kernel
theorem dX1_givesNumber_38 : decode cX1_givesNumber 38 = .ok (.iload_n 2, 1) := by decide +kernel
theorem dX1_givesNumber_39 : decode cX1_givesNumber 39 = .ok (.aload_n 1, 1) := by decide +kernel
theorem dX1_givesNumber_40 : decode cX1_givesNumber 40 = .ok (.getfield 62, 3) := by decide +kernel
theorem dX1_givesNumber_43 : decode cX1_givesNumber 43 = .ok (.iload_n 2, 1) := by decide +kernel
theorem dX1_givesNumber_44 : decode cX1_givesNumber 44 = .ok (.iaload, 1) := by decide +kernel
theorem dX1_givesNumber_45 : decode cX1_givesNumber 45 = .ok (.invokevirtual 65, 3) := by decide +kernel
theorem dX1_givesNumber_48 : decode cX1_givesNumber 48 = .ok (.ifCond .eq 7, 3) := by decide +kernel
theorem dX1_givesNumber_51 : decode cX1_givesNumber 51 = .ok (.iconst 1, 1) := by decide +kernel
theorem dX1_givesNumber_52 : decode cX1_givesNumber 52 = .ok (.goto 4, 3) := by decide +kernel
theorem dX1_givesNumber_55 : decode cX1_givesNumber 55 = .ok (.iconst 0, 1) := by decide +kernel
theorem dX1_givesNumber_56 : decode cX1_givesNumber 56 = .ok (.istore 4, 2) := by decide +kernel
theorem dX1_givesNumber_58 : decode cX1_givesNumber 58 = .ok (.iload_n 3, 1) := by decide +kernel
theorem dX1_givesNumber_59 : decode cX1_givesNumber 59 = .ok (.invokestatic 115, 3) := by decide +kernel
theorem dX1_givesNumber_62 : decode cX1_givesNumber 62 = .ok (.ifCond .eq 40, 3) := by decide +kernel
theorem dX1_givesNumber_65 : decode cX1_givesNumber 65 = .ok (.iload 4, 2) := by decide +kernel
theorem dX1_givesNumber_67 : decode cX1_givesNumber 67 = .ok (.ifCond .ne 35, 3) := by decide +kernel
theorem dX1_givesNumber_70 : decode cX1_givesNumber 70 = .ok (.aload_n 0, 1) := by decide +kernel
theorem dX1_givesNumber_71 : decode cX1_givesNumber 71 = .ok (.iload_n 2, 1) := by decide +kernel
theorem dX1_givesNumber_72 : decode cX1_givesNumber 72 = .ok (.aload_n 1, 1) := by decide +kernel
theorem dX1_givesNumber_73 : decode cX1_givesNumber 73 = .ok (.getfield 84, 3) := by decide +kernel
theorem dX1_givesNumber_76 : decode cX1_givesNumber 76 = .ok (.iload_n 2, 1) := by decide +kernel
theorem dX1_givesNumber_77 : decode cX1_givesNumber 77 = .ok (.iaload, 1) := by decide +kernel
theorem dX1_givesNumber_78 : decode cX1_givesNumber 78 = .ok (.invokevirtual 87, 3) := by decide +kernel
theorem dX1_givesNumber_81 : decode cX1_givesNumber 81 = .ok (.ifCond .eq 21, 3) := by decide +kernel
theorem dX1_givesNumber_84 : decode cX1_givesNumber 84 = .ok (.aload_n 0, 1) := by decide +kernel
theorem dX1_givesNumber_85 : decode cX1_givesNumber 85 = .ok (.iload_n 2, 1) := by decide +kernel
theorem dX1_givesNumber_86 : decode cX1_givesNumber 86 = .ok (.aload_n 1, 1) := by decide +kernel
theorem dX1_givesNumber_87 : decode cX1_givesNumber 87 = .ok (.getfield 62, 3) := by decide +kernel
theorem dX1_givesNumber_90 : decode cX1_givesNumber 90 = .ok (.iload_n 2, 1) := by decide +kernel
theorem dX1_givesNumber_91 : decode cX1_givesNumber 91 = .ok (.iaload, 1) := by decide +kernel
theorem dX1_givesNumber_92 : decode cX1_givesNumber 92 = .ok (.invokevirtual 87, 3) := by decide +kernel
theorem dX1_givesNumber_95 : decode cX1_givesNumber 95 = .ok (.ifCond .eq 7, 3) := by decide +kernel
theorem dX1_givesNumber_98 : decode cX1_givesNumber 98 = .ok (.iconst 1, 1) := by decide +kernel
theorem dX1_givesNumber_99 : decode cX1_givesNumber 99 = .ok (.goto 4, 3) := by decide +kernel
theorem dX1_givesNumber_102 : decode cX1_givesNumber 102 = .ok (.iconst 0, 1) := by decide +kernel
theorem dX1_givesNumber_103 : decode cX1_givesNumber 103 = .ok (.ireturn, 1) := by decide +kernel
set_option maxRecDepth 20000 in
theorem ggX1_givenNumber_X1_number : GoodIn wsX1_givenNumber wsX1_number := goodIn_r _ [8, 9, 19, 20, 21, 22, 23, 24] (by decide +kernel) (by decide +kernel)
set_option maxRecDepth 20000 in
theorem gX1_givenNumber_X1_number : GoodIn wsX1_givenNumber (wsV RX1 111 RX1 yX1_number wsX1_number) := goodIn_app (goodIn_of _ (by decide +kernel)) ggX1_givenNumber_X1_number
set_option maxRecDepth 20000 in
theorem ggX1_givenNumber_X2_compute : GoodIn wsX1_givenNumber wsX2_compute := goodIn_r _ [13] (by decide +kernel) (by decide +kernel)
set_option maxRecDepth 20000 in
theorem gX1_givenNumber_X2_compute : GoodIn wsX1_givenNumber (va_wsS RX1 118 yX2_compute wsX2_compute) := goodIn_app (goodIn_of _ (by decide +kernel)) ggX1_givenNumber_X2_compute
theorem dX1_givenNumber_0 : decode cX1_givenNumber 0 = .ok (.aload_n 1, 1) := by decide +kernel
theorem dX1_givenNumber_1 : decode cX1_givenNumber 1 = .ok (.getfield 59, 3) := by decide +kernel
theorem dX1_givenNumber_4 : decode cX1_givenNumber 4 = .ok (.iload_n 2, 1) := by decide +kernel
theorem dX1_givenNumber_5 : decode cX1_givenNumber 5 = .ok (.iaload, 1) := by decide +kernel
theorem dX1_givenNumber_6 : decode cX1_givenNumber 6 = .ok (.istore_n 3, 1) := by decide +kernel
theorem dX1_givenNumber_7 : decode cX1_givenNumber 7 = .ok (.iload_n 3, 1) := by decide +kernel
theorem dX1_givenNumber_8 : decode cX1_givenNumber 8 = .ok (.iconst 1, 1) := by decide +kernel
theorem dX1_givenNumber_9 : decode cX1_givenNumber 9 = .ok (.if_icmp .ne 10, 3) := by decide +kernel
theorem dX1_givenNumber_12 : decode cX1_givenNumber 12 = .ok (.aload_n 1, 1) := by decide +kernel
theorem dX1_givenNumber_13 : decode cX1_givenNumber 13 = .ok (.getfield 84, 3) := by decide +kernel
theorem dX1_givenNumber_16 : decode cX1_givenNumber 16 = .ok (.iload_n 2, 1) := by decide +kernel
theorem dX1_givenNumber_17 : decode cX1_givenNumber 17 = .ok (.iaload, 1) := by decide +kernel
theorem dX1_givenNumber_18 : decode cX1_givenNumber 18 = .ok (.ireturn, 1) := by decide +kernel
theorem dX1_givenNumber_19 : decode cX1_givenNumber 19 = .ok (.aload_n 0, 1) := by decide +kernel
theorem dX1_givenNumber_20 : decode cX1_givenNumber 20 = .ok (.iload_n 2, 1) := by decide +kernel
theorem dX1_givenNumber_21 : decode cX1_givenNumber 21 = .ok (.aload_n 1, 1) := by decide +kernel
theorem dX1_givenNumber_22 : decode cX1_givenNumber 22 = .ok (.getfield 84, 3) := by decide +kernel
theorem dX1_givenNumber_25 : decode cX1_givenNumber 25 = .ok (.iload_n 2, 1) := by decide +kernel
theorem dX1_givenNumber_26 : decode cX1_givenNumber 26 = .ok (.iaload, 1) := by decide +kernel
theorem dX1_givenNumber_27 : decode cX1_givenNumber 27 = .ok (.invokevirtual 111, 3) := by decide +kernel
theorem dX1_givenNumber_30 : decode cX1_givenNumber 30 = .ok (.istore 4, 2) := by decide +kernel
theorem dX1_givenNumber_32 : decode cX1_givenNumber 32 = .ok (.iload_n 3, 1) := by decide +kernel
theorem dX1_givenNumber_33 : decode cX1_givenNumber 33 = .ok (.iconst 2, 1) := by decide +kernel
theorem dX1_givenNumber_34 : decode cX1_givenNumber 34 = .ok (.if_icmp .ne 8, 3) := by decide +kernel
theorem dX1_givenNumber_37 : decode cX1_givenNumber 37 = .ok (.iload 4, 2) := by decide +kernel
theorem dX1_givenNumber_39 : decode cX1_givenNumber 39 = .ok (.goto 20, 3) := by decide +kernel
theorem dX1_givenNumber_42 : decode cX1_givenNumber 42 = .ok (.iload_n 3, 1) := by decide +kernel
theorem dX1_givenNumber_43 : decode cX1_givenNumber 43 = .ok (.iload 4, 2) := by decide +kernel
theorem dX1_givenNumber_45 : decode cX1_givenNumber 45 = .ok (.aload_n 0, 1) := by decide +kernel
theorem dX1_givenNumber_46 : decode cX1_givenNumber 46 = .ok (.iload_n 2, 1) := by decide +kernel
theorem dX1_givenNumber_47 : decode cX1_givenNumber 47 = .ok (.aload_n 1, 1) := by decide +kernel
theorem dX1_givenNumber_48 : decode cX1_givenNumber 48 = .ok (.getfield 62, 3) := by decide +kernel
theorem dX1_givenNumber_51 : decode cX1_givenNumber 51 = .ok (.iload_n 2, 1) := by decide +kernel
theorem dX1_givenNumber_52 : decode cX1_givenNumber 52 = .ok (.iaload, 1) := by decide +kernel
theorem dX1_givenNumber_53 : decode cX1_givenNumber 53 = .ok (.invokevirtual 111, 3) := by decide +kernel
theorem dX1_givenNumber_56 : decode cX1_givenNumber 56 = .ok (.invokestatic 118, 3) := by decide +kernel
theorem dX1_givenNumber_59 : decode cX1_givenNumber 59 = .ok (.ireturn, 1) := by decide +kernel
set_option maxRecDepth 20000 in
theorem ggX1_rewriteAll_X1_rewriteOne : GoodIn wsX1_rewriteAll wsX1_rewriteOne := goodIn_r _ [6, 7, 8, 9, 10, 11, 12, 13, 14, 15, 16, 17, 18, 19, 20, 21, 22, 23, 24, 25, 26, 5, 27, 28, 29, 30, 31, 32, 33, 34, 35, 36, 37, 38, 39, 40, 41, 42, 43, 44, 45, 46, 47, 48, 49, 50, 51, 52, 53, 54, 55, 56, 57, 58, 59, 60, 61, 62, 63] (by decide +kernel) (by decide +kernel)
set_option maxRecDepth 20000 in
theorem gX1_rewriteAll_X1_rewriteOne : GoodIn wsX1_rewriteAll (wsV RX1 122 RX1 yX1_rewriteOne wsX1_rewriteOne) := goodIn_app (goodIn_of _ (by decide +kernel)) ggX1_rewriteAll_X1_rewriteOne
theorem dX1_rewriteAll_0 : decode cX1_rewriteAll 0 = .ok (.iconst 0, 1) := by decide +kernel
theorem dX1_rewriteAll_1 : decode cX1_rewriteAll 1 = .ok (.istore_n 2, 1) := by decide +kernel
theorem dX1_rewriteAll_2 : decode cX1_rewriteAll 2 = .ok (.iconst 0, 1) := by decide +kernel
theorem dX1_rewriteAll_3 : decode cX1_rewriteAll 3 = .ok (.istore_n 3, 1) := by decide +kernel
theorem dX1_rewriteAll_4 : decode cX1_rewriteAll 4 = .ok (.iload_n 3, 1) := by decide +kernel
theorem dX1_rewriteAll_5 : decode cX1_rewriteAll 5 = .ok (.aload_n 1, 1) := by decide +kernel
theorem dX1_rewriteAll_6 : decode cX1_rewriteAll 6 = .ok (.getfield 36, 3) := by decide +kernel
theorem dX1_rewriteAll_9 : decode cX1_rewriteAll 9 = .ok (.if_icmp .ge 21, 3) := by decide +kernel
theorem dX1_rewriteAll_12 : decode cX1_rewriteAll 12 = .ok (.aload_n 0, 1) := by decide +kernel
theorem dX1_rewriteAll_13 : decode cX1_rewriteAll 13 = .ok (.aload_n 1, 1) := by decide +kernel
theorem dX1_rewriteAll_14 : decode cX1_rewriteAll 14 = .ok (.iload_n 3, 1) := by decide +kernel
theorem dX1_rewriteAll_15 : decode cX1_rewriteAll 15 = .ok (.invokevirtual 122, 3) := by decide +kernel
theorem dX1_rewriteAll_18 : decode cX1_rewriteAll 18 = .ok (.ifCond .eq 6, 3) := by decide +kernel
theorem dX1_rewriteAll_21 : decode cX1_rewriteAll 21 = .ok (.iinc 2 1, 3) := by decide +kernel
theorem dX1_rewriteAll_24 : decode cX1_rewriteAll 24 = .ok (.iinc 3 1, 3) := by decide +kernel
theorem dX1_rewriteAll_27 : decode cX1_rewriteAll 27 = .ok (.goto (-23), 3) := by decide +kernel
theorem dX1_rewriteAll_30 : decode cX1_rewriteAll 30 = .ok (.iload_n 2, 1) := by decide +kernel
theorem dX1_rewriteAll_31 : decode cX1_rewriteAll 31 = .ok (.ireturn, 1) := by decide +kernel
set_option maxRecDepth 20000 in
theorem ggX1_rewriteOne_X6_put : GoodIn wsX1_rewriteOne wsX6_put := goodIn_r _ [9, 10, 11, 12, 13, 48, 49, 50, 51, 52] (by decide +kernel) (by decide +kernel)
set_option maxRecDepth 20000 in
theorem gX1_rewriteOne_X6_put : GoodIn wsX1_rewriteOne (wsV RX1 125 RX6 yX6_put wsX6_put) := goodIn_app (goodIn_of _ (by decide +kernel)) ggX1_rewriteOne_X6_put
set_option maxRecDepth 20000 in
theorem ggX1_rewriteOne_X2_writesD : GoodIn wsX1_rewriteOne wsX2_writesD := goodIn_r _ [17] (by decide +kernel) (by decide +kernel)
set_option maxRecDepth 20000 in
theorem gX1_rewriteOne_X2_writesD : GoodIn wsX1_rewriteOne (va_wsS RX1 75 yX2_writesD wsX2_writesD) := goodIn_app (goodIn_of _ (by decide +kernel)) ggX1_rewriteOne_X2_writesD
set_option maxRecDepth 20000 in
theorem ggX1_rewriteOne_X1_givesNumber : GoodIn wsX1_rewriteOne wsX1_givesNumber := goodIn_r _ [22, 1, 4, 23, 24, 25, 26, 21, 27, 28, 29, 30, 31, 32, 33, 34, 35, 36, 37, 38, 39, 16, 40, 48, 49, 50, 51, 52, 53, 54, 55, 56, 57, 58] (by decide +kernel) (by decide +kernel)
set_option maxRecDepth 20000 in
theorem gX1_rewriteOne_X1_givesNumber : GoodIn wsX1_rewriteOne (wsV RX1 100 RX1 yX1_givesNumber wsX1_givesNumber) := goodIn_app (goodIn_of _ (by decide +kernel)) ggX1_rewriteOne_X1_givesNumber
set_option maxRecDepth 20000 in
theorem ggX1_rewriteOne_X1_givenNumber : GoodIn wsX1_rewriteOne wsX1_givenNumber := goodIn_r _ [44, 1, 4, 23, 33, 34, 35, 21, 36, 37, 45, 46, 16, 47, 48, 49, 50, 51, 52, 53, 54, 55, 56, 57, 58] (by decide +kernel) (by decide +kernel)
set_option maxRecDepth 20000 in
theorem gX1_rewriteOne_X1_givenNumber : GoodIn wsX1_rewriteOne (wsV RX1 104 RX1 yX1_givenNumber wsX1_givenNumber) := goodIn_app (goodIn_of _ (by decide +kernel)) ggX1_rewriteOne_X1_givenNumber
set_option maxRecDepth 20000 in
theorem ggX1_rewriteOne_X1_isZero : GoodIn wsX1_rewriteOne wsX1_isZero := goodIn_r _ [32, 24, 25, 26, 21, 27, 28, 33, 34, 35, 36, 37, 53, 54, 55, 56, 57, 58] (by decide +kernel) (by decide +kernel)
set_option maxRecDepth 20000 in
theorem gX1_rewriteOne_X1_isZero : GoodIn wsX1_rewriteOne (wsV RX1 65 RX1 yX1_isZero wsX1_isZero) := goodIn_app (goodIn_of _ (by decide +kernel)) ggX1_rewriteOne_X1_isZero
set_option maxRecDepth 20000 in
theorem ggX1_rewriteOne_X1_knows : GoodIn wsX1_rewriteOne wsX1_knows := goodIn_r _ [27, 28, 53, 54, 55, 56, 57, 58] (by decide +kernel) (by decide +kernel)
set_option maxRecDepth 20000 in
theorem gX1_rewriteOne_X1_knows : GoodIn wsX1_rewriteOne (wsV RX1 87 RX1 yX1_knows wsX1_knows) := goodIn_app (goodIn_of _ (by decide +kernel)) ggX1_rewriteOne_X1_knows
theorem dX1_rewriteOne_0 : decode cX1_rewriteOne 0 = .ok (.aload_n 1, 1) := by decide +kernel
theorem dX1_rewriteOne_1 : decode cX1_rewriteOne 1 = .ok (.getfield 59, 3) := by decide +kernel
theorem dX1_rewriteOne_4 : decode cX1_rewriteOne 4 = .ok (.iload_n 2, 1) := by decide +kernel
theorem dX1_rewriteOne_5 : decode cX1_rewriteOne 5 = .ok (.iaload, 1) := by decide +kernel
theorem dX1_rewriteOne_6 : decode cX1_rewriteOne 6 = .ok (.istore_n 3, 1) := by decide +kernel
theorem dX1_rewriteOne_7 : decode cX1_rewriteOne 7 = .ok (.aload_n 0, 1) := by decide +kernel
theorem dX1_rewriteOne_8 : decode cX1_rewriteOne 8 = .ok (.getfield 9, 3) := by decide +kernel
theorem dX1_rewriteOne_11 : decode cX1_rewriteOne 11 = .ok (.iload_n 2, 1) := by decide +kernel
theorem dX1_rewriteOne_12 : decode cX1_rewriteOne 12 = .ok (.baload, 1) := by decide +kernel
theorem dX1_rewriteOne_13 : decode cX1_rewriteOne 13 = .ok (.ifCond .ne 13, 3) := by decide +kernel
theorem dX1_rewriteOne_16 : decode cX1_rewriteOne 16 = .ok (.aload_n 1, 1) := by decide +kernel
theorem dX1_rewriteOne_17 : decode cX1_rewriteOne 17 = .ok (.iload_n 2, 1) := by decide +kernel
theorem dX1_rewriteOne_18 : decode cX1_rewriteOne 18 = .ok (.iconst 0, 1) := by decide +kernel
theorem dX1_rewriteOne_19 : decode cX1_rewriteOne 19 = .ok (.iconst 0, 1) := by decide +kernel
theorem dX1_rewriteOne_20 : decode cX1_rewriteOne 20 = .ok (.iconst 0, 1) := by decide +kernel
theorem dX1_rewriteOne_21 : decode cX1_rewriteOne 21 = .ok (.iconst 0, 1) := by decide +kernel
theorem dX1_rewriteOne_22 : decode cX1_rewriteOne 22 = .ok (.invokevirtual 125, 3) := by decide +kernel
theorem dX1_rewriteOne_25 : decode cX1_rewriteOne 25 = .ok (.ireturn, 1) := by decide +kernel
theorem dX1_rewriteOne_26 : decode cX1_rewriteOne 26 = .ok (.iload_n 3, 1) := by decide +kernel
theorem dX1_rewriteOne_27 : decode cX1_rewriteOne 27 = .ok (.invokestatic 75, 3) := by decide +kernel
theorem dX1_rewriteOne_30 : decode cX1_rewriteOne 30 = .ok (.ifCond .eq 32, 3) := by decide +kernel
theorem dX1_rewriteOne_33 : decode cX1_rewriteOne 33 = .ok (.aload_n 0, 1) := by decide +kernel
theorem dX1_rewriteOne_34 : decode cX1_rewriteOne 34 = .ok (.aload_n 1, 1) := by decide +kernel
theorem dX1_rewriteOne_35 : decode cX1_rewriteOne 35 = .ok (.iload_n 2, 1) := by decide +kernel
theorem dX1_rewriteOne_36 : decode cX1_rewriteOne 36 = .ok (.invokevirtual 100, 3) := by decide +kernel
theorem dX1_rewriteOne_39 : decode cX1_rewriteOne 39 = .ok (.ifCond .eq 23, 3) := by decide +kernel
theorem dX1_rewriteOne_42 : decode cX1_rewriteOne 42 = .ok (.aload_n 1, 1) := by decide +kernel
theorem dX1_rewriteOne_43 : decode cX1_rewriteOne 43 = .ok (.iload_n 2, 1) := by decide +kernel
theorem dX1_rewriteOne_44 : decode cX1_rewriteOne 44 = .ok (.iconst 1, 1) := by decide +kernel
theorem dX1_rewriteOne_45 : decode cX1_rewriteOne 45 = .ok (.aload_n 1, 1) := by decide +kernel
theorem dX1_rewriteOne_46 : decode cX1_rewriteOne 46 = .ok (.getfield 97, 3) := by decide +kernel
theorem dX1_rewriteOne_49 : decode cX1_rewriteOne 49 = .ok (.iload_n 2, 1) := by decide +kernel
theorem dX1_rewriteOne_50 : decode cX1_rewriteOne 50 = .ok (.iaload, 1) := by decide +kernel
theorem dX1_rewriteOne_51 : decode cX1_rewriteOne 51 = .ok (.aload_n 0, 1) := by decide +kernel
theorem dX1_rewriteOne_52 : decode cX1_rewriteOne 52 = .ok (.aload_n 1, 1) := by decide +kernel
theorem dX1_rewriteOne_53 : decode cX1_rewriteOne 53 = .ok (.iload_n 2, 1) := by decide +kernel
theorem dX1_rewriteOne_54 : decode cX1_rewriteOne 54 = .ok (.invokevirtual 104, 3) := by decide +kernel
theorem dX1_rewriteOne_57 : decode cX1_rewriteOne 57 = .ok (.iconst 0, 1) := by decide +kernel
theorem dX1_rewriteOne_58 : decode cX1_rewriteOne 58 = .ok (.invokevirtual 125, 3) := by decide +kernel
theorem dX1_rewriteOne_61 : decode cX1_rewriteOne 61 = .ok (.ireturn, 1) := by decide +kernel
theorem dX1_rewriteOne_62 : decode cX1_rewriteOne 62 = .ok (.iload_n 3, 1) := by decide +kernel
theorem dX1_rewriteOne_63 : decode cX1_rewriteOne 63 = .ok (.bipush 10, 2) := by decide +kernel
theorem dX1_rewriteOne_65 : decode cX1_rewriteOne 65 = .ok (.if_icmp .ne 33, 3) := by decide +kernel
theorem dX1_rewriteOne_68 : decode cX1_rewriteOne 68 = .ok (.aload_n 0, 1) := by decide +kernel
theorem dX1_rewriteOne_69 : decode cX1_rewriteOne 69 = .ok (.iload_n 2, 1) := by decide +kernel
theorem dX1_rewriteOne_70 : decode cX1_rewriteOne 70 = .ok (.aload_n 1, 1) := by decide +kernel
theorem dX1_rewriteOne_71 : decode cX1_rewriteOne 71 = .ok (.getfield 84, 3) := by decide +kernel
theorem dX1_rewriteOne_74 : decode cX1_rewriteOne 74 = .ok (.iload_n 2, 1) := by decide +kernel
theorem dX1_rewriteOne_75 : decode cX1_rewriteOne 75 = .ok (.iaload, 1) := by decide +kernel
theorem dX1_rewriteOne_76 : decode cX1_rewriteOne 76 = .ok (.invokevirtual 65, 3) := by decide +kernel
theorem dX1_rewriteOne_79 : decode cX1_rewriteOne 79 = .ok (.ifCond .eq 19, 3) := by decide +kernel
theorem dX1_rewriteOne_82 : decode cX1_rewriteOne 82 = .ok (.aload_n 1, 1) := by decide +kernel
theorem dX1_rewriteOne_83 : decode cX1_rewriteOne 83 = .ok (.iload_n 2, 1) := by decide +kernel
theorem dX1_rewriteOne_84 : decode cX1_rewriteOne 84 = .ok (.bipush 9, 2) := by decide +kernel
theorem dX1_rewriteOne_86 : decode cX1_rewriteOne 86 = .ok (.aload_n 1, 1) := by decide +kernel
theorem dX1_rewriteOne_87 : decode cX1_rewriteOne 87 = .ok (.getfield 97, 3) := by decide +kernel
theorem dX1_rewriteOne_90 : decode cX1_rewriteOne 90 = .ok (.iload_n 2, 1) := by decide +kernel
theorem dX1_rewriteOne_91 : decode cX1_rewriteOne 91 = .ok (.iaload, 1) := by decide +kernel
theorem dX1_rewriteOne_92 : decode cX1_rewriteOne 92 = .ok (.iconst 0, 1) := by decide +kernel
theorem dX1_rewriteOne_93 : decode cX1_rewriteOne 93 = .ok (.iconst 0, 1) := by decide +kernel
theorem dX1_rewriteOne_94 : decode cX1_rewriteOne 94 = .ok (.invokevirtual 125, 3) := by decide +kernel
theorem dX1_rewriteOne_97 : decode cX1_rewriteOne 97 = .ok (.ireturn, 1) := by decide +kernel
theorem dX1_rewriteOne_98 : decode cX1_rewriteOne 98 = .ok (.iload_n 3, 1) := by decide +kernel
theorem dX1_rewriteOne_99 : decode cX1_rewriteOne 99 = .ok (.bipush 10, 2) := by decide +kernel
theorem dX1_rewriteOne_101 : decode cX1_rewriteOne 101 = .ok (.if_icmp .ne 27, 3) := by decide +kernel
theorem dX1_rewriteOne_104 : decode cX1_rewriteOne 104 = .ok (.aload_n 0, 1) := by decide +kernel
theorem dX1_rewriteOne_105 : decode cX1_rewriteOne 105 = .ok (.iload_n 2, 1) := by decide +kernel
theorem dX1_rewriteOne_106 : decode cX1_rewriteOne 106 = .ok (.aload_n 1, 1) := by decide +kernel
theorem dX1_rewriteOne_107 : decode cX1_rewriteOne 107 = .ok (.getfield 84, 3) := by decide +kernel
theorem dX1_rewriteOne_110 : decode cX1_rewriteOne 110 = .ok (.iload_n 2, 1) := by decide +kernel
theorem dX1_rewriteOne_111 : decode cX1_rewriteOne 111 = .ok (.iaload, 1) := by decide +kernel
theorem dX1_rewriteOne_112 : decode cX1_rewriteOne 112 = .ok (.invokevirtual 87, 3) := by decide +kernel
theorem dX1_rewriteOne_115 : decode cX1_rewriteOne 115 = .ok (.ifCond .eq 13, 3) := by decide +kernel
theorem dX1_rewriteOne_118 : decode cX1_rewriteOne 118 = .ok (.aload_n 1, 1) := by decide +kernel
theorem dX1_rewriteOne_119 : decode cX1_rewriteOne 119 = .ok (.iload_n 2, 1) := by decide +kernel
theorem dX1_rewriteOne_120 : decode cX1_rewriteOne 120 = .ok (.iconst 0, 1) := by decide +kernel
theorem dX1_rewriteOne_121 : decode cX1_rewriteOne 121 = .ok (.iconst 0, 1) := by decide +kernel
theorem dX1_rewriteOne_122 : decode cX1_rewriteOne 122 = .ok (.iconst 0, 1) := by decide +kernel
theorem dX1_rewriteOne_123 : decode cX1_rewriteOne 123 = .ok (.iconst 0, 1) := by decide +kernel
theorem dX1_rewriteOne_124 : decode cX1_rewriteOne 124 = .ok (.invokevirtual 125, 3) := by decide +kernel
theorem dX1_rewriteOne_127 : decode cX1_rewriteOne 127 = .ok (.ireturn, 1) := by decide +kernel
theorem dX1_rewriteOne_128 : decode cX1_rewriteOne 128 = .ok (.iconst 0, 1) := by decide +kernel
theorem dX1_rewriteOne_129 : decode cX1_rewriteOne 129 = .ok (.ireturn, 1) := by decide +kernel
