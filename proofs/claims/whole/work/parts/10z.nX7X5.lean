theorem dX7_init_0 : decode cX7_init 0 = .ok (.aload_n 0, 1) := by decide +kernel
theorem dX7_init_1 : decode cX7_init 1 = .ok (.invokespecial 3, 3) := by decide +kernel
theorem dX7_init_4 : decode cX7_init 4 = .ok (.aload_n 0, 1) := by decide +kernel
theorem dX7_init_5 : decode cX7_init 5 = .ok (.bipush 8, 2) := by decide +kernel
theorem dX7_init_7 : decode cX7_init 7 = .ok (.newarray .int, 2) := by decide +kernel
theorem dX7_init_9 : decode cX7_init 9 = .ok (.putfield 9, 3) := by decide +kernel
theorem dX7_init_12 : decode cX7_init 12 = .ok (.aload_n 0, 1) := by decide +kernel
theorem dX7_init_13 : decode cX7_init 13 = .ok (.bipush 24, 2) := by decide +kernel
theorem dX7_init_15 : decode cX7_init 15 = .ok (.newarray .int, 2) := by decide +kernel
theorem dX7_init_17 : decode cX7_init 17 = .ok (.putfield 15, 3) := by decide +kernel
theorem dX7_init_20 : decode cX7_init 20 = .ok (.aload_n 0, 1) := by decide +kernel
theorem dX7_init_21 : decode cX7_init 21 = .ok (.bipush 24, 2) := by decide +kernel
theorem dX7_init_23 : decode cX7_init 23 = .ok (.newarray .int, 2) := by decide +kernel
theorem dX7_init_25 : decode cX7_init 25 = .ok (.putfield 18, 3) := by decide +kernel
theorem dX7_init_28 : decode cX7_init 28 = .ok (.aload_n 0, 1) := by decide +kernel
theorem dX7_init_29 : decode cX7_init 29 = .ok (.bipush 24, 2) := by decide +kernel
theorem dX7_init_31 : decode cX7_init 31 = .ok (.newarray .int, 2) := by decide +kernel
theorem dX7_init_33 : decode cX7_init 33 = .ok (.putfield 21, 3) := by decide +kernel
theorem dX7_init_36 : decode cX7_init 36 = .ok (.aload_n 0, 1) := by decide +kernel
theorem dX7_init_37 : decode cX7_init 37 = .ok (.bipush 24, 2) := by decide +kernel
theorem dX7_init_39 : decode cX7_init 39 = .ok (.newarray .int, 2) := by decide +kernel
theorem dX7_init_41 : decode cX7_init 41 = .ok (.putfield 24, 3) := by decide +kernel
theorem dX7_init_44 : decode cX7_init 44 = .ok (.aload_n 0, 1) := by decide +kernel
theorem dX7_init_45 : decode cX7_init 45 = .ok (.iconst 0, 1) := by decide +kernel
theorem dX7_init_46 : decode cX7_init 46 = .ok (.putfield 27, 3) := by decide +kernel
theorem dX7_init_49 : decode cX7_init 49 = .ok (.aload_n 0, 1) := by decide +kernel
theorem dX7_init_50 : decode cX7_init 50 = .ok (.iconst 0, 1) := by decide +kernel
theorem dX7_init_51 : decode cX7_init 51 = .ok (.putfield 31, 3) := by decide +kernel
theorem dX7_init_54 : decode cX7_init 54 = .ok (.return_, 1) := by decide +kernel
set_option maxRecDepth 20000 in
theorem ggX7_share_X7_beginsBlock : GoodIn wsX7_share wsX7_beginsBlock := goodIn_r _ [6, 7, 8, 9, 10, 11, 12, 13, 14, 15, 16, 17, 18, 19, 20, 83, 84, 85, 86, 87] (by decide +kernel) (by decide +kernel)
set_option maxRecDepth 20000 in
theorem gX7_share_X7_beginsBlock : GoodIn wsX7_share (wsV RX7 39 RX7 yX7_beginsBlock wsX7_beginsBlock) := goodIn_app (goodIn_of _ (by decide +kernel)) ggX7_share_X7_beginsBlock
set_option maxRecDepth 20000 in
theorem ggX7_share_X7_forgetAll : GoodIn wsX7_share wsX7_forgetAll := goodIn_r _ [24, 25, 26, 27, 88, 89, 90, 91, 92, 93, 94] (by decide +kernel) (by decide +kernel)
set_option maxRecDepth 20000 in
theorem gX7_share_X7_forgetAll : GoodIn wsX7_share (wsV RX7 43 RX7 yX7_forgetAll wsX7_forgetAll) := goodIn_app (goodIn_of _ (by decide +kernel)) ggX7_share_X7_forgetAll
set_option maxRecDepth 20000 in
theorem ggX7_share_X7_shareOne : GoodIn wsX7_share wsX7_shareOne := goodIn_r _ [31, 7, 32, 25, 33, 34, 35, 36, 18, 37, 38, 39, 40, 5, 41, 42, 43, 44, 45, 46, 47, 48, 49, 50, 51, 52, 53, 11, 54, 14, 15, 55, 56, 57, 58, 59, 60, 61, 62, 63, 64, 65, 66, 67, 68, 69, 70, 71, 27, 72, 73, 74, 75, 76, 77, 78, 79, 26, 80, 81, 82, 83, 84, 85, 86, 87, 88, 89, 90, 91, 92, 93, 94] (by decide +kernel) (by decide +kernel)
set_option maxRecDepth 20000 in
theorem gX7_share_X7_shareOne : GoodIn wsX7_share (wsV RX7 46 RX7 yX7_shareOne wsX7_shareOne) := goodIn_app (goodIn_of _ (by decide +kernel)) ggX7_share_X7_shareOne
theorem dX7_share_0 : decode cX7_share 0 = .ok (.iconst 0, 1) := by decide +kernel
theorem dX7_share_1 : decode cX7_share 1 = .ok (.istore_n 2, 1) := by decide +kernel
theorem dX7_share_2 : decode cX7_share 2 = .ok (.iconst 0, 1) := by decide +kernel
theorem dX7_share_3 : decode cX7_share 3 = .ok (.istore_n 3, 1) := by decide +kernel
theorem dX7_share_4 : decode cX7_share 4 = .ok (.iload_n 3, 1) := by decide +kernel
theorem dX7_share_5 : decode cX7_share 5 = .ok (.aload_n 1, 1) := by decide +kernel
theorem dX7_share_6 : decode cX7_share 6 = .ok (.getfield 34, 3) := by decide +kernel
theorem dX7_share_9 : decode cX7_share 9 = .ok (.if_icmp .ge 34, 3) := by decide +kernel
theorem dX7_share_12 : decode cX7_share 12 = .ok (.aload_n 0, 1) := by decide +kernel
theorem dX7_share_13 : decode cX7_share 13 = .ok (.aload_n 1, 1) := by decide +kernel
theorem dX7_share_14 : decode cX7_share 14 = .ok (.iload_n 3, 1) := by decide +kernel
theorem dX7_share_15 : decode cX7_share 15 = .ok (.invokevirtual 39, 3) := by decide +kernel
theorem dX7_share_18 : decode cX7_share 18 = .ok (.ifCond .eq 7, 3) := by decide +kernel
theorem dX7_share_21 : decode cX7_share 21 = .ok (.aload_n 0, 1) := by decide +kernel
theorem dX7_share_22 : decode cX7_share 22 = .ok (.invokevirtual 43, 3) := by decide +kernel
theorem dX7_share_25 : decode cX7_share 25 = .ok (.aload_n 0, 1) := by decide +kernel
theorem dX7_share_26 : decode cX7_share 26 = .ok (.aload_n 1, 1) := by decide +kernel
theorem dX7_share_27 : decode cX7_share 27 = .ok (.iload_n 3, 1) := by decide +kernel
theorem dX7_share_28 : decode cX7_share 28 = .ok (.invokevirtual 46, 3) := by decide +kernel
theorem dX7_share_31 : decode cX7_share 31 = .ok (.ifCond .eq 6, 3) := by decide +kernel
theorem dX7_share_34 : decode cX7_share 34 = .ok (.iinc 2 1, 3) := by decide +kernel
theorem dX7_share_37 : decode cX7_share 37 = .ok (.iinc 3 1, 3) := by decide +kernel
theorem dX7_share_40 : decode cX7_share 40 = .ok (.goto (-36), 3) := by decide +kernel
theorem dX7_share_43 : decode cX7_share 43 = .ok (.iload_n 2, 1) := by decide +kernel
theorem dX7_share_44 : decode cX7_share 44 = .ok (.ireturn, 1) := by decide +kernel
set_option maxRecDepth 20000 in
theorem ggX7_beginsBlock_X6_isTarget : GoodIn wsX7_beginsBlock wsX6_isTarget := goodIn_r _ [6, 7, 8, 9, 10, 11, 12, 13, 15, 16, 17, 18, 19] (by decide +kernel) (by decide +kernel)
set_option maxRecDepth 20000 in
theorem gX7_beginsBlock_X6_isTarget : GoodIn wsX7_beginsBlock (wsV RX7 49 RX6 yX6_isTarget wsX6_isTarget) := goodIn_app (goodIn_of _ (by decide +kernel)) ggX7_beginsBlock_X6_isTarget
set_option maxRecDepth 20000 in
theorem ggX7_beginsBlock_X2_goesToD : GoodIn wsX7_beginsBlock wsX2_goesToD := goodIn_r _ [13] (by decide +kernel) (by decide +kernel)
set_option maxRecDepth 20000 in
theorem gX7_beginsBlock_X2_goesToD : GoodIn wsX7_beginsBlock (va_wsS RX7 56 yX2_goesToD wsX2_goesToD) := goodIn_app (goodIn_of _ (by decide +kernel)) ggX7_beginsBlock_X2_goesToD
theorem dX7_beginsBlock_0 : decode cX7_beginsBlock 0 = .ok (.iload_n 2, 1) := by decide +kernel
theorem dX7_beginsBlock_1 : decode cX7_beginsBlock 1 = .ok (.ifCond .eq 11, 3) := by decide +kernel
theorem dX7_beginsBlock_4 : decode cX7_beginsBlock 4 = .ok (.aload_n 1, 1) := by decide +kernel
theorem dX7_beginsBlock_5 : decode cX7_beginsBlock 5 = .ok (.iload_n 2, 1) := by decide +kernel
theorem dX7_beginsBlock_6 : decode cX7_beginsBlock 6 = .ok (.invokevirtual 49, 3) := by decide +kernel
theorem dX7_beginsBlock_9 : decode cX7_beginsBlock 9 = .ok (.ifCond .eq 5, 3) := by decide +kernel
theorem dX7_beginsBlock_12 : decode cX7_beginsBlock 12 = .ok (.iconst 1, 1) := by decide +kernel
theorem dX7_beginsBlock_13 : decode cX7_beginsBlock 13 = .ok (.ireturn, 1) := by decide +kernel
theorem dX7_beginsBlock_14 : decode cX7_beginsBlock 14 = .ok (.aload_n 1, 1) := by decide +kernel
theorem dX7_beginsBlock_15 : decode cX7_beginsBlock 15 = .ok (.getfield 53, 3) := by decide +kernel
theorem dX7_beginsBlock_18 : decode cX7_beginsBlock 18 = .ok (.iload_n 2, 1) := by decide +kernel
theorem dX7_beginsBlock_19 : decode cX7_beginsBlock 19 = .ok (.iconst 1, 1) := by decide +kernel
theorem dX7_beginsBlock_20 : decode cX7_beginsBlock 20 = .ok (.isub, 1) := by decide +kernel
theorem dX7_beginsBlock_21 : decode cX7_beginsBlock 21 = .ok (.iaload, 1) := by decide +kernel
theorem dX7_beginsBlock_22 : decode cX7_beginsBlock 22 = .ok (.istore_n 3, 1) := by decide +kernel
theorem dX7_beginsBlock_23 : decode cX7_beginsBlock 23 = .ok (.iload_n 3, 1) := by decide +kernel
theorem dX7_beginsBlock_24 : decode cX7_beginsBlock 24 = .ok (.invokestatic 56, 3) := by decide +kernel
theorem dX7_beginsBlock_27 : decode cX7_beginsBlock 27 = .ok (.ifCond .ne 9, 3) := by decide +kernel
theorem dX7_beginsBlock_30 : decode cX7_beginsBlock 30 = .ok (.iload_n 3, 1) := by decide +kernel
theorem dX7_beginsBlock_31 : decode cX7_beginsBlock 31 = .ok (.bipush 12, 2) := by decide +kernel
theorem dX7_beginsBlock_33 : decode cX7_beginsBlock 33 = .ok (.if_icmp .ne 7, 3) := by decide +kernel
theorem dX7_beginsBlock_36 : decode cX7_beginsBlock 36 = .ok (.iconst 1, 1) := by decide +kernel
theorem dX7_beginsBlock_37 : decode cX7_beginsBlock 37 = .ok (.goto 4, 3) := by decide +kernel
theorem dX7_beginsBlock_40 : decode cX7_beginsBlock 40 = .ok (.iconst 0, 1) := by decide +kernel
theorem dX7_beginsBlock_41 : decode cX7_beginsBlock 41 = .ok (.ireturn, 1) := by decide +kernel
theorem dX7_forgetAll_0 : decode cX7_forgetAll 0 = .ok (.iconst 0, 1) := by decide +kernel
theorem dX7_forgetAll_1 : decode cX7_forgetAll 1 = .ok (.istore_n 1, 1) := by decide +kernel
theorem dX7_forgetAll_2 : decode cX7_forgetAll 2 = .ok (.iload_n 1, 1) := by decide +kernel
theorem dX7_forgetAll_3 : decode cX7_forgetAll 3 = .ok (.bipush 8, 2) := by decide +kernel
theorem dX7_forgetAll_5 : decode cX7_forgetAll 5 = .ok (.if_icmp .ge 16, 3) := by decide +kernel
theorem dX7_forgetAll_8 : decode cX7_forgetAll 8 = .ok (.aload_n 0, 1) := by decide +kernel
theorem dX7_forgetAll_9 : decode cX7_forgetAll 9 = .ok (.getfield 9, 3) := by decide +kernel
theorem dX7_forgetAll_12 : decode cX7_forgetAll 12 = .ok (.iload_n 1, 1) := by decide +kernel
theorem dX7_forgetAll_13 : decode cX7_forgetAll 13 = .ok (.iload_n 1, 1) := by decide +kernel
theorem dX7_forgetAll_14 : decode cX7_forgetAll 14 = .ok (.iastore, 1) := by decide +kernel
theorem dX7_forgetAll_15 : decode cX7_forgetAll 15 = .ok (.iinc 1 1, 3) := by decide +kernel
theorem dX7_forgetAll_18 : decode cX7_forgetAll 18 = .ok (.goto (-16), 3) := by decide +kernel
theorem dX7_forgetAll_21 : decode cX7_forgetAll 21 = .ok (.aload_n 0, 1) := by decide +kernel
theorem dX7_forgetAll_22 : decode cX7_forgetAll 22 = .ok (.bipush 8, 2) := by decide +kernel
theorem dX7_forgetAll_24 : decode cX7_forgetAll 24 = .ok (.putfield 31, 3) := by decide +kernel
theorem dX7_forgetAll_27 : decode cX7_forgetAll 27 = .ok (.aload_n 0, 1) := by decide +kernel
theorem dX7_forgetAll_28 : decode cX7_forgetAll 28 = .ok (.iconst 0, 1) := by decide +kernel
theorem dX7_forgetAll_29 : decode cX7_forgetAll 29 = .ok (.putfield 27, 3) := by decide +kernel
theorem dX7_forgetAll_32 : decode cX7_forgetAll 32 = .ok (.return_, 1) := by decide +kernel
set_option maxRecDepth 20000 in
theorem ggX7_shareOne_X2_readsA : GoodIn wsX7_shareOne wsX2_readsA := goodIn_r _ [9] (by decide +kernel) (by decide +kernel)
set_option maxRecDepth 20000 in
theorem gX7_shareOne_X2_readsA : GoodIn wsX7_shareOne (va_wsS RX7 64 yX2_readsA wsX2_readsA) := goodIn_app (goodIn_of _ (by decide +kernel)) ggX7_shareOne_X2_readsA
set_option maxRecDepth 20000 in
theorem ggX7_shareOne_X7_lowestHolder : GoodIn wsX7_shareOne wsX7_lowestHolder := goodIn_r _ [14, 3, 66, 67, 68, 69, 70, 71, 72] (by decide +kernel) (by decide +kernel)
set_option maxRecDepth 20000 in
theorem gX7_shareOne_X7_lowestHolder : GoodIn wsX7_shareOne (wsV RX7 70 RX7 yX7_lowestHolder wsX7_lowestHolder) := goodIn_app (goodIn_of _ (by decide +kernel)) ggX7_shareOne_X7_lowestHolder
set_option maxRecDepth 20000 in
theorem ggX7_shareOne_X2_readsB : GoodIn wsX7_shareOne wsX2_readsB := goodIn_r _ [17, 18, 19, 8, 20] (by decide +kernel) (by decide +kernel)
set_option maxRecDepth 20000 in
theorem gX7_shareOne_X2_readsB : GoodIn wsX7_shareOne (va_wsS RX7 74 yX2_readsB wsX2_readsB) := goodIn_app (goodIn_of _ (by decide +kernel)) ggX7_shareOne_X2_readsB
set_option maxRecDepth 20000 in
theorem ggX7_shareOne_X2_writesD : GoodIn wsX7_shareOne wsX2_writesD := goodIn_r _ [23] (by decide +kernel) (by decide +kernel)
set_option maxRecDepth 20000 in
theorem gX7_shareOne_X2_writesD : GoodIn wsX7_shareOne (va_wsS RX7 80 yX2_writesD wsX2_writesD) := goodIn_app (goodIn_of _ (by decide +kernel)) ggX7_shareOne_X2_writesD
set_option maxRecDepth 20000 in
theorem ggX7_shareOne_X6_put : GoodIn wsX7_shareOne wsX6_put := goodIn_r _ [28, 29, 30, 31, 32, 61, 62, 63, 64, 65] (by decide +kernel) (by decide +kernel)
set_option maxRecDepth 20000 in
theorem gX7_shareOne_X6_put : GoodIn wsX7_shareOne (wsV RX7 83 RX6 yX6_put wsX6_put) := goodIn_app (goodIn_of _ (by decide +kernel)) ggX7_shareOne_X6_put
set_option maxRecDepth 20000 in
theorem ggX7_shareOne_X7_givenValue : GoodIn wsX7_shareOne wsX7_givenValue := goodIn_r _ [36, 3, 37, 38, 39, 40, 41, 42, 43, 44, 45, 46, 13, 47, 48, 49, 50, 51, 52, 53, 54, 55, 56, 57, 66, 67, 68, 69, 70, 71, 72] (by decide +kernel) (by decide +kernel)
set_option maxRecDepth 20000 in
theorem gX7_shareOne_X7_givenValue : GoodIn wsX7_shareOne (wsV RX7 87 RX7 yX7_givenValue wsX7_givenValue) := goodIn_app (goodIn_of _ (by decide +kernel)) ggX7_shareOne_X7_givenValue
set_option maxRecDepth 20000 in
theorem ggX7_shareOne_X2_onlyGivesD : GoodIn wsX7_shareOne wsX2_onlyGivesD := goodIn_r _ [60] (by decide +kernel) (by decide +kernel)
set_option maxRecDepth 20000 in
theorem gX7_shareOne_X2_onlyGivesD : GoodIn wsX7_shareOne (va_wsS RX7 91 yX2_onlyGivesD wsX2_onlyGivesD) := goodIn_app (goodIn_of _ (by decide +kernel)) ggX7_shareOne_X2_onlyGivesD
theorem dX7_shareOne_0 : decode cX7_shareOne 0 = .ok (.aload_n 1, 1) := by decide +kernel
theorem dX7_shareOne_1 : decode cX7_shareOne 1 = .ok (.getfield 53, 3) := by decide +kernel
theorem dX7_shareOne_4 : decode cX7_shareOne 4 = .ok (.iload_n 2, 1) := by decide +kernel
theorem dX7_shareOne_5 : decode cX7_shareOne 5 = .ok (.iaload, 1) := by decide +kernel
theorem dX7_shareOne_6 : decode cX7_shareOne 6 = .ok (.istore_n 3, 1) := by decide +kernel
theorem dX7_shareOne_7 : decode cX7_shareOne 7 = .ok (.aload_n 1, 1) := by decide +kernel
theorem dX7_shareOne_8 : decode cX7_shareOne 8 = .ok (.getfield 61, 3) := by decide +kernel
theorem dX7_shareOne_11 : decode cX7_shareOne 11 = .ok (.iload_n 2, 1) := by decide +kernel
theorem dX7_shareOne_12 : decode cX7_shareOne 12 = .ok (.iaload, 1) := by decide +kernel
theorem dX7_shareOne_13 : decode cX7_shareOne 13 = .ok (.istore 4, 2) := by decide +kernel
theorem dX7_shareOne_15 : decode cX7_shareOne 15 = .ok (.iload_n 3, 1) := by decide +kernel
theorem dX7_shareOne_16 : decode cX7_shareOne 16 = .ok (.invokestatic 64, 3) := by decide +kernel
theorem dX7_shareOne_19 : decode cX7_shareOne 19 = .ok (.ifCond .eq 21, 3) := by decide +kernel
theorem dX7_shareOne_22 : decode cX7_shareOne 22 = .ok (.aload_n 0, 1) := by decide +kernel
theorem dX7_shareOne_23 : decode cX7_shareOne 23 = .ok (.aload_n 0, 1) := by decide +kernel
theorem dX7_shareOne_24 : decode cX7_shareOne 24 = .ok (.getfield 9, 3) := by decide +kernel
theorem dX7_shareOne_27 : decode cX7_shareOne 27 = .ok (.aload_n 1, 1) := by decide +kernel
theorem dX7_shareOne_28 : decode cX7_shareOne 28 = .ok (.getfield 67, 3) := by decide +kernel
theorem dX7_shareOne_31 : decode cX7_shareOne 31 = .ok (.iload_n 2, 1) := by decide +kernel
theorem dX7_shareOne_32 : decode cX7_shareOne 32 = .ok (.iaload, 1) := by decide +kernel
theorem dX7_shareOne_33 : decode cX7_shareOne 33 = .ok (.iaload, 1) := by decide +kernel
theorem dX7_shareOne_34 : decode cX7_shareOne 34 = .ok (.invokevirtual 70, 3) := by decide +kernel
theorem dX7_shareOne_37 : decode cX7_shareOne 37 = .ok (.goto 9, 3) := by decide +kernel
theorem dX7_shareOne_40 : decode cX7_shareOne 40 = .ok (.aload_n 1, 1) := by decide +kernel
theorem dX7_shareOne_41 : decode cX7_shareOne 41 = .ok (.getfield 67, 3) := by decide +kernel
theorem dX7_shareOne_44 : decode cX7_shareOne 44 = .ok (.iload_n 2, 1) := by decide +kernel
theorem dX7_shareOne_45 : decode cX7_shareOne 45 = .ok (.iaload, 1) := by decide +kernel
theorem dX7_shareOne_46 : decode cX7_shareOne 46 = .ok (.istore 5, 2) := by decide +kernel
theorem dX7_shareOne_48 : decode cX7_shareOne 48 = .ok (.iload_n 3, 1) := by decide +kernel
theorem dX7_shareOne_49 : decode cX7_shareOne 49 = .ok (.invokestatic 74, 3) := by decide +kernel
theorem dX7_shareOne_52 : decode cX7_shareOne 52 = .ok (.ifCond .eq 21, 3) := by decide +kernel
theorem dX7_shareOne_55 : decode cX7_shareOne 55 = .ok (.aload_n 0, 1) := by decide +kernel
theorem dX7_shareOne_56 : decode cX7_shareOne 56 = .ok (.aload_n 0, 1) := by decide +kernel
theorem dX7_shareOne_57 : decode cX7_shareOne 57 = .ok (.getfield 9, 3) := by decide +kernel
theorem dX7_shareOne_60 : decode cX7_shareOne 60 = .ok (.aload_n 1, 1) := by decide +kernel
theorem dX7_shareOne_61 : decode cX7_shareOne 61 = .ok (.getfield 77, 3) := by decide +kernel
theorem dX7_shareOne_64 : decode cX7_shareOne 64 = .ok (.iload_n 2, 1) := by decide +kernel
theorem dX7_shareOne_65 : decode cX7_shareOne 65 = .ok (.iaload, 1) := by decide +kernel
theorem dX7_shareOne_66 : decode cX7_shareOne 66 = .ok (.iaload, 1) := by decide +kernel
theorem dX7_shareOne_67 : decode cX7_shareOne 67 = .ok (.invokevirtual 70, 3) := by decide +kernel
theorem dX7_shareOne_70 : decode cX7_shareOne 70 = .ok (.goto 9, 3) := by decide +kernel
theorem dX7_shareOne_73 : decode cX7_shareOne 73 = .ok (.aload_n 1, 1) := by decide +kernel
theorem dX7_shareOne_74 : decode cX7_shareOne 74 = .ok (.getfield 77, 3) := by decide +kernel
theorem dX7_shareOne_77 : decode cX7_shareOne 77 = .ok (.iload_n 2, 1) := by decide +kernel
theorem dX7_shareOne_78 : decode cX7_shareOne 78 = .ok (.iaload, 1) := by decide +kernel
theorem dX7_shareOne_79 : decode cX7_shareOne 79 = .ok (.istore 6, 2) := by decide +kernel
theorem dX7_shareOne_81 : decode cX7_shareOne 81 = .ok (.iload_n 3, 1) := by decide +kernel
theorem dX7_shareOne_82 : decode cX7_shareOne 82 = .ok (.invokestatic 80, 3) := by decide +kernel
theorem dX7_shareOne_85 : decode cX7_shareOne 85 = .ok (.ifCond .ne 16, 3) := by decide +kernel
theorem dX7_shareOne_88 : decode cX7_shareOne 88 = .ok (.aload_n 1, 1) := by decide +kernel
theorem dX7_shareOne_89 : decode cX7_shareOne 89 = .ok (.iload_n 2, 1) := by decide +kernel
theorem dX7_shareOne_90 : decode cX7_shareOne 90 = .ok (.iload_n 3, 1) := by decide +kernel
theorem dX7_shareOne_91 : decode cX7_shareOne 91 = .ok (.iload 4, 2) := by decide +kernel
theorem dX7_shareOne_93 : decode cX7_shareOne 93 = .ok (.iload 5, 2) := by decide +kernel
theorem dX7_shareOne_95 : decode cX7_shareOne 95 = .ok (.iload 6, 2) := by decide +kernel
theorem dX7_shareOne_97 : decode cX7_shareOne 97 = .ok (.invokevirtual 83, 3) := by decide +kernel
theorem dX7_shareOne_100 : decode cX7_shareOne 100 = .ok (.ireturn, 1) := by decide +kernel
theorem dX7_shareOne_101 : decode cX7_shareOne 101 = .ok (.aload_n 0, 1) := by decide +kernel
theorem dX7_shareOne_102 : decode cX7_shareOne 102 = .ok (.iload_n 3, 1) := by decide +kernel
theorem dX7_shareOne_103 : decode cX7_shareOne 103 = .ok (.iload 5, 2) := by decide +kernel
theorem dX7_shareOne_105 : decode cX7_shareOne 105 = .ok (.iload 6, 2) := by decide +kernel
theorem dX7_shareOne_107 : decode cX7_shareOne 107 = .ok (.invokevirtual 87, 3) := by decide +kernel
theorem dX7_shareOne_110 : decode cX7_shareOne 110 = .ok (.istore 7, 2) := by decide +kernel
theorem dX7_shareOne_112 : decode cX7_shareOne 112 = .ok (.iload_n 3, 1) := by decide +kernel
theorem dX7_shareOne_113 : decode cX7_shareOne 113 = .ok (.invokestatic 91, 3) := by decide +kernel
theorem dX7_shareOne_116 : decode cX7_shareOne 116 = .ok (.ifCond .eq 12, 3) := by decide +kernel
theorem dX7_shareOne_119 : decode cX7_shareOne 119 = .ok (.aload_n 0, 1) := by decide +kernel
theorem dX7_shareOne_120 : decode cX7_shareOne 120 = .ok (.iload 7, 2) := by decide +kernel
theorem dX7_shareOne_122 : decode cX7_shareOne 122 = .ok (.invokevirtual 70, 3) := by decide +kernel
theorem dX7_shareOne_125 : decode cX7_shareOne 125 = .ok (.goto 4, 3) := by decide +kernel
theorem dX7_shareOne_128 : decode cX7_shareOne 128 = .ok (.iconst (-1), 1) := by decide +kernel
theorem dX7_shareOne_129 : decode cX7_shareOne 129 = .ok (.istore 8, 2) := by decide +kernel
theorem dX7_shareOne_131 : decode cX7_shareOne 131 = .ok (.iload 8, 2) := by decide +kernel
theorem dX7_shareOne_133 : decode cX7_shareOne 133 = .ok (.iconst (-1), 1) := by decide +kernel
theorem dX7_shareOne_134 : decode cX7_shareOne 134 = .ok (.if_icmp .eq 19, 3) := by decide +kernel
theorem dX7_shareOne_137 : decode cX7_shareOne 137 = .ok (.aload_n 0, 1) := by decide +kernel
theorem dX7_shareOne_138 : decode cX7_shareOne 138 = .ok (.getfield 9, 3) := by decide +kernel
theorem dX7_shareOne_141 : decode cX7_shareOne 141 = .ok (.iload 4, 2) := by decide +kernel
theorem dX7_shareOne_143 : decode cX7_shareOne 143 = .ok (.iaload, 1) := by decide +kernel
theorem dX7_shareOne_144 : decode cX7_shareOne 144 = .ok (.iload 7, 2) := by decide +kernel
theorem dX7_shareOne_146 : decode cX7_shareOne 146 = .ok (.if_icmp .ne 7, 3) := by decide +kernel
theorem dX7_shareOne_149 : decode cX7_shareOne 149 = .ok (.iconst 1, 1) := by decide +kernel
theorem dX7_shareOne_150 : decode cX7_shareOne 150 = .ok (.goto 4, 3) := by decide +kernel
theorem dX7_shareOne_153 : decode cX7_shareOne 153 = .ok (.iconst 0, 1) := by decide +kernel
theorem dX7_shareOne_154 : decode cX7_shareOne 154 = .ok (.istore 9, 2) := by decide +kernel
theorem dX7_shareOne_156 : decode cX7_shareOne 156 = .ok (.aload_n 0, 1) := by decide +kernel
theorem dX7_shareOne_157 : decode cX7_shareOne 157 = .ok (.getfield 9, 3) := by decide +kernel
theorem dX7_shareOne_160 : decode cX7_shareOne 160 = .ok (.iload 4, 2) := by decide +kernel
theorem dX7_shareOne_162 : decode cX7_shareOne 162 = .ok (.iload 7, 2) := by decide +kernel
theorem dX7_shareOne_164 : decode cX7_shareOne 164 = .ok (.iastore, 1) := by decide +kernel
theorem dX7_shareOne_165 : decode cX7_shareOne 165 = .ok (.iload 9, 2) := by decide +kernel
theorem dX7_shareOne_167 : decode cX7_shareOne 167 = .ok (.ifCond .eq 13, 3) := by decide +kernel
theorem dX7_shareOne_170 : decode cX7_shareOne 170 = .ok (.aload_n 1, 1) := by decide +kernel
theorem dX7_shareOne_171 : decode cX7_shareOne 171 = .ok (.iload_n 2, 1) := by decide +kernel
theorem dX7_shareOne_172 : decode cX7_shareOne 172 = .ok (.iconst 0, 1) := by decide +kernel
theorem dX7_shareOne_173 : decode cX7_shareOne 173 = .ok (.iconst 0, 1) := by decide +kernel
theorem dX7_shareOne_174 : decode cX7_shareOne 174 = .ok (.iconst 0, 1) := by decide +kernel
theorem dX7_shareOne_175 : decode cX7_shareOne 175 = .ok (.iconst 0, 1) := by decide +kernel
theorem dX7_shareOne_176 : decode cX7_shareOne 176 = .ok (.invokevirtual 83, 3) := by decide +kernel
theorem dX7_shareOne_179 : decode cX7_shareOne 179 = .ok (.ireturn, 1) := by decide +kernel
theorem dX7_shareOne_180 : decode cX7_shareOne 180 = .ok (.iload 8, 2) := by decide +kernel
theorem dX7_shareOne_182 : decode cX7_shareOne 182 = .ok (.iconst (-1), 1) := by decide +kernel
theorem dX7_shareOne_183 : decode cX7_shareOne 183 = .ok (.if_icmp .eq 15, 3) := by decide +kernel
theorem dX7_shareOne_186 : decode cX7_shareOne 186 = .ok (.aload_n 1, 1) := by decide +kernel
theorem dX7_shareOne_187 : decode cX7_shareOne 187 = .ok (.iload_n 2, 1) := by decide +kernel
theorem dX7_shareOne_188 : decode cX7_shareOne 188 = .ok (.iconst 2, 1) := by decide +kernel
theorem dX7_shareOne_189 : decode cX7_shareOne 189 = .ok (.iload 4, 2) := by decide +kernel
theorem dX7_shareOne_191 : decode cX7_shareOne 191 = .ok (.iload 8, 2) := by decide +kernel
theorem dX7_shareOne_193 : decode cX7_shareOne 193 = .ok (.iconst 0, 1) := by decide +kernel
theorem dX7_shareOne_194 : decode cX7_shareOne 194 = .ok (.invokevirtual 83, 3) := by decide +kernel
theorem dX7_shareOne_197 : decode cX7_shareOne 197 = .ok (.ireturn, 1) := by decide +kernel
theorem dX7_shareOne_198 : decode cX7_shareOne 198 = .ok (.aload_n 1, 1) := by decide +kernel
theorem dX7_shareOne_199 : decode cX7_shareOne 199 = .ok (.iload_n 2, 1) := by decide +kernel
theorem dX7_shareOne_200 : decode cX7_shareOne 200 = .ok (.iload_n 3, 1) := by decide +kernel
theorem dX7_shareOne_201 : decode cX7_shareOne 201 = .ok (.iload 4, 2) := by decide +kernel
theorem dX7_shareOne_203 : decode cX7_shareOne 203 = .ok (.iload 5, 2) := by decide +kernel
theorem dX7_shareOne_205 : decode cX7_shareOne 205 = .ok (.iload 6, 2) := by decide +kernel
theorem dX7_shareOne_207 : decode cX7_shareOne 207 = .ok (.invokevirtual 83, 3) := by decide +kernel
theorem dX7_shareOne_210 : decode cX7_shareOne 210 = .ok (.ireturn, 1) := by decide +kernel
theorem dX7_lowestHolder_0 : decode cX7_lowestHolder 0 = .ok (.iconst 0, 1) := by decide +kernel
theorem dX7_lowestHolder_1 : decode cX7_lowestHolder 1 = .ok (.istore_n 2, 1) := by decide +kernel
theorem dX7_lowestHolder_2 : decode cX7_lowestHolder 2 = .ok (.iload_n 2, 1) := by decide +kernel
theorem dX7_lowestHolder_3 : decode cX7_lowestHolder 3 = .ok (.bipush 8, 2) := by decide +kernel
theorem dX7_lowestHolder_5 : decode cX7_lowestHolder 5 = .ok (.if_icmp .ge 21, 3) := by decide +kernel
theorem dX7_lowestHolder_8 : decode cX7_lowestHolder 8 = .ok (.aload_n 0, 1) := by decide +kernel
theorem dX7_lowestHolder_9 : decode cX7_lowestHolder 9 = .ok (.getfield 9, 3) := by decide +kernel
theorem dX7_lowestHolder_12 : decode cX7_lowestHolder 12 = .ok (.iload_n 2, 1) := by decide +kernel
theorem dX7_lowestHolder_13 : decode cX7_lowestHolder 13 = .ok (.iaload, 1) := by decide +kernel
theorem dX7_lowestHolder_14 : decode cX7_lowestHolder 14 = .ok (.iload_n 1, 1) := by decide +kernel
theorem dX7_lowestHolder_15 : decode cX7_lowestHolder 15 = .ok (.if_icmp .ne 5, 3) := by decide +kernel
theorem dX7_lowestHolder_18 : decode cX7_lowestHolder 18 = .ok (.iload_n 2, 1) := by decide +kernel
theorem dX7_lowestHolder_19 : decode cX7_lowestHolder 19 = .ok (.ireturn, 1) := by decide +kernel
theorem dX7_lowestHolder_20 : decode cX7_lowestHolder 20 = .ok (.iinc 2 1, 3) := by decide +kernel
theorem dX7_lowestHolder_23 : decode cX7_lowestHolder 23 = .ok (.goto (-21), 3) := by decide +kernel
theorem dX7_lowestHolder_26 : decode cX7_lowestHolder 26 = .ok (.iconst (-1), 1) := by decide +kernel
theorem dX7_lowestHolder_27 : decode cX7_lowestHolder 27 = .ok (.ireturn, 1) := by decide +kernel
set_option maxRecDepth 20000 in
theorem ggX7_givenValue_X7_tableValue : GoodIn wsX7_givenValue wsX7_tableValue := goodIn_r _ [13, 14, 15, 16, 17, 18, 19, 20, 21, 12, 22, 23, 24, 25, 26, 27, 28, 29, 30] (by decide +kernel) (by decide +kernel)
set_option maxRecDepth 20000 in
theorem gX7_givenValue_X7_tableValue : GoodIn wsX7_givenValue (wsV RX7 94 RX7 yX7_tableValue wsX7_tableValue) := goodIn_app (goodIn_of _ (by decide +kernel)) ggX7_givenValue_X7_tableValue
set_option maxRecDepth 20000 in
theorem ggX7_givenValue_X7_newValue : GoodIn wsX7_givenValue wsX7_newValue := goodIn_r _ [22, 23, 24, 25, 26, 27, 28, 29, 30] (by decide +kernel) (by decide +kernel)
set_option maxRecDepth 20000 in
theorem gX7_givenValue_X7_newValue : GoodIn wsX7_givenValue (wsV RX7 106 RX7 yX7_newValue wsX7_newValue) := goodIn_app (goodIn_of _ (by decide +kernel)) ggX7_givenValue_X7_newValue
theorem dX7_givenValue_0 : decode cX7_givenValue 0 = .ok (.iload_n 1, 1) := by decide +kernel
theorem dX7_givenValue_1 : decode cX7_givenValue 1 = .ok (.tableswitch 104 1 5 #[35, 43, 68, 50, 68], 35) := by decide +kernel
theorem dX7_givenValue_36 : decode cX7_givenValue 36 = .ok (.aload_n 0, 1) := by decide +kernel
theorem dX7_givenValue_37 : decode cX7_givenValue 37 = .ok (.iconst 1, 1) := by decide +kernel
theorem dX7_givenValue_38 : decode cX7_givenValue 38 = .ok (.iload_n 2, 1) := by decide +kernel
theorem dX7_givenValue_39 : decode cX7_givenValue 39 = .ok (.iconst 0, 1) := by decide +kernel
theorem dX7_givenValue_40 : decode cX7_givenValue 40 = .ok (.invokevirtual 94, 3) := by decide +kernel
theorem dX7_givenValue_43 : decode cX7_givenValue 43 = .ok (.ireturn, 1) := by decide +kernel
theorem dX7_givenValue_44 : decode cX7_givenValue 44 = .ok (.aload_n 0, 1) := by decide +kernel
theorem dX7_givenValue_45 : decode cX7_givenValue 45 = .ok (.getfield 9, 3) := by decide +kernel
theorem dX7_givenValue_48 : decode cX7_givenValue 48 = .ok (.iload_n 2, 1) := by decide +kernel
theorem dX7_givenValue_49 : decode cX7_givenValue 49 = .ok (.iaload, 1) := by decide +kernel
theorem dX7_givenValue_50 : decode cX7_givenValue 50 = .ok (.ireturn, 1) := by decide +kernel
theorem dX7_givenValue_51 : decode cX7_givenValue 51 = .ok (.aload_n 0, 1) := by decide +kernel
theorem dX7_givenValue_52 : decode cX7_givenValue 52 = .ok (.iconst 4, 1) := by decide +kernel
theorem dX7_givenValue_53 : decode cX7_givenValue 53 = .ok (.aload_n 0, 1) := by decide +kernel
theorem dX7_givenValue_54 : decode cX7_givenValue 54 = .ok (.getfield 9, 3) := by decide +kernel
theorem dX7_givenValue_57 : decode cX7_givenValue 57 = .ok (.iload_n 2, 1) := by decide +kernel
theorem dX7_givenValue_58 : decode cX7_givenValue 58 = .ok (.iaload, 1) := by decide +kernel
theorem dX7_givenValue_59 : decode cX7_givenValue 59 = .ok (.aload_n 0, 1) := by decide +kernel
theorem dX7_givenValue_60 : decode cX7_givenValue 60 = .ok (.getfield 9, 3) := by decide +kernel
theorem dX7_givenValue_63 : decode cX7_givenValue 63 = .ok (.iload_n 3, 1) := by decide +kernel
theorem dX7_givenValue_64 : decode cX7_givenValue 64 = .ok (.iaload, 1) := by decide +kernel
theorem dX7_givenValue_65 : decode cX7_givenValue 65 = .ok (.invokevirtual 94, 3) := by decide +kernel
theorem dX7_givenValue_68 : decode cX7_givenValue 68 = .ok (.ireturn, 1) := by decide +kernel
theorem dX7_givenValue_69 : decode cX7_givenValue 69 = .ok (.aload_n 0, 1) := by decide +kernel
theorem dX7_givenValue_70 : decode cX7_givenValue 70 = .ok (.iload_n 1, 1) := by decide +kernel
theorem dX7_givenValue_71 : decode cX7_givenValue 71 = .ok (.aload_n 0, 1) := by decide +kernel
theorem dX7_givenValue_72 : decode cX7_givenValue 72 = .ok (.getfield 9, 3) := by decide +kernel
theorem dX7_givenValue_75 : decode cX7_givenValue 75 = .ok (.iload_n 2, 1) := by decide +kernel
theorem dX7_givenValue_76 : decode cX7_givenValue 76 = .ok (.iaload, 1) := by decide +kernel
theorem dX7_givenValue_77 : decode cX7_givenValue 77 = .ok (.aload_n 0, 1) := by decide +kernel
theorem dX7_givenValue_78 : decode cX7_givenValue 78 = .ok (.getfield 9, 3) := by decide +kernel
theorem dX7_givenValue_81 : decode cX7_givenValue 81 = .ok (.iload_n 3, 1) := by decide +kernel
theorem dX7_givenValue_82 : decode cX7_givenValue 82 = .ok (.iaload, 1) := by decide +kernel
theorem dX7_givenValue_83 : decode cX7_givenValue 83 = .ok (.invokestatic 97, 3) := by decide +kernel
theorem dX7_givenValue_86 : decode cX7_givenValue 86 = .ok (.aload_n 0, 1) := by decide +kernel
theorem dX7_givenValue_87 : decode cX7_givenValue 87 = .ok (.getfield 9, 3) := by decide +kernel
theorem dX7_givenValue_90 : decode cX7_givenValue 90 = .ok (.iload_n 2, 1) := by decide +kernel
theorem dX7_givenValue_91 : decode cX7_givenValue 91 = .ok (.iaload, 1) := by decide +kernel
theorem dX7_givenValue_92 : decode cX7_givenValue 92 = .ok (.aload_n 0, 1) := by decide +kernel
theorem dX7_givenValue_93 : decode cX7_givenValue 93 = .ok (.getfield 9, 3) := by decide +kernel
theorem dX7_givenValue_96 : decode cX7_givenValue 96 = .ok (.iload_n 3, 1) := by decide +kernel
theorem dX7_givenValue_97 : decode cX7_givenValue 97 = .ok (.iaload, 1) := by decide +kernel
theorem dX7_givenValue_98 : decode cX7_givenValue 98 = .ok (.invokestatic 103, 3) := by decide +kernel
theorem dX7_givenValue_101 : decode cX7_givenValue 101 = .ok (.invokevirtual 94, 3) := by decide +kernel
theorem dX7_givenValue_104 : decode cX7_givenValue 104 = .ok (.ireturn, 1) := by decide +kernel
theorem dX7_givenValue_105 : decode cX7_givenValue 105 = .ok (.aload_n 0, 1) := by decide +kernel
theorem dX7_givenValue_106 : decode cX7_givenValue 106 = .ok (.invokevirtual 106, 3) := by decide +kernel
theorem dX7_givenValue_109 : decode cX7_givenValue 109 = .ok (.ireturn, 1) := by decide +kernel
theorem dX7_newValue_0 : decode cX7_newValue 0 = .ok (.aload_n 0, 1) := by decide +kernel
theorem dX7_newValue_1 : decode cX7_newValue 1 = .ok (.dup, 1) := by decide +kernel
theorem dX7_newValue_2 : decode cX7_newValue 2 = .ok (.getfield 31, 3) := by decide +kernel
theorem dX7_newValue_5 : decode cX7_newValue 5 = .ok (.iconst 1, 1) := by decide +kernel
theorem dX7_newValue_6 : decode cX7_newValue 6 = .ok (.iadd, 1) := by decide +kernel
theorem dX7_newValue_7 : decode cX7_newValue 7 = .ok (.putfield 31, 3) := by decide +kernel
theorem dX7_newValue_10 : decode cX7_newValue 10 = .ok (.aload_n 0, 1) := by decide +kernel
theorem dX7_newValue_11 : decode cX7_newValue 11 = .ok (.getfield 31, 3) := by decide +kernel
theorem dX7_newValue_14 : decode cX7_newValue 14 = .ok (.iconst 1, 1) := by decide +kernel
theorem dX7_newValue_15 : decode cX7_newValue 15 = .ok (.isub, 1) := by decide +kernel
theorem dX7_newValue_16 : decode cX7_newValue 16 = .ok (.ireturn, 1) := by decide +kernel
set_option maxRecDepth 20000 in
theorem ggX7_tableValue_X7_newValue : GoodIn wsX7_tableValue wsX7_newValue := goodIn_r _ [10, 11, 12, 13, 14, 15, 16, 17, 18] (by decide +kernel) (by decide +kernel)
set_option maxRecDepth 20000 in
theorem gX7_tableValue_X7_newValue : GoodIn wsX7_tableValue (wsV RX7 106 RX7 yX7_newValue wsX7_newValue) := goodIn_app (goodIn_of _ (by decide +kernel)) ggX7_tableValue_X7_newValue
theorem dX7_tableValue_0 : decode cX7_tableValue 0 = .ok (.iconst 0, 1) := by decide +kernel
theorem dX7_tableValue_1 : decode cX7_tableValue 1 = .ok (.istore 4, 2) := by decide +kernel
theorem dX7_tableValue_3 : decode cX7_tableValue 3 = .ok (.iload 4, 2) := by decide +kernel
theorem dX7_tableValue_5 : decode cX7_tableValue 5 = .ok (.aload_n 0, 1) := by decide +kernel
theorem dX7_tableValue_6 : decode cX7_tableValue 6 = .ok (.getfield 27, 3) := by decide +kernel
theorem dX7_tableValue_9 : decode cX7_tableValue 9 = .ok (.if_icmp .ge 50, 3) := by decide +kernel
theorem dX7_tableValue_12 : decode cX7_tableValue 12 = .ok (.aload_n 0, 1) := by decide +kernel
theorem dX7_tableValue_13 : decode cX7_tableValue 13 = .ok (.getfield 15, 3) := by decide +kernel
theorem dX7_tableValue_16 : decode cX7_tableValue 16 = .ok (.iload 4, 2) := by decide +kernel
theorem dX7_tableValue_18 : decode cX7_tableValue 18 = .ok (.iaload, 1) := by decide +kernel
theorem dX7_tableValue_19 : decode cX7_tableValue 19 = .ok (.iload_n 1, 1) := by decide +kernel
theorem dX7_tableValue_20 : decode cX7_tableValue 20 = .ok (.if_icmp .ne 33, 3) := by decide +kernel
theorem dX7_tableValue_23 : decode cX7_tableValue 23 = .ok (.aload_n 0, 1) := by decide +kernel
theorem dX7_tableValue_24 : decode cX7_tableValue 24 = .ok (.getfield 18, 3) := by decide +kernel
theorem dX7_tableValue_27 : decode cX7_tableValue 27 = .ok (.iload 4, 2) := by decide +kernel
theorem dX7_tableValue_29 : decode cX7_tableValue 29 = .ok (.iaload, 1) := by decide +kernel
theorem dX7_tableValue_30 : decode cX7_tableValue 30 = .ok (.iload_n 2, 1) := by decide +kernel
theorem dX7_tableValue_31 : decode cX7_tableValue 31 = .ok (.if_icmp .ne 22, 3) := by decide +kernel
theorem dX7_tableValue_34 : decode cX7_tableValue 34 = .ok (.aload_n 0, 1) := by decide +kernel
theorem dX7_tableValue_35 : decode cX7_tableValue 35 = .ok (.getfield 21, 3) := by decide +kernel
theorem dX7_tableValue_38 : decode cX7_tableValue 38 = .ok (.iload 4, 2) := by decide +kernel
theorem dX7_tableValue_40 : decode cX7_tableValue 40 = .ok (.iaload, 1) := by decide +kernel
theorem dX7_tableValue_41 : decode cX7_tableValue 41 = .ok (.iload_n 3, 1) := by decide +kernel
theorem dX7_tableValue_42 : decode cX7_tableValue 42 = .ok (.if_icmp .ne 11, 3) := by decide +kernel
theorem dX7_tableValue_45 : decode cX7_tableValue 45 = .ok (.aload_n 0, 1) := by decide +kernel
theorem dX7_tableValue_46 : decode cX7_tableValue 46 = .ok (.getfield 24, 3) := by decide +kernel
theorem dX7_tableValue_49 : decode cX7_tableValue 49 = .ok (.iload 4, 2) := by decide +kernel
theorem dX7_tableValue_51 : decode cX7_tableValue 51 = .ok (.iaload, 1) := by decide +kernel
theorem dX7_tableValue_52 : decode cX7_tableValue 52 = .ok (.ireturn, 1) := by decide +kernel
theorem dX7_tableValue_53 : decode cX7_tableValue 53 = .ok (.iinc 4 1, 3) := by decide +kernel
theorem dX7_tableValue_56 : decode cX7_tableValue 56 = .ok (.goto (-53), 3) := by decide +kernel
theorem dX7_tableValue_59 : decode cX7_tableValue 59 = .ok (.aload_n 0, 1) := by decide +kernel
theorem dX7_tableValue_60 : decode cX7_tableValue 60 = .ok (.invokevirtual 106, 3) := by decide +kernel
theorem dX7_tableValue_63 : decode cX7_tableValue 63 = .ok (.istore 4, 2) := by decide +kernel
theorem dX7_tableValue_65 : decode cX7_tableValue 65 = .ok (.aload_n 0, 1) := by decide +kernel
theorem dX7_tableValue_66 : decode cX7_tableValue 66 = .ok (.getfield 27, 3) := by decide +kernel
theorem dX7_tableValue_69 : decode cX7_tableValue 69 = .ok (.bipush 24, 2) := by decide +kernel
theorem dX7_tableValue_71 : decode cX7_tableValue 71 = .ok (.if_icmp .ge 54, 3) := by decide +kernel
theorem dX7_tableValue_74 : decode cX7_tableValue 74 = .ok (.aload_n 0, 1) := by decide +kernel
theorem dX7_tableValue_75 : decode cX7_tableValue 75 = .ok (.getfield 15, 3) := by decide +kernel
theorem dX7_tableValue_78 : decode cX7_tableValue 78 = .ok (.aload_n 0, 1) := by decide +kernel
theorem dX7_tableValue_79 : decode cX7_tableValue 79 = .ok (.getfield 27, 3) := by decide +kernel
theorem dX7_tableValue_82 : decode cX7_tableValue 82 = .ok (.iload_n 1, 1) := by decide +kernel
theorem dX7_tableValue_83 : decode cX7_tableValue 83 = .ok (.iastore, 1) := by decide +kernel
theorem dX7_tableValue_84 : decode cX7_tableValue 84 = .ok (.aload_n 0, 1) := by decide +kernel
theorem dX7_tableValue_85 : decode cX7_tableValue 85 = .ok (.getfield 18, 3) := by decide +kernel
theorem dX7_tableValue_88 : decode cX7_tableValue 88 = .ok (.aload_n 0, 1) := by decide +kernel
theorem dX7_tableValue_89 : decode cX7_tableValue 89 = .ok (.getfield 27, 3) := by decide +kernel
theorem dX7_tableValue_92 : decode cX7_tableValue 92 = .ok (.iload_n 2, 1) := by decide +kernel
theorem dX7_tableValue_93 : decode cX7_tableValue 93 = .ok (.iastore, 1) := by decide +kernel
theorem dX7_tableValue_94 : decode cX7_tableValue 94 = .ok (.aload_n 0, 1) := by decide +kernel
theorem dX7_tableValue_95 : decode cX7_tableValue 95 = .ok (.getfield 21, 3) := by decide +kernel
theorem dX7_tableValue_98 : decode cX7_tableValue 98 = .ok (.aload_n 0, 1) := by decide +kernel
theorem dX7_tableValue_99 : decode cX7_tableValue 99 = .ok (.getfield 27, 3) := by decide +kernel
theorem dX7_tableValue_102 : decode cX7_tableValue 102 = .ok (.iload_n 3, 1) := by decide +kernel
theorem dX7_tableValue_103 : decode cX7_tableValue 103 = .ok (.iastore, 1) := by decide +kernel
theorem dX7_tableValue_104 : decode cX7_tableValue 104 = .ok (.aload_n 0, 1) := by decide +kernel
theorem dX7_tableValue_105 : decode cX7_tableValue 105 = .ok (.getfield 24, 3) := by decide +kernel
theorem dX7_tableValue_108 : decode cX7_tableValue 108 = .ok (.aload_n 0, 1) := by decide +kernel
theorem dX7_tableValue_109 : decode cX7_tableValue 109 = .ok (.getfield 27, 3) := by decide +kernel
theorem dX7_tableValue_112 : decode cX7_tableValue 112 = .ok (.iload 4, 2) := by decide +kernel
theorem dX7_tableValue_114 : decode cX7_tableValue 114 = .ok (.iastore, 1) := by decide +kernel
theorem dX7_tableValue_115 : decode cX7_tableValue 115 = .ok (.aload_n 0, 1) := by decide +kernel
theorem dX7_tableValue_116 : decode cX7_tableValue 116 = .ok (.dup, 1) := by decide +kernel
theorem dX7_tableValue_117 : decode cX7_tableValue 117 = .ok (.getfield 27, 3) := by decide +kernel
theorem dX7_tableValue_120 : decode cX7_tableValue 120 = .ok (.iconst 1, 1) := by decide +kernel
theorem dX7_tableValue_121 : decode cX7_tableValue 121 = .ok (.iadd, 1) := by decide +kernel
theorem dX7_tableValue_122 : decode cX7_tableValue 122 = .ok (.putfield 27, 3) := by decide +kernel
theorem dX7_tableValue_125 : decode cX7_tableValue 125 = .ok (.iload 4, 2) := by decide +kernel
theorem dX7_tableValue_127 : decode cX7_tableValue 127 = .ok (.ireturn, 1) := by decide +kernel
theorem dX5_init_0 : decode cX5_init 0 = .ok (.aload_n 0, 1) := by decide +kernel
theorem dX5_init_1 : decode cX5_init 1 = .ok (.invokespecial 3, 3) := by decide +kernel
theorem dX5_init_4 : decode cX5_init 4 = .ok (.aload_n 0, 1) := by decide +kernel
theorem dX5_init_5 : decode cX5_init 5 = .ok (.bipush 24, 2) := by decide +kernel
theorem dX5_init_7 : decode cX5_init 7 = .ok (.newarray .boolean, 2) := by decide +kernel
theorem dX5_init_9 : decode cX5_init 9 = .ok (.putfield 9, 3) := by decide +kernel
theorem dX5_init_12 : decode cX5_init 12 = .ok (.aload_n 0, 1) := by decide +kernel
theorem dX5_init_13 : decode cX5_init 13 = .ok (.bipush 25, 2) := by decide +kernel
theorem dX5_init_15 : decode cX5_init 15 = .ok (.newarray .int, 2) := by decide +kernel
theorem dX5_init_17 : decode cX5_init 17 = .ok (.putfield 15, 3) := by decide +kernel
theorem dX5_init_20 : decode cX5_init 20 = .ok (.return_, 1) := by decide +kernel
set_option maxRecDepth 20000 in
theorem ggX5_pack_X2_goesToD : GoodIn wsX5_pack wsX2_goesToD := goodIn_r _ [6] (by decide +kernel) (by decide +kernel)
set_option maxRecDepth 20000 in
theorem gX5_pack_X2_goesToD : GoodIn wsX5_pack (va_wsS RX5 28 yX2_goesToD wsX2_goesToD) := goodIn_app (goodIn_of _ (by decide +kernel)) ggX5_pack_X2_goesToD
set_option maxRecDepth 20000 in
theorem ggX5_pack_X5_goFurther : GoodIn wsX5_pack wsX5_goFurther := goodIn_r _ [11, 12, 2, 13, 14, 15, 10, 16, 1, 51, 52, 53, 54, 55] (by decide +kernel) (by decide +kernel)
set_option maxRecDepth 20000 in
theorem gX5_pack_X5_goFurther : GoodIn wsX5_pack (wsV RX5 34 RX5 yX5_goFurther wsX5_goFurther) := goodIn_app (goodIn_of _ (by decide +kernel)) ggX5_pack_X5_goFurther
set_option maxRecDepth 20000 in
theorem ggX5_pack_X5_choose : GoodIn wsX5_pack wsX5_choose := goodIn_r _ [20, 1, 21, 2, 22, 23, 24, 25, 10, 26, 12, 13, 14, 15, 16, 51, 52, 53, 54, 55, 56, 57] (by decide +kernel) (by decide +kernel)
set_option maxRecDepth 20000 in
theorem gX5_pack_X5_choose : GoodIn wsX5_pack (wsV RX5 38 RX5 yX5_choose wsX5_choose) := goodIn_app (goodIn_of _ (by decide +kernel)) ggX5_pack_X5_choose
set_option maxRecDepth 20000 in
theorem ggX5_pack_X5_takeOut : GoodIn wsX5_pack wsX5_takeOut := goodIn_r _ [30, 1, 21, 2, 22, 12, 31, 32, 33, 34, 35, 36, 37, 38, 3, 4, 5, 6, 39, 40, 41, 42, 43, 44, 45, 46, 47, 48, 49, 50, 51, 52, 53, 54, 55, 56, 57] (by decide +kernel) (by decide +kernel)
set_option maxRecDepth 20000 in
theorem gX5_pack_X5_takeOut : GoodIn wsX5_pack (wsV RX5 42 RX5 yX5_takeOut wsX5_takeOut) := goodIn_app (goodIn_of _ (by decide +kernel)) ggX5_pack_X5_takeOut
theorem dX5_pack_0 : decode cX5_pack 0 = .ok (.iconst 0, 1) := by decide +kernel
theorem dX5_pack_1 : decode cX5_pack 1 = .ok (.istore_n 2, 1) := by decide +kernel
theorem dX5_pack_2 : decode cX5_pack 2 = .ok (.iload_n 2, 1) := by decide +kernel
theorem dX5_pack_3 : decode cX5_pack 3 = .ok (.aload_n 1, 1) := by decide +kernel
theorem dX5_pack_4 : decode cX5_pack 4 = .ok (.getfield 19, 3) := by decide +kernel
theorem dX5_pack_7 : decode cX5_pack 7 = .ok (.if_icmp .ge 27, 3) := by decide +kernel
theorem dX5_pack_10 : decode cX5_pack 10 = .ok (.aload_n 1, 1) := by decide +kernel
theorem dX5_pack_11 : decode cX5_pack 11 = .ok (.getfield 25, 3) := by decide +kernel
theorem dX5_pack_14 : decode cX5_pack 14 = .ok (.iload_n 2, 1) := by decide +kernel
theorem dX5_pack_15 : decode cX5_pack 15 = .ok (.iaload, 1) := by decide +kernel
theorem dX5_pack_16 : decode cX5_pack 16 = .ok (.invokestatic 28, 3) := by decide +kernel
theorem dX5_pack_19 : decode cX5_pack 19 = .ok (.ifCond .eq 9, 3) := by decide +kernel
theorem dX5_pack_22 : decode cX5_pack 22 = .ok (.aload_n 0, 1) := by decide +kernel
theorem dX5_pack_23 : decode cX5_pack 23 = .ok (.aload_n 1, 1) := by decide +kernel
theorem dX5_pack_24 : decode cX5_pack 24 = .ok (.iload_n 2, 1) := by decide +kernel
theorem dX5_pack_25 : decode cX5_pack 25 = .ok (.invokevirtual 34, 3) := by decide +kernel
theorem dX5_pack_28 : decode cX5_pack 28 = .ok (.iinc 2 1, 3) := by decide +kernel
theorem dX5_pack_31 : decode cX5_pack 31 = .ok (.goto (-29), 3) := by decide +kernel
theorem dX5_pack_34 : decode cX5_pack 34 = .ok (.aload_n 0, 1) := by decide +kernel
theorem dX5_pack_35 : decode cX5_pack 35 = .ok (.aload_n 1, 1) := by decide +kernel
theorem dX5_pack_36 : decode cX5_pack 36 = .ok (.invokevirtual 38, 3) := by decide +kernel
theorem dX5_pack_39 : decode cX5_pack 39 = .ok (.aload_n 0, 1) := by decide +kernel
theorem dX5_pack_40 : decode cX5_pack 40 = .ok (.aload_n 1, 1) := by decide +kernel
theorem dX5_pack_41 : decode cX5_pack 41 = .ok (.invokevirtual 42, 3) := by decide +kernel
theorem dX5_pack_44 : decode cX5_pack 44 = .ok (.ireturn, 1) := by decide +kernel
theorem dX5_pastNothing_0 : decode cX5_pastNothing 0 = .ok (.iload_n 2, 1) := by decide +kernel
theorem dX5_pastNothing_1 : decode cX5_pastNothing 1 = .ok (.istore_n 3, 1) := by decide +kernel
theorem dX5_pastNothing_2 : decode cX5_pastNothing 2 = .ok (.iload_n 3, 1) := by decide +kernel
theorem dX5_pastNothing_3 : decode cX5_pastNothing 3 = .ok (.aload_n 1, 1) := by decide +kernel
theorem dX5_pastNothing_4 : decode cX5_pastNothing 4 = .ok (.getfield 19, 3) := by decide +kernel
theorem dX5_pastNothing_7 : decode cX5_pastNothing 7 = .ok (.if_icmp .ge 20, 3) := by decide +kernel
theorem dX5_pastNothing_10 : decode cX5_pastNothing 10 = .ok (.aload_n 1, 1) := by decide +kernel
theorem dX5_pastNothing_11 : decode cX5_pastNothing 11 = .ok (.getfield 25, 3) := by decide +kernel
theorem dX5_pastNothing_14 : decode cX5_pastNothing 14 = .ok (.iload_n 3, 1) := by decide +kernel
theorem dX5_pastNothing_15 : decode cX5_pastNothing 15 = .ok (.iaload, 1) := by decide +kernel
theorem dX5_pastNothing_16 : decode cX5_pastNothing 16 = .ok (.ifCond .eq 5, 3) := by decide +kernel
theorem dX5_pastNothing_19 : decode cX5_pastNothing 19 = .ok (.iload_n 3, 1) := by decide +kernel
theorem dX5_pastNothing_20 : decode cX5_pastNothing 20 = .ok (.ireturn, 1) := by decide +kernel
theorem dX5_pastNothing_21 : decode cX5_pastNothing 21 = .ok (.iinc 3 1, 3) := by decide +kernel
theorem dX5_pastNothing_24 : decode cX5_pastNothing 24 = .ok (.goto (-22), 3) := by decide +kernel
theorem dX5_pastNothing_27 : decode cX5_pastNothing 27 = .ok (.iconst (-1), 1) := by decide +kernel
theorem dX5_pastNothing_28 : decode cX5_pastNothing 28 = .ok (.ireturn, 1) := by decide +kernel
set_option maxRecDepth 20000 in
theorem ggX5_goFurther_X5_pastNothing : GoodIn wsX5_goFurther wsX5_pastNothing := goodIn_r _ [7, 8, 2, 9, 10, 11, 12, 13] (by decide +kernel) (by decide +kernel)
set_option maxRecDepth 20000 in
theorem gX5_goFurther_X5_pastNothing : GoodIn wsX5_goFurther (wsV RX5 49 RX5 yX5_pastNothing wsX5_pastNothing) := goodIn_app (goodIn_of _ (by decide +kernel)) ggX5_goFurther_X5_pastNothing
theorem dX5_goFurther_0 : decode cX5_goFurther 0 = .ok (.iconst 0, 1) := by decide +kernel
theorem dX5_goFurther_1 : decode cX5_goFurther 1 = .ok (.istore_n 3, 1) := by decide +kernel
theorem dX5_goFurther_2 : decode cX5_goFurther 2 = .ok (.iload_n 3, 1) := by decide +kernel
theorem dX5_goFurther_3 : decode cX5_goFurther 3 = .ok (.bipush 24, 2) := by decide +kernel
theorem dX5_goFurther_5 : decode cX5_goFurther 5 = .ok (.if_icmp .ge 53, 3) := by decide +kernel
theorem dX5_goFurther_8 : decode cX5_goFurther 8 = .ok (.aload_n 0, 1) := by decide +kernel
theorem dX5_goFurther_9 : decode cX5_goFurther 9 = .ok (.aload_n 1, 1) := by decide +kernel
theorem dX5_goFurther_10 : decode cX5_goFurther 10 = .ok (.aload_n 1, 1) := by decide +kernel
theorem dX5_goFurther_11 : decode cX5_goFurther 11 = .ok (.getfield 46, 3) := by decide +kernel
theorem dX5_goFurther_14 : decode cX5_goFurther 14 = .ok (.iload_n 2, 1) := by decide +kernel
theorem dX5_goFurther_15 : decode cX5_goFurther 15 = .ok (.iaload, 1) := by decide +kernel
theorem dX5_goFurther_16 : decode cX5_goFurther 16 = .ok (.invokevirtual 49, 3) := by decide +kernel
theorem dX5_goFurther_19 : decode cX5_goFurther 19 = .ok (.istore 4, 2) := by decide +kernel
theorem dX5_goFurther_21 : decode cX5_goFurther 21 = .ok (.iload 4, 2) := by decide +kernel
theorem dX5_goFurther_23 : decode cX5_goFurther 23 = .ok (.iconst (-1), 1) := by decide +kernel
theorem dX5_goFurther_24 : decode cX5_goFurther 24 = .ok (.if_icmp .eq 28, 3) := by decide +kernel
theorem dX5_goFurther_27 : decode cX5_goFurther 27 = .ok (.aload_n 1, 1) := by decide +kernel
theorem dX5_goFurther_28 : decode cX5_goFurther 28 = .ok (.getfield 25, 3) := by decide +kernel
theorem dX5_goFurther_31 : decode cX5_goFurther 31 = .ok (.iload 4, 2) := by decide +kernel
theorem dX5_goFurther_33 : decode cX5_goFurther 33 = .ok (.iaload, 1) := by decide +kernel
theorem dX5_goFurther_34 : decode cX5_goFurther 34 = .ok (.bipush 9, 2) := by decide +kernel
theorem dX5_goFurther_36 : decode cX5_goFurther 36 = .ok (.if_icmp .ne 16, 3) := by decide +kernel
theorem dX5_goFurther_39 : decode cX5_goFurther 39 = .ok (.aload_n 1, 1) := by decide +kernel
theorem dX5_goFurther_40 : decode cX5_goFurther 40 = .ok (.getfield 46, 3) := by decide +kernel
theorem dX5_goFurther_43 : decode cX5_goFurther 43 = .ok (.iload_n 2, 1) := by decide +kernel
theorem dX5_goFurther_44 : decode cX5_goFurther 44 = .ok (.aload_n 1, 1) := by decide +kernel
theorem dX5_goFurther_45 : decode cX5_goFurther 45 = .ok (.getfield 46, 3) := by decide +kernel
theorem dX5_goFurther_48 : decode cX5_goFurther 48 = .ok (.iload 4, 2) := by decide +kernel
theorem dX5_goFurther_50 : decode cX5_goFurther 50 = .ok (.iaload, 1) := by decide +kernel
theorem dX5_goFurther_51 : decode cX5_goFurther 51 = .ok (.iastore, 1) := by decide +kernel
theorem dX5_goFurther_52 : decode cX5_goFurther 52 = .ok (.iinc 3 1, 3) := by decide +kernel
theorem dX5_goFurther_55 : decode cX5_goFurther 55 = .ok (.goto (-53), 3) := by decide +kernel
theorem dX5_goFurther_58 : decode cX5_goFurther 58 = .ok (.return_, 1) := by decide +kernel
set_option maxRecDepth 20000 in
theorem ggX5_choose_X5_goesToNext : GoodIn wsX5_choose wsX5_goesToNext := goodIn_r _ [9, 3, 10, 11, 12, 13, 8, 14, 1, 15, 16, 17, 18, 19] (by decide +kernel) (by decide +kernel)
set_option maxRecDepth 20000 in
theorem gX5_choose_X5_goesToNext : GoodIn wsX5_choose (wsV RX5 53 RX5 yX5_goesToNext wsX5_goesToNext) := goodIn_app (goodIn_of _ (by decide +kernel)) ggX5_choose_X5_goesToNext
theorem dX5_choose_0 : decode cX5_choose 0 = .ok (.iconst 0, 1) := by decide +kernel
theorem dX5_choose_1 : decode cX5_choose 1 = .ok (.istore_n 2, 1) := by decide +kernel
theorem dX5_choose_2 : decode cX5_choose 2 = .ok (.iconst 0, 1) := by decide +kernel
theorem dX5_choose_3 : decode cX5_choose 3 = .ok (.istore_n 3, 1) := by decide +kernel
theorem dX5_choose_4 : decode cX5_choose 4 = .ok (.iload_n 3, 1) := by decide +kernel
theorem dX5_choose_5 : decode cX5_choose 5 = .ok (.aload_n 1, 1) := by decide +kernel
theorem dX5_choose_6 : decode cX5_choose 6 = .ok (.getfield 19, 3) := by decide +kernel
theorem dX5_choose_9 : decode cX5_choose 9 = .ok (.if_icmp .ge 57, 3) := by decide +kernel
theorem dX5_choose_12 : decode cX5_choose 12 = .ok (.aload_n 0, 1) := by decide +kernel
theorem dX5_choose_13 : decode cX5_choose 13 = .ok (.getfield 9, 3) := by decide +kernel
theorem dX5_choose_16 : decode cX5_choose 16 = .ok (.iload_n 3, 1) := by decide +kernel
theorem dX5_choose_17 : decode cX5_choose 17 = .ok (.aload_n 1, 1) := by decide +kernel
theorem dX5_choose_18 : decode cX5_choose 18 = .ok (.getfield 25, 3) := by decide +kernel
theorem dX5_choose_21 : decode cX5_choose 21 = .ok (.iload_n 3, 1) := by decide +kernel
theorem dX5_choose_22 : decode cX5_choose 22 = .ok (.iaload, 1) := by decide +kernel
theorem dX5_choose_23 : decode cX5_choose 23 = .ok (.ifCond .eq 12, 3) := by decide +kernel
theorem dX5_choose_26 : decode cX5_choose 26 = .ok (.aload_n 0, 1) := by decide +kernel
theorem dX5_choose_27 : decode cX5_choose 27 = .ok (.aload_n 1, 1) := by decide +kernel
theorem dX5_choose_28 : decode cX5_choose 28 = .ok (.iload_n 3, 1) := by decide +kernel
theorem dX5_choose_29 : decode cX5_choose 29 = .ok (.invokevirtual 53, 3) := by decide +kernel
theorem dX5_choose_32 : decode cX5_choose 32 = .ok (.ifCond .eq 7, 3) := by decide +kernel
theorem dX5_choose_35 : decode cX5_choose 35 = .ok (.iconst 1, 1) := by decide +kernel
theorem dX5_choose_36 : decode cX5_choose 36 = .ok (.goto 4, 3) := by decide +kernel
theorem dX5_choose_39 : decode cX5_choose 39 = .ok (.iconst 0, 1) := by decide +kernel
theorem dX5_choose_40 : decode cX5_choose 40 = .ok (.bastore, 1) := by decide +kernel
theorem dX5_choose_41 : decode cX5_choose 41 = .ok (.aload_n 0, 1) := by decide +kernel
theorem dX5_choose_42 : decode cX5_choose 42 = .ok (.getfield 15, 3) := by decide +kernel
theorem dX5_choose_45 : decode cX5_choose 45 = .ok (.iload_n 3, 1) := by decide +kernel
theorem dX5_choose_46 : decode cX5_choose 46 = .ok (.iload_n 2, 1) := by decide +kernel
theorem dX5_choose_47 : decode cX5_choose 47 = .ok (.iastore, 1) := by decide +kernel
theorem dX5_choose_48 : decode cX5_choose 48 = .ok (.aload_n 0, 1) := by decide +kernel
theorem dX5_choose_49 : decode cX5_choose 49 = .ok (.getfield 9, 3) := by decide +kernel
theorem dX5_choose_52 : decode cX5_choose 52 = .ok (.iload_n 3, 1) := by decide +kernel
theorem dX5_choose_53 : decode cX5_choose 53 = .ok (.baload, 1) := by decide +kernel
theorem dX5_choose_54 : decode cX5_choose 54 = .ok (.ifCond .ne 6, 3) := by decide +kernel
theorem dX5_choose_57 : decode cX5_choose 57 = .ok (.iinc 2 1, 3) := by decide +kernel
theorem dX5_choose_60 : decode cX5_choose 60 = .ok (.iinc 3 1, 3) := by decide +kernel
theorem dX5_choose_63 : decode cX5_choose 63 = .ok (.goto (-59), 3) := by decide +kernel
theorem dX5_choose_66 : decode cX5_choose 66 = .ok (.aload_n 0, 1) := by decide +kernel
theorem dX5_choose_67 : decode cX5_choose 67 = .ok (.getfield 15, 3) := by decide +kernel
theorem dX5_choose_70 : decode cX5_choose 70 = .ok (.aload_n 1, 1) := by decide +kernel
theorem dX5_choose_71 : decode cX5_choose 71 = .ok (.getfield 19, 3) := by decide +kernel
theorem dX5_choose_74 : decode cX5_choose 74 = .ok (.iload_n 2, 1) := by decide +kernel
theorem dX5_choose_75 : decode cX5_choose 75 = .ok (.iastore, 1) := by decide +kernel
theorem dX5_choose_76 : decode cX5_choose 76 = .ok (.return_, 1) := by decide +kernel
set_option maxRecDepth 20000 in
theorem ggX5_goesToNext_X5_pastNothing : GoodIn wsX5_goesToNext wsX5_pastNothing := goodIn_r _ [7, 8, 1, 9, 10, 11, 12, 13] (by decide +kernel) (by decide +kernel)
set_option maxRecDepth 20000 in
theorem gX5_goesToNext_X5_pastNothing : GoodIn wsX5_goesToNext (wsV RX5 49 RX5 yX5_pastNothing wsX5_pastNothing) := goodIn_app (goodIn_of _ (by decide +kernel)) ggX5_goesToNext_X5_pastNothing
theorem dX5_goesToNext_0 : decode cX5_goesToNext 0 = .ok (.aload_n 1, 1) := by decide +kernel
theorem dX5_goesToNext_1 : decode cX5_goesToNext 1 = .ok (.getfield 25, 3) := by decide +kernel
theorem dX5_goesToNext_4 : decode cX5_goesToNext 4 = .ok (.iload_n 2, 1) := by decide +kernel
theorem dX5_goesToNext_5 : decode cX5_goesToNext 5 = .ok (.iaload, 1) := by decide +kernel
theorem dX5_goesToNext_6 : decode cX5_goesToNext 6 = .ok (.bipush 9, 2) := by decide +kernel
theorem dX5_goesToNext_8 : decode cX5_goesToNext 8 = .ok (.if_icmp .ne 29, 3) := by decide +kernel
theorem dX5_goesToNext_11 : decode cX5_goesToNext 11 = .ok (.aload_n 0, 1) := by decide +kernel
theorem dX5_goesToNext_12 : decode cX5_goesToNext 12 = .ok (.aload_n 1, 1) := by decide +kernel
theorem dX5_goesToNext_13 : decode cX5_goesToNext 13 = .ok (.aload_n 1, 1) := by decide +kernel
theorem dX5_goesToNext_14 : decode cX5_goesToNext 14 = .ok (.getfield 46, 3) := by decide +kernel
theorem dX5_goesToNext_17 : decode cX5_goesToNext 17 = .ok (.iload_n 2, 1) := by decide +kernel
theorem dX5_goesToNext_18 : decode cX5_goesToNext 18 = .ok (.iaload, 1) := by decide +kernel
theorem dX5_goesToNext_19 : decode cX5_goesToNext 19 = .ok (.invokevirtual 49, 3) := by decide +kernel
theorem dX5_goesToNext_22 : decode cX5_goesToNext 22 = .ok (.aload_n 0, 1) := by decide +kernel
theorem dX5_goesToNext_23 : decode cX5_goesToNext 23 = .ok (.aload_n 1, 1) := by decide +kernel
theorem dX5_goesToNext_24 : decode cX5_goesToNext 24 = .ok (.iload_n 2, 1) := by decide +kernel
theorem dX5_goesToNext_25 : decode cX5_goesToNext 25 = .ok (.iconst 1, 1) := by decide +kernel
theorem dX5_goesToNext_26 : decode cX5_goesToNext 26 = .ok (.iadd, 1) := by decide +kernel
theorem dX5_goesToNext_27 : decode cX5_goesToNext 27 = .ok (.invokevirtual 49, 3) := by decide +kernel
theorem dX5_goesToNext_30 : decode cX5_goesToNext 30 = .ok (.if_icmp .ne 7, 3) := by decide +kernel
theorem dX5_goesToNext_33 : decode cX5_goesToNext 33 = .ok (.iconst 1, 1) := by decide +kernel
theorem dX5_goesToNext_34 : decode cX5_goesToNext 34 = .ok (.goto 4, 3) := by decide +kernel
theorem dX5_goesToNext_37 : decode cX5_goesToNext 37 = .ok (.iconst 0, 1) := by decide +kernel
theorem dX5_goesToNext_38 : decode cX5_goesToNext 38 = .ok (.ireturn, 1) := by decide +kernel
set_option maxRecDepth 20000 in
theorem ggX5_takeOut_X6_clear : GoodIn wsX5_takeOut wsX6_clear := goodIn_r _ [12, 13, 30, 31, 32, 33, 34] (by decide +kernel) (by decide +kernel)
set_option maxRecDepth 20000 in
theorem gX5_takeOut_X6_clear : GoodIn wsX5_takeOut (wsV RX5 57 RX6 yX6_clear wsX6_clear) := goodIn_app (goodIn_of _ (by decide +kernel)) ggX5_takeOut_X6_clear
set_option maxRecDepth 20000 in
theorem ggX5_takeOut_X2_goesToD : GoodIn wsX5_takeOut wsX2_goesToD := goodIn_r _ [17] (by decide +kernel) (by decide +kernel)
set_option maxRecDepth 20000 in
theorem gX5_takeOut_X2_goesToD : GoodIn wsX5_takeOut (va_wsS RX5 28 yX2_goesToD wsX2_goesToD) := goodIn_app (goodIn_of _ (by decide +kernel)) ggX5_takeOut_X2_goesToD
set_option maxRecDepth 20000 in
theorem ggX5_takeOut_X6_append : GoodIn wsX5_takeOut wsX6_append := goodIn_r _ [21, 13, 22, 23, 24, 25, 11, 26, 27, 28, 29, 30, 31, 32, 33, 34] (by decide +kernel) (by decide +kernel)
set_option maxRecDepth 20000 in
theorem gX5_takeOut_X6_append : GoodIn wsX5_takeOut (wsV RX5 66 RX6 yX6_append wsX6_append) := goodIn_app (goodIn_of _ (by decide +kernel)) ggX5_takeOut_X6_append
theorem dX5_takeOut_0 : decode cX5_takeOut 0 = .ok (.aload_n 1, 1) := by decide +kernel
theorem dX5_takeOut_1 : decode cX5_takeOut 1 = .ok (.getfield 19, 3) := by decide +kernel
theorem dX5_takeOut_4 : decode cX5_takeOut 4 = .ok (.istore_n 2, 1) := by decide +kernel
theorem dX5_takeOut_5 : decode cX5_takeOut 5 = .ok (.aload_n 1, 1) := by decide +kernel
theorem dX5_takeOut_6 : decode cX5_takeOut 6 = .ok (.invokevirtual 57, 3) := by decide +kernel
theorem dX5_takeOut_9 : decode cX5_takeOut 9 = .ok (.iconst 0, 1) := by decide +kernel
theorem dX5_takeOut_10 : decode cX5_takeOut 10 = .ok (.istore_n 3, 1) := by decide +kernel
theorem dX5_takeOut_11 : decode cX5_takeOut 11 = .ok (.iload_n 3, 1) := by decide +kernel
theorem dX5_takeOut_12 : decode cX5_takeOut 12 = .ok (.iload_n 2, 1) := by decide +kernel
theorem dX5_takeOut_13 : decode cX5_takeOut 13 = .ok (.if_icmp .ge 76, 3) := by decide +kernel
theorem dX5_takeOut_16 : decode cX5_takeOut 16 = .ok (.aload_n 0, 1) := by decide +kernel
theorem dX5_takeOut_17 : decode cX5_takeOut 17 = .ok (.getfield 9, 3) := by decide +kernel
theorem dX5_takeOut_20 : decode cX5_takeOut 20 = .ok (.iload_n 3, 1) := by decide +kernel
theorem dX5_takeOut_21 : decode cX5_takeOut 21 = .ok (.baload, 1) := by decide +kernel
theorem dX5_takeOut_22 : decode cX5_takeOut 22 = .ok (.ifCond .ne 61, 3) := by decide +kernel
theorem dX5_takeOut_25 : decode cX5_takeOut 25 = .ok (.aload_n 1, 1) := by decide +kernel
theorem dX5_takeOut_26 : decode cX5_takeOut 26 = .ok (.getfield 25, 3) := by decide +kernel
theorem dX5_takeOut_29 : decode cX5_takeOut 29 = .ok (.iload_n 3, 1) := by decide +kernel
theorem dX5_takeOut_30 : decode cX5_takeOut 30 = .ok (.iaload, 1) := by decide +kernel
theorem dX5_takeOut_31 : decode cX5_takeOut 31 = .ok (.istore 4, 2) := by decide +kernel
theorem dX5_takeOut_33 : decode cX5_takeOut 33 = .ok (.iload 4, 2) := by decide +kernel
theorem dX5_takeOut_35 : decode cX5_takeOut 35 = .ok (.invokestatic 28, 3) := by decide +kernel
theorem dX5_takeOut_38 : decode cX5_takeOut 38 = .ok (.ifCond .eq 17, 3) := by decide +kernel
theorem dX5_takeOut_41 : decode cX5_takeOut 41 = .ok (.aload_n 0, 1) := by decide +kernel
theorem dX5_takeOut_42 : decode cX5_takeOut 42 = .ok (.getfield 15, 3) := by decide +kernel
theorem dX5_takeOut_45 : decode cX5_takeOut 45 = .ok (.aload_n 1, 1) := by decide +kernel
theorem dX5_takeOut_46 : decode cX5_takeOut 46 = .ok (.getfield 46, 3) := by decide +kernel
theorem dX5_takeOut_49 : decode cX5_takeOut 49 = .ok (.iload_n 3, 1) := by decide +kernel
theorem dX5_takeOut_50 : decode cX5_takeOut 50 = .ok (.iaload, 1) := by decide +kernel
theorem dX5_takeOut_51 : decode cX5_takeOut 51 = .ok (.iaload, 1) := by decide +kernel
theorem dX5_takeOut_52 : decode cX5_takeOut 52 = .ok (.goto 9, 3) := by decide +kernel
theorem dX5_takeOut_55 : decode cX5_takeOut 55 = .ok (.aload_n 1, 1) := by decide +kernel
theorem dX5_takeOut_56 : decode cX5_takeOut 56 = .ok (.getfield 46, 3) := by decide +kernel
theorem dX5_takeOut_59 : decode cX5_takeOut 59 = .ok (.iload_n 3, 1) := by decide +kernel
theorem dX5_takeOut_60 : decode cX5_takeOut 60 = .ok (.iaload, 1) := by decide +kernel
theorem dX5_takeOut_61 : decode cX5_takeOut 61 = .ok (.istore 5, 2) := by decide +kernel
theorem dX5_takeOut_63 : decode cX5_takeOut 63 = .ok (.aload_n 1, 1) := by decide +kernel
theorem dX5_takeOut_64 : decode cX5_takeOut 64 = .ok (.iload 4, 2) := by decide +kernel
theorem dX5_takeOut_66 : decode cX5_takeOut 66 = .ok (.iload 5, 2) := by decide +kernel
theorem dX5_takeOut_68 : decode cX5_takeOut 68 = .ok (.aload_n 1, 1) := by decide +kernel
theorem dX5_takeOut_69 : decode cX5_takeOut 69 = .ok (.getfield 60, 3) := by decide +kernel
theorem dX5_takeOut_72 : decode cX5_takeOut 72 = .ok (.iload_n 3, 1) := by decide +kernel
theorem dX5_takeOut_73 : decode cX5_takeOut 73 = .ok (.iaload, 1) := by decide +kernel
theorem dX5_takeOut_74 : decode cX5_takeOut 74 = .ok (.aload_n 1, 1) := by decide +kernel
theorem dX5_takeOut_75 : decode cX5_takeOut 75 = .ok (.getfield 63, 3) := by decide +kernel
theorem dX5_takeOut_78 : decode cX5_takeOut 78 = .ok (.iload_n 3, 1) := by decide +kernel
theorem dX5_takeOut_79 : decode cX5_takeOut 79 = .ok (.iaload, 1) := by decide +kernel
theorem dX5_takeOut_80 : decode cX5_takeOut 80 = .ok (.invokevirtual 66, 3) := by decide +kernel
theorem dX5_takeOut_83 : decode cX5_takeOut 83 = .ok (.iinc 3 1, 3) := by decide +kernel
theorem dX5_takeOut_86 : decode cX5_takeOut 86 = .ok (.goto (-75), 3) := by decide +kernel
theorem dX5_takeOut_89 : decode cX5_takeOut 89 = .ok (.iload_n 2, 1) := by decide +kernel
theorem dX5_takeOut_90 : decode cX5_takeOut 90 = .ok (.aload_n 1, 1) := by decide +kernel
theorem dX5_takeOut_91 : decode cX5_takeOut 91 = .ok (.getfield 19, 3) := by decide +kernel
theorem dX5_takeOut_94 : decode cX5_takeOut 94 = .ok (.isub, 1) := by decide +kernel
theorem dX5_takeOut_95 : decode cX5_takeOut 95 = .ok (.ireturn, 1) := by decide +kernel
