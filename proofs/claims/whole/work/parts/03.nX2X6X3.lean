theorem dX2_isRegister_0 : decode cX2_isRegister 0 = .ok (.iload_n 0, 1) := by decide +kernel
theorem dX2_isRegister_1 : decode cX2_isRegister 1 = .ok (.ifCond .lt 13, 3) := by decide +kernel
theorem dX2_isRegister_4 : decode cX2_isRegister 4 = .ok (.iload_n 0, 1) := by decide +kernel
theorem dX2_isRegister_5 : decode cX2_isRegister 5 = .ok (.bipush 8, 2) := by decide +kernel
theorem dX2_isRegister_7 : decode cX2_isRegister 7 = .ok (.if_icmp .ge 7, 3) := by decide +kernel
theorem dX2_isRegister_10 : decode cX2_isRegister 10 = .ok (.iconst 1, 1) := by decide +kernel
theorem dX2_isRegister_11 : decode cX2_isRegister 11 = .ok (.goto 4, 3) := by decide +kernel
theorem dX2_isRegister_14 : decode cX2_isRegister 14 = .ok (.iconst 0, 1) := by decide +kernel
theorem dX2_isRegister_15 : decode cX2_isRegister 15 = .ok (.ireturn, 1) := by decide +kernel
theorem dX2_isCell_0 : decode cX2_isCell 0 = .ok (.iload_n 0, 1) := by decide +kernel
theorem dX2_isCell_1 : decode cX2_isCell 1 = .ok (.ifCond .lt 13, 3) := by decide +kernel
theorem dX2_isCell_4 : decode cX2_isCell 4 = .ok (.iload_n 0, 1) := by decide +kernel
theorem dX2_isCell_5 : decode cX2_isCell 5 = .ok (.bipush 8, 2) := by decide +kernel
theorem dX2_isCell_7 : decode cX2_isCell 7 = .ok (.if_icmp .ge 7, 3) := by decide +kernel
theorem dX2_isCell_10 : decode cX2_isCell 10 = .ok (.iconst 1, 1) := by decide +kernel
theorem dX2_isCell_11 : decode cX2_isCell 11 = .ok (.goto 4, 3) := by decide +kernel
theorem dX2_isCell_14 : decode cX2_isCell 14 = .ok (.iconst 0, 1) := by decide +kernel
theorem dX2_isCell_15 : decode cX2_isCell 15 = .ok (.ireturn, 1) := by decide +kernel
theorem dX2_writesD_0 : decode cX2_writesD 0 = .ok (.iload_n 0, 1) := by decide +kernel
theorem dX2_writesD_1 : decode cX2_writesD 1 = .ok (.iconst 1, 1) := by decide +kernel
theorem dX2_writesD_2 : decode cX2_writesD 2 = .ok (.if_icmp .lt 9, 3) := by decide +kernel
theorem dX2_writesD_5 : decode cX2_writesD 5 = .ok (.iload_n 0, 1) := by decide +kernel
theorem dX2_writesD_6 : decode cX2_writesD 6 = .ok (.bipush 7, 2) := by decide +kernel
theorem dX2_writesD_8 : decode cX2_writesD 8 = .ok (.if_icmp .le 9, 3) := by decide +kernel
theorem dX2_writesD_11 : decode cX2_writesD 11 = .ok (.iload_n 0, 1) := by decide +kernel
theorem dX2_writesD_12 : decode cX2_writesD 12 = .ok (.bipush 11, 2) := by decide +kernel
theorem dX2_writesD_14 : decode cX2_writesD 14 = .ok (.if_icmp .ne 7, 3) := by decide +kernel
theorem dX2_writesD_17 : decode cX2_writesD 17 = .ok (.iconst 1, 1) := by decide +kernel
theorem dX2_writesD_18 : decode cX2_writesD 18 = .ok (.goto 4, 3) := by decide +kernel
theorem dX2_writesD_21 : decode cX2_writesD 21 = .ok (.iconst 0, 1) := by decide +kernel
theorem dX2_writesD_22 : decode cX2_writesD 22 = .ok (.ireturn, 1) := by decide +kernel
theorem dX2_readsA_0 : decode cX2_readsA 0 = .ok (.iload_n 0, 1) := by decide +kernel
theorem dX2_readsA_1 : decode cX2_readsA 1 = .ok (.iconst 2, 1) := by decide +kernel
theorem dX2_readsA_2 : decode cX2_readsA 2 = .ok (.if_icmp .lt 9, 3) := by decide +kernel
theorem dX2_readsA_5 : decode cX2_readsA 5 = .ok (.iload_n 0, 1) := by decide +kernel
theorem dX2_readsA_6 : decode cX2_readsA 6 = .ok (.bipush 8, 2) := by decide +kernel
theorem dX2_readsA_8 : decode cX2_readsA 8 = .ok (.if_icmp .le 21, 3) := by decide +kernel
theorem dX2_readsA_11 : decode cX2_readsA 11 = .ok (.iload_n 0, 1) := by decide +kernel
theorem dX2_readsA_12 : decode cX2_readsA 12 = .ok (.bipush 10, 2) := by decide +kernel
theorem dX2_readsA_14 : decode cX2_readsA 14 = .ok (.if_icmp .eq 15, 3) := by decide +kernel
theorem dX2_readsA_17 : decode cX2_readsA 17 = .ok (.iload_n 0, 1) := by decide +kernel
theorem dX2_readsA_18 : decode cX2_readsA 18 = .ok (.bipush 11, 2) := by decide +kernel
theorem dX2_readsA_20 : decode cX2_readsA 20 = .ok (.if_icmp .eq 9, 3) := by decide +kernel
theorem dX2_readsA_23 : decode cX2_readsA 23 = .ok (.iload_n 0, 1) := by decide +kernel
theorem dX2_readsA_24 : decode cX2_readsA 24 = .ok (.bipush 12, 2) := by decide +kernel
theorem dX2_readsA_26 : decode cX2_readsA 26 = .ok (.if_icmp .ne 7, 3) := by decide +kernel
theorem dX2_readsA_29 : decode cX2_readsA 29 = .ok (.iconst 1, 1) := by decide +kernel
theorem dX2_readsA_30 : decode cX2_readsA 30 = .ok (.goto 4, 3) := by decide +kernel
theorem dX2_readsA_33 : decode cX2_readsA 33 = .ok (.iconst 0, 1) := by decide +kernel
theorem dX2_readsA_34 : decode cX2_readsA 34 = .ok (.ireturn, 1) := by decide +kernel
set_option maxRecDepth 20000 in
theorem ggX2_readsB_X2_isArithmetic : GoodIn wsX2_readsB wsX2_isArithmetic := goodIn_r _ [4] (by decide +kernel) (by decide +kernel)
set_option maxRecDepth 20000 in
theorem gX2_readsB_X2_isArithmetic : GoodIn wsX2_readsB (va_wsS RX2 9 yX2_isArithmetic wsX2_isArithmetic) := goodIn_app (goodIn_of _ (by decide +kernel)) ggX2_readsB_X2_isArithmetic
theorem dX2_readsB_0 : decode cX2_readsB 0 = .ok (.iload_n 0, 1) := by decide +kernel
theorem dX2_readsB_1 : decode cX2_readsB 1 = .ok (.invokestatic 9, 3) := by decide +kernel
theorem dX2_readsB_4 : decode cX2_readsB 4 = .ok (.ifCond .ne 9, 3) := by decide +kernel
theorem dX2_readsB_7 : decode cX2_readsB 7 = .ok (.iload_n 0, 1) := by decide +kernel
theorem dX2_readsB_8 : decode cX2_readsB 8 = .ok (.bipush 8, 2) := by decide +kernel
theorem dX2_readsB_10 : decode cX2_readsB 10 = .ok (.if_icmp .ne 7, 3) := by decide +kernel
theorem dX2_readsB_13 : decode cX2_readsB 13 = .ok (.iconst 1, 1) := by decide +kernel
theorem dX2_readsB_14 : decode cX2_readsB 14 = .ok (.goto 4, 3) := by decide +kernel
theorem dX2_readsB_17 : decode cX2_readsB 17 = .ok (.iconst 0, 1) := by decide +kernel
theorem dX2_readsB_18 : decode cX2_readsB 18 = .ok (.ireturn, 1) := by decide +kernel
theorem dX2_goesToD_0 : decode cX2_goesToD 0 = .ok (.iload_n 0, 1) := by decide +kernel
theorem dX2_goesToD_1 : decode cX2_goesToD 1 = .ok (.bipush 9, 2) := by decide +kernel
theorem dX2_goesToD_3 : decode cX2_goesToD 3 = .ok (.if_icmp .eq 9, 3) := by decide +kernel
theorem dX2_goesToD_6 : decode cX2_goesToD 6 = .ok (.iload_n 0, 1) := by decide +kernel
theorem dX2_goesToD_7 : decode cX2_goesToD 7 = .ok (.bipush 10, 2) := by decide +kernel
theorem dX2_goesToD_9 : decode cX2_goesToD 9 = .ok (.if_icmp .ne 7, 3) := by decide +kernel
theorem dX2_goesToD_12 : decode cX2_goesToD 12 = .ok (.iconst 1, 1) := by decide +kernel
theorem dX2_goesToD_13 : decode cX2_goesToD 13 = .ok (.goto 4, 3) := by decide +kernel
theorem dX2_goesToD_16 : decode cX2_goesToD 16 = .ok (.iconst 0, 1) := by decide +kernel
theorem dX2_goesToD_17 : decode cX2_goesToD 17 = .ok (.ireturn, 1) := by decide +kernel
theorem dX2_isArithmetic_0 : decode cX2_isArithmetic 0 = .ok (.iload_n 0, 1) := by decide +kernel
theorem dX2_isArithmetic_1 : decode cX2_isArithmetic 1 = .ok (.iconst 3, 1) := by decide +kernel
theorem dX2_isArithmetic_2 : decode cX2_isArithmetic 2 = .ok (.if_icmp .lt 13, 3) := by decide +kernel
theorem dX2_isArithmetic_5 : decode cX2_isArithmetic 5 = .ok (.iload_n 0, 1) := by decide +kernel
theorem dX2_isArithmetic_6 : decode cX2_isArithmetic 6 = .ok (.bipush 6, 2) := by decide +kernel
theorem dX2_isArithmetic_8 : decode cX2_isArithmetic 8 = .ok (.if_icmp .gt 7, 3) := by decide +kernel
theorem dX2_isArithmetic_11 : decode cX2_isArithmetic 11 = .ok (.iconst 1, 1) := by decide +kernel
theorem dX2_isArithmetic_12 : decode cX2_isArithmetic 12 = .ok (.goto 4, 3) := by decide +kernel
theorem dX2_isArithmetic_15 : decode cX2_isArithmetic 15 = .ok (.iconst 0, 1) := by decide +kernel
theorem dX2_isArithmetic_16 : decode cX2_isArithmetic 16 = .ok (.ireturn, 1) := by decide +kernel
theorem dX2_onlyGivesD_0 : decode cX2_onlyGivesD 0 = .ok (.iload_n 0, 1) := by decide +kernel
theorem dX2_onlyGivesD_1 : decode cX2_onlyGivesD 1 = .ok (.iconst 1, 1) := by decide +kernel
theorem dX2_onlyGivesD_2 : decode cX2_onlyGivesD 2 = .ok (.if_icmp .lt 12, 3) := by decide +kernel
theorem dX2_onlyGivesD_5 : decode cX2_onlyGivesD 5 = .ok (.iload_n 0, 1) := by decide +kernel
theorem dX2_onlyGivesD_6 : decode cX2_onlyGivesD 6 = .ok (.iconst 5, 1) := by decide +kernel
theorem dX2_onlyGivesD_7 : decode cX2_onlyGivesD 7 = .ok (.if_icmp .gt 7, 3) := by decide +kernel
theorem dX2_onlyGivesD_10 : decode cX2_onlyGivesD 10 = .ok (.iconst 1, 1) := by decide +kernel
theorem dX2_onlyGivesD_11 : decode cX2_onlyGivesD 11 = .ok (.goto 4, 3) := by decide +kernel
theorem dX2_onlyGivesD_14 : decode cX2_onlyGivesD 14 = .ok (.iconst 0, 1) := by decide +kernel
theorem dX2_onlyGivesD_15 : decode cX2_onlyGivesD 15 = .ok (.ireturn, 1) := by decide +kernel
set_option maxRecDepth 20000 in
theorem ggX2_fitsDraft_X2_goesToD : GoodIn wsX2_fitsDraft wsX2_goesToD := goodIn_r _ [4] (by decide +kernel) (by decide +kernel)
set_option maxRecDepth 20000 in
theorem gX2_fitsDraft_X2_goesToD : GoodIn wsX2_fitsDraft (va_wsS RX2 15 yX2_goesToD wsX2_goesToD) := goodIn_app (goodIn_of _ (by decide +kernel)) ggX2_fitsDraft_X2_goesToD
set_option maxRecDepth 20000 in
theorem ggX2_fitsDraft_X2_writesD : GoodIn wsX2_fitsDraft wsX2_writesD := goodIn_r _ [7] (by decide +kernel) (by decide +kernel)
set_option maxRecDepth 20000 in
theorem gX2_fitsDraft_X2_writesD : GoodIn wsX2_fitsDraft (va_wsS RX2 18 yX2_writesD wsX2_writesD) := goodIn_app (goodIn_of _ (by decide +kernel)) ggX2_fitsDraft_X2_writesD
set_option maxRecDepth 20000 in
theorem ggX2_fitsDraft_X2_isRegister : GoodIn wsX2_fitsDraft wsX2_isRegister := goodIn_r _ [10] (by decide +kernel) (by decide +kernel)
set_option maxRecDepth 20000 in
theorem gX2_fitsDraft_X2_isRegister : GoodIn wsX2_fitsDraft (va_wsS RX2 21 yX2_isRegister wsX2_isRegister) := goodIn_app (goodIn_of _ (by decide +kernel)) ggX2_fitsDraft_X2_isRegister
set_option maxRecDepth 20000 in
theorem ggX2_fitsDraft_X2_readsA : GoodIn wsX2_fitsDraft wsX2_readsA := goodIn_r _ [13] (by decide +kernel) (by decide +kernel)
set_option maxRecDepth 20000 in
theorem gX2_fitsDraft_X2_readsA : GoodIn wsX2_fitsDraft (va_wsS RX2 24 yX2_readsA wsX2_readsA) := goodIn_app (goodIn_of _ (by decide +kernel)) ggX2_fitsDraft_X2_readsA
set_option maxRecDepth 20000 in
theorem ggX2_fitsDraft_X2_readsB : GoodIn wsX2_fitsDraft wsX2_readsB := goodIn_r _ [16, 17, 18, 3, 19] (by decide +kernel) (by decide +kernel)
set_option maxRecDepth 20000 in
theorem gX2_fitsDraft_X2_readsB : GoodIn wsX2_fitsDraft (va_wsS RX2 27 yX2_readsB wsX2_readsB) := goodIn_app (goodIn_of _ (by decide +kernel)) ggX2_fitsDraft_X2_readsB
theorem dX2_fitsDraft_0 : decode cX2_fitsDraft 0 = .ok (.iload_n 0, 1) := by decide +kernel
theorem dX2_fitsDraft_1 : decode cX2_fitsDraft 1 = .ok (.ifCond .lt 9, 3) := by decide +kernel
theorem dX2_fitsDraft_4 : decode cX2_fitsDraft 4 = .ok (.iload_n 0, 1) := by decide +kernel
theorem dX2_fitsDraft_5 : decode cX2_fitsDraft 5 = .ok (.bipush 12, 2) := by decide +kernel
theorem dX2_fitsDraft_7 : decode cX2_fitsDraft 7 = .ok (.if_icmp .le 5, 3) := by decide +kernel
theorem dX2_fitsDraft_10 : decode cX2_fitsDraft 10 = .ok (.iconst 0, 1) := by decide +kernel
theorem dX2_fitsDraft_11 : decode cX2_fitsDraft 11 = .ok (.ireturn, 1) := by decide +kernel
theorem dX2_fitsDraft_12 : decode cX2_fitsDraft 12 = .ok (.iload_n 0, 1) := by decide +kernel
theorem dX2_fitsDraft_13 : decode cX2_fitsDraft 13 = .ok (.invokestatic 15, 3) := by decide +kernel
theorem dX2_fitsDraft_16 : decode cX2_fitsDraft 16 = .ok (.ifCond .eq 15, 3) := by decide +kernel
theorem dX2_fitsDraft_19 : decode cX2_fitsDraft 19 = .ok (.iload_n 1, 1) := by decide +kernel
theorem dX2_fitsDraft_20 : decode cX2_fitsDraft 20 = .ok (.ifCond .lt 9, 3) := by decide +kernel
theorem dX2_fitsDraft_23 : decode cX2_fitsDraft 23 = .ok (.iload_n 1, 1) := by decide +kernel
theorem dX2_fitsDraft_24 : decode cX2_fitsDraft 24 = .ok (.bipush 24, 2) := by decide +kernel
theorem dX2_fitsDraft_26 : decode cX2_fitsDraft 26 = .ok (.if_icmp .lt 5, 3) := by decide +kernel
theorem dX2_fitsDraft_29 : decode cX2_fitsDraft 29 = .ok (.iconst 0, 1) := by decide +kernel
theorem dX2_fitsDraft_30 : decode cX2_fitsDraft 30 = .ok (.ireturn, 1) := by decide +kernel
theorem dX2_fitsDraft_31 : decode cX2_fitsDraft 31 = .ok (.iload_n 0, 1) := by decide +kernel
theorem dX2_fitsDraft_32 : decode cX2_fitsDraft 32 = .ok (.invokestatic 18, 3) := by decide +kernel
theorem dX2_fitsDraft_35 : decode cX2_fitsDraft 35 = .ok (.ifCond .eq 10, 3) := by decide +kernel
theorem dX2_fitsDraft_38 : decode cX2_fitsDraft 38 = .ok (.iload_n 1, 1) := by decide +kernel
theorem dX2_fitsDraft_39 : decode cX2_fitsDraft 39 = .ok (.invokestatic 21, 3) := by decide +kernel
theorem dX2_fitsDraft_42 : decode cX2_fitsDraft 42 = .ok (.ifCond .eq 35, 3) := by decide +kernel
theorem dX2_fitsDraft_45 : decode cX2_fitsDraft 45 = .ok (.iload_n 0, 1) := by decide +kernel
theorem dX2_fitsDraft_46 : decode cX2_fitsDraft 46 = .ok (.invokestatic 24, 3) := by decide +kernel
theorem dX2_fitsDraft_49 : decode cX2_fitsDraft 49 = .ok (.ifCond .eq 10, 3) := by decide +kernel
theorem dX2_fitsDraft_52 : decode cX2_fitsDraft 52 = .ok (.iload_n 2, 1) := by decide +kernel
theorem dX2_fitsDraft_53 : decode cX2_fitsDraft 53 = .ok (.invokestatic 21, 3) := by decide +kernel
theorem dX2_fitsDraft_56 : decode cX2_fitsDraft 56 = .ok (.ifCond .eq 21, 3) := by decide +kernel
theorem dX2_fitsDraft_59 : decode cX2_fitsDraft 59 = .ok (.iload_n 0, 1) := by decide +kernel
theorem dX2_fitsDraft_60 : decode cX2_fitsDraft 60 = .ok (.invokestatic 27, 3) := by decide +kernel
theorem dX2_fitsDraft_63 : decode cX2_fitsDraft 63 = .ok (.ifCond .eq 10, 3) := by decide +kernel
theorem dX2_fitsDraft_66 : decode cX2_fitsDraft 66 = .ok (.iload_n 3, 1) := by decide +kernel
theorem dX2_fitsDraft_67 : decode cX2_fitsDraft 67 = .ok (.invokestatic 21, 3) := by decide +kernel
theorem dX2_fitsDraft_70 : decode cX2_fitsDraft 70 = .ok (.ifCond .eq 7, 3) := by decide +kernel
theorem dX2_fitsDraft_73 : decode cX2_fitsDraft 73 = .ok (.iconst 1, 1) := by decide +kernel
theorem dX2_fitsDraft_74 : decode cX2_fitsDraft 74 = .ok (.goto 4, 3) := by decide +kernel
theorem dX2_fitsDraft_77 : decode cX2_fitsDraft 77 = .ok (.iconst 0, 1) := by decide +kernel
theorem dX2_fitsDraft_78 : decode cX2_fitsDraft 78 = .ok (.ireturn, 1) := by decide +kernel
theorem dX2_compute_0 : decode cX2_compute 0 = .ok (.iload_n 0, 1) := by decide +kernel
theorem dX2_compute_1 : decode cX2_compute 1 = .ok (.tableswitch 55 3 6 #[31, 35, 39, 43], 31) := by decide +kernel
theorem dX2_compute_32 : decode cX2_compute 32 = .ok (.iload_n 1, 1) := by decide +kernel
theorem dX2_compute_33 : decode cX2_compute 33 = .ok (.iload_n 2, 1) := by decide +kernel
theorem dX2_compute_34 : decode cX2_compute 34 = .ok (.iadd, 1) := by decide +kernel
theorem dX2_compute_35 : decode cX2_compute 35 = .ok (.ireturn, 1) := by decide +kernel
theorem dX2_compute_36 : decode cX2_compute 36 = .ok (.iload_n 1, 1) := by decide +kernel
theorem dX2_compute_37 : decode cX2_compute 37 = .ok (.iload_n 2, 1) := by decide +kernel
theorem dX2_compute_38 : decode cX2_compute 38 = .ok (.isub, 1) := by decide +kernel
theorem dX2_compute_39 : decode cX2_compute 39 = .ok (.ireturn, 1) := by decide +kernel
theorem dX2_compute_40 : decode cX2_compute 40 = .ok (.iload_n 1, 1) := by decide +kernel
theorem dX2_compute_41 : decode cX2_compute 41 = .ok (.iload_n 2, 1) := by decide +kernel
theorem dX2_compute_42 : decode cX2_compute 42 = .ok (.imul, 1) := by decide +kernel
theorem dX2_compute_43 : decode cX2_compute 43 = .ok (.ireturn, 1) := by decide +kernel
theorem dX2_compute_44 : decode cX2_compute 44 = .ok (.iload_n 2, 1) := by decide +kernel
theorem dX2_compute_45 : decode cX2_compute 45 = .ok (.ifCond .ne 7, 3) := by decide +kernel
theorem dX2_compute_48 : decode cX2_compute 48 = .ok (.iconst 0, 1) := by decide +kernel
theorem dX2_compute_49 : decode cX2_compute 49 = .ok (.goto 6, 3) := by decide +kernel
theorem dX2_compute_52 : decode cX2_compute 52 = .ok (.iload_n 1, 1) := by decide +kernel
theorem dX2_compute_53 : decode cX2_compute 53 = .ok (.iload_n 2, 1) := by decide +kernel
theorem dX2_compute_54 : decode cX2_compute 54 = .ok (.idiv, 1) := by decide +kernel
theorem dX2_compute_55 : decode cX2_compute 55 = .ok (.ireturn, 1) := by decide +kernel
theorem dX2_compute_56 : decode cX2_compute 56 = .ok (.iconst 0, 1) := by decide +kernel
theorem dX2_compute_57 : decode cX2_compute 57 = .ok (.ireturn, 1) := by decide +kernel
theorem dX6_init_0 : decode cX6_init 0 = .ok (.aload_n 0, 1) := by decide +kernel
theorem dX6_init_1 : decode cX6_init 1 = .ok (.invokespecial 3, 3) := by decide +kernel
theorem dX6_init_4 : decode cX6_init 4 = .ok (.aload_n 0, 1) := by decide +kernel
theorem dX6_init_5 : decode cX6_init 5 = .ok (.iconst 0, 1) := by decide +kernel
theorem dX6_init_6 : decode cX6_init 6 = .ok (.putfield 9, 3) := by decide +kernel
theorem dX6_init_9 : decode cX6_init 9 = .ok (.aload_n 0, 1) := by decide +kernel
theorem dX6_init_10 : decode cX6_init 10 = .ok (.iload_n 1, 1) := by decide +kernel
theorem dX6_init_11 : decode cX6_init 11 = .ok (.newarray .int, 2) := by decide +kernel
theorem dX6_init_13 : decode cX6_init 13 = .ok (.putfield 15, 3) := by decide +kernel
theorem dX6_init_16 : decode cX6_init 16 = .ok (.aload_n 0, 1) := by decide +kernel
theorem dX6_init_17 : decode cX6_init 17 = .ok (.iload_n 1, 1) := by decide +kernel
theorem dX6_init_18 : decode cX6_init 18 = .ok (.newarray .int, 2) := by decide +kernel
theorem dX6_init_20 : decode cX6_init 20 = .ok (.putfield 19, 3) := by decide +kernel
theorem dX6_init_23 : decode cX6_init 23 = .ok (.aload_n 0, 1) := by decide +kernel
theorem dX6_init_24 : decode cX6_init 24 = .ok (.iload_n 1, 1) := by decide +kernel
theorem dX6_init_25 : decode cX6_init 25 = .ok (.newarray .int, 2) := by decide +kernel
theorem dX6_init_27 : decode cX6_init 27 = .ok (.putfield 22, 3) := by decide +kernel
theorem dX6_init_30 : decode cX6_init 30 = .ok (.aload_n 0, 1) := by decide +kernel
theorem dX6_init_31 : decode cX6_init 31 = .ok (.iload_n 1, 1) := by decide +kernel
theorem dX6_init_32 : decode cX6_init 32 = .ok (.newarray .int, 2) := by decide +kernel
theorem dX6_init_34 : decode cX6_init 34 = .ok (.putfield 25, 3) := by decide +kernel
theorem dX6_init_37 : decode cX6_init 37 = .ok (.return_, 1) := by decide +kernel
theorem dX6_clear_0 : decode cX6_clear 0 = .ok (.aload_n 0, 1) := by decide +kernel
theorem dX6_clear_1 : decode cX6_clear 1 = .ok (.iconst 0, 1) := by decide +kernel
theorem dX6_clear_2 : decode cX6_clear 2 = .ok (.putfield 9, 3) := by decide +kernel
theorem dX6_clear_5 : decode cX6_clear 5 = .ok (.return_, 1) := by decide +kernel
set_option maxRecDepth 20000 in
theorem ggX6_append_X6_put : GoodIn wsX6_append wsX6_put := goodIn_r _ [7, 2, 8, 9, 10, 11, 12, 13, 14, 15] (by decide +kernel) (by decide +kernel)
set_option maxRecDepth 20000 in
theorem gX6_append_X6_put : GoodIn wsX6_append (wsV RX6 28 RX6 yX6_put wsX6_put) := goodIn_app (goodIn_of _ (by decide +kernel)) ggX6_append_X6_put
theorem dX6_append_0 : decode cX6_append 0 = .ok (.aload_n 0, 1) := by decide +kernel
theorem dX6_append_1 : decode cX6_append 1 = .ok (.getfield 9, 3) := by decide +kernel
theorem dX6_append_4 : decode cX6_append 4 = .ok (.aload_n 0, 1) := by decide +kernel
theorem dX6_append_5 : decode cX6_append 5 = .ok (.getfield 15, 3) := by decide +kernel
theorem dX6_append_8 : decode cX6_append 8 = .ok (.arraylength, 1) := by decide +kernel
theorem dX6_append_9 : decode cX6_append 9 = .ok (.if_icmp .ge 29, 3) := by decide +kernel
theorem dX6_append_12 : decode cX6_append 12 = .ok (.aload_n 0, 1) := by decide +kernel
theorem dX6_append_13 : decode cX6_append 13 = .ok (.dup, 1) := by decide +kernel
theorem dX6_append_14 : decode cX6_append 14 = .ok (.getfield 9, 3) := by decide +kernel
theorem dX6_append_17 : decode cX6_append 17 = .ok (.iconst 1, 1) := by decide +kernel
theorem dX6_append_18 : decode cX6_append 18 = .ok (.iadd, 1) := by decide +kernel
theorem dX6_append_19 : decode cX6_append 19 = .ok (.putfield 9, 3) := by decide +kernel
theorem dX6_append_22 : decode cX6_append 22 = .ok (.aload_n 0, 1) := by decide +kernel
theorem dX6_append_23 : decode cX6_append 23 = .ok (.aload_n 0, 1) := by decide +kernel
theorem dX6_append_24 : decode cX6_append 24 = .ok (.getfield 9, 3) := by decide +kernel
theorem dX6_append_27 : decode cX6_append 27 = .ok (.iconst 1, 1) := by decide +kernel
theorem dX6_append_28 : decode cX6_append 28 = .ok (.isub, 1) := by decide +kernel
theorem dX6_append_29 : decode cX6_append 29 = .ok (.iload_n 1, 1) := by decide +kernel
theorem dX6_append_30 : decode cX6_append 30 = .ok (.iload_n 2, 1) := by decide +kernel
theorem dX6_append_31 : decode cX6_append 31 = .ok (.iload_n 3, 1) := by decide +kernel
theorem dX6_append_32 : decode cX6_append 32 = .ok (.iload 4, 2) := by decide +kernel
theorem dX6_append_34 : decode cX6_append 34 = .ok (.invokevirtual 28, 3) := by decide +kernel
theorem dX6_append_37 : decode cX6_append 37 = .ok (.pop, 1) := by decide +kernel
theorem dX6_append_38 : decode cX6_append 38 = .ok (.return_, 1) := by decide +kernel
theorem dX6_put_0 : decode cX6_put 0 = .ok (.aload_n 0, 1) := by decide +kernel
theorem dX6_put_1 : decode cX6_put 1 = .ok (.getfield 15, 3) := by decide +kernel
theorem dX6_put_4 : decode cX6_put 4 = .ok (.iload_n 1, 1) := by decide +kernel
theorem dX6_put_5 : decode cX6_put 5 = .ok (.iaload, 1) := by decide +kernel
theorem dX6_put_6 : decode cX6_put 6 = .ok (.iload_n 2, 1) := by decide +kernel
theorem dX6_put_7 : decode cX6_put 7 = .ok (.if_icmp .ne 39, 3) := by decide +kernel
theorem dX6_put_10 : decode cX6_put 10 = .ok (.aload_n 0, 1) := by decide +kernel
theorem dX6_put_11 : decode cX6_put 11 = .ok (.getfield 19, 3) := by decide +kernel
theorem dX6_put_14 : decode cX6_put 14 = .ok (.iload_n 1, 1) := by decide +kernel
theorem dX6_put_15 : decode cX6_put 15 = .ok (.iaload, 1) := by decide +kernel
theorem dX6_put_16 : decode cX6_put 16 = .ok (.iload_n 3, 1) := by decide +kernel
theorem dX6_put_17 : decode cX6_put 17 = .ok (.if_icmp .ne 29, 3) := by decide +kernel
theorem dX6_put_20 : decode cX6_put 20 = .ok (.aload_n 0, 1) := by decide +kernel
theorem dX6_put_21 : decode cX6_put 21 = .ok (.getfield 22, 3) := by decide +kernel
theorem dX6_put_24 : decode cX6_put 24 = .ok (.iload_n 1, 1) := by decide +kernel
theorem dX6_put_25 : decode cX6_put 25 = .ok (.iaload, 1) := by decide +kernel
theorem dX6_put_26 : decode cX6_put 26 = .ok (.iload 4, 2) := by decide +kernel
theorem dX6_put_28 : decode cX6_put 28 = .ok (.if_icmp .ne 18, 3) := by decide +kernel
theorem dX6_put_31 : decode cX6_put 31 = .ok (.aload_n 0, 1) := by decide +kernel
theorem dX6_put_32 : decode cX6_put 32 = .ok (.getfield 25, 3) := by decide +kernel
theorem dX6_put_35 : decode cX6_put 35 = .ok (.iload_n 1, 1) := by decide +kernel
theorem dX6_put_36 : decode cX6_put 36 = .ok (.iaload, 1) := by decide +kernel
theorem dX6_put_37 : decode cX6_put 37 = .ok (.iload 5, 2) := by decide +kernel
theorem dX6_put_39 : decode cX6_put 39 = .ok (.if_icmp .ne 7, 3) := by decide +kernel
theorem dX6_put_42 : decode cX6_put 42 = .ok (.iconst 1, 1) := by decide +kernel
theorem dX6_put_43 : decode cX6_put 43 = .ok (.goto 4, 3) := by decide +kernel
theorem dX6_put_46 : decode cX6_put 46 = .ok (.iconst 0, 1) := by decide +kernel
theorem dX6_put_47 : decode cX6_put 47 = .ok (.istore 6, 2) := by decide +kernel
theorem dX6_put_49 : decode cX6_put 49 = .ok (.aload_n 0, 1) := by decide +kernel
theorem dX6_put_50 : decode cX6_put 50 = .ok (.getfield 15, 3) := by decide +kernel
theorem dX6_put_53 : decode cX6_put 53 = .ok (.iload_n 1, 1) := by decide +kernel
theorem dX6_put_54 : decode cX6_put 54 = .ok (.iload_n 2, 1) := by decide +kernel
theorem dX6_put_55 : decode cX6_put 55 = .ok (.iastore, 1) := by decide +kernel
theorem dX6_put_56 : decode cX6_put 56 = .ok (.aload_n 0, 1) := by decide +kernel
theorem dX6_put_57 : decode cX6_put 57 = .ok (.getfield 19, 3) := by decide +kernel
theorem dX6_put_60 : decode cX6_put 60 = .ok (.iload_n 1, 1) := by decide +kernel
theorem dX6_put_61 : decode cX6_put 61 = .ok (.iload_n 3, 1) := by decide +kernel
theorem dX6_put_62 : decode cX6_put 62 = .ok (.iastore, 1) := by decide +kernel
theorem dX6_put_63 : decode cX6_put 63 = .ok (.aload_n 0, 1) := by decide +kernel
theorem dX6_put_64 : decode cX6_put 64 = .ok (.getfield 22, 3) := by decide +kernel
theorem dX6_put_67 : decode cX6_put 67 = .ok (.iload_n 1, 1) := by decide +kernel
theorem dX6_put_68 : decode cX6_put 68 = .ok (.iload 4, 2) := by decide +kernel
theorem dX6_put_70 : decode cX6_put 70 = .ok (.iastore, 1) := by decide +kernel
theorem dX6_put_71 : decode cX6_put 71 = .ok (.aload_n 0, 1) := by decide +kernel
theorem dX6_put_72 : decode cX6_put 72 = .ok (.getfield 25, 3) := by decide +kernel
theorem dX6_put_75 : decode cX6_put 75 = .ok (.iload_n 1, 1) := by decide +kernel
theorem dX6_put_76 : decode cX6_put 76 = .ok (.iload 5, 2) := by decide +kernel
theorem dX6_put_78 : decode cX6_put 78 = .ok (.iastore, 1) := by decide +kernel
theorem dX6_put_79 : decode cX6_put 79 = .ok (.iload 6, 2) := by decide +kernel
theorem dX6_put_81 : decode cX6_put 81 = .ok (.ifCond .ne 7, 3) := by decide +kernel
theorem dX6_put_84 : decode cX6_put 84 = .ok (.iconst 1, 1) := by decide +kernel
theorem dX6_put_85 : decode cX6_put 85 = .ok (.goto 4, 3) := by decide +kernel
theorem dX6_put_88 : decode cX6_put 88 = .ok (.iconst 0, 1) := by decide +kernel
theorem dX6_put_89 : decode cX6_put 89 = .ok (.ireturn, 1) := by decide +kernel
set_option maxRecDepth 20000 in
theorem ggX6_copyFrom_X6_append : GoodIn wsX6_copyFrom wsX6_append := goodIn_r _ [10, 1, 2, 11, 12, 13, 9, 14, 3, 4, 5, 15, 16, 17, 18, 19] (by decide +kernel) (by decide +kernel)
set_option maxRecDepth 20000 in
theorem gX6_copyFrom_X6_append : GoodIn wsX6_copyFrom (wsV RX6 32 RX6 yX6_append wsX6_append) := goodIn_app (goodIn_of _ (by decide +kernel)) ggX6_copyFrom_X6_append
theorem dX6_copyFrom_0 : decode cX6_copyFrom 0 = .ok (.aload_n 0, 1) := by decide +kernel
theorem dX6_copyFrom_1 : decode cX6_copyFrom 1 = .ok (.iconst 0, 1) := by decide +kernel
theorem dX6_copyFrom_2 : decode cX6_copyFrom 2 = .ok (.putfield 9, 3) := by decide +kernel
theorem dX6_copyFrom_5 : decode cX6_copyFrom 5 = .ok (.iconst 0, 1) := by decide +kernel
theorem dX6_copyFrom_6 : decode cX6_copyFrom 6 = .ok (.istore_n 2, 1) := by decide +kernel
theorem dX6_copyFrom_7 : decode cX6_copyFrom 7 = .ok (.iload_n 2, 1) := by decide +kernel
theorem dX6_copyFrom_8 : decode cX6_copyFrom 8 = .ok (.aload_n 1, 1) := by decide +kernel
theorem dX6_copyFrom_9 : decode cX6_copyFrom 9 = .ok (.getfield 9, 3) := by decide +kernel
theorem dX6_copyFrom_12 : decode cX6_copyFrom 12 = .ok (.if_icmp .ge 37, 3) := by decide +kernel
theorem dX6_copyFrom_15 : decode cX6_copyFrom 15 = .ok (.aload_n 0, 1) := by decide +kernel
theorem dX6_copyFrom_16 : decode cX6_copyFrom 16 = .ok (.aload_n 1, 1) := by decide +kernel
theorem dX6_copyFrom_17 : decode cX6_copyFrom 17 = .ok (.getfield 15, 3) := by decide +kernel
theorem dX6_copyFrom_20 : decode cX6_copyFrom 20 = .ok (.iload_n 2, 1) := by decide +kernel
theorem dX6_copyFrom_21 : decode cX6_copyFrom 21 = .ok (.iaload, 1) := by decide +kernel
theorem dX6_copyFrom_22 : decode cX6_copyFrom 22 = .ok (.aload_n 1, 1) := by decide +kernel
theorem dX6_copyFrom_23 : decode cX6_copyFrom 23 = .ok (.getfield 19, 3) := by decide +kernel
theorem dX6_copyFrom_26 : decode cX6_copyFrom 26 = .ok (.iload_n 2, 1) := by decide +kernel
theorem dX6_copyFrom_27 : decode cX6_copyFrom 27 = .ok (.iaload, 1) := by decide +kernel
theorem dX6_copyFrom_28 : decode cX6_copyFrom 28 = .ok (.aload_n 1, 1) := by decide +kernel
theorem dX6_copyFrom_29 : decode cX6_copyFrom 29 = .ok (.getfield 22, 3) := by decide +kernel
theorem dX6_copyFrom_32 : decode cX6_copyFrom 32 = .ok (.iload_n 2, 1) := by decide +kernel
theorem dX6_copyFrom_33 : decode cX6_copyFrom 33 = .ok (.iaload, 1) := by decide +kernel
theorem dX6_copyFrom_34 : decode cX6_copyFrom 34 = .ok (.aload_n 1, 1) := by decide +kernel
theorem dX6_copyFrom_35 : decode cX6_copyFrom 35 = .ok (.getfield 25, 3) := by decide +kernel
theorem dX6_copyFrom_38 : decode cX6_copyFrom 38 = .ok (.iload_n 2, 1) := by decide +kernel
theorem dX6_copyFrom_39 : decode cX6_copyFrom 39 = .ok (.iaload, 1) := by decide +kernel
theorem dX6_copyFrom_40 : decode cX6_copyFrom 40 = .ok (.invokevirtual 32, 3) := by decide +kernel
theorem dX6_copyFrom_43 : decode cX6_copyFrom 43 = .ok (.iinc 2 1, 3) := by decide +kernel
theorem dX6_copyFrom_46 : decode cX6_copyFrom 46 = .ok (.goto (-39), 3) := by decide +kernel
theorem dX6_copyFrom_49 : decode cX6_copyFrom 49 = .ok (.return_, 1) := by decide +kernel
set_option maxRecDepth 20000 in
theorem ggX6_isWhole_X2_goesToD : GoodIn wsX6_isWhole wsX2_goesToD := goodIn_r _ [7] (by decide +kernel) (by decide +kernel)
set_option maxRecDepth 20000 in
theorem gX6_isWhole_X2_goesToD : GoodIn wsX6_isWhole (va_wsS RX6 36 yX2_goesToD wsX2_goesToD) := goodIn_app (goodIn_of _ (by decide +kernel)) ggX6_isWhole_X2_goesToD
theorem dX6_isWhole_0 : decode cX6_isWhole 0 = .ok (.aload_n 0, 1) := by decide +kernel
theorem dX6_isWhole_1 : decode cX6_isWhole 1 = .ok (.getfield 9, 3) := by decide +kernel
theorem dX6_isWhole_4 : decode cX6_isWhole 4 = .ok (.ifCond .eq 35, 3) := by decide +kernel
theorem dX6_isWhole_7 : decode cX6_isWhole 7 = .ok (.aload_n 0, 1) := by decide +kernel
theorem dX6_isWhole_8 : decode cX6_isWhole 8 = .ok (.getfield 15, 3) := by decide +kernel
theorem dX6_isWhole_11 : decode cX6_isWhole 11 = .ok (.aload_n 0, 1) := by decide +kernel
theorem dX6_isWhole_12 : decode cX6_isWhole 12 = .ok (.getfield 9, 3) := by decide +kernel
theorem dX6_isWhole_15 : decode cX6_isWhole 15 = .ok (.iconst 1, 1) := by decide +kernel
theorem dX6_isWhole_16 : decode cX6_isWhole 16 = .ok (.isub, 1) := by decide +kernel
theorem dX6_isWhole_17 : decode cX6_isWhole 17 = .ok (.iaload, 1) := by decide +kernel
theorem dX6_isWhole_18 : decode cX6_isWhole 18 = .ok (.bipush 9, 2) := by decide +kernel
theorem dX6_isWhole_20 : decode cX6_isWhole 20 = .ok (.if_icmp .eq 21, 3) := by decide +kernel
theorem dX6_isWhole_23 : decode cX6_isWhole 23 = .ok (.aload_n 0, 1) := by decide +kernel
theorem dX6_isWhole_24 : decode cX6_isWhole 24 = .ok (.getfield 15, 3) := by decide +kernel
theorem dX6_isWhole_27 : decode cX6_isWhole 27 = .ok (.aload_n 0, 1) := by decide +kernel
theorem dX6_isWhole_28 : decode cX6_isWhole 28 = .ok (.getfield 9, 3) := by decide +kernel
theorem dX6_isWhole_31 : decode cX6_isWhole 31 = .ok (.iconst 1, 1) := by decide +kernel
theorem dX6_isWhole_32 : decode cX6_isWhole 32 = .ok (.isub, 1) := by decide +kernel
theorem dX6_isWhole_33 : decode cX6_isWhole 33 = .ok (.iaload, 1) := by decide +kernel
theorem dX6_isWhole_34 : decode cX6_isWhole 34 = .ok (.bipush 12, 2) := by decide +kernel
theorem dX6_isWhole_36 : decode cX6_isWhole 36 = .ok (.if_icmp .eq 5, 3) := by decide +kernel
theorem dX6_isWhole_39 : decode cX6_isWhole 39 = .ok (.iconst 0, 1) := by decide +kernel
theorem dX6_isWhole_40 : decode cX6_isWhole 40 = .ok (.ireturn, 1) := by decide +kernel
theorem dX6_isWhole_41 : decode cX6_isWhole 41 = .ok (.iconst 0, 1) := by decide +kernel
theorem dX6_isWhole_42 : decode cX6_isWhole 42 = .ok (.istore_n 1, 1) := by decide +kernel
theorem dX6_isWhole_43 : decode cX6_isWhole 43 = .ok (.iload_n 1, 1) := by decide +kernel
theorem dX6_isWhole_44 : decode cX6_isWhole 44 = .ok (.aload_n 0, 1) := by decide +kernel
theorem dX6_isWhole_45 : decode cX6_isWhole 45 = .ok (.getfield 9, 3) := by decide +kernel
theorem dX6_isWhole_48 : decode cX6_isWhole 48 = .ok (.if_icmp .ge 36, 3) := by decide +kernel
theorem dX6_isWhole_51 : decode cX6_isWhole 51 = .ok (.aload_n 0, 1) := by decide +kernel
theorem dX6_isWhole_52 : decode cX6_isWhole 52 = .ok (.getfield 15, 3) := by decide +kernel
theorem dX6_isWhole_55 : decode cX6_isWhole 55 = .ok (.iload_n 1, 1) := by decide +kernel
theorem dX6_isWhole_56 : decode cX6_isWhole 56 = .ok (.iaload, 1) := by decide +kernel
theorem dX6_isWhole_57 : decode cX6_isWhole 57 = .ok (.invokestatic 36, 3) := by decide +kernel
theorem dX6_isWhole_60 : decode cX6_isWhole 60 = .ok (.ifCond .eq 18, 3) := by decide +kernel
theorem dX6_isWhole_63 : decode cX6_isWhole 63 = .ok (.aload_n 0, 1) := by decide +kernel
theorem dX6_isWhole_64 : decode cX6_isWhole 64 = .ok (.getfield 19, 3) := by decide +kernel
theorem dX6_isWhole_67 : decode cX6_isWhole 67 = .ok (.iload_n 1, 1) := by decide +kernel
theorem dX6_isWhole_68 : decode cX6_isWhole 68 = .ok (.iaload, 1) := by decide +kernel
theorem dX6_isWhole_69 : decode cX6_isWhole 69 = .ok (.aload_n 0, 1) := by decide +kernel
theorem dX6_isWhole_70 : decode cX6_isWhole 70 = .ok (.getfield 9, 3) := by decide +kernel
theorem dX6_isWhole_73 : decode cX6_isWhole 73 = .ok (.if_icmp .lt 5, 3) := by decide +kernel
theorem dX6_isWhole_76 : decode cX6_isWhole 76 = .ok (.iconst 0, 1) := by decide +kernel
theorem dX6_isWhole_77 : decode cX6_isWhole 77 = .ok (.ireturn, 1) := by decide +kernel
theorem dX6_isWhole_78 : decode cX6_isWhole 78 = .ok (.iinc 1 1, 3) := by decide +kernel
theorem dX6_isWhole_81 : decode cX6_isWhole 81 = .ok (.goto (-38), 3) := by decide +kernel
theorem dX6_isWhole_84 : decode cX6_isWhole 84 = .ok (.iconst 1, 1) := by decide +kernel
theorem dX6_isWhole_85 : decode cX6_isWhole 85 = .ok (.ireturn, 1) := by decide +kernel
theorem dX6_follower_0 : decode cX6_follower 0 = .ok (.aload_n 0, 1) := by decide +kernel
theorem dX6_follower_1 : decode cX6_follower 1 = .ok (.getfield 15, 3) := by decide +kernel
theorem dX6_follower_4 : decode cX6_follower 4 = .ok (.iload_n 1, 1) := by decide +kernel
theorem dX6_follower_5 : decode cX6_follower 5 = .ok (.iaload, 1) := by decide +kernel
theorem dX6_follower_6 : decode cX6_follower 6 = .ok (.bipush 9, 2) := by decide +kernel
theorem dX6_follower_8 : decode cX6_follower 8 = .ok (.if_icmp .eq 28, 3) := by decide +kernel
theorem dX6_follower_11 : decode cX6_follower 11 = .ok (.aload_n 0, 1) := by decide +kernel
theorem dX6_follower_12 : decode cX6_follower 12 = .ok (.getfield 15, 3) := by decide +kernel
theorem dX6_follower_15 : decode cX6_follower 15 = .ok (.iload_n 1, 1) := by decide +kernel
theorem dX6_follower_16 : decode cX6_follower 16 = .ok (.iaload, 1) := by decide +kernel
theorem dX6_follower_17 : decode cX6_follower 17 = .ok (.bipush 12, 2) := by decide +kernel
theorem dX6_follower_19 : decode cX6_follower 19 = .ok (.if_icmp .eq 17, 3) := by decide +kernel
theorem dX6_follower_22 : decode cX6_follower 22 = .ok (.iload_n 1, 1) := by decide +kernel
theorem dX6_follower_23 : decode cX6_follower 23 = .ok (.iconst 1, 1) := by decide +kernel
theorem dX6_follower_24 : decode cX6_follower 24 = .ok (.iadd, 1) := by decide +kernel
theorem dX6_follower_25 : decode cX6_follower 25 = .ok (.aload_n 0, 1) := by decide +kernel
theorem dX6_follower_26 : decode cX6_follower 26 = .ok (.getfield 9, 3) := by decide +kernel
theorem dX6_follower_29 : decode cX6_follower 29 = .ok (.if_icmp .ge 7, 3) := by decide +kernel
theorem dX6_follower_32 : decode cX6_follower 32 = .ok (.iconst 1, 1) := by decide +kernel
theorem dX6_follower_33 : decode cX6_follower 33 = .ok (.goto 4, 3) := by decide +kernel
theorem dX6_follower_36 : decode cX6_follower 36 = .ok (.iconst 0, 1) := by decide +kernel
theorem dX6_follower_37 : decode cX6_follower 37 = .ok (.istore_n 2, 1) := by decide +kernel
theorem dX6_follower_38 : decode cX6_follower 38 = .ok (.iload_n 2, 1) := by decide +kernel
theorem dX6_follower_39 : decode cX6_follower 39 = .ok (.ifCond .eq 9, 3) := by decide +kernel
theorem dX6_follower_42 : decode cX6_follower 42 = .ok (.iload_n 1, 1) := by decide +kernel
theorem dX6_follower_43 : decode cX6_follower 43 = .ok (.iconst 1, 1) := by decide +kernel
theorem dX6_follower_44 : decode cX6_follower 44 = .ok (.iadd, 1) := by decide +kernel
theorem dX6_follower_45 : decode cX6_follower 45 = .ok (.goto 4, 3) := by decide +kernel
theorem dX6_follower_48 : decode cX6_follower 48 = .ok (.iconst (-1), 1) := by decide +kernel
theorem dX6_follower_49 : decode cX6_follower 49 = .ok (.ireturn, 1) := by decide +kernel
set_option maxRecDepth 20000 in
theorem ggX6_target_X2_goesToD : GoodIn wsX6_target wsX2_goesToD := goodIn_r _ [7] (by decide +kernel) (by decide +kernel)
set_option maxRecDepth 20000 in
theorem gX6_target_X2_goesToD : GoodIn wsX6_target (va_wsS RX6 36 yX2_goesToD wsX2_goesToD) := goodIn_app (goodIn_of _ (by decide +kernel)) ggX6_target_X2_goesToD
theorem dX6_target_0 : decode cX6_target 0 = .ok (.aload_n 0, 1) := by decide +kernel
theorem dX6_target_1 : decode cX6_target 1 = .ok (.getfield 15, 3) := by decide +kernel
theorem dX6_target_4 : decode cX6_target 4 = .ok (.iload_n 1, 1) := by decide +kernel
theorem dX6_target_5 : decode cX6_target 5 = .ok (.iaload, 1) := by decide +kernel
theorem dX6_target_6 : decode cX6_target 6 = .ok (.invokestatic 36, 3) := by decide +kernel
theorem dX6_target_9 : decode cX6_target 9 = .ok (.ifCond .eq 25, 3) := by decide +kernel
theorem dX6_target_12 : decode cX6_target 12 = .ok (.aload_n 0, 1) := by decide +kernel
theorem dX6_target_13 : decode cX6_target 13 = .ok (.getfield 19, 3) := by decide +kernel
theorem dX6_target_16 : decode cX6_target 16 = .ok (.iload_n 1, 1) := by decide +kernel
theorem dX6_target_17 : decode cX6_target 17 = .ok (.iaload, 1) := by decide +kernel
theorem dX6_target_18 : decode cX6_target 18 = .ok (.aload_n 0, 1) := by decide +kernel
theorem dX6_target_19 : decode cX6_target 19 = .ok (.getfield 9, 3) := by decide +kernel
theorem dX6_target_22 : decode cX6_target 22 = .ok (.if_icmp .ge 12, 3) := by decide +kernel
theorem dX6_target_25 : decode cX6_target 25 = .ok (.aload_n 0, 1) := by decide +kernel
theorem dX6_target_26 : decode cX6_target 26 = .ok (.getfield 19, 3) := by decide +kernel
theorem dX6_target_29 : decode cX6_target 29 = .ok (.iload_n 1, 1) := by decide +kernel
theorem dX6_target_30 : decode cX6_target 30 = .ok (.iaload, 1) := by decide +kernel
theorem dX6_target_31 : decode cX6_target 31 = .ok (.goto 4, 3) := by decide +kernel
theorem dX6_target_34 : decode cX6_target 34 = .ok (.iconst (-1), 1) := by decide +kernel
theorem dX6_target_35 : decode cX6_target 35 = .ok (.ireturn, 1) := by decide +kernel
set_option maxRecDepth 20000 in
theorem ggX6_isTarget_X2_goesToD : GoodIn wsX6_isTarget wsX2_goesToD := goodIn_r _ [7] (by decide +kernel) (by decide +kernel)
set_option maxRecDepth 20000 in
theorem gX6_isTarget_X2_goesToD : GoodIn wsX6_isTarget (va_wsS RX6 36 yX2_goesToD wsX2_goesToD) := goodIn_app (goodIn_of _ (by decide +kernel)) ggX6_isTarget_X2_goesToD
theorem dX6_isTarget_0 : decode cX6_isTarget 0 = .ok (.iconst 0, 1) := by decide +kernel
theorem dX6_isTarget_1 : decode cX6_isTarget 1 = .ok (.istore_n 2, 1) := by decide +kernel
theorem dX6_isTarget_2 : decode cX6_isTarget 2 = .ok (.iload_n 2, 1) := by decide +kernel
theorem dX6_isTarget_3 : decode cX6_isTarget 3 = .ok (.aload_n 0, 1) := by decide +kernel
theorem dX6_isTarget_4 : decode cX6_isTarget 4 = .ok (.getfield 9, 3) := by decide +kernel
theorem dX6_isTarget_7 : decode cX6_isTarget 7 = .ok (.if_icmp .ge 33, 3) := by decide +kernel
theorem dX6_isTarget_10 : decode cX6_isTarget 10 = .ok (.aload_n 0, 1) := by decide +kernel
theorem dX6_isTarget_11 : decode cX6_isTarget 11 = .ok (.getfield 15, 3) := by decide +kernel
theorem dX6_isTarget_14 : decode cX6_isTarget 14 = .ok (.iload_n 2, 1) := by decide +kernel
theorem dX6_isTarget_15 : decode cX6_isTarget 15 = .ok (.iaload, 1) := by decide +kernel
theorem dX6_isTarget_16 : decode cX6_isTarget 16 = .ok (.invokestatic 36, 3) := by decide +kernel
theorem dX6_isTarget_19 : decode cX6_isTarget 19 = .ok (.ifCond .eq 15, 3) := by decide +kernel
theorem dX6_isTarget_22 : decode cX6_isTarget 22 = .ok (.aload_n 0, 1) := by decide +kernel
theorem dX6_isTarget_23 : decode cX6_isTarget 23 = .ok (.getfield 19, 3) := by decide +kernel
theorem dX6_isTarget_26 : decode cX6_isTarget 26 = .ok (.iload_n 2, 1) := by decide +kernel
theorem dX6_isTarget_27 : decode cX6_isTarget 27 = .ok (.iaload, 1) := by decide +kernel
theorem dX6_isTarget_28 : decode cX6_isTarget 28 = .ok (.iload_n 1, 1) := by decide +kernel
theorem dX6_isTarget_29 : decode cX6_isTarget 29 = .ok (.if_icmp .ne 5, 3) := by decide +kernel
theorem dX6_isTarget_32 : decode cX6_isTarget 32 = .ok (.iconst 1, 1) := by decide +kernel
theorem dX6_isTarget_33 : decode cX6_isTarget 33 = .ok (.ireturn, 1) := by decide +kernel
theorem dX6_isTarget_34 : decode cX6_isTarget 34 = .ok (.iinc 2 1, 3) := by decide +kernel
theorem dX6_isTarget_37 : decode cX6_isTarget 37 = .ok (.goto (-35), 3) := by decide +kernel
theorem dX6_isTarget_40 : decode cX6_isTarget 40 = .ok (.iconst 0, 1) := by decide +kernel
theorem dX6_isTarget_41 : decode cX6_isTarget 41 = .ok (.ireturn, 1) := by decide +kernel
theorem dX3_init_0 : decode cX3_init 0 = .ok (.aload_n 0, 1) := by decide +kernel
theorem dX3_init_1 : decode cX3_init 1 = .ok (.invokespecial 3, 3) := by decide +kernel
theorem dX3_init_4 : decode cX3_init 4 = .ok (.aload_n 0, 1) := by decide +kernel
theorem dX3_init_5 : decode cX3_init 5 = .ok (.bipush 24, 2) := by decide +kernel
theorem dX3_init_7 : decode cX3_init 7 = .ok (.newarray .int, 2) := by decide +kernel
theorem dX3_init_9 : decode cX3_init 9 = .ok (.putfield 9, 3) := by decide +kernel
theorem dX3_init_12 : decode cX3_init 12 = .ok (.return_, 1) := by decide +kernel
set_option maxRecDepth 20000 in
theorem ggX3_find_J7_fill_53178 : GoodIn wsX3_find wsJ7_fill_53178 := goodIn_r _ [5] (by decide +kernel) (by decide +kernel)
set_option maxRecDepth 20000 in
theorem gX3_find_J7_fill_53178 : GoodIn wsX3_find (va_wsS RX3 15 yJ7_fill_53178 wsJ7_fill_53178) := goodIn_app (goodIn_of _ (by decide +kernel)) ggX3_find_J7_fill_53178
set_option maxRecDepth 20000 in
theorem ggX3_find_X3_sweep : GoodIn wsX3_find wsX3_sweep := goodIn_r _ [10, 11, 1, 12, 13, 14, 9, 15, 16, 17, 18, 19, 20, 21, 22, 23, 24, 25, 26, 27, 28, 29, 30, 31, 32, 33, 34, 35, 36, 37, 38, 39, 40, 41, 42, 43, 44, 45, 46, 47, 48, 49, 50, 51, 53, 54, 55, 56, 57, 52] (by decide +kernel) (by decide +kernel)
set_option maxRecDepth 20000 in
theorem gX3_find_X3_sweep : GoodIn wsX3_find (wsV RX3 21 RX3 yX3_sweep wsX3_sweep) := goodIn_app (goodIn_of _ (by decide +kernel)) ggX3_find_X3_sweep
theorem dX3_find_0 : decode cX3_find 0 = .ok (.aload_n 0, 1) := by decide +kernel
theorem dX3_find_1 : decode cX3_find 1 = .ok (.getfield 9, 3) := by decide +kernel
theorem dX3_find_4 : decode cX3_find 4 = .ok (.iconst 0, 1) := by decide +kernel
theorem dX3_find_5 : decode cX3_find 5 = .ok (.invokestatic 15, 3) := by decide +kernel
theorem dX3_find_8 : decode cX3_find 8 = .ok (.iconst 1, 1) := by decide +kernel
theorem dX3_find_9 : decode cX3_find 9 = .ok (.istore_n 2, 1) := by decide +kernel
theorem dX3_find_10 : decode cX3_find 10 = .ok (.iconst 0, 1) := by decide +kernel
theorem dX3_find_11 : decode cX3_find 11 = .ok (.istore_n 3, 1) := by decide +kernel
theorem dX3_find_12 : decode cX3_find 12 = .ok (.iload_n 2, 1) := by decide +kernel
theorem dX3_find_13 : decode cX3_find 13 = .ok (.ifCond .eq 22, 3) := by decide +kernel
theorem dX3_find_16 : decode cX3_find 16 = .ok (.iload_n 3, 1) := by decide +kernel
theorem dX3_find_17 : decode cX3_find 17 = .ok (.sipush 1000, 3) := by decide +kernel
theorem dX3_find_20 : decode cX3_find 20 = .ok (.if_icmp .ge 15, 3) := by decide +kernel
theorem dX3_find_23 : decode cX3_find 23 = .ok (.aload_n 0, 1) := by decide +kernel
theorem dX3_find_24 : decode cX3_find 24 = .ok (.aload_n 1, 1) := by decide +kernel
theorem dX3_find_25 : decode cX3_find 25 = .ok (.invokevirtual 21, 3) := by decide +kernel
theorem dX3_find_28 : decode cX3_find 28 = .ok (.istore_n 2, 1) := by decide +kernel
theorem dX3_find_29 : decode cX3_find 29 = .ok (.iinc 3 1, 3) := by decide +kernel
theorem dX3_find_32 : decode cX3_find 32 = .ok (.goto (-20), 3) := by decide +kernel
theorem dX3_find_35 : decode cX3_find 35 = .ok (.return_, 1) := by decide +kernel
set_option maxRecDepth 20000 in
theorem ggX3_sweep_X3_liveBefore : GoodIn wsX3_sweep wsX3_liveBefore := goodIn_r _ [7, 8, 9, 10, 11, 12, 13, 14, 6, 15, 2, 16, 17, 18, 19, 20, 21, 22, 23, 24, 25, 26, 27, 28, 29, 30, 31, 32, 33, 34, 35, 36, 37, 38, 39, 40, 41, 42, 43, 44, 45, 46, 47, 48, 49] (by decide +kernel) (by decide +kernel)
set_option maxRecDepth 20000 in
theorem gX3_sweep_X3_liveBefore : GoodIn wsX3_sweep (wsV RX3 31 RX3 yX3_liveBefore wsX3_liveBefore) := goodIn_app (goodIn_of _ (by decide +kernel)) ggX3_sweep_X3_liveBefore
theorem dX3_sweep_0 : decode cX3_sweep 0 = .ok (.iconst 0, 1) := by decide +kernel
theorem dX3_sweep_1 : decode cX3_sweep 1 = .ok (.istore_n 2, 1) := by decide +kernel
theorem dX3_sweep_2 : decode cX3_sweep 2 = .ok (.aload_n 1, 1) := by decide +kernel
theorem dX3_sweep_3 : decode cX3_sweep 3 = .ok (.getfield 25, 3) := by decide +kernel
theorem dX3_sweep_6 : decode cX3_sweep 6 = .ok (.iconst 1, 1) := by decide +kernel
theorem dX3_sweep_7 : decode cX3_sweep 7 = .ok (.isub, 1) := by decide +kernel
theorem dX3_sweep_8 : decode cX3_sweep 8 = .ok (.istore_n 3, 1) := by decide +kernel
theorem dX3_sweep_9 : decode cX3_sweep 9 = .ok (.iload_n 3, 1) := by decide +kernel
theorem dX3_sweep_10 : decode cX3_sweep 10 = .ok (.ifCond .lt 46, 3) := by decide +kernel
theorem dX3_sweep_13 : decode cX3_sweep 13 = .ok (.aload_n 0, 1) := by decide +kernel
theorem dX3_sweep_14 : decode cX3_sweep 14 = .ok (.aload_n 1, 1) := by decide +kernel
theorem dX3_sweep_15 : decode cX3_sweep 15 = .ok (.iload_n 3, 1) := by decide +kernel
theorem dX3_sweep_16 : decode cX3_sweep 16 = .ok (.invokevirtual 31, 3) := by decide +kernel
theorem dX3_sweep_19 : decode cX3_sweep 19 = .ok (.istore 4, 2) := by decide +kernel
theorem dX3_sweep_21 : decode cX3_sweep 21 = .ok (.iload_n 2, 1) := by decide +kernel
theorem dX3_sweep_22 : decode cX3_sweep 22 = .ok (.ifCond .ne 14, 3) := by decide +kernel
theorem dX3_sweep_25 : decode cX3_sweep 25 = .ok (.iload 4, 2) := by decide +kernel
theorem dX3_sweep_27 : decode cX3_sweep 27 = .ok (.aload_n 0, 1) := by decide +kernel
theorem dX3_sweep_28 : decode cX3_sweep 28 = .ok (.getfield 9, 3) := by decide +kernel
theorem dX3_sweep_31 : decode cX3_sweep 31 = .ok (.iload_n 3, 1) := by decide +kernel
theorem dX3_sweep_32 : decode cX3_sweep 32 = .ok (.iaload, 1) := by decide +kernel
theorem dX3_sweep_33 : decode cX3_sweep 33 = .ok (.if_icmp .eq 7, 3) := by decide +kernel
theorem dX3_sweep_36 : decode cX3_sweep 36 = .ok (.iconst 1, 1) := by decide +kernel
theorem dX3_sweep_37 : decode cX3_sweep 37 = .ok (.goto 4, 3) := by decide +kernel
theorem dX3_sweep_40 : decode cX3_sweep 40 = .ok (.iconst 0, 1) := by decide +kernel
theorem dX3_sweep_41 : decode cX3_sweep 41 = .ok (.istore_n 2, 1) := by decide +kernel
theorem dX3_sweep_42 : decode cX3_sweep 42 = .ok (.aload_n 0, 1) := by decide +kernel
theorem dX3_sweep_43 : decode cX3_sweep 43 = .ok (.getfield 9, 3) := by decide +kernel
theorem dX3_sweep_46 : decode cX3_sweep 46 = .ok (.iload_n 3, 1) := by decide +kernel
theorem dX3_sweep_47 : decode cX3_sweep 47 = .ok (.iload 4, 2) := by decide +kernel
theorem dX3_sweep_49 : decode cX3_sweep 49 = .ok (.iastore, 1) := by decide +kernel
theorem dX3_sweep_50 : decode cX3_sweep 50 = .ok (.iinc 3 (-1), 3) := by decide +kernel
theorem dX3_sweep_53 : decode cX3_sweep 53 = .ok (.goto (-44), 3) := by decide +kernel
theorem dX3_sweep_56 : decode cX3_sweep 56 = .ok (.iload_n 2, 1) := by decide +kernel
theorem dX3_sweep_57 : decode cX3_sweep 57 = .ok (.ireturn, 1) := by decide +kernel
set_option maxRecDepth 20000 in
theorem ggX3_liveBefore_X3_after : GoodIn wsX3_liveBefore wsX3_after := goodIn_r _ [9, 10, 11, 12, 13, 14, 15, 16, 17, 18, 19, 20, 21, 22, 23, 24, 25, 26, 44, 39, 40, 41, 42, 43] (by decide +kernel) (by decide +kernel)
set_option maxRecDepth 20000 in
theorem gX3_liveBefore_X3_after : GoodIn wsX3_liveBefore (wsV RX3 38 RX3 yX3_after wsX3_after) := goodIn_app (goodIn_of _ (by decide +kernel)) ggX3_liveBefore_X3_after
set_option maxRecDepth 20000 in
theorem ggX3_liveBefore_X2_writesD : GoodIn wsX3_liveBefore wsX2_writesD := goodIn_r _ [29] (by decide +kernel) (by decide +kernel)
set_option maxRecDepth 20000 in
theorem gX3_liveBefore_X2_writesD : GoodIn wsX3_liveBefore (va_wsS RX3 41 yX2_writesD wsX2_writesD) := goodIn_app (goodIn_of _ (by decide +kernel)) ggX3_liveBefore_X2_writesD
set_option maxRecDepth 20000 in
theorem ggX3_liveBefore_X2_readsA : GoodIn wsX3_liveBefore wsX2_readsA := goodIn_r _ [32] (by decide +kernel) (by decide +kernel)
set_option maxRecDepth 20000 in
theorem gX3_liveBefore_X2_readsA : GoodIn wsX3_liveBefore (va_wsS RX3 50 yX2_readsA wsX2_readsA) := goodIn_app (goodIn_of _ (by decide +kernel)) ggX3_liveBefore_X2_readsA
set_option maxRecDepth 20000 in
theorem ggX3_liveBefore_X2_readsB : GoodIn wsX3_liveBefore wsX2_readsB := goodIn_r _ [35, 36, 37, 25, 38] (by decide +kernel) (by decide +kernel)
set_option maxRecDepth 20000 in
theorem gX3_liveBefore_X2_readsB : GoodIn wsX3_liveBefore (va_wsS RX3 56 yX2_readsB wsX2_readsB) := goodIn_app (goodIn_of _ (by decide +kernel)) ggX3_liveBefore_X2_readsB
theorem dX3_liveBefore_0 : decode cX3_liveBefore 0 = .ok (.aload_n 1, 1) := by decide +kernel
theorem dX3_liveBefore_1 : decode cX3_liveBefore 1 = .ok (.getfield 35, 3) := by decide +kernel
theorem dX3_liveBefore_4 : decode cX3_liveBefore 4 = .ok (.iload_n 2, 1) := by decide +kernel
theorem dX3_liveBefore_5 : decode cX3_liveBefore 5 = .ok (.iaload, 1) := by decide +kernel
theorem dX3_liveBefore_6 : decode cX3_liveBefore 6 = .ok (.istore_n 3, 1) := by decide +kernel
theorem dX3_liveBefore_7 : decode cX3_liveBefore 7 = .ok (.aload_n 0, 1) := by decide +kernel
theorem dX3_liveBefore_8 : decode cX3_liveBefore 8 = .ok (.aload_n 1, 1) := by decide +kernel
theorem dX3_liveBefore_9 : decode cX3_liveBefore 9 = .ok (.iload_n 2, 1) := by decide +kernel
theorem dX3_liveBefore_10 : decode cX3_liveBefore 10 = .ok (.invokevirtual 38, 3) := by decide +kernel
theorem dX3_liveBefore_13 : decode cX3_liveBefore 13 = .ok (.istore 4, 2) := by decide +kernel
theorem dX3_liveBefore_15 : decode cX3_liveBefore 15 = .ok (.iload_n 3, 1) := by decide +kernel
theorem dX3_liveBefore_16 : decode cX3_liveBefore 16 = .ok (.invokestatic 41, 3) := by decide +kernel
theorem dX3_liveBefore_19 : decode cX3_liveBefore 19 = .ok (.ifCond .eq 18, 3) := by decide +kernel
theorem dX3_liveBefore_22 : decode cX3_liveBefore 22 = .ok (.iload 4, 2) := by decide +kernel
theorem dX3_liveBefore_24 : decode cX3_liveBefore 24 = .ok (.iconst 1, 1) := by decide +kernel
theorem dX3_liveBefore_25 : decode cX3_liveBefore 25 = .ok (.aload_n 1, 1) := by decide +kernel
theorem dX3_liveBefore_26 : decode cX3_liveBefore 26 = .ok (.getfield 47, 3) := by decide +kernel
theorem dX3_liveBefore_29 : decode cX3_liveBefore 29 = .ok (.iload_n 2, 1) := by decide +kernel
theorem dX3_liveBefore_30 : decode cX3_liveBefore 30 = .ok (.iaload, 1) := by decide +kernel
theorem dX3_liveBefore_31 : decode cX3_liveBefore 31 = .ok (.ishl, 1) := by decide +kernel
theorem dX3_liveBefore_32 : decode cX3_liveBefore 32 = .ok (.iconst (-1), 1) := by decide +kernel
theorem dX3_liveBefore_33 : decode cX3_liveBefore 33 = .ok (.ixor, 1) := by decide +kernel
theorem dX3_liveBefore_34 : decode cX3_liveBefore 34 = .ok (.iand, 1) := by decide +kernel
theorem dX3_liveBefore_35 : decode cX3_liveBefore 35 = .ok (.istore 4, 2) := by decide +kernel
theorem dX3_liveBefore_37 : decode cX3_liveBefore 37 = .ok (.iload_n 3, 1) := by decide +kernel
theorem dX3_liveBefore_38 : decode cX3_liveBefore 38 = .ok (.invokestatic 50, 3) := by decide +kernel
theorem dX3_liveBefore_41 : decode cX3_liveBefore 41 = .ok (.ifCond .eq 16, 3) := by decide +kernel
theorem dX3_liveBefore_44 : decode cX3_liveBefore 44 = .ok (.iload 4, 2) := by decide +kernel
theorem dX3_liveBefore_46 : decode cX3_liveBefore 46 = .ok (.iconst 1, 1) := by decide +kernel
theorem dX3_liveBefore_47 : decode cX3_liveBefore 47 = .ok (.aload_n 1, 1) := by decide +kernel
theorem dX3_liveBefore_48 : decode cX3_liveBefore 48 = .ok (.getfield 53, 3) := by decide +kernel
theorem dX3_liveBefore_51 : decode cX3_liveBefore 51 = .ok (.iload_n 2, 1) := by decide +kernel
theorem dX3_liveBefore_52 : decode cX3_liveBefore 52 = .ok (.iaload, 1) := by decide +kernel
theorem dX3_liveBefore_53 : decode cX3_liveBefore 53 = .ok (.ishl, 1) := by decide +kernel
theorem dX3_liveBefore_54 : decode cX3_liveBefore 54 = .ok (.ior, 1) := by decide +kernel
theorem dX3_liveBefore_55 : decode cX3_liveBefore 55 = .ok (.istore 4, 2) := by decide +kernel
theorem dX3_liveBefore_57 : decode cX3_liveBefore 57 = .ok (.iload_n 3, 1) := by decide +kernel
theorem dX3_liveBefore_58 : decode cX3_liveBefore 58 = .ok (.invokestatic 56, 3) := by decide +kernel
theorem dX3_liveBefore_61 : decode cX3_liveBefore 61 = .ok (.ifCond .eq 16, 3) := by decide +kernel
theorem dX3_liveBefore_64 : decode cX3_liveBefore 64 = .ok (.iload 4, 2) := by decide +kernel
theorem dX3_liveBefore_66 : decode cX3_liveBefore 66 = .ok (.iconst 1, 1) := by decide +kernel
theorem dX3_liveBefore_67 : decode cX3_liveBefore 67 = .ok (.aload_n 1, 1) := by decide +kernel
theorem dX3_liveBefore_68 : decode cX3_liveBefore 68 = .ok (.getfield 59, 3) := by decide +kernel
theorem dX3_liveBefore_71 : decode cX3_liveBefore 71 = .ok (.iload_n 2, 1) := by decide +kernel
theorem dX3_liveBefore_72 : decode cX3_liveBefore 72 = .ok (.iaload, 1) := by decide +kernel
theorem dX3_liveBefore_73 : decode cX3_liveBefore 73 = .ok (.ishl, 1) := by decide +kernel
theorem dX3_liveBefore_74 : decode cX3_liveBefore 74 = .ok (.ior, 1) := by decide +kernel
theorem dX3_liveBefore_75 : decode cX3_liveBefore 75 = .ok (.istore 4, 2) := by decide +kernel
theorem dX3_liveBefore_77 : decode cX3_liveBefore 77 = .ok (.iload 4, 2) := by decide +kernel
theorem dX3_liveBefore_79 : decode cX3_liveBefore 79 = .ok (.ireturn, 1) := by decide +kernel
set_option maxRecDepth 20000 in
theorem ggX3_after_X6_follower : GoodIn wsX3_after wsX6_follower := goodIn_r _ [6, 7, 8, 19, 20, 21, 22, 23] (by decide +kernel) (by decide +kernel)
set_option maxRecDepth 20000 in
theorem gX3_after_X6_follower : GoodIn wsX3_after (wsV RX3 62 RX6 yX6_follower wsX6_follower) := goodIn_app (goodIn_of _ (by decide +kernel)) ggX3_after_X6_follower
set_option maxRecDepth 20000 in
theorem ggX3_after_X6_target : GoodIn wsX3_after wsX6_target := goodIn_r _ [12, 7, 13, 8, 14, 15, 16, 17, 19, 20, 21, 22, 23] (by decide +kernel) (by decide +kernel)
set_option maxRecDepth 20000 in
theorem gX3_after_X6_target : GoodIn wsX3_after (wsV RX3 66 RX6 yX6_target wsX6_target) := goodIn_app (goodIn_of _ (by decide +kernel)) ggX3_after_X6_target
theorem dX3_after_0 : decode cX3_after 0 = .ok (.aload_n 1, 1) := by decide +kernel
theorem dX3_after_1 : decode cX3_after 1 = .ok (.iload_n 2, 1) := by decide +kernel
theorem dX3_after_2 : decode cX3_after 2 = .ok (.invokevirtual 62, 3) := by decide +kernel
theorem dX3_after_5 : decode cX3_after 5 = .ok (.istore_n 3, 1) := by decide +kernel
theorem dX3_after_6 : decode cX3_after 6 = .ok (.aload_n 1, 1) := by decide +kernel
theorem dX3_after_7 : decode cX3_after 7 = .ok (.iload_n 2, 1) := by decide +kernel
theorem dX3_after_8 : decode cX3_after 8 = .ok (.invokevirtual 66, 3) := by decide +kernel
theorem dX3_after_11 : decode cX3_after 11 = .ok (.istore 4, 2) := by decide +kernel
theorem dX3_after_13 : decode cX3_after 13 = .ok (.iload_n 3, 1) := by decide +kernel
theorem dX3_after_14 : decode cX3_after 14 = .ok (.iconst (-1), 1) := by decide +kernel
theorem dX3_after_15 : decode cX3_after 15 = .ok (.if_icmp .ne 7, 3) := by decide +kernel
theorem dX3_after_18 : decode cX3_after 18 = .ok (.iconst 0, 1) := by decide +kernel
theorem dX3_after_19 : decode cX3_after 19 = .ok (.goto 9, 3) := by decide +kernel
theorem dX3_after_22 : decode cX3_after 22 = .ok (.aload_n 0, 1) := by decide +kernel
theorem dX3_after_23 : decode cX3_after 23 = .ok (.getfield 9, 3) := by decide +kernel
theorem dX3_after_26 : decode cX3_after 26 = .ok (.iload_n 3, 1) := by decide +kernel
theorem dX3_after_27 : decode cX3_after 27 = .ok (.iaload, 1) := by decide +kernel
theorem dX3_after_28 : decode cX3_after 28 = .ok (.istore 5, 2) := by decide +kernel
theorem dX3_after_30 : decode cX3_after 30 = .ok (.iload 4, 2) := by decide +kernel
theorem dX3_after_32 : decode cX3_after 32 = .ok (.iconst (-1), 1) := by decide +kernel
theorem dX3_after_33 : decode cX3_after 33 = .ok (.if_icmp .ne 8, 3) := by decide +kernel
theorem dX3_after_36 : decode cX3_after 36 = .ok (.iload 5, 2) := by decide +kernel
theorem dX3_after_38 : decode cX3_after 38 = .ok (.goto 13, 3) := by decide +kernel
theorem dX3_after_41 : decode cX3_after 41 = .ok (.iload 5, 2) := by decide +kernel
theorem dX3_after_43 : decode cX3_after 43 = .ok (.aload_n 0, 1) := by decide +kernel
theorem dX3_after_44 : decode cX3_after 44 = .ok (.getfield 9, 3) := by decide +kernel
theorem dX3_after_47 : decode cX3_after 47 = .ok (.iload 4, 2) := by decide +kernel
theorem dX3_after_49 : decode cX3_after 49 = .ok (.iaload, 1) := by decide +kernel
theorem dX3_after_50 : decode cX3_after 50 = .ok (.ior, 1) := by decide +kernel
theorem dX3_after_51 : decode cX3_after 51 = .ok (.ireturn, 1) := by decide +kernel
set_option maxRecDepth 20000 in
theorem ggX3_dropUnused_X3_after : GoodIn wsX3_dropUnused wsX3_after := goodIn_r _ [8, 9, 10, 11, 12, 13, 14, 15, 16, 17, 18, 19, 20, 21, 22, 23, 24, 25, 40, 35, 36, 37, 38, 39] (by decide +kernel) (by decide +kernel)
set_option maxRecDepth 20000 in
theorem gX3_dropUnused_X3_after : GoodIn wsX3_dropUnused (wsV RX3 38 RX3 yX3_after wsX3_after) := goodIn_app (goodIn_of _ (by decide +kernel)) ggX3_dropUnused_X3_after
set_option maxRecDepth 20000 in
theorem ggX3_dropUnused_X2_onlyGivesD : GoodIn wsX3_dropUnused wsX2_onlyGivesD := goodIn_r _ [28] (by decide +kernel) (by decide +kernel)
set_option maxRecDepth 20000 in
theorem gX3_dropUnused_X2_onlyGivesD : GoodIn wsX3_dropUnused (va_wsS RX3 69 yX2_onlyGivesD wsX2_onlyGivesD) := goodIn_app (goodIn_of _ (by decide +kernel)) ggX3_dropUnused_X2_onlyGivesD
set_option maxRecDepth 20000 in
theorem ggX3_dropUnused_X6_put : GoodIn wsX3_dropUnused wsX6_put := goodIn_r _ [32, 15, 21, 33, 34, 35, 36, 37, 38, 39] (by decide +kernel) (by decide +kernel)
set_option maxRecDepth 20000 in
theorem gX3_dropUnused_X6_put : GoodIn wsX3_dropUnused (wsV RX3 72 RX6 yX6_put wsX6_put) := goodIn_app (goodIn_of _ (by decide +kernel)) ggX3_dropUnused_X6_put
theorem dX3_dropUnused_0 : decode cX3_dropUnused 0 = .ok (.iconst 0, 1) := by decide +kernel
theorem dX3_dropUnused_1 : decode cX3_dropUnused 1 = .ok (.istore_n 2, 1) := by decide +kernel
theorem dX3_dropUnused_2 : decode cX3_dropUnused 2 = .ok (.iconst 0, 1) := by decide +kernel
theorem dX3_dropUnused_3 : decode cX3_dropUnused 3 = .ok (.istore_n 3, 1) := by decide +kernel
theorem dX3_dropUnused_4 : decode cX3_dropUnused 4 = .ok (.iload_n 3, 1) := by decide +kernel
theorem dX3_dropUnused_5 : decode cX3_dropUnused 5 = .ok (.aload_n 1, 1) := by decide +kernel
theorem dX3_dropUnused_6 : decode cX3_dropUnused 6 = .ok (.getfield 25, 3) := by decide +kernel
theorem dX3_dropUnused_9 : decode cX3_dropUnused 9 = .ok (.if_icmp .ge 64, 3) := by decide +kernel
theorem dX3_dropUnused_12 : decode cX3_dropUnused 12 = .ok (.aload_n 0, 1) := by decide +kernel
theorem dX3_dropUnused_13 : decode cX3_dropUnused 13 = .ok (.aload_n 1, 1) := by decide +kernel
theorem dX3_dropUnused_14 : decode cX3_dropUnused 14 = .ok (.iload_n 3, 1) := by decide +kernel
theorem dX3_dropUnused_15 : decode cX3_dropUnused 15 = .ok (.invokevirtual 38, 3) := by decide +kernel
theorem dX3_dropUnused_18 : decode cX3_dropUnused 18 = .ok (.aload_n 1, 1) := by decide +kernel
theorem dX3_dropUnused_19 : decode cX3_dropUnused 19 = .ok (.getfield 47, 3) := by decide +kernel
theorem dX3_dropUnused_22 : decode cX3_dropUnused 22 = .ok (.iload_n 3, 1) := by decide +kernel
theorem dX3_dropUnused_23 : decode cX3_dropUnused 23 = .ok (.iaload, 1) := by decide +kernel
theorem dX3_dropUnused_24 : decode cX3_dropUnused 24 = .ok (.ishr, 1) := by decide +kernel
theorem dX3_dropUnused_25 : decode cX3_dropUnused 25 = .ok (.iconst 1, 1) := by decide +kernel
theorem dX3_dropUnused_26 : decode cX3_dropUnused 26 = .ok (.iand, 1) := by decide +kernel
theorem dX3_dropUnused_27 : decode cX3_dropUnused 27 = .ok (.ifCond .ne 7, 3) := by decide +kernel
theorem dX3_dropUnused_30 : decode cX3_dropUnused 30 = .ok (.iconst 1, 1) := by decide +kernel
theorem dX3_dropUnused_31 : decode cX3_dropUnused 31 = .ok (.goto 4, 3) := by decide +kernel
theorem dX3_dropUnused_34 : decode cX3_dropUnused 34 = .ok (.iconst 0, 1) := by decide +kernel
theorem dX3_dropUnused_35 : decode cX3_dropUnused 35 = .ok (.istore 4, 2) := by decide +kernel
theorem dX3_dropUnused_37 : decode cX3_dropUnused 37 = .ok (.aload_n 1, 1) := by decide +kernel
theorem dX3_dropUnused_38 : decode cX3_dropUnused 38 = .ok (.getfield 35, 3) := by decide +kernel
theorem dX3_dropUnused_41 : decode cX3_dropUnused 41 = .ok (.iload_n 3, 1) := by decide +kernel
theorem dX3_dropUnused_42 : decode cX3_dropUnused 42 = .ok (.iaload, 1) := by decide +kernel
theorem dX3_dropUnused_43 : decode cX3_dropUnused 43 = .ok (.invokestatic 69, 3) := by decide +kernel
theorem dX3_dropUnused_46 : decode cX3_dropUnused 46 = .ok (.ifCond .eq 21, 3) := by decide +kernel
theorem dX3_dropUnused_49 : decode cX3_dropUnused 49 = .ok (.iload 4, 2) := by decide +kernel
theorem dX3_dropUnused_51 : decode cX3_dropUnused 51 = .ok (.ifCond .eq 16, 3) := by decide +kernel
theorem dX3_dropUnused_54 : decode cX3_dropUnused 54 = .ok (.aload_n 1, 1) := by decide +kernel
theorem dX3_dropUnused_55 : decode cX3_dropUnused 55 = .ok (.iload_n 3, 1) := by decide +kernel
theorem dX3_dropUnused_56 : decode cX3_dropUnused 56 = .ok (.iconst 0, 1) := by decide +kernel
theorem dX3_dropUnused_57 : decode cX3_dropUnused 57 = .ok (.iconst 0, 1) := by decide +kernel
theorem dX3_dropUnused_58 : decode cX3_dropUnused 58 = .ok (.iconst 0, 1) := by decide +kernel
theorem dX3_dropUnused_59 : decode cX3_dropUnused 59 = .ok (.iconst 0, 1) := by decide +kernel
theorem dX3_dropUnused_60 : decode cX3_dropUnused 60 = .ok (.invokevirtual 72, 3) := by decide +kernel
theorem dX3_dropUnused_63 : decode cX3_dropUnused 63 = .ok (.pop, 1) := by decide +kernel
theorem dX3_dropUnused_64 : decode cX3_dropUnused 64 = .ok (.iinc 2 1, 3) := by decide +kernel
theorem dX3_dropUnused_67 : decode cX3_dropUnused 67 = .ok (.iinc 3 1, 3) := by decide +kernel
theorem dX3_dropUnused_70 : decode cX3_dropUnused 70 = .ok (.goto (-66), 3) := by decide +kernel
theorem dX3_dropUnused_73 : decode cX3_dropUnused 73 = .ok (.iload_n 2, 1) := by decide +kernel
theorem dX3_dropUnused_74 : decode cX3_dropUnused 74 = .ok (.ireturn, 1) := by decide +kernel
