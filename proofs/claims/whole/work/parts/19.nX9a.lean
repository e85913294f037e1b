theorem dX9_init_0 : decode cX9_init 0 = .ok (.aload_n 0, 1) := by decide +kernel
theorem dX9_init_1 : decode cX9_init 1 = .ok (.invokespecial 1, 3) := by decide +kernel
theorem dX9_init_4 : decode cX9_init 4 = .ok (.aload_n 0, 1) := by decide +kernel
theorem dX9_init_5 : decode cX9_init 5 = .ok (.iconst 4, 1) := by decide +kernel
theorem dX9_init_6 : decode cX9_init 6 = .ok (.newarray .int, 2) := by decide +kernel
theorem dX9_init_8 : decode cX9_init 8 = .ok (.putfield 7, 3) := by decide +kernel
theorem dX9_init_11 : decode cX9_init 11 = .ok (.aload_n 0, 1) := by decide +kernel
theorem dX9_init_12 : decode cX9_init 12 = .ok (.sipush 400, 3) := by decide +kernel
theorem dX9_init_15 : decode cX9_init 15 = .ok (.newarray .int, 2) := by decide +kernel
theorem dX9_init_17 : decode cX9_init 17 = .ok (.putfield 13, 3) := by decide +kernel
theorem dX9_init_20 : decode cX9_init 20 = .ok (.aload_n 0, 1) := by decide +kernel
theorem dX9_init_21 : decode cX9_init 21 = .ok (.sipush 400, 3) := by decide +kernel
theorem dX9_init_24 : decode cX9_init 24 = .ok (.newarray .int, 2) := by decide +kernel
theorem dX9_init_26 : decode cX9_init 26 = .ok (.putfield 16, 3) := by decide +kernel
theorem dX9_init_29 : decode cX9_init 29 = .ok (.aload_n 0, 1) := by decide +kernel
theorem dX9_init_30 : decode cX9_init 30 = .ok (.sipush 400, 3) := by decide +kernel
theorem dX9_init_33 : decode cX9_init 33 = .ok (.newarray .int, 2) := by decide +kernel
theorem dX9_init_35 : decode cX9_init 35 = .ok (.putfield 19, 3) := by decide +kernel
theorem dX9_init_38 : decode cX9_init 38 = .ok (.aload_n 0, 1) := by decide +kernel
theorem dX9_init_39 : decode cX9_init 39 = .ok (.sipush 400, 3) := by decide +kernel
theorem dX9_init_42 : decode cX9_init 42 = .ok (.newarray .int, 2) := by decide +kernel
theorem dX9_init_44 : decode cX9_init 44 = .ok (.putfield 22, 3) := by decide +kernel
theorem dX9_init_47 : decode cX9_init 47 = .ok (.aload_n 0, 1) := by decide +kernel
theorem dX9_init_48 : decode cX9_init 48 = .ok (.bipush 26, 2) := by decide +kernel
theorem dX9_init_50 : decode cX9_init 50 = .ok (.newarray .boolean, 2) := by decide +kernel
theorem dX9_init_52 : decode cX9_init 52 = .ok (.putfield 25, 3) := by decide +kernel
theorem dX9_init_55 : decode cX9_init 55 = .ok (.aload_n 0, 1) := by decide +kernel
theorem dX9_init_56 : decode cX9_init 56 = .ok (.bipush 26, 2) := by decide +kernel
theorem dX9_init_58 : decode cX9_init 58 = .ok (.newarray .boolean, 2) := by decide +kernel
theorem dX9_init_60 : decode cX9_init 60 = .ok (.putfield 29, 3) := by decide +kernel
theorem dX9_init_63 : decode cX9_init 63 = .ok (.aload_n 0, 1) := by decide +kernel
theorem dX9_init_64 : decode cX9_init 64 = .ok (.bipush 26, 2) := by decide +kernel
theorem dX9_init_66 : decode cX9_init 66 = .ok (.newarray .boolean, 2) := by decide +kernel
theorem dX9_init_68 : decode cX9_init 68 = .ok (.putfield 32, 3) := by decide +kernel
theorem dX9_init_71 : decode cX9_init 71 = .ok (.aload_n 0, 1) := by decide +kernel
theorem dX9_init_72 : decode cX9_init 72 = .ok (.bipush 26, 2) := by decide +kernel
theorem dX9_init_74 : decode cX9_init 74 = .ok (.newarray .int, 2) := by decide +kernel
theorem dX9_init_76 : decode cX9_init 76 = .ok (.putfield 35, 3) := by decide +kernel
theorem dX9_init_79 : decode cX9_init 79 = .ok (.aload_n 0, 1) := by decide +kernel
theorem dX9_init_80 : decode cX9_init 80 = .ok (.bipush 26, 2) := by decide +kernel
theorem dX9_init_82 : decode cX9_init 82 = .ok (.newarray .boolean, 2) := by decide +kernel
theorem dX9_init_84 : decode cX9_init 84 = .ok (.putfield 38, 3) := by decide +kernel
theorem dX9_init_87 : decode cX9_init 87 = .ok (.aload_n 0, 1) := by decide +kernel
theorem dX9_init_88 : decode cX9_init 88 = .ok (.sipush 208, 3) := by decide +kernel
theorem dX9_init_91 : decode cX9_init 91 = .ok (.newarray .boolean, 2) := by decide +kernel
theorem dX9_init_93 : decode cX9_init 93 = .ok (.putfield 41, 3) := by decide +kernel
theorem dX9_init_96 : decode cX9_init 96 = .ok (.aload_n 0, 1) := by decide +kernel
theorem dX9_init_97 : decode cX9_init 97 = .ok (.sipush 208, 3) := by decide +kernel
theorem dX9_init_100 : decode cX9_init 100 = .ok (.newarray .int, 2) := by decide +kernel
theorem dX9_init_102 : decode cX9_init 102 = .ok (.putfield 44, 3) := by decide +kernel
theorem dX9_init_105 : decode cX9_init 105 = .ok (.aload_n 0, 1) := by decide +kernel
theorem dX9_init_106 : decode cX9_init 106 = .ok (.bipush 8, 2) := by decide +kernel
theorem dX9_init_108 : decode cX9_init 108 = .ok (.newarray .int, 2) := by decide +kernel
theorem dX9_init_110 : decode cX9_init 110 = .ok (.putfield 47, 3) := by decide +kernel
theorem dX9_init_113 : decode cX9_init 113 = .ok (.aload_n 0, 1) := by decide +kernel
theorem dX9_init_114 : decode cX9_init 114 = .ok (.sipush 256, 3) := by decide +kernel
theorem dX9_init_117 : decode cX9_init 117 = .ok (.newarray .int, 2) := by decide +kernel
theorem dX9_init_119 : decode cX9_init 119 = .ok (.putfield 50, 3) := by decide +kernel
theorem dX9_init_122 : decode cX9_init 122 = .ok (.aload_n 0, 1) := by decide +kernel
theorem dX9_init_123 : decode cX9_init 123 = .ok (.sipush 256, 3) := by decide +kernel
theorem dX9_init_126 : decode cX9_init 126 = .ok (.newarray .int, 2) := by decide +kernel
theorem dX9_init_128 : decode cX9_init 128 = .ok (.putfield 53, 3) := by decide +kernel
theorem dX9_init_131 : decode cX9_init 131 = .ok (.aload_n 0, 1) := by decide +kernel
theorem dX9_init_132 : decode cX9_init 132 = .ok (.sipush 256, 3) := by decide +kernel
theorem dX9_init_135 : decode cX9_init 135 = .ok (.newarray .int, 2) := by decide +kernel
theorem dX9_init_137 : decode cX9_init 137 = .ok (.putfield 56, 3) := by decide +kernel
theorem dX9_init_140 : decode cX9_init 140 = .ok (.aload_n 0, 1) := by decide +kernel
theorem dX9_init_141 : decode cX9_init 141 = .ok (.bipush 8, 2) := by decide +kernel
theorem dX9_init_143 : decode cX9_init 143 = .ok (.newarray .int, 2) := by decide +kernel
theorem dX9_init_145 : decode cX9_init 145 = .ok (.putfield 59, 3) := by decide +kernel
theorem dX9_init_148 : decode cX9_init 148 = .ok (.aload_n 0, 1) := by decide +kernel
theorem dX9_init_149 : decode cX9_init 149 = .ok (.bipush 8, 2) := by decide +kernel
theorem dX9_init_151 : decode cX9_init 151 = .ok (.newarray .int, 2) := by decide +kernel
theorem dX9_init_153 : decode cX9_init 153 = .ok (.putfield 62, 3) := by decide +kernel
theorem dX9_init_156 : decode cX9_init 156 = .ok (.aload_n 0, 1) := by decide +kernel
theorem dX9_init_157 : decode cX9_init 157 = .ok (.bipush 8, 2) := by decide +kernel
theorem dX9_init_159 : decode cX9_init 159 = .ok (.newarray .int, 2) := by decide +kernel
theorem dX9_init_161 : decode cX9_init 161 = .ok (.putfield 65, 3) := by decide +kernel
theorem dX9_init_164 : decode cX9_init 164 = .ok (.aload_n 0, 1) := by decide +kernel
theorem dX9_init_165 : decode cX9_init 165 = .ok (.bipush 8, 2) := by decide +kernel
theorem dX9_init_167 : decode cX9_init 167 = .ok (.newarray .int, 2) := by decide +kernel
theorem dX9_init_169 : decode cX9_init 169 = .ok (.putfield 68, 3) := by decide +kernel
theorem dX9_init_172 : decode cX9_init 172 = .ok (.aload_n 0, 1) := by decide +kernel
theorem dX9_init_173 : decode cX9_init 173 = .ok (.bipush 8, 2) := by decide +kernel
theorem dX9_init_175 : decode cX9_init 175 = .ok (.newarray .int, 2) := by decide +kernel
theorem dX9_init_177 : decode cX9_init 177 = .ok (.putfield 71, 3) := by decide +kernel
theorem dX9_init_180 : decode cX9_init 180 = .ok (.aload_n 0, 1) := by decide +kernel
theorem dX9_init_181 : decode cX9_init 181 = .ok (.bipush 16, 2) := by decide +kernel
theorem dX9_init_183 : decode cX9_init 183 = .ok (.newarray .int, 2) := by decide +kernel
theorem dX9_init_185 : decode cX9_init 185 = .ok (.putfield 74, 3) := by decide +kernel
theorem dX9_init_188 : decode cX9_init 188 = .ok (.aload_n 0, 1) := by decide +kernel
theorem dX9_init_189 : decode cX9_init 189 = .ok (.iconst (-1), 1) := by decide +kernel
theorem dX9_init_190 : decode cX9_init 190 = .ok (.putfield 77, 3) := by decide +kernel
theorem dX9_init_193 : decode cX9_init 193 = .ok (.return_, 1) := by decide +kernel
theorem dX9_thrown_0 : decode cX9_thrown 0 = .ok (.aload_n 0, 1) := by decide +kernel
theorem dX9_thrown_1 : decode cX9_thrown 1 = .ok (.getfield 81, 3) := by decide +kernel
theorem dX9_thrown_4 : decode cX9_thrown 4 = .ok (.ireturn, 1) := by decide +kernel
theorem dX9_throwing_0 : decode cX9_throwing 0 = .ok (.aload_n 0, 1) := by decide +kernel
theorem dX9_throwing_1 : decode cX9_throwing 1 = .ok (.iload_n 1, 1) := by decide +kernel
theorem dX9_throwing_2 : decode cX9_throwing 2 = .ok (.ifCond .eq 7, 3) := by decide +kernel
theorem dX9_throwing_5 : decode cX9_throwing 5 = .ok (.iconst 1, 1) := by decide +kernel
theorem dX9_throwing_6 : decode cX9_throwing 6 = .ok (.goto 12, 3) := by decide +kernel
theorem dX9_throwing_9 : decode cX9_throwing 9 = .ok (.iload_n 2, 1) := by decide +kernel
theorem dX9_throwing_10 : decode cX9_throwing 10 = .ok (.ifCond .eq 7, 3) := by decide +kernel
theorem dX9_throwing_13 : decode cX9_throwing 13 = .ok (.iconst 2, 1) := by decide +kernel
theorem dX9_throwing_14 : decode cX9_throwing 14 = .ok (.goto 4, 3) := by decide +kernel
theorem dX9_throwing_17 : decode cX9_throwing 17 = .ok (.iconst 0, 1) := by decide +kernel
theorem dX9_throwing_18 : decode cX9_throwing 18 = .ok (.putfield 81, 3) := by decide +kernel
theorem dX9_throwing_21 : decode cX9_throwing 21 = .ok (.aload_n 0, 1) := by decide +kernel
theorem dX9_throwing_22 : decode cX9_throwing 22 = .ok (.getfield 81, 3) := by decide +kernel
theorem dX9_throwing_25 : decode cX9_throwing 25 = .ok (.ifCond .le 7, 3) := by decide +kernel
theorem dX9_throwing_28 : decode cX9_throwing 28 = .ok (.iconst 1, 1) := by decide +kernel
theorem dX9_throwing_29 : decode cX9_throwing 29 = .ok (.goto 4, 3) := by decide +kernel
theorem dX9_throwing_32 : decode cX9_throwing 32 = .ok (.iconst 0, 1) := by decide +kernel
theorem dX9_throwing_33 : decode cX9_throwing 33 = .ok (.ireturn, 1) := by decide +kernel
theorem dX9_out_0 : decode cX9_out 0 = .ok (.iload_n 0, 1) := by decide +kernel
theorem dX9_out_1 : decode cX9_out 1 = .ok (.ifCond .lt 8, 3) := by decide +kernel
theorem dX9_out_4 : decode cX9_out 4 = .ok (.iload_n 0, 1) := by decide +kernel
theorem dX9_out_5 : decode cX9_out 5 = .ok (.iload_n 1, 1) := by decide +kernel
theorem dX9_out_6 : decode cX9_out 6 = .ok (.if_icmp .lt 7, 3) := by decide +kernel
theorem dX9_out_9 : decode cX9_out 9 = .ok (.iconst 1, 1) := by decide +kernel
theorem dX9_out_10 : decode cX9_out 10 = .ok (.goto 4, 3) := by decide +kernel
theorem dX9_out_13 : decode cX9_out 13 = .ok (.iconst 0, 1) := by decide +kernel
theorem dX9_out_14 : decode cX9_out 14 = .ok (.ireturn, 1) := by decide +kernel
theorem dX9_writes_0 : decode cX9_writes 0 = .ok (.iload_n 0, 1) := by decide +kernel
theorem dX9_writes_1 : decode cX9_writes 1 = .ok (.iconst 1, 1) := by decide +kernel
theorem dX9_writes_2 : decode cX9_writes 2 = .ok (.if_icmp .lt 9, 3) := by decide +kernel
theorem dX9_writes_5 : decode cX9_writes 5 = .ok (.iload_n 0, 1) := by decide +kernel
theorem dX9_writes_6 : decode cX9_writes 6 = .ok (.bipush 7, 2) := by decide +kernel
theorem dX9_writes_8 : decode cX9_writes 8 = .ok (.if_icmp .le 15, 3) := by decide +kernel
theorem dX9_writes_11 : decode cX9_writes 11 = .ok (.iload_n 0, 1) := by decide +kernel
theorem dX9_writes_12 : decode cX9_writes 12 = .ok (.bipush 11, 2) := by decide +kernel
theorem dX9_writes_14 : decode cX9_writes 14 = .ok (.if_icmp .eq 9, 3) := by decide +kernel
theorem dX9_writes_17 : decode cX9_writes 17 = .ok (.iload_n 0, 1) := by decide +kernel
theorem dX9_writes_18 : decode cX9_writes 18 = .ok (.bipush 13, 2) := by decide +kernel
theorem dX9_writes_20 : decode cX9_writes 20 = .ok (.if_icmp .ne 7, 3) := by decide +kernel
theorem dX9_writes_23 : decode cX9_writes 23 = .ok (.iconst 1, 1) := by decide +kernel
theorem dX9_writes_24 : decode cX9_writes 24 = .ok (.goto 4, 3) := by decide +kernel
theorem dX9_writes_27 : decode cX9_writes 27 = .ok (.iconst 0, 1) := by decide +kernel
theorem dX9_writes_28 : decode cX9_writes 28 = .ok (.ireturn, 1) := by decide +kernel
theorem dX9_readsA_0 : decode cX9_readsA 0 = .ok (.iload_n 0, 1) := by decide +kernel
theorem dX9_readsA_1 : decode cX9_readsA 1 = .ok (.iconst 2, 1) := by decide +kernel
theorem dX9_readsA_2 : decode cX9_readsA 2 = .ok (.if_icmp .lt 9, 3) := by decide +kernel
theorem dX9_readsA_5 : decode cX9_readsA 5 = .ok (.iload_n 0, 1) := by decide +kernel
theorem dX9_readsA_6 : decode cX9_readsA 6 = .ok (.bipush 8, 2) := by decide +kernel
theorem dX9_readsA_8 : decode cX9_readsA 8 = .ok (.if_icmp .le 21, 3) := by decide +kernel
theorem dX9_readsA_11 : decode cX9_readsA 11 = .ok (.iload_n 0, 1) := by decide +kernel
theorem dX9_readsA_12 : decode cX9_readsA 12 = .ok (.bipush 10, 2) := by decide +kernel
theorem dX9_readsA_14 : decode cX9_readsA 14 = .ok (.if_icmp .lt 9, 3) := by decide +kernel
theorem dX9_readsA_17 : decode cX9_readsA 17 = .ok (.iload_n 0, 1) := by decide +kernel
theorem dX9_readsA_18 : decode cX9_readsA 18 = .ok (.bipush 12, 2) := by decide +kernel
theorem dX9_readsA_20 : decode cX9_readsA 20 = .ok (.if_icmp .le 9, 3) := by decide +kernel
theorem dX9_readsA_23 : decode cX9_readsA 23 = .ok (.iload_n 0, 1) := by decide +kernel
theorem dX9_readsA_24 : decode cX9_readsA 24 = .ok (.bipush 14, 2) := by decide +kernel
theorem dX9_readsA_26 : decode cX9_readsA 26 = .ok (.if_icmp .ne 7, 3) := by decide +kernel
theorem dX9_readsA_29 : decode cX9_readsA 29 = .ok (.iconst 1, 1) := by decide +kernel
theorem dX9_readsA_30 : decode cX9_readsA 30 = .ok (.goto 4, 3) := by decide +kernel
theorem dX9_readsA_33 : decode cX9_readsA 33 = .ok (.iconst 0, 1) := by decide +kernel
theorem dX9_readsA_34 : decode cX9_readsA 34 = .ok (.ireturn, 1) := by decide +kernel
theorem dX9_readsB_0 : decode cX9_readsB 0 = .ok (.iload_n 0, 1) := by decide +kernel
theorem dX9_readsB_1 : decode cX9_readsB 1 = .ok (.iconst 3, 1) := by decide +kernel
theorem dX9_readsB_2 : decode cX9_readsB 2 = .ok (.if_icmp .lt 9, 3) := by decide +kernel
theorem dX9_readsB_5 : decode cX9_readsB 5 = .ok (.iload_n 0, 1) := by decide +kernel
theorem dX9_readsB_6 : decode cX9_readsB 6 = .ok (.bipush 6, 2) := by decide +kernel
theorem dX9_readsB_8 : decode cX9_readsB 8 = .ok (.if_icmp .le 9, 3) := by decide +kernel
theorem dX9_readsB_11 : decode cX9_readsB 11 = .ok (.iload_n 0, 1) := by decide +kernel
theorem dX9_readsB_12 : decode cX9_readsB 12 = .ok (.bipush 8, 2) := by decide +kernel
theorem dX9_readsB_14 : decode cX9_readsB 14 = .ok (.if_icmp .ne 7, 3) := by decide +kernel
theorem dX9_readsB_17 : decode cX9_readsB 17 = .ok (.iconst 1, 1) := by decide +kernel
theorem dX9_readsB_18 : decode cX9_readsB 18 = .ok (.goto 4, 3) := by decide +kernel
theorem dX9_readsB_21 : decode cX9_readsB 21 = .ok (.iconst 0, 1) := by decide +kernel
theorem dX9_readsB_22 : decode cX9_readsB 22 = .ok (.ireturn, 1) := by decide +kernel
theorem dX9_goes_0 : decode cX9_goes 0 = .ok (.iload_n 0, 1) := by decide +kernel
theorem dX9_goes_1 : decode cX9_goes 1 = .ok (.bipush 9, 2) := by decide +kernel
theorem dX9_goes_3 : decode cX9_goes 3 = .ok (.if_icmp .eq 9, 3) := by decide +kernel
theorem dX9_goes_6 : decode cX9_goes 6 = .ok (.iload_n 0, 1) := by decide +kernel
theorem dX9_goes_7 : decode cX9_goes 7 = .ok (.bipush 10, 2) := by decide +kernel
theorem dX9_goes_9 : decode cX9_goes 9 = .ok (.if_icmp .ne 7, 3) := by decide +kernel
theorem dX9_goes_12 : decode cX9_goes 12 = .ok (.iconst 1, 1) := by decide +kernel
theorem dX9_goes_13 : decode cX9_goes 13 = .ok (.goto 4, 3) := by decide +kernel
theorem dX9_goes_16 : decode cX9_goes 16 = .ok (.iconst 0, 1) := by decide +kernel
theorem dX9_goes_17 : decode cX9_goes 17 = .ok (.ireturn, 1) := by decide +kernel
theorem dX9_falls_0 : decode cX9_falls 0 = .ok (.iload_n 0, 1) := by decide +kernel
theorem dX9_falls_1 : decode cX9_falls 1 = .ok (.bipush 9, 2) := by decide +kernel
theorem dX9_falls_3 : decode cX9_falls 3 = .ok (.if_icmp .eq 13, 3) := by decide +kernel
theorem dX9_falls_6 : decode cX9_falls 6 = .ok (.iload_n 0, 1) := by decide +kernel
theorem dX9_falls_7 : decode cX9_falls 7 = .ok (.bipush 12, 2) := by decide +kernel
theorem dX9_falls_9 : decode cX9_falls 9 = .ok (.if_icmp .eq 7, 3) := by decide +kernel
theorem dX9_falls_12 : decode cX9_falls 12 = .ok (.iconst 1, 1) := by decide +kernel
theorem dX9_falls_13 : decode cX9_falls 13 = .ok (.goto 4, 3) := by decide +kernel
theorem dX9_falls_16 : decode cX9_falls 16 = .ok (.iconst 0, 1) := by decide +kernel
theorem dX9_falls_17 : decode cX9_falls 17 = .ok (.ireturn, 1) := by decide +kernel
theorem dX9_reckon_0 : decode cX9_reckon 0 = .ok (.iload_n 0, 1) := by decide +kernel
theorem dX9_reckon_1 : decode cX9_reckon 1 = .ok (.iconst 3, 1) := by decide +kernel
theorem dX9_reckon_2 : decode cX9_reckon 2 = .ok (.if_icmp .ne 9, 3) := by decide +kernel
theorem dX9_reckon_5 : decode cX9_reckon 5 = .ok (.iload_n 1, 1) := by decide +kernel
theorem dX9_reckon_6 : decode cX9_reckon 6 = .ok (.iload_n 2, 1) := by decide +kernel
theorem dX9_reckon_7 : decode cX9_reckon 7 = .ok (.iadd, 1) := by decide +kernel
theorem dX9_reckon_8 : decode cX9_reckon 8 = .ok (.goto 28, 3) := by decide +kernel
theorem dX9_reckon_11 : decode cX9_reckon 11 = .ok (.iload_n 0, 1) := by decide +kernel
theorem dX9_reckon_12 : decode cX9_reckon 12 = .ok (.iconst 4, 1) := by decide +kernel
theorem dX9_reckon_13 : decode cX9_reckon 13 = .ok (.if_icmp .ne 9, 3) := by decide +kernel
theorem dX9_reckon_16 : decode cX9_reckon 16 = .ok (.iload_n 1, 1) := by decide +kernel
theorem dX9_reckon_17 : decode cX9_reckon 17 = .ok (.iload_n 2, 1) := by decide +kernel
theorem dX9_reckon_18 : decode cX9_reckon 18 = .ok (.isub, 1) := by decide +kernel
theorem dX9_reckon_19 : decode cX9_reckon 19 = .ok (.goto 17, 3) := by decide +kernel
theorem dX9_reckon_22 : decode cX9_reckon 22 = .ok (.iload_n 0, 1) := by decide +kernel
theorem dX9_reckon_23 : decode cX9_reckon 23 = .ok (.iconst 5, 1) := by decide +kernel
theorem dX9_reckon_24 : decode cX9_reckon 24 = .ok (.if_icmp .ne 9, 3) := by decide +kernel
theorem dX9_reckon_27 : decode cX9_reckon 27 = .ok (.iload_n 1, 1) := by decide +kernel
theorem dX9_reckon_28 : decode cX9_reckon 28 = .ok (.iload_n 2, 1) := by decide +kernel
theorem dX9_reckon_29 : decode cX9_reckon 29 = .ok (.imul, 1) := by decide +kernel
theorem dX9_reckon_30 : decode cX9_reckon 30 = .ok (.goto 6, 3) := by decide +kernel
theorem dX9_reckon_33 : decode cX9_reckon 33 = .ok (.iload_n 1, 1) := by decide +kernel
theorem dX9_reckon_34 : decode cX9_reckon 34 = .ok (.iload_n 2, 1) := by decide +kernel
theorem dX9_reckon_35 : decode cX9_reckon 35 = .ok (.idiv, 1) := by decide +kernel
theorem dX9_reckon_36 : decode cX9_reckon 36 = .ok (.ireturn, 1) := by decide +kernel
theorem dX9_put_0 : decode cX9_put 0 = .ok (.aload_n 0, 1) := by decide +kernel
theorem dX9_put_1 : decode cX9_put 1 = .ok (.getfield 13, 3) := by decide +kernel
theorem dX9_put_4 : decode cX9_put 4 = .ok (.iload_n 1, 1) := by decide +kernel
theorem dX9_put_5 : decode cX9_put 5 = .ok (.iload_n 2, 1) := by decide +kernel
theorem dX9_put_6 : decode cX9_put 6 = .ok (.iastore, 1) := by decide +kernel
theorem dX9_put_7 : decode cX9_put 7 = .ok (.aload_n 0, 1) := by decide +kernel
theorem dX9_put_8 : decode cX9_put 8 = .ok (.getfield 16, 3) := by decide +kernel
theorem dX9_put_11 : decode cX9_put 11 = .ok (.iload_n 1, 1) := by decide +kernel
theorem dX9_put_12 : decode cX9_put 12 = .ok (.iload_n 3, 1) := by decide +kernel
theorem dX9_put_13 : decode cX9_put 13 = .ok (.iastore, 1) := by decide +kernel
theorem dX9_put_14 : decode cX9_put 14 = .ok (.aload_n 0, 1) := by decide +kernel
theorem dX9_put_15 : decode cX9_put 15 = .ok (.getfield 19, 3) := by decide +kernel
theorem dX9_put_18 : decode cX9_put 18 = .ok (.iload_n 1, 1) := by decide +kernel
theorem dX9_put_19 : decode cX9_put 19 = .ok (.iload 4, 2) := by decide +kernel
theorem dX9_put_21 : decode cX9_put 21 = .ok (.iastore, 1) := by decide +kernel
theorem dX9_put_22 : decode cX9_put 22 = .ok (.aload_n 0, 1) := by decide +kernel
theorem dX9_put_23 : decode cX9_put 23 = .ok (.getfield 22, 3) := by decide +kernel
theorem dX9_put_26 : decode cX9_put 26 = .ok (.iload_n 1, 1) := by decide +kernel
theorem dX9_put_27 : decode cX9_put 27 = .ok (.iload 5, 2) := by decide +kernel
theorem dX9_put_29 : decode cX9_put 29 = .ok (.iastore, 1) := by decide +kernel
theorem dX9_put_30 : decode cX9_put 30 = .ok (.return_, 1) := by decide +kernel
set_option maxRecDepth 20000 in
theorem ggX9_append_X9_put : GoodIn wsX9_append wsX9_put := goodIn_r _ [6, 7, 8, 9, 10, 11, 12, 13, 14, 15, 16, 17, 18, 19, 20, 21, 22, 23, 24, 25, 26, 27, 28, 29, 30, 31, 32, 33, 34, 35, 36, 37, 38, 39, 40, 41, 42, 43] (by decide +kernel) (by decide +kernel)
set_option maxRecDepth 20000 in
theorem gX9_append_X9_put : GoodIn wsX9_append (wsV RX9 84 RX9 yX9_put wsX9_put) := goodIn_app (goodIn_of _ (by decide +kernel)) ggX9_append_X9_put
theorem dX9_append_0 : decode cX9_append 0 = .ok (.aload_n 0, 1) := by decide +kernel
theorem dX9_append_1 : decode cX9_append 1 = .ok (.bipush 100, 2) := by decide +kernel
theorem dX9_append_3 : decode cX9_append 3 = .ok (.iload_n 1, 1) := by decide +kernel
theorem dX9_append_4 : decode cX9_append 4 = .ok (.imul, 1) := by decide +kernel
theorem dX9_append_5 : decode cX9_append 5 = .ok (.aload_n 0, 1) := by decide +kernel
theorem dX9_append_6 : decode cX9_append 6 = .ok (.getfield 7, 3) := by decide +kernel
theorem dX9_append_9 : decode cX9_append 9 = .ok (.iload_n 1, 1) := by decide +kernel
theorem dX9_append_10 : decode cX9_append 10 = .ok (.iaload, 1) := by decide +kernel
theorem dX9_append_11 : decode cX9_append 11 = .ok (.iadd, 1) := by decide +kernel
theorem dX9_append_12 : decode cX9_append 12 = .ok (.iload_n 2, 1) := by decide +kernel
theorem dX9_append_13 : decode cX9_append 13 = .ok (.iload_n 3, 1) := by decide +kernel
theorem dX9_append_14 : decode cX9_append 14 = .ok (.iload 4, 2) := by decide +kernel
theorem dX9_append_16 : decode cX9_append 16 = .ok (.iload 5, 2) := by decide +kernel
theorem dX9_append_18 : decode cX9_append 18 = .ok (.invokevirtual 84, 3) := by decide +kernel
theorem dX9_append_21 : decode cX9_append 21 = .ok (.aload_n 0, 1) := by decide +kernel
theorem dX9_append_22 : decode cX9_append 22 = .ok (.getfield 7, 3) := by decide +kernel
theorem dX9_append_25 : decode cX9_append 25 = .ok (.iload_n 1, 1) := by decide +kernel
theorem dX9_append_26 : decode cX9_append 26 = .ok (.dup2, 1) := by decide +kernel
theorem dX9_append_27 : decode cX9_append 27 = .ok (.iaload, 1) := by decide +kernel
theorem dX9_append_28 : decode cX9_append 28 = .ok (.iconst 1, 1) := by decide +kernel
theorem dX9_append_29 : decode cX9_append 29 = .ok (.iadd, 1) := by decide +kernel
theorem dX9_append_30 : decode cX9_append 30 = .ok (.iastore, 1) := by decide +kernel
theorem dX9_append_31 : decode cX9_append 31 = .ok (.return_, 1) := by decide +kernel
set_option maxRecDepth 20000 in
theorem ggX9_copy_X9_append : GoodIn wsX9_copy wsX9_append := goodIn_r _ [10, 1, 11, 12, 13, 9, 14, 2, 3, 4, 5, 15, 16, 17, 18, 19, 20, 21, 22, 23, 24, 25, 26, 27, 28, 29, 30, 31, 32, 33, 34, 35, 36, 37, 38, 39, 40, 41, 42, 43, 44, 45, 46, 47] (by decide +kernel) (by decide +kernel)
set_option maxRecDepth 20000 in
theorem gX9_copy_X9_append : GoodIn wsX9_copy (wsV RX9 88 RX9 yX9_append wsX9_append) := goodIn_app (goodIn_of _ (by decide +kernel)) ggX9_copy_X9_append
theorem dX9_copy_0 : decode cX9_copy 0 = .ok (.aload_n 0, 1) := by decide +kernel
theorem dX9_copy_1 : decode cX9_copy 1 = .ok (.getfield 7, 3) := by decide +kernel
theorem dX9_copy_4 : decode cX9_copy 4 = .ok (.iload_n 2, 1) := by decide +kernel
theorem dX9_copy_5 : decode cX9_copy 5 = .ok (.iconst 0, 1) := by decide +kernel
theorem dX9_copy_6 : decode cX9_copy 6 = .ok (.iastore, 1) := by decide +kernel
theorem dX9_copy_7 : decode cX9_copy 7 = .ok (.bipush 100, 2) := by decide +kernel
theorem dX9_copy_9 : decode cX9_copy 9 = .ok (.iload_n 1, 1) := by decide +kernel
theorem dX9_copy_10 : decode cX9_copy 10 = .ok (.imul, 1) := by decide +kernel
theorem dX9_copy_11 : decode cX9_copy 11 = .ok (.istore_n 3, 1) := by decide +kernel
theorem dX9_copy_12 : decode cX9_copy 12 = .ok (.iload_n 3, 1) := by decide +kernel
theorem dX9_copy_13 : decode cX9_copy 13 = .ok (.bipush 100, 2) := by decide +kernel
theorem dX9_copy_15 : decode cX9_copy 15 = .ok (.iload_n 1, 1) := by decide +kernel
theorem dX9_copy_16 : decode cX9_copy 16 = .ok (.imul, 1) := by decide +kernel
theorem dX9_copy_17 : decode cX9_copy 17 = .ok (.aload_n 0, 1) := by decide +kernel
theorem dX9_copy_18 : decode cX9_copy 18 = .ok (.getfield 7, 3) := by decide +kernel
theorem dX9_copy_21 : decode cX9_copy 21 = .ok (.iload_n 1, 1) := by decide +kernel
theorem dX9_copy_22 : decode cX9_copy 22 = .ok (.iaload, 1) := by decide +kernel
theorem dX9_copy_23 : decode cX9_copy 23 = .ok (.iadd, 1) := by decide +kernel
theorem dX9_copy_24 : decode cX9_copy 24 = .ok (.if_icmp .ge 38, 3) := by decide +kernel
theorem dX9_copy_27 : decode cX9_copy 27 = .ok (.aload_n 0, 1) := by decide +kernel
theorem dX9_copy_28 : decode cX9_copy 28 = .ok (.iload_n 2, 1) := by decide +kernel
theorem dX9_copy_29 : decode cX9_copy 29 = .ok (.aload_n 0, 1) := by decide +kernel
theorem dX9_copy_30 : decode cX9_copy 30 = .ok (.getfield 13, 3) := by decide +kernel
theorem dX9_copy_33 : decode cX9_copy 33 = .ok (.iload_n 3, 1) := by decide +kernel
theorem dX9_copy_34 : decode cX9_copy 34 = .ok (.iaload, 1) := by decide +kernel
theorem dX9_copy_35 : decode cX9_copy 35 = .ok (.aload_n 0, 1) := by decide +kernel
theorem dX9_copy_36 : decode cX9_copy 36 = .ok (.getfield 16, 3) := by decide +kernel
theorem dX9_copy_39 : decode cX9_copy 39 = .ok (.iload_n 3, 1) := by decide +kernel
theorem dX9_copy_40 : decode cX9_copy 40 = .ok (.iaload, 1) := by decide +kernel
theorem dX9_copy_41 : decode cX9_copy 41 = .ok (.aload_n 0, 1) := by decide +kernel
theorem dX9_copy_42 : decode cX9_copy 42 = .ok (.getfield 19, 3) := by decide +kernel
theorem dX9_copy_45 : decode cX9_copy 45 = .ok (.iload_n 3, 1) := by decide +kernel
theorem dX9_copy_46 : decode cX9_copy 46 = .ok (.iaload, 1) := by decide +kernel
theorem dX9_copy_47 : decode cX9_copy 47 = .ok (.aload_n 0, 1) := by decide +kernel
theorem dX9_copy_48 : decode cX9_copy 48 = .ok (.getfield 22, 3) := by decide +kernel
theorem dX9_copy_51 : decode cX9_copy 51 = .ok (.iload_n 3, 1) := by decide +kernel
theorem dX9_copy_52 : decode cX9_copy 52 = .ok (.iaload, 1) := by decide +kernel
theorem dX9_copy_53 : decode cX9_copy 53 = .ok (.invokevirtual 88, 3) := by decide +kernel
theorem dX9_copy_56 : decode cX9_copy 56 = .ok (.iinc 3 1, 3) := by decide +kernel
theorem dX9_copy_59 : decode cX9_copy 59 = .ok (.goto (-47), 3) := by decide +kernel
theorem dX9_copy_62 : decode cX9_copy 62 = .ok (.return_, 1) := by decide +kernel
set_option maxRecDepth 20000 in
theorem ggX9_instruction_X9_out : GoodIn wsX9_instruction wsX9_out := goodIn_r _ [5] (by decide +kernel) (by decide +kernel)
set_option maxRecDepth 20000 in
theorem gX9_instruction_X9_out : GoodIn wsX9_instruction (va_wsS RX9 91 yX9_out wsX9_out) := goodIn_app (goodIn_of _ (by decide +kernel)) ggX9_instruction_X9_out
set_option maxRecDepth 20000 in
theorem ggX9_instruction_X9_writes : GoodIn wsX9_instruction wsX9_writes := goodIn_r _ [8] (by decide +kernel) (by decide +kernel)
set_option maxRecDepth 20000 in
theorem gX9_instruction_X9_writes : GoodIn wsX9_instruction (va_wsS RX9 95 yX9_writes wsX9_writes) := goodIn_app (goodIn_of _ (by decide +kernel)) ggX9_instruction_X9_writes
set_option maxRecDepth 20000 in
theorem ggX9_instruction_X9_readsA : GoodIn wsX9_instruction wsX9_readsA := goodIn_r _ [11] (by decide +kernel) (by decide +kernel)
set_option maxRecDepth 20000 in
theorem gX9_instruction_X9_readsA : GoodIn wsX9_instruction (va_wsS RX9 99 yX9_readsA wsX9_readsA) := goodIn_app (goodIn_of _ (by decide +kernel)) ggX9_instruction_X9_readsA
set_option maxRecDepth 20000 in
theorem ggX9_instruction_X9_readsB : GoodIn wsX9_instruction wsX9_readsB := goodIn_r _ [14] (by decide +kernel) (by decide +kernel)
set_option maxRecDepth 20000 in
theorem gX9_instruction_X9_readsB : GoodIn wsX9_instruction (va_wsS RX9 102 yX9_readsB wsX9_readsB) := goodIn_app (goodIn_of _ (by decide +kernel)) ggX9_instruction_X9_readsB
set_option maxRecDepth 20000 in
theorem ggX9_instruction_X9_goes : GoodIn wsX9_instruction wsX9_goes := goodIn_r _ [17] (by decide +kernel) (by decide +kernel)
set_option maxRecDepth 20000 in
theorem gX9_instruction_X9_goes : GoodIn wsX9_instruction (va_wsS RX9 105 yX9_goes wsX9_goes) := goodIn_app (goodIn_of _ (by decide +kernel)) ggX9_instruction_X9_goes
set_option maxRecDepth 20000 in
theorem ggX9_instruction_X9_throwing : GoodIn wsX9_instruction wsX9_throwing := goodIn_r _ [21, 22, 35, 36, 37, 38, 39, 40, 41, 42, 43, 44, 45, 46, 47, 48, 49, 50, 51, 52, 53, 54, 55, 56, 57, 58, 59, 60, 61, 62, 63, 64, 65, 66, 67] (by decide +kernel) (by decide +kernel)
set_option maxRecDepth 20000 in
theorem gX9_instruction_X9_throwing : GoodIn wsX9_instruction (wsV RX9 108 RX9 yX9_throwing wsX9_throwing) := goodIn_app (goodIn_of _ (by decide +kernel)) ggX9_instruction_X9_throwing
set_option maxRecDepth 20000 in
theorem ggX9_instruction_X9_append : GoodIn wsX9_instruction wsX9_append := goodIn_r _ [26, 1, 27, 28, 29, 4, 30, 31, 32, 33, 34, 35, 36, 37, 38, 39, 40, 41, 42, 43, 44, 45, 46, 47, 48, 49, 50, 51, 52, 53, 54, 55, 56, 57, 58, 59, 60, 61, 62, 63, 64, 65, 66, 67] (by decide +kernel) (by decide +kernel)
set_option maxRecDepth 20000 in
theorem gX9_instruction_X9_append : GoodIn wsX9_instruction (wsV RX9 88 RX9 yX9_append wsX9_append) := goodIn_app (goodIn_of _ (by decide +kernel)) ggX9_instruction_X9_append
theorem dX9_instruction_0 : decode cX9_instruction 0 = .ok (.iload_n 1, 1) := by decide +kernel
theorem dX9_instruction_1 : decode cX9_instruction 1 = .ok (.bipush 13, 2) := by decide +kernel
theorem dX9_instruction_3 : decode cX9_instruction 3 = .ok (.invokestatic 91, 3) := by decide +kernel
theorem dX9_instruction_6 : decode cX9_instruction 6 = .ok (.ifCond .ne 68, 3) := by decide +kernel
theorem dX9_instruction_9 : decode cX9_instruction 9 = .ok (.iload_n 1, 1) := by decide +kernel
theorem dX9_instruction_10 : decode cX9_instruction 10 = .ok (.invokestatic 95, 3) := by decide +kernel
theorem dX9_instruction_13 : decode cX9_instruction 13 = .ok (.ifCond .eq 12, 3) := by decide +kernel
theorem dX9_instruction_16 : decode cX9_instruction 16 = .ok (.iload_n 2, 1) := by decide +kernel
theorem dX9_instruction_17 : decode cX9_instruction 17 = .ok (.bipush 8, 2) := by decide +kernel
theorem dX9_instruction_19 : decode cX9_instruction 19 = .ok (.invokestatic 91, 3) := by decide +kernel
theorem dX9_instruction_22 : decode cX9_instruction 22 = .ok (.ifCond .ne 52, 3) := by decide +kernel
theorem dX9_instruction_25 : decode cX9_instruction 25 = .ok (.iload_n 1, 1) := by decide +kernel
theorem dX9_instruction_26 : decode cX9_instruction 26 = .ok (.invokestatic 99, 3) := by decide +kernel
theorem dX9_instruction_29 : decode cX9_instruction 29 = .ok (.ifCond .eq 12, 3) := by decide +kernel
theorem dX9_instruction_32 : decode cX9_instruction 32 = .ok (.iload_n 3, 1) := by decide +kernel
theorem dX9_instruction_33 : decode cX9_instruction 33 = .ok (.bipush 8, 2) := by decide +kernel
theorem dX9_instruction_35 : decode cX9_instruction 35 = .ok (.invokestatic 91, 3) := by decide +kernel
theorem dX9_instruction_38 : decode cX9_instruction 38 = .ok (.ifCond .ne 36, 3) := by decide +kernel
theorem dX9_instruction_41 : decode cX9_instruction 41 = .ok (.iload_n 1, 1) := by decide +kernel
theorem dX9_instruction_42 : decode cX9_instruction 42 = .ok (.invokestatic 102, 3) := by decide +kernel
theorem dX9_instruction_45 : decode cX9_instruction 45 = .ok (.ifCond .eq 13, 3) := by decide +kernel
theorem dX9_instruction_48 : decode cX9_instruction 48 = .ok (.iload 4, 2) := by decide +kernel
theorem dX9_instruction_50 : decode cX9_instruction 50 = .ok (.bipush 8, 2) := by decide +kernel
theorem dX9_instruction_52 : decode cX9_instruction 52 = .ok (.invokestatic 91, 3) := by decide +kernel
theorem dX9_instruction_55 : decode cX9_instruction 55 = .ok (.ifCond .ne 19, 3) := by decide +kernel
theorem dX9_instruction_58 : decode cX9_instruction 58 = .ok (.iload_n 1, 1) := by decide +kernel
theorem dX9_instruction_59 : decode cX9_instruction 59 = .ok (.invokestatic 105, 3) := by decide +kernel
theorem dX9_instruction_62 : decode cX9_instruction 62 = .ok (.ifCond .eq 16, 3) := by decide +kernel
theorem dX9_instruction_65 : decode cX9_instruction 65 = .ok (.iload_n 2, 1) := by decide +kernel
theorem dX9_instruction_66 : decode cX9_instruction 66 = .ok (.bipush 24, 2) := by decide +kernel
theorem dX9_instruction_68 : decode cX9_instruction 68 = .ok (.invokestatic 91, 3) := by decide +kernel
theorem dX9_instruction_71 : decode cX9_instruction 71 = .ok (.ifCond .eq 7, 3) := by decide +kernel
theorem dX9_instruction_74 : decode cX9_instruction 74 = .ok (.iconst 1, 1) := by decide +kernel
theorem dX9_instruction_75 : decode cX9_instruction 75 = .ok (.goto 4, 3) := by decide +kernel
theorem dX9_instruction_78 : decode cX9_instruction 78 = .ok (.iconst 0, 1) := by decide +kernel
theorem dX9_instruction_79 : decode cX9_instruction 79 = .ok (.istore 5, 2) := by decide +kernel
theorem dX9_instruction_81 : decode cX9_instruction 81 = .ok (.aload_n 0, 1) := by decide +kernel
theorem dX9_instruction_82 : decode cX9_instruction 82 = .ok (.iload 5, 2) := by decide +kernel
theorem dX9_instruction_84 : decode cX9_instruction 84 = .ok (.aload_n 0, 1) := by decide +kernel
theorem dX9_instruction_85 : decode cX9_instruction 85 = .ok (.getfield 7, 3) := by decide +kernel
theorem dX9_instruction_88 : decode cX9_instruction 88 = .ok (.iconst 2, 1) := by decide +kernel
theorem dX9_instruction_89 : decode cX9_instruction 89 = .ok (.iaload, 1) := by decide +kernel
theorem dX9_instruction_90 : decode cX9_instruction 90 = .ok (.bipush 24, 2) := by decide +kernel
theorem dX9_instruction_92 : decode cX9_instruction 92 = .ok (.if_icmp .ne 7, 3) := by decide +kernel
theorem dX9_instruction_95 : decode cX9_instruction 95 = .ok (.iconst 1, 1) := by decide +kernel
theorem dX9_instruction_96 : decode cX9_instruction 96 = .ok (.goto 4, 3) := by decide +kernel
theorem dX9_instruction_99 : decode cX9_instruction 99 = .ok (.iconst 0, 1) := by decide +kernel
theorem dX9_instruction_100 : decode cX9_instruction 100 = .ok (.invokevirtual 108, 3) := by decide +kernel
theorem dX9_instruction_103 : decode cX9_instruction 103 = .ok (.ifCond .eq 5, 3) := by decide +kernel
theorem dX9_instruction_106 : decode cX9_instruction 106 = .ok (.iconst 0, 1) := by decide +kernel
theorem dX9_instruction_107 : decode cX9_instruction 107 = .ok (.ireturn, 1) := by decide +kernel
theorem dX9_instruction_108 : decode cX9_instruction 108 = .ok (.aload_n 0, 1) := by decide +kernel
theorem dX9_instruction_109 : decode cX9_instruction 109 = .ok (.iconst 2, 1) := by decide +kernel
theorem dX9_instruction_110 : decode cX9_instruction 110 = .ok (.iload_n 1, 1) := by decide +kernel
theorem dX9_instruction_111 : decode cX9_instruction 111 = .ok (.iload_n 1, 1) := by decide +kernel
theorem dX9_instruction_112 : decode cX9_instruction 112 = .ok (.invokestatic 95, 3) := by decide +kernel
theorem dX9_instruction_115 : decode cX9_instruction 115 = .ok (.ifCond .ne 10, 3) := by decide +kernel
theorem dX9_instruction_118 : decode cX9_instruction 118 = .ok (.iload_n 1, 1) := by decide +kernel
theorem dX9_instruction_119 : decode cX9_instruction 119 = .ok (.invokestatic 105, 3) := by decide +kernel
theorem dX9_instruction_122 : decode cX9_instruction 122 = .ok (.ifCond .eq 7, 3) := by decide +kernel
theorem dX9_instruction_125 : decode cX9_instruction 125 = .ok (.iload_n 2, 1) := by decide +kernel
theorem dX9_instruction_126 : decode cX9_instruction 126 = .ok (.goto 4, 3) := by decide +kernel
theorem dX9_instruction_129 : decode cX9_instruction 129 = .ok (.iconst 0, 1) := by decide +kernel
theorem dX9_instruction_130 : decode cX9_instruction 130 = .ok (.iload_n 1, 1) := by decide +kernel
theorem dX9_instruction_131 : decode cX9_instruction 131 = .ok (.invokestatic 99, 3) := by decide +kernel
theorem dX9_instruction_134 : decode cX9_instruction 134 = .ok (.ifCond .ne 8, 3) := by decide +kernel
theorem dX9_instruction_137 : decode cX9_instruction 137 = .ok (.iload_n 1, 1) := by decide +kernel
theorem dX9_instruction_138 : decode cX9_instruction 138 = .ok (.iconst 1, 1) := by decide +kernel
theorem dX9_instruction_139 : decode cX9_instruction 139 = .ok (.if_icmp .ne 7, 3) := by decide +kernel
theorem dX9_instruction_142 : decode cX9_instruction 142 = .ok (.iload_n 3, 1) := by decide +kernel
theorem dX9_instruction_143 : decode cX9_instruction 143 = .ok (.goto 4, 3) := by decide +kernel
theorem dX9_instruction_146 : decode cX9_instruction 146 = .ok (.iconst 0, 1) := by decide +kernel
theorem dX9_instruction_147 : decode cX9_instruction 147 = .ok (.iload_n 1, 1) := by decide +kernel
theorem dX9_instruction_148 : decode cX9_instruction 148 = .ok (.invokestatic 102, 3) := by decide +kernel
theorem dX9_instruction_151 : decode cX9_instruction 151 = .ok (.ifCond .eq 8, 3) := by decide +kernel
theorem dX9_instruction_154 : decode cX9_instruction 154 = .ok (.iload 4, 2) := by decide +kernel
theorem dX9_instruction_156 : decode cX9_instruction 156 = .ok (.goto 4, 3) := by decide +kernel
theorem dX9_instruction_159 : decode cX9_instruction 159 = .ok (.iconst 0, 1) := by decide +kernel
theorem dX9_instruction_160 : decode cX9_instruction 160 = .ok (.invokevirtual 88, 3) := by decide +kernel
theorem dX9_instruction_163 : decode cX9_instruction 163 = .ok (.aload_n 0, 1) := by decide +kernel
theorem dX9_instruction_164 : decode cX9_instruction 164 = .ok (.getfield 7, 3) := by decide +kernel
theorem dX9_instruction_167 : decode cX9_instruction 167 = .ok (.iconst 2, 1) := by decide +kernel
theorem dX9_instruction_168 : decode cX9_instruction 168 = .ok (.iaload, 1) := by decide +kernel
theorem dX9_instruction_169 : decode cX9_instruction 169 = .ok (.iconst 1, 1) := by decide +kernel
theorem dX9_instruction_170 : decode cX9_instruction 170 = .ok (.isub, 1) := by decide +kernel
theorem dX9_instruction_171 : decode cX9_instruction 171 = .ok (.ireturn, 1) := by decide +kernel
set_option maxRecDepth 20000 in
theorem ggX9_take_X9_falls : GoodIn wsX9_take wsX9_falls := goodIn_r _ [9] (by decide +kernel) (by decide +kernel)
set_option maxRecDepth 20000 in
theorem gX9_take_X9_falls : GoodIn wsX9_take (va_wsS RX9 112 yX9_falls wsX9_falls) := goodIn_app (goodIn_of _ (by decide +kernel)) ggX9_take_X9_falls
set_option maxRecDepth 20000 in
theorem ggX9_take_X9_goes : GoodIn wsX9_take wsX9_goes := goodIn_r _ [12] (by decide +kernel) (by decide +kernel)
set_option maxRecDepth 20000 in
theorem gX9_take_X9_goes : GoodIn wsX9_take (va_wsS RX9 105 yX9_goes wsX9_goes) := goodIn_app (goodIn_of _ (by decide +kernel)) ggX9_take_X9_goes
set_option maxRecDepth 20000 in
theorem ggX9_take_X9_copy : GoodIn wsX9_take wsX9_copy := goodIn_r _ [16, 1, 2, 3, 17, 18, 19, 20, 21, 8, 22, 23, 24, 25, 26, 32, 33, 34, 35, 36, 37, 38, 39, 40, 41, 42, 43, 44, 45, 46, 47, 48, 49, 50, 51, 52, 53, 54, 55, 56, 57, 58, 59, 60, 61, 62, 63, 64] (by decide +kernel) (by decide +kernel)
set_option maxRecDepth 20000 in
theorem gX9_take_X9_copy : GoodIn wsX9_take (wsV RX9 115 RX9 yX9_copy wsX9_copy) := goodIn_app (goodIn_of _ (by decide +kernel)) ggX9_take_X9_copy
set_option maxRecDepth 20000 in
theorem ggX9_take_X9_throwing : GoodIn wsX9_take wsX9_throwing := goodIn_r _ [30, 31, 32, 33, 34, 35, 36, 37, 38, 39, 40, 41, 42, 43, 44, 45, 46, 47, 48, 49, 50, 51, 52, 53, 54, 55, 56, 57, 58, 59, 60, 61, 62, 63, 64] (by decide +kernel) (by decide +kernel)
set_option maxRecDepth 20000 in
theorem gX9_take_X9_throwing : GoodIn wsX9_take (wsV RX9 108 RX9 yX9_throwing wsX9_throwing) := goodIn_app (goodIn_of _ (by decide +kernel)) ggX9_take_X9_throwing
theorem dX9_take_0 : decode cX9_take 0 = .ok (.aload_n 0, 1) := by decide +kernel
theorem dX9_take_1 : decode cX9_take 1 = .ok (.getfield 7, 3) := by decide +kernel
theorem dX9_take_4 : decode cX9_take 4 = .ok (.iconst 2, 1) := by decide +kernel
theorem dX9_take_5 : decode cX9_take 5 = .ok (.iaload, 1) := by decide +kernel
theorem dX9_take_6 : decode cX9_take 6 = .ok (.istore_n 1, 1) := by decide +kernel
theorem dX9_take_7 : decode cX9_take 7 = .ok (.iload_n 1, 1) := by decide +kernel
theorem dX9_take_8 : decode cX9_take 8 = .ok (.ifCond .le 23, 3) := by decide +kernel
theorem dX9_take_11 : decode cX9_take 11 = .ok (.aload_n 0, 1) := by decide +kernel
theorem dX9_take_12 : decode cX9_take 12 = .ok (.getfield 13, 3) := by decide +kernel
theorem dX9_take_15 : decode cX9_take 15 = .ok (.sipush 199, 3) := by decide +kernel
theorem dX9_take_18 : decode cX9_take 18 = .ok (.iload_n 1, 1) := by decide +kernel
theorem dX9_take_19 : decode cX9_take 19 = .ok (.iadd, 1) := by decide +kernel
theorem dX9_take_20 : decode cX9_take 20 = .ok (.iaload, 1) := by decide +kernel
theorem dX9_take_21 : decode cX9_take 21 = .ok (.invokestatic 112, 3) := by decide +kernel
theorem dX9_take_24 : decode cX9_take 24 = .ok (.ifCond .ne 7, 3) := by decide +kernel
theorem dX9_take_27 : decode cX9_take 27 = .ok (.iconst 1, 1) := by decide +kernel
theorem dX9_take_28 : decode cX9_take 28 = .ok (.goto 4, 3) := by decide +kernel
theorem dX9_take_31 : decode cX9_take 31 = .ok (.iconst 0, 1) := by decide +kernel
theorem dX9_take_32 : decode cX9_take 32 = .ok (.istore_n 2, 1) := by decide +kernel
theorem dX9_take_33 : decode cX9_take 33 = .ok (.sipush 200, 3) := by decide +kernel
theorem dX9_take_36 : decode cX9_take 36 = .ok (.istore_n 3, 1) := by decide +kernel
theorem dX9_take_37 : decode cX9_take 37 = .ok (.iload_n 3, 1) := by decide +kernel
theorem dX9_take_38 : decode cX9_take 38 = .ok (.sipush 200, 3) := by decide +kernel
theorem dX9_take_41 : decode cX9_take 41 = .ok (.iload_n 1, 1) := by decide +kernel
theorem dX9_take_42 : decode cX9_take 42 = .ok (.iadd, 1) := by decide +kernel
theorem dX9_take_43 : decode cX9_take 43 = .ok (.if_icmp .ge 41, 3) := by decide +kernel
theorem dX9_take_46 : decode cX9_take 46 = .ok (.iload_n 2, 1) := by decide +kernel
theorem dX9_take_47 : decode cX9_take 47 = .ok (.ifCond .eq 29, 3) := by decide +kernel
theorem dX9_take_50 : decode cX9_take 50 = .ok (.aload_n 0, 1) := by decide +kernel
theorem dX9_take_51 : decode cX9_take 51 = .ok (.getfield 13, 3) := by decide +kernel
theorem dX9_take_54 : decode cX9_take 54 = .ok (.iload_n 3, 1) := by decide +kernel
theorem dX9_take_55 : decode cX9_take 55 = .ok (.iaload, 1) := by decide +kernel
theorem dX9_take_56 : decode cX9_take 56 = .ok (.invokestatic 105, 3) := by decide +kernel
theorem dX9_take_59 : decode cX9_take 59 = .ok (.ifCond .eq 13, 3) := by decide +kernel
theorem dX9_take_62 : decode cX9_take 62 = .ok (.aload_n 0, 1) := by decide +kernel
theorem dX9_take_63 : decode cX9_take 63 = .ok (.getfield 16, 3) := by decide +kernel
theorem dX9_take_66 : decode cX9_take 66 = .ok (.iload_n 3, 1) := by decide +kernel
theorem dX9_take_67 : decode cX9_take 67 = .ok (.iaload, 1) := by decide +kernel
theorem dX9_take_68 : decode cX9_take 68 = .ok (.iload_n 1, 1) := by decide +kernel
theorem dX9_take_69 : decode cX9_take 69 = .ok (.if_icmp .ge 7, 3) := by decide +kernel
theorem dX9_take_72 : decode cX9_take 72 = .ok (.iconst 1, 1) := by decide +kernel
theorem dX9_take_73 : decode cX9_take 73 = .ok (.goto 4, 3) := by decide +kernel
theorem dX9_take_76 : decode cX9_take 76 = .ok (.iconst 0, 1) := by decide +kernel
theorem dX9_take_77 : decode cX9_take 77 = .ok (.istore_n 2, 1) := by decide +kernel
theorem dX9_take_78 : decode cX9_take 78 = .ok (.iinc 3 1, 3) := by decide +kernel
theorem dX9_take_81 : decode cX9_take 81 = .ok (.goto (-44), 3) := by decide +kernel
theorem dX9_take_84 : decode cX9_take 84 = .ok (.iload_n 2, 1) := by decide +kernel
theorem dX9_take_85 : decode cX9_take 85 = .ok (.ifCond .eq 9, 3) := by decide +kernel
theorem dX9_take_88 : decode cX9_take 88 = .ok (.aload_n 0, 1) := by decide +kernel
theorem dX9_take_89 : decode cX9_take 89 = .ok (.iconst 2, 1) := by decide +kernel
theorem dX9_take_90 : decode cX9_take 90 = .ok (.iconst 0, 1) := by decide +kernel
theorem dX9_take_91 : decode cX9_take 91 = .ok (.invokevirtual 115, 3) := by decide +kernel
theorem dX9_take_94 : decode cX9_take 94 = .ok (.aload_n 0, 1) := by decide +kernel
theorem dX9_take_95 : decode cX9_take 95 = .ok (.getfield 7, 3) := by decide +kernel
theorem dX9_take_98 : decode cX9_take 98 = .ok (.iconst 2, 1) := by decide +kernel
theorem dX9_take_99 : decode cX9_take 99 = .ok (.iconst 0, 1) := by decide +kernel
theorem dX9_take_100 : decode cX9_take 100 = .ok (.iastore, 1) := by decide +kernel
theorem dX9_take_101 : decode cX9_take 101 = .ok (.aload_n 0, 1) := by decide +kernel
theorem dX9_take_102 : decode cX9_take 102 = .ok (.iload_n 2, 1) := by decide +kernel
theorem dX9_take_103 : decode cX9_take 103 = .ok (.ifCond .ne 7, 3) := by decide +kernel
theorem dX9_take_106 : decode cX9_take 106 = .ok (.iconst 1, 1) := by decide +kernel
theorem dX9_take_107 : decode cX9_take 107 = .ok (.goto 4, 3) := by decide +kernel
theorem dX9_take_110 : decode cX9_take 110 = .ok (.iconst 0, 1) := by decide +kernel
theorem dX9_take_111 : decode cX9_take 111 = .ok (.iconst 0, 1) := by decide +kernel
theorem dX9_take_112 : decode cX9_take 112 = .ok (.invokevirtual 108, 3) := by decide +kernel
theorem dX9_take_115 : decode cX9_take 115 = .ok (.ifCond .eq 5, 3) := by decide +kernel
theorem dX9_take_118 : decode cX9_take 118 = .ok (.iconst 0, 1) := by decide +kernel
theorem dX9_take_119 : decode cX9_take 119 = .ok (.ireturn, 1) := by decide +kernel
theorem dX9_take_120 : decode cX9_take 120 = .ok (.aload_n 0, 1) := by decide +kernel
theorem dX9_take_121 : decode cX9_take 121 = .ok (.iconst 0, 1) := by decide +kernel
theorem dX9_take_122 : decode cX9_take 122 = .ok (.iconst 1, 1) := by decide +kernel
theorem dX9_take_123 : decode cX9_take 123 = .ok (.invokevirtual 115, 3) := by decide +kernel
theorem dX9_take_126 : decode cX9_take 126 = .ok (.aload_n 0, 1) := by decide +kernel
theorem dX9_take_127 : decode cX9_take 127 = .ok (.iconst 1, 1) := by decide +kernel
theorem dX9_take_128 : decode cX9_take 128 = .ok (.putfield 119, 3) := by decide +kernel
theorem dX9_take_131 : decode cX9_take 131 = .ok (.aload_n 0, 1) := by decide +kernel
theorem dX9_take_132 : decode cX9_take 132 = .ok (.iconst 0, 1) := by decide +kernel
theorem dX9_take_133 : decode cX9_take 133 = .ok (.putfield 123, 3) := by decide +kernel
theorem dX9_take_136 : decode cX9_take 136 = .ok (.iload_n 1, 1) := by decide +kernel
theorem dX9_take_137 : decode cX9_take 137 = .ok (.ireturn, 1) := by decide +kernel
set_option maxRecDepth 20000 in
theorem ggX9_restore_X9_throwing : GoodIn wsX9_restore wsX9_throwing := goodIn_r _ [7, 8, 26, 27, 28, 29, 30, 31, 32, 33, 34, 35, 36, 37, 38, 39, 40, 41, 42, 43, 44, 45, 46, 47, 48, 49, 50, 51, 52, 53, 54, 55, 56, 57, 58] (by decide +kernel) (by decide +kernel)
set_option maxRecDepth 20000 in
theorem gX9_restore_X9_throwing : GoodIn wsX9_restore (wsV RX9 108 RX9 yX9_throwing wsX9_throwing) := goodIn_app (goodIn_of _ (by decide +kernel)) ggX9_restore_X9_throwing
set_option maxRecDepth 20000 in
theorem ggX9_restore_X9_copy : GoodIn wsX9_restore wsX9_copy := goodIn_r _ [12, 13, 14, 15, 16, 17, 18, 19, 20, 6, 21, 22, 23, 24, 25, 26, 27, 28, 29, 30, 31, 32, 33, 34, 35, 36, 37, 38, 39, 40, 41, 42, 43, 44, 45, 46, 47, 48, 49, 50, 51, 52, 53, 54, 55, 56, 57, 58] (by decide +kernel) (by decide +kernel)
set_option maxRecDepth 20000 in
theorem gX9_restore_X9_copy : GoodIn wsX9_restore (wsV RX9 115 RX9 yX9_copy wsX9_copy) := goodIn_app (goodIn_of _ (by decide +kernel)) ggX9_restore_X9_copy
theorem dX9_restore_0 : decode cX9_restore 0 = .ok (.aload_n 0, 1) := by decide +kernel
theorem dX9_restore_1 : decode cX9_restore 1 = .ok (.aload_n 0, 1) := by decide +kernel
theorem dX9_restore_2 : decode cX9_restore 2 = .ok (.getfield 119, 3) := by decide +kernel
theorem dX9_restore_5 : decode cX9_restore 5 = .ok (.ifCond .ne 7, 3) := by decide +kernel
theorem dX9_restore_8 : decode cX9_restore 8 = .ok (.iconst 1, 1) := by decide +kernel
theorem dX9_restore_9 : decode cX9_restore 9 = .ok (.goto 4, 3) := by decide +kernel
theorem dX9_restore_12 : decode cX9_restore 12 = .ok (.iconst 0, 1) := by decide +kernel
theorem dX9_restore_13 : decode cX9_restore 13 = .ok (.iconst 0, 1) := by decide +kernel
theorem dX9_restore_14 : decode cX9_restore 14 = .ok (.invokevirtual 108, 3) := by decide +kernel
theorem dX9_restore_17 : decode cX9_restore 17 = .ok (.ifCond .eq 4, 3) := by decide +kernel
theorem dX9_restore_20 : decode cX9_restore 20 = .ok (.return_, 1) := by decide +kernel
theorem dX9_restore_21 : decode cX9_restore 21 = .ok (.aload_n 0, 1) := by decide +kernel
theorem dX9_restore_22 : decode cX9_restore 22 = .ok (.iconst 0, 1) := by decide +kernel
theorem dX9_restore_23 : decode cX9_restore 23 = .ok (.iconst 1, 1) := by decide +kernel
theorem dX9_restore_24 : decode cX9_restore 24 = .ok (.invokevirtual 115, 3) := by decide +kernel
theorem dX9_restore_27 : decode cX9_restore 27 = .ok (.aload_n 0, 1) := by decide +kernel
theorem dX9_restore_28 : decode cX9_restore 28 = .ok (.iconst 0, 1) := by decide +kernel
theorem dX9_restore_29 : decode cX9_restore 29 = .ok (.putfield 123, 3) := by decide +kernel
theorem dX9_restore_32 : decode cX9_restore 32 = .ok (.return_, 1) := by decide +kernel
theorem dX9_length_0 : decode cX9_length 0 = .ok (.aload_n 0, 1) := by decide +kernel
theorem dX9_length_1 : decode cX9_length 1 = .ok (.iconst 0, 1) := by decide +kernel
theorem dX9_length_2 : decode cX9_length 2 = .ok (.putfield 81, 3) := by decide +kernel
theorem dX9_length_5 : decode cX9_length 5 = .ok (.aload_n 0, 1) := by decide +kernel
theorem dX9_length_6 : decode cX9_length 6 = .ok (.getfield 7, 3) := by decide +kernel
theorem dX9_length_9 : decode cX9_length 9 = .ok (.iload_n 1, 1) := by decide +kernel
theorem dX9_length_10 : decode cX9_length 10 = .ok (.ifCond .eq 7, 3) := by decide +kernel
theorem dX9_length_13 : decode cX9_length 13 = .ok (.iconst 1, 1) := by decide +kernel
theorem dX9_length_14 : decode cX9_length 14 = .ok (.goto 4, 3) := by decide +kernel
theorem dX9_length_17 : decode cX9_length 17 = .ok (.iconst 0, 1) := by decide +kernel
theorem dX9_length_18 : decode cX9_length 18 = .ok (.iaload, 1) := by decide +kernel
theorem dX9_length_19 : decode cX9_length 19 = .ok (.ireturn, 1) := by decide +kernel
set_option maxRecDepth 20000 in
theorem ggX9_look_X9_out : GoodIn wsX9_look wsX9_out := goodIn_r _ [9] (by decide +kernel) (by decide +kernel)
set_option maxRecDepth 20000 in
theorem gX9_look_X9_out : GoodIn wsX9_look (va_wsS RX9 91 yX9_out wsX9_out) := goodIn_app (goodIn_of _ (by decide +kernel)) ggX9_look_X9_out
set_option maxRecDepth 20000 in
theorem ggX9_look_X9_throwing : GoodIn wsX9_look wsX9_throwing := goodIn_r _ [13, 14, 15, 16, 17, 18, 19, 20, 21, 22, 23, 24, 25, 26, 27, 28, 29, 30, 31, 32, 33, 34, 35, 36, 37, 38, 39, 40, 41, 42, 43, 44, 45, 46, 47] (by decide +kernel) (by decide +kernel)
set_option maxRecDepth 20000 in
theorem gX9_look_X9_throwing : GoodIn wsX9_look (wsV RX9 108 RX9 yX9_throwing wsX9_throwing) := goodIn_app (goodIn_of _ (by decide +kernel)) ggX9_look_X9_throwing
theorem dX9_look_0 : decode cX9_look 0 = .ok (.iload_n 1, 1) := by decide +kernel
theorem dX9_look_1 : decode cX9_look 1 = .ok (.ifCond .eq 7, 3) := by decide +kernel
theorem dX9_look_4 : decode cX9_look 4 = .ok (.iconst 1, 1) := by decide +kernel
theorem dX9_look_5 : decode cX9_look 5 = .ok (.goto 4, 3) := by decide +kernel
theorem dX9_look_8 : decode cX9_look 8 = .ok (.iconst 0, 1) := by decide +kernel
theorem dX9_look_9 : decode cX9_look 9 = .ok (.istore 4, 2) := by decide +kernel
theorem dX9_look_11 : decode cX9_look 11 = .ok (.aload_n 0, 1) := by decide +kernel
theorem dX9_look_12 : decode cX9_look 12 = .ok (.iload_n 3, 1) := by decide +kernel
theorem dX9_look_13 : decode cX9_look 13 = .ok (.iconst 4, 1) := by decide +kernel
theorem dX9_look_14 : decode cX9_look 14 = .ok (.invokestatic 91, 3) := by decide +kernel
theorem dX9_look_17 : decode cX9_look 17 = .ok (.iload_n 2, 1) := by decide +kernel
theorem dX9_look_18 : decode cX9_look 18 = .ok (.aload_n 0, 1) := by decide +kernel
theorem dX9_look_19 : decode cX9_look 19 = .ok (.getfield 7, 3) := by decide +kernel
theorem dX9_look_22 : decode cX9_look 22 = .ok (.iload 4, 2) := by decide +kernel
theorem dX9_look_24 : decode cX9_look 24 = .ok (.iaload, 1) := by decide +kernel
theorem dX9_look_25 : decode cX9_look 25 = .ok (.invokestatic 91, 3) := by decide +kernel
theorem dX9_look_28 : decode cX9_look 28 = .ok (.invokevirtual 108, 3) := by decide +kernel
theorem dX9_look_31 : decode cX9_look 31 = .ok (.ifCond .eq 5, 3) := by decide +kernel
theorem dX9_look_34 : decode cX9_look 34 = .ok (.iconst 0, 1) := by decide +kernel
theorem dX9_look_35 : decode cX9_look 35 = .ok (.ireturn, 1) := by decide +kernel
theorem dX9_look_36 : decode cX9_look 36 = .ok (.bipush 100, 2) := by decide +kernel
theorem dX9_look_38 : decode cX9_look 38 = .ok (.iload 4, 2) := by decide +kernel
theorem dX9_look_40 : decode cX9_look 40 = .ok (.imul, 1) := by decide +kernel
theorem dX9_look_41 : decode cX9_look 41 = .ok (.iload_n 2, 1) := by decide +kernel
theorem dX9_look_42 : decode cX9_look 42 = .ok (.iadd, 1) := by decide +kernel
theorem dX9_look_43 : decode cX9_look 43 = .ok (.istore 5, 2) := by decide +kernel
theorem dX9_look_45 : decode cX9_look 45 = .ok (.iload_n 3, 1) := by decide +kernel
theorem dX9_look_46 : decode cX9_look 46 = .ok (.ifCond .ne 13, 3) := by decide +kernel
theorem dX9_look_49 : decode cX9_look 49 = .ok (.aload_n 0, 1) := by decide +kernel
theorem dX9_look_50 : decode cX9_look 50 = .ok (.getfield 13, 3) := by decide +kernel
theorem dX9_look_53 : decode cX9_look 53 = .ok (.iload 5, 2) := by decide +kernel
theorem dX9_look_55 : decode cX9_look 55 = .ok (.iaload, 1) := by decide +kernel
theorem dX9_look_56 : decode cX9_look 56 = .ok (.goto 40, 3) := by decide +kernel
theorem dX9_look_59 : decode cX9_look 59 = .ok (.iload_n 3, 1) := by decide +kernel
theorem dX9_look_60 : decode cX9_look 60 = .ok (.iconst 1, 1) := by decide +kernel
theorem dX9_look_61 : decode cX9_look 61 = .ok (.if_icmp .ne 13, 3) := by decide +kernel
theorem dX9_look_64 : decode cX9_look 64 = .ok (.aload_n 0, 1) := by decide +kernel
theorem dX9_look_65 : decode cX9_look 65 = .ok (.getfield 16, 3) := by decide +kernel
theorem dX9_look_68 : decode cX9_look 68 = .ok (.iload 5, 2) := by decide +kernel
theorem dX9_look_70 : decode cX9_look 70 = .ok (.iaload, 1) := by decide +kernel
theorem dX9_look_71 : decode cX9_look 71 = .ok (.goto 25, 3) := by decide +kernel
theorem dX9_look_74 : decode cX9_look 74 = .ok (.iload_n 3, 1) := by decide +kernel
theorem dX9_look_75 : decode cX9_look 75 = .ok (.iconst 2, 1) := by decide +kernel
theorem dX9_look_76 : decode cX9_look 76 = .ok (.if_icmp .ne 13, 3) := by decide +kernel
theorem dX9_look_79 : decode cX9_look 79 = .ok (.aload_n 0, 1) := by decide +kernel
theorem dX9_look_80 : decode cX9_look 80 = .ok (.getfield 19, 3) := by decide +kernel
theorem dX9_look_83 : decode cX9_look 83 = .ok (.iload 5, 2) := by decide +kernel
theorem dX9_look_85 : decode cX9_look 85 = .ok (.iaload, 1) := by decide +kernel
theorem dX9_look_86 : decode cX9_look 86 = .ok (.goto 10, 3) := by decide +kernel
theorem dX9_look_89 : decode cX9_look 89 = .ok (.aload_n 0, 1) := by decide +kernel
theorem dX9_look_90 : decode cX9_look 90 = .ok (.getfield 22, 3) := by decide +kernel
theorem dX9_look_93 : decode cX9_look 93 = .ok (.iload 5, 2) := by decide +kernel
theorem dX9_look_95 : decode cX9_look 95 = .ok (.iaload, 1) := by decide +kernel
theorem dX9_look_96 : decode cX9_look 96 = .ok (.ireturn, 1) := by decide +kernel
set_option maxRecDepth 20000 in
theorem ggX9_reads_X9_readsA : GoodIn wsX9_reads wsX9_readsA := goodIn_r _ [7] (by decide +kernel) (by decide +kernel)
set_option maxRecDepth 20000 in
theorem gX9_reads_X9_readsA : GoodIn wsX9_reads (va_wsS RX9 99 yX9_readsA wsX9_readsA) := goodIn_app (goodIn_of _ (by decide +kernel)) ggX9_reads_X9_readsA
set_option maxRecDepth 20000 in
theorem ggX9_reads_X9_readsB : GoodIn wsX9_reads wsX9_readsB := goodIn_r _ [10] (by decide +kernel) (by decide +kernel)
set_option maxRecDepth 20000 in
theorem gX9_reads_X9_readsB : GoodIn wsX9_reads (va_wsS RX9 102 yX9_readsB wsX9_readsB) := goodIn_app (goodIn_of _ (by decide +kernel)) ggX9_reads_X9_readsB
theorem dX9_reads_0 : decode cX9_reads 0 = .ok (.aload_n 0, 1) := by decide +kernel
theorem dX9_reads_1 : decode cX9_reads 1 = .ok (.getfield 13, 3) := by decide +kernel
theorem dX9_reads_4 : decode cX9_reads 4 = .ok (.bipush 100, 2) := by decide +kernel
theorem dX9_reads_6 : decode cX9_reads 6 = .ok (.iload_n 1, 1) := by decide +kernel
theorem dX9_reads_7 : decode cX9_reads 7 = .ok (.iadd, 1) := by decide +kernel
theorem dX9_reads_8 : decode cX9_reads 8 = .ok (.iaload, 1) := by decide +kernel
theorem dX9_reads_9 : decode cX9_reads 9 = .ok (.istore_n 3, 1) := by decide +kernel
theorem dX9_reads_10 : decode cX9_reads 10 = .ok (.iload_n 3, 1) := by decide +kernel
theorem dX9_reads_11 : decode cX9_reads 11 = .ok (.invokestatic 99, 3) := by decide +kernel
theorem dX9_reads_14 : decode cX9_reads 14 = .ok (.ifCond .eq 16, 3) := by decide +kernel
theorem dX9_reads_17 : decode cX9_reads 17 = .ok (.aload_n 0, 1) := by decide +kernel
theorem dX9_reads_18 : decode cX9_reads 18 = .ok (.getfield 19, 3) := by decide +kernel
theorem dX9_reads_21 : decode cX9_reads 21 = .ok (.bipush 100, 2) := by decide +kernel
theorem dX9_reads_23 : decode cX9_reads 23 = .ok (.iload_n 1, 1) := by decide +kernel
theorem dX9_reads_24 : decode cX9_reads 24 = .ok (.iadd, 1) := by decide +kernel
theorem dX9_reads_25 : decode cX9_reads 25 = .ok (.iaload, 1) := by decide +kernel
theorem dX9_reads_26 : decode cX9_reads 26 = .ok (.iload_n 2, 1) := by decide +kernel
theorem dX9_reads_27 : decode cX9_reads 27 = .ok (.if_icmp .eq 23, 3) := by decide +kernel
theorem dX9_reads_30 : decode cX9_reads 30 = .ok (.iload_n 3, 1) := by decide +kernel
theorem dX9_reads_31 : decode cX9_reads 31 = .ok (.invokestatic 102, 3) := by decide +kernel
theorem dX9_reads_34 : decode cX9_reads 34 = .ok (.ifCond .eq 20, 3) := by decide +kernel
theorem dX9_reads_37 : decode cX9_reads 37 = .ok (.aload_n 0, 1) := by decide +kernel
theorem dX9_reads_38 : decode cX9_reads 38 = .ok (.getfield 22, 3) := by decide +kernel
theorem dX9_reads_41 : decode cX9_reads 41 = .ok (.bipush 100, 2) := by decide +kernel
theorem dX9_reads_43 : decode cX9_reads 43 = .ok (.iload_n 1, 1) := by decide +kernel
theorem dX9_reads_44 : decode cX9_reads 44 = .ok (.iadd, 1) := by decide +kernel
theorem dX9_reads_45 : decode cX9_reads 45 = .ok (.iaload, 1) := by decide +kernel
theorem dX9_reads_46 : decode cX9_reads 46 = .ok (.iload_n 2, 1) := by decide +kernel
theorem dX9_reads_47 : decode cX9_reads 47 = .ok (.if_icmp .ne 7, 3) := by decide +kernel
theorem dX9_reads_50 : decode cX9_reads 50 = .ok (.iconst 1, 1) := by decide +kernel
theorem dX9_reads_51 : decode cX9_reads 51 = .ok (.goto 4, 3) := by decide +kernel
theorem dX9_reads_54 : decode cX9_reads 54 = .ok (.iconst 0, 1) := by decide +kernel
theorem dX9_reads_55 : decode cX9_reads 55 = .ok (.ireturn, 1) := by decide +kernel
set_option maxRecDepth 20000 in
theorem ggX9_live_X9_reads : GoodIn wsX9_live wsX9_reads := goodIn_r _ [10, 4, 11, 12, 13, 14, 9, 15, 16, 17, 18, 28, 29, 30, 31, 32, 33, 34, 35, 36, 37, 38, 39, 40, 41, 42, 43, 44, 45, 46, 47, 48, 49, 50, 51, 52, 53, 54, 55, 56, 57, 58, 59, 60] (by decide +kernel) (by decide +kernel)
set_option maxRecDepth 20000 in
theorem gX9_live_X9_reads : GoodIn wsX9_live (wsV RX9 126 RX9 yX9_reads wsX9_reads) := goodIn_app (goodIn_of _ (by decide +kernel)) ggX9_live_X9_reads
set_option maxRecDepth 20000 in
theorem ggX9_live_X9_writes : GoodIn wsX9_live wsX9_writes := goodIn_r _ [21] (by decide +kernel) (by decide +kernel)
set_option maxRecDepth 20000 in
theorem gX9_live_X9_writes : GoodIn wsX9_live (va_wsS RX9 95 yX9_writes wsX9_writes) := goodIn_app (goodIn_of _ (by decide +kernel)) ggX9_live_X9_writes
set_option maxRecDepth 20000 in
theorem ggX9_live_X9_falls : GoodIn wsX9_live wsX9_falls := goodIn_r _ [24] (by decide +kernel) (by decide +kernel)
set_option maxRecDepth 20000 in
theorem gX9_live_X9_falls : GoodIn wsX9_live (va_wsS RX9 112 yX9_falls wsX9_falls) := goodIn_app (goodIn_of _ (by decide +kernel)) ggX9_live_X9_falls
set_option maxRecDepth 20000 in
theorem ggX9_live_X9_goes : GoodIn wsX9_live wsX9_goes := goodIn_r _ [27] (by decide +kernel) (by decide +kernel)
set_option maxRecDepth 20000 in
theorem gX9_live_X9_goes : GoodIn wsX9_live (va_wsS RX9 105 yX9_goes wsX9_goes) := goodIn_app (goodIn_of _ (by decide +kernel)) ggX9_live_X9_goes
theorem dX9_live_0 : decode cX9_live 0 = .ok (.iconst 0, 1) := by decide +kernel
theorem dX9_live_1 : decode cX9_live 1 = .ok (.istore_n 3, 1) := by decide +kernel
theorem dX9_live_2 : decode cX9_live 2 = .ok (.iload_n 3, 1) := by decide +kernel
theorem dX9_live_3 : decode cX9_live 3 = .ok (.bipush 26, 2) := by decide +kernel
theorem dX9_live_5 : decode cX9_live 5 = .ok (.if_icmp .ge 32, 3) := by decide +kernel
theorem dX9_live_8 : decode cX9_live 8 = .ok (.aload_n 0, 1) := by decide +kernel
theorem dX9_live_9 : decode cX9_live 9 = .ok (.getfield 25, 3) := by decide +kernel
theorem dX9_live_12 : decode cX9_live 12 = .ok (.iload_n 3, 1) := by decide +kernel
theorem dX9_live_13 : decode cX9_live 13 = .ok (.iload_n 3, 1) := by decide +kernel
theorem dX9_live_14 : decode cX9_live 14 = .ok (.iload_n 2, 1) := by decide +kernel
theorem dX9_live_15 : decode cX9_live 15 = .ok (.if_icmp .ne 7, 3) := by decide +kernel
theorem dX9_live_18 : decode cX9_live 18 = .ok (.iconst 1, 1) := by decide +kernel
theorem dX9_live_19 : decode cX9_live 19 = .ok (.goto 4, 3) := by decide +kernel
theorem dX9_live_22 : decode cX9_live 22 = .ok (.iconst 0, 1) := by decide +kernel
theorem dX9_live_23 : decode cX9_live 23 = .ok (.bastore, 1) := by decide +kernel
theorem dX9_live_24 : decode cX9_live 24 = .ok (.aload_n 0, 1) := by decide +kernel
theorem dX9_live_25 : decode cX9_live 25 = .ok (.getfield 29, 3) := by decide +kernel
theorem dX9_live_28 : decode cX9_live 28 = .ok (.iload_n 3, 1) := by decide +kernel
theorem dX9_live_29 : decode cX9_live 29 = .ok (.iconst 0, 1) := by decide +kernel
theorem dX9_live_30 : decode cX9_live 30 = .ok (.bastore, 1) := by decide +kernel
theorem dX9_live_31 : decode cX9_live 31 = .ok (.iinc 3 1, 3) := by decide +kernel
theorem dX9_live_34 : decode cX9_live 34 = .ok (.goto (-32), 3) := by decide +kernel
theorem dX9_live_37 : decode cX9_live 37 = .ok (.iconst 1, 1) := by decide +kernel
theorem dX9_live_38 : decode cX9_live 38 = .ok (.istore_n 3, 1) := by decide +kernel
theorem dX9_live_39 : decode cX9_live 39 = .ok (.iload_n 3, 1) := by decide +kernel
theorem dX9_live_40 : decode cX9_live 40 = .ok (.ifCond .eq 168, 3) := by decide +kernel
theorem dX9_live_43 : decode cX9_live 43 = .ok (.iconst 0, 1) := by decide +kernel
theorem dX9_live_44 : decode cX9_live 44 = .ok (.istore_n 3, 1) := by decide +kernel
theorem dX9_live_45 : decode cX9_live 45 = .ok (.iconst 0, 1) := by decide +kernel
theorem dX9_live_46 : decode cX9_live 46 = .ok (.istore 4, 2) := by decide +kernel
theorem dX9_live_48 : decode cX9_live 48 = .ok (.iload 4, 2) := by decide +kernel
theorem dX9_live_50 : decode cX9_live 50 = .ok (.aload_n 0, 1) := by decide +kernel
theorem dX9_live_51 : decode cX9_live 51 = .ok (.getfield 7, 3) := by decide +kernel
theorem dX9_live_54 : decode cX9_live 54 = .ok (.iconst 1, 1) := by decide +kernel
theorem dX9_live_55 : decode cX9_live 55 = .ok (.iaload, 1) := by decide +kernel
theorem dX9_live_56 : decode cX9_live 56 = .ok (.if_icmp .ge 149, 3) := by decide +kernel
theorem dX9_live_59 : decode cX9_live 59 = .ok (.aload_n 0, 1) := by decide +kernel
theorem dX9_live_60 : decode cX9_live 60 = .ok (.getfield 25, 3) := by decide +kernel
theorem dX9_live_63 : decode cX9_live 63 = .ok (.iload 4, 2) := by decide +kernel
theorem dX9_live_65 : decode cX9_live 65 = .ok (.baload, 1) := by decide +kernel
theorem dX9_live_66 : decode cX9_live 66 = .ok (.ifCond .eq 133, 3) := by decide +kernel
theorem dX9_live_69 : decode cX9_live 69 = .ok (.aload_n 0, 1) := by decide +kernel
theorem dX9_live_70 : decode cX9_live 70 = .ok (.getfield 29, 3) := by decide +kernel
theorem dX9_live_73 : decode cX9_live 73 = .ok (.iload 4, 2) := by decide +kernel
theorem dX9_live_75 : decode cX9_live 75 = .ok (.baload, 1) := by decide +kernel
theorem dX9_live_76 : decode cX9_live 76 = .ok (.ifCond .eq 6, 3) := by decide +kernel
theorem dX9_live_79 : decode cX9_live 79 = .ok (.goto 120, 3) := by decide +kernel
theorem dX9_live_82 : decode cX9_live 82 = .ok (.aload_n 0, 1) := by decide +kernel
theorem dX9_live_83 : decode cX9_live 83 = .ok (.getfield 29, 3) := by decide +kernel
theorem dX9_live_86 : decode cX9_live 86 = .ok (.iload 4, 2) := by decide +kernel
theorem dX9_live_88 : decode cX9_live 88 = .ok (.iconst 1, 1) := by decide +kernel
theorem dX9_live_89 : decode cX9_live 89 = .ok (.bastore, 1) := by decide +kernel
theorem dX9_live_90 : decode cX9_live 90 = .ok (.iconst 1, 1) := by decide +kernel
theorem dX9_live_91 : decode cX9_live 91 = .ok (.istore_n 3, 1) := by decide +kernel
theorem dX9_live_92 : decode cX9_live 92 = .ok (.aload_n 0, 1) := by decide +kernel
theorem dX9_live_93 : decode cX9_live 93 = .ok (.iload 4, 2) := by decide +kernel
theorem dX9_live_95 : decode cX9_live 95 = .ok (.iload_n 1, 1) := by decide +kernel
theorem dX9_live_96 : decode cX9_live 96 = .ok (.invokevirtual 126, 3) := by decide +kernel
theorem dX9_live_99 : decode cX9_live 99 = .ok (.ifCond .eq 5, 3) := by decide +kernel
theorem dX9_live_102 : decode cX9_live 102 = .ok (.iconst 1, 1) := by decide +kernel
theorem dX9_live_103 : decode cX9_live 103 = .ok (.ireturn, 1) := by decide +kernel
theorem dX9_live_104 : decode cX9_live 104 = .ok (.aload_n 0, 1) := by decide +kernel
theorem dX9_live_105 : decode cX9_live 105 = .ok (.getfield 13, 3) := by decide +kernel
theorem dX9_live_108 : decode cX9_live 108 = .ok (.bipush 100, 2) := by decide +kernel
theorem dX9_live_110 : decode cX9_live 110 = .ok (.iload 4, 2) := by decide +kernel
theorem dX9_live_112 : decode cX9_live 112 = .ok (.iadd, 1) := by decide +kernel
theorem dX9_live_113 : decode cX9_live 113 = .ok (.iaload, 1) := by decide +kernel
theorem dX9_live_114 : decode cX9_live 114 = .ok (.istore 5, 2) := by decide +kernel
theorem dX9_live_116 : decode cX9_live 116 = .ok (.iload 5, 2) := by decide +kernel
theorem dX9_live_118 : decode cX9_live 118 = .ok (.invokestatic 95, 3) := by decide +kernel
theorem dX9_live_121 : decode cX9_live 121 = .ok (.ifCond .eq 20, 3) := by decide +kernel
theorem dX9_live_124 : decode cX9_live 124 = .ok (.aload_n 0, 1) := by decide +kernel
theorem dX9_live_125 : decode cX9_live 125 = .ok (.getfield 16, 3) := by decide +kernel
theorem dX9_live_128 : decode cX9_live 128 = .ok (.bipush 100, 2) := by decide +kernel
theorem dX9_live_130 : decode cX9_live 130 = .ok (.iload 4, 2) := by decide +kernel
theorem dX9_live_132 : decode cX9_live 132 = .ok (.iadd, 1) := by decide +kernel
theorem dX9_live_133 : decode cX9_live 133 = .ok (.iaload, 1) := by decide +kernel
theorem dX9_live_134 : decode cX9_live 134 = .ok (.iload_n 1, 1) := by decide +kernel
theorem dX9_live_135 : decode cX9_live 135 = .ok (.if_icmp .ne 6, 3) := by decide +kernel
theorem dX9_live_138 : decode cX9_live 138 = .ok (.goto 61, 3) := by decide +kernel
theorem dX9_live_141 : decode cX9_live 141 = .ok (.aload_n 0, 1) := by decide +kernel
theorem dX9_live_142 : decode cX9_live 142 = .ok (.getfield 25, 3) := by decide +kernel
theorem dX9_live_145 : decode cX9_live 145 = .ok (.iload 4, 2) := by decide +kernel
theorem dX9_live_147 : decode cX9_live 147 = .ok (.iconst 1, 1) := by decide +kernel
theorem dX9_live_148 : decode cX9_live 148 = .ok (.iadd, 1) := by decide +kernel
theorem dX9_live_149 : decode cX9_live 149 = .ok (.aload_n 0, 1) := by decide +kernel
theorem dX9_live_150 : decode cX9_live 150 = .ok (.getfield 25, 3) := by decide +kernel
theorem dX9_live_153 : decode cX9_live 153 = .ok (.iload 4, 2) := by decide +kernel
theorem dX9_live_155 : decode cX9_live 155 = .ok (.iconst 1, 1) := by decide +kernel
theorem dX9_live_156 : decode cX9_live 156 = .ok (.iadd, 1) := by decide +kernel
theorem dX9_live_157 : decode cX9_live 157 = .ok (.baload, 1) := by decide +kernel
theorem dX9_live_158 : decode cX9_live 158 = .ok (.ifCond .ne 11, 3) := by decide +kernel
theorem dX9_live_161 : decode cX9_live 161 = .ok (.iload 5, 2) := by decide +kernel
theorem dX9_live_163 : decode cX9_live 163 = .ok (.invokestatic 112, 3) := by decide +kernel
theorem dX9_live_166 : decode cX9_live 166 = .ok (.ifCond .eq 7, 3) := by decide +kernel
theorem dX9_live_169 : decode cX9_live 169 = .ok (.iconst 1, 1) := by decide +kernel
theorem dX9_live_170 : decode cX9_live 170 = .ok (.goto 4, 3) := by decide +kernel
theorem dX9_live_173 : decode cX9_live 173 = .ok (.iconst 0, 1) := by decide +kernel
theorem dX9_live_174 : decode cX9_live 174 = .ok (.bastore, 1) := by decide +kernel
theorem dX9_live_175 : decode cX9_live 175 = .ok (.iload 5, 2) := by decide +kernel
theorem dX9_live_177 : decode cX9_live 177 = .ok (.invokestatic 105, 3) := by decide +kernel
theorem dX9_live_180 : decode cX9_live 180 = .ok (.ifCond .eq 19, 3) := by decide +kernel
theorem dX9_live_183 : decode cX9_live 183 = .ok (.aload_n 0, 1) := by decide +kernel
theorem dX9_live_184 : decode cX9_live 184 = .ok (.getfield 25, 3) := by decide +kernel
theorem dX9_live_187 : decode cX9_live 187 = .ok (.aload_n 0, 1) := by decide +kernel
theorem dX9_live_188 : decode cX9_live 188 = .ok (.getfield 16, 3) := by decide +kernel
theorem dX9_live_191 : decode cX9_live 191 = .ok (.bipush 100, 2) := by decide +kernel
theorem dX9_live_193 : decode cX9_live 193 = .ok (.iload 4, 2) := by decide +kernel
theorem dX9_live_195 : decode cX9_live 195 = .ok (.iadd, 1) := by decide +kernel
theorem dX9_live_196 : decode cX9_live 196 = .ok (.iaload, 1) := by decide +kernel
theorem dX9_live_197 : decode cX9_live 197 = .ok (.iconst 1, 1) := by decide +kernel
theorem dX9_live_198 : decode cX9_live 198 = .ok (.bastore, 1) := by decide +kernel
theorem dX9_live_199 : decode cX9_live 199 = .ok (.iinc 4 1, 3) := by decide +kernel
theorem dX9_live_202 : decode cX9_live 202 = .ok (.goto (-154), 3) := by decide +kernel
theorem dX9_live_205 : decode cX9_live 205 = .ok (.goto (-166), 3) := by decide +kernel
theorem dX9_live_208 : decode cX9_live 208 = .ok (.iconst 0, 1) := by decide +kernel
theorem dX9_live_209 : decode cX9_live 209 = .ok (.ireturn, 1) := by decide +kernel
set_option maxRecDepth 20000 in
theorem ggX9_liveBehind_X9_falls : GoodIn wsX9_liveBehind wsX9_falls := goodIn_r _ [6] (by decide +kernel) (by decide +kernel)
set_option maxRecDepth 20000 in
theorem gX9_liveBehind_X9_falls : GoodIn wsX9_liveBehind (va_wsS RX9 112 yX9_falls wsX9_falls) := goodIn_app (goodIn_of _ (by decide +kernel)) ggX9_liveBehind_X9_falls
set_option maxRecDepth 20000 in
theorem ggX9_liveBehind_X9_live : GoodIn wsX9_liveBehind wsX9_live := goodIn_r _ [10, 11, 12, 13, 1, 2, 14, 15, 16, 5, 17, 18, 19, 20, 21, 22, 23, 24, 25, 26, 27, 28, 3, 4, 6, 29, 30, 31, 32, 33, 34, 35, 36, 37, 38, 39, 40, 41, 42, 43, 44, 45, 46, 47, 48, 49, 50, 51, 52, 53, 54, 55, 56, 57, 58, 59, 60, 61, 62, 63, 64] (by decide +kernel) (by decide +kernel)
set_option maxRecDepth 20000 in
theorem gX9_liveBehind_X9_live : GoodIn wsX9_liveBehind (wsV RX9 129 RX9 yX9_live wsX9_live) := goodIn_app (goodIn_of _ (by decide +kernel)) ggX9_liveBehind_X9_live
set_option maxRecDepth 20000 in
theorem ggX9_liveBehind_X9_goes : GoodIn wsX9_liveBehind wsX9_goes := goodIn_r _ [31] (by decide +kernel) (by decide +kernel)
set_option maxRecDepth 20000 in
theorem gX9_liveBehind_X9_goes : GoodIn wsX9_liveBehind (va_wsS RX9 105 yX9_goes wsX9_goes) := goodIn_app (goodIn_of _ (by decide +kernel)) ggX9_liveBehind_X9_goes
theorem dX9_liveBehind_0 : decode cX9_liveBehind 0 = .ok (.aload_n 0, 1) := by decide +kernel
theorem dX9_liveBehind_1 : decode cX9_liveBehind 1 = .ok (.getfield 13, 3) := by decide +kernel
theorem dX9_liveBehind_4 : decode cX9_liveBehind 4 = .ok (.bipush 100, 2) := by decide +kernel
theorem dX9_liveBehind_6 : decode cX9_liveBehind 6 = .ok (.iload_n 2, 1) := by decide +kernel
theorem dX9_liveBehind_7 : decode cX9_liveBehind 7 = .ok (.iadd, 1) := by decide +kernel
theorem dX9_liveBehind_8 : decode cX9_liveBehind 8 = .ok (.iaload, 1) := by decide +kernel
theorem dX9_liveBehind_9 : decode cX9_liveBehind 9 = .ok (.istore_n 3, 1) := by decide +kernel
theorem dX9_liveBehind_10 : decode cX9_liveBehind 10 = .ok (.iload_n 3, 1) := by decide +kernel
theorem dX9_liveBehind_11 : decode cX9_liveBehind 11 = .ok (.invokestatic 112, 3) := by decide +kernel
theorem dX9_liveBehind_14 : decode cX9_liveBehind 14 = .ok (.ifCond .eq 14, 3) := by decide +kernel
theorem dX9_liveBehind_17 : decode cX9_liveBehind 17 = .ok (.aload_n 0, 1) := by decide +kernel
theorem dX9_liveBehind_18 : decode cX9_liveBehind 18 = .ok (.iload_n 1, 1) := by decide +kernel
theorem dX9_liveBehind_19 : decode cX9_liveBehind 19 = .ok (.iload_n 2, 1) := by decide +kernel
theorem dX9_liveBehind_20 : decode cX9_liveBehind 20 = .ok (.iconst 1, 1) := by decide +kernel
theorem dX9_liveBehind_21 : decode cX9_liveBehind 21 = .ok (.iadd, 1) := by decide +kernel
theorem dX9_liveBehind_22 : decode cX9_liveBehind 22 = .ok (.invokevirtual 129, 3) := by decide +kernel
theorem dX9_liveBehind_25 : decode cX9_liveBehind 25 = .ok (.ifCond .ne 27, 3) := by decide +kernel
theorem dX9_liveBehind_28 : decode cX9_liveBehind 28 = .ok (.iload_n 3, 1) := by decide +kernel
theorem dX9_liveBehind_29 : decode cX9_liveBehind 29 = .ok (.invokestatic 105, 3) := by decide +kernel
theorem dX9_liveBehind_32 : decode cX9_liveBehind 32 = .ok (.ifCond .eq 24, 3) := by decide +kernel
theorem dX9_liveBehind_35 : decode cX9_liveBehind 35 = .ok (.aload_n 0, 1) := by decide +kernel
theorem dX9_liveBehind_36 : decode cX9_liveBehind 36 = .ok (.iload_n 1, 1) := by decide +kernel
theorem dX9_liveBehind_37 : decode cX9_liveBehind 37 = .ok (.aload_n 0, 1) := by decide +kernel
theorem dX9_liveBehind_38 : decode cX9_liveBehind 38 = .ok (.getfield 16, 3) := by decide +kernel
theorem dX9_liveBehind_41 : decode cX9_liveBehind 41 = .ok (.bipush 100, 2) := by decide +kernel
theorem dX9_liveBehind_43 : decode cX9_liveBehind 43 = .ok (.iload_n 2, 1) := by decide +kernel
theorem dX9_liveBehind_44 : decode cX9_liveBehind 44 = .ok (.iadd, 1) := by decide +kernel
theorem dX9_liveBehind_45 : decode cX9_liveBehind 45 = .ok (.iaload, 1) := by decide +kernel
theorem dX9_liveBehind_46 : decode cX9_liveBehind 46 = .ok (.invokevirtual 129, 3) := by decide +kernel
theorem dX9_liveBehind_49 : decode cX9_liveBehind 49 = .ok (.ifCond .eq 7, 3) := by decide +kernel
theorem dX9_liveBehind_52 : decode cX9_liveBehind 52 = .ok (.iconst 1, 1) := by decide +kernel
theorem dX9_liveBehind_53 : decode cX9_liveBehind 53 = .ok (.goto 4, 3) := by decide +kernel
theorem dX9_liveBehind_56 : decode cX9_liveBehind 56 = .ok (.iconst 0, 1) := by decide +kernel
theorem dX9_liveBehind_57 : decode cX9_liveBehind 57 = .ok (.ireturn, 1) := by decide +kernel
set_option maxRecDepth 20000 in
theorem ggX9_come_X9_writes : GoodIn wsX9_come wsX9_writes := goodIn_r _ [10] (by decide +kernel) (by decide +kernel)
set_option maxRecDepth 20000 in
theorem gX9_come_X9_writes : GoodIn wsX9_come (va_wsS RX9 95 yX9_writes wsX9_writes) := goodIn_app (goodIn_of _ (by decide +kernel)) ggX9_come_X9_writes
set_option maxRecDepth 20000 in
theorem ggX9_come_X9_gives : GoodIn wsX9_come wsX9_gives := goodIn_r _ [14, 1, 15, 16, 4, 17, 18, 19, 9, 20, 3, 28, 29, 30, 31, 32, 33, 34, 35, 36, 37, 38, 39, 40, 41, 42, 43, 44, 45, 46, 47, 48, 49, 50, 51, 52, 53, 54, 55, 56, 57, 58, 59, 60] (by decide +kernel) (by decide +kernel)
set_option maxRecDepth 20000 in
theorem gX9_come_X9_gives : GoodIn wsX9_come (wsV RX9 132 RX9 yX9_gives wsX9_gives) := goodIn_app (goodIn_of _ (by decide +kernel)) ggX9_come_X9_gives
set_option maxRecDepth 20000 in
theorem ggX9_come_X9_given : GoodIn wsX9_come wsX9_given := goodIn_r _ [24, 1, 15, 4, 16, 11, 12, 13, 9, 14, 17, 18, 19, 20, 3, 25, 26, 27, 28, 29, 30, 31, 32, 33, 34, 35, 36, 37, 38, 39, 40, 41, 42, 43, 44, 45, 46, 47, 48, 49, 50, 51, 52, 53, 54, 55, 56, 57, 58, 59, 60] (by decide +kernel) (by decide +kernel)
set_option maxRecDepth 20000 in
theorem gX9_come_X9_given : GoodIn wsX9_come (wsV RX9 135 RX9 yX9_given wsX9_given) := goodIn_app (goodIn_of _ (by decide +kernel)) ggX9_come_X9_given
theorem dX9_come_0 : decode cX9_come 0 = .ok (.aload_n 0, 1) := by decide +kernel
theorem dX9_come_1 : decode cX9_come 1 = .ok (.getfield 13, 3) := by decide +kernel
theorem dX9_come_4 : decode cX9_come 4 = .ok (.bipush 100, 2) := by decide +kernel
theorem dX9_come_6 : decode cX9_come 6 = .ok (.iload_n 2, 1) := by decide +kernel
theorem dX9_come_7 : decode cX9_come 7 = .ok (.iadd, 1) := by decide +kernel
theorem dX9_come_8 : decode cX9_come 8 = .ok (.iaload, 1) := by decide +kernel
theorem dX9_come_9 : decode cX9_come 9 = .ok (.istore_n 3, 1) := by decide +kernel
theorem dX9_come_10 : decode cX9_come 10 = .ok (.iconst 0, 1) := by decide +kernel
theorem dX9_come_11 : decode cX9_come 11 = .ok (.istore 4, 2) := by decide +kernel
theorem dX9_come_13 : decode cX9_come 13 = .ok (.iload 4, 2) := by decide +kernel
theorem dX9_come_15 : decode cX9_come 15 = .ok (.bipush 8, 2) := by decide +kernel
theorem dX9_come_17 : decode cX9_come 17 = .ok (.if_icmp .ge 170, 3) := by decide +kernel
theorem dX9_come_20 : decode cX9_come 20 = .ok (.iload_n 3, 1) := by decide +kernel
theorem dX9_come_21 : decode cX9_come 21 = .ok (.invokestatic 95, 3) := by decide +kernel
theorem dX9_come_24 : decode cX9_come 24 = .ok (.ifCond .eq 21, 3) := by decide +kernel
theorem dX9_come_27 : decode cX9_come 27 = .ok (.aload_n 0, 1) := by decide +kernel
theorem dX9_come_28 : decode cX9_come 28 = .ok (.getfield 16, 3) := by decide +kernel
theorem dX9_come_31 : decode cX9_come 31 = .ok (.bipush 100, 2) := by decide +kernel
theorem dX9_come_33 : decode cX9_come 33 = .ok (.iload_n 2, 1) := by decide +kernel
theorem dX9_come_34 : decode cX9_come 34 = .ok (.iadd, 1) := by decide +kernel
theorem dX9_come_35 : decode cX9_come 35 = .ok (.iaload, 1) := by decide +kernel
theorem dX9_come_36 : decode cX9_come 36 = .ok (.iload 4, 2) := by decide +kernel
theorem dX9_come_38 : decode cX9_come 38 = .ok (.if_icmp .ne 7, 3) := by decide +kernel
theorem dX9_come_41 : decode cX9_come 41 = .ok (.iconst 1, 1) := by decide +kernel
theorem dX9_come_42 : decode cX9_come 42 = .ok (.goto 4, 3) := by decide +kernel
theorem dX9_come_45 : decode cX9_come 45 = .ok (.iconst 0, 1) := by decide +kernel
theorem dX9_come_46 : decode cX9_come 46 = .ok (.istore 5, 2) := by decide +kernel
theorem dX9_come_48 : decode cX9_come 48 = .ok (.iload 5, 2) := by decide +kernel
theorem dX9_come_50 : decode cX9_come 50 = .ok (.ifCond .eq 11, 3) := by decide +kernel
theorem dX9_come_53 : decode cX9_come 53 = .ok (.aload_n 0, 1) := by decide +kernel
theorem dX9_come_54 : decode cX9_come 54 = .ok (.iload_n 2, 1) := by decide +kernel
theorem dX9_come_55 : decode cX9_come 55 = .ok (.invokevirtual 132, 3) := by decide +kernel
theorem dX9_come_58 : decode cX9_come 58 = .ok (.goto 15, 3) := by decide +kernel
theorem dX9_come_61 : decode cX9_come 61 = .ok (.aload_n 0, 1) := by decide +kernel
theorem dX9_come_62 : decode cX9_come 62 = .ok (.getfield 41, 3) := by decide +kernel
theorem dX9_come_65 : decode cX9_come 65 = .ok (.bipush 8, 2) := by decide +kernel
theorem dX9_come_67 : decode cX9_come 67 = .ok (.iload_n 2, 1) := by decide +kernel
theorem dX9_come_68 : decode cX9_come 68 = .ok (.imul, 1) := by decide +kernel
theorem dX9_come_69 : decode cX9_come 69 = .ok (.iload 4, 2) := by decide +kernel
theorem dX9_come_71 : decode cX9_come 71 = .ok (.iadd, 1) := by decide +kernel
theorem dX9_come_72 : decode cX9_come 72 = .ok (.baload, 1) := by decide +kernel
theorem dX9_come_73 : decode cX9_come 73 = .ok (.istore 6, 2) := by decide +kernel
theorem dX9_come_75 : decode cX9_come 75 = .ok (.iload 5, 2) := by decide +kernel
theorem dX9_come_77 : decode cX9_come 77 = .ok (.ifCond .eq 11, 3) := by decide +kernel
theorem dX9_come_80 : decode cX9_come 80 = .ok (.aload_n 0, 1) := by decide +kernel
theorem dX9_come_81 : decode cX9_come 81 = .ok (.iload_n 2, 1) := by decide +kernel
theorem dX9_come_82 : decode cX9_come 82 = .ok (.invokevirtual 135, 3) := by decide +kernel
theorem dX9_come_85 : decode cX9_come 85 = .ok (.goto 15, 3) := by decide +kernel
theorem dX9_come_88 : decode cX9_come 88 = .ok (.aload_n 0, 1) := by decide +kernel
theorem dX9_come_89 : decode cX9_come 89 = .ok (.getfield 44, 3) := by decide +kernel
theorem dX9_come_92 : decode cX9_come 92 = .ok (.bipush 8, 2) := by decide +kernel
theorem dX9_come_94 : decode cX9_come 94 = .ok (.iload_n 2, 1) := by decide +kernel
theorem dX9_come_95 : decode cX9_come 95 = .ok (.imul, 1) := by decide +kernel
theorem dX9_come_96 : decode cX9_come 96 = .ok (.iload 4, 2) := by decide +kernel
theorem dX9_come_98 : decode cX9_come 98 = .ok (.iadd, 1) := by decide +kernel
theorem dX9_come_99 : decode cX9_come 99 = .ok (.iaload, 1) := by decide +kernel
theorem dX9_come_100 : decode cX9_come 100 = .ok (.istore 7, 2) := by decide +kernel
theorem dX9_come_102 : decode cX9_come 102 = .ok (.bipush 8, 2) := by decide +kernel
theorem dX9_come_104 : decode cX9_come 104 = .ok (.iload_n 1, 1) := by decide +kernel
theorem dX9_come_105 : decode cX9_come 105 = .ok (.imul, 1) := by decide +kernel
theorem dX9_come_106 : decode cX9_come 106 = .ok (.iload 4, 2) := by decide +kernel
theorem dX9_come_108 : decode cX9_come 108 = .ok (.iadd, 1) := by decide +kernel
theorem dX9_come_109 : decode cX9_come 109 = .ok (.istore 8, 2) := by decide +kernel
theorem dX9_come_111 : decode cX9_come 111 = .ok (.aload_n 0, 1) := by decide +kernel
theorem dX9_come_112 : decode cX9_come 112 = .ok (.getfield 38, 3) := by decide +kernel
theorem dX9_come_115 : decode cX9_come 115 = .ok (.iload_n 1, 1) := by decide +kernel
theorem dX9_come_116 : decode cX9_come 116 = .ok (.baload, 1) := by decide +kernel
theorem dX9_come_117 : decode cX9_come 117 = .ok (.ifCond .ne 24, 3) := by decide +kernel
theorem dX9_come_120 : decode cX9_come 120 = .ok (.aload_n 0, 1) := by decide +kernel
theorem dX9_come_121 : decode cX9_come 121 = .ok (.getfield 41, 3) := by decide +kernel
theorem dX9_come_124 : decode cX9_come 124 = .ok (.iload 8, 2) := by decide +kernel
theorem dX9_come_126 : decode cX9_come 126 = .ok (.iload 6, 2) := by decide +kernel
theorem dX9_come_128 : decode cX9_come 128 = .ok (.bastore, 1) := by decide +kernel
theorem dX9_come_129 : decode cX9_come 129 = .ok (.aload_n 0, 1) := by decide +kernel
theorem dX9_come_130 : decode cX9_come 130 = .ok (.getfield 44, 3) := by decide +kernel
theorem dX9_come_133 : decode cX9_come 133 = .ok (.iload 8, 2) := by decide +kernel
theorem dX9_come_135 : decode cX9_come 135 = .ok (.iload 7, 2) := by decide +kernel
theorem dX9_come_137 : decode cX9_come 137 = .ok (.iastore, 1) := by decide +kernel
theorem dX9_come_138 : decode cX9_come 138 = .ok (.goto 43, 3) := by decide +kernel
theorem dX9_come_141 : decode cX9_come 141 = .ok (.aload_n 0, 1) := by decide +kernel
theorem dX9_come_142 : decode cX9_come 142 = .ok (.getfield 41, 3) := by decide +kernel
theorem dX9_come_145 : decode cX9_come 145 = .ok (.iload 8, 2) := by decide +kernel
theorem dX9_come_147 : decode cX9_come 147 = .ok (.baload, 1) := by decide +kernel
theorem dX9_come_148 : decode cX9_come 148 = .ok (.ifCond .eq 33, 3) := by decide +kernel
theorem dX9_come_151 : decode cX9_come 151 = .ok (.iload 6, 2) := by decide +kernel
theorem dX9_come_153 : decode cX9_come 153 = .ok (.ifCond .eq 15, 3) := by decide +kernel
theorem dX9_come_156 : decode cX9_come 156 = .ok (.iload 7, 2) := by decide +kernel
theorem dX9_come_158 : decode cX9_come 158 = .ok (.aload_n 0, 1) := by decide +kernel
theorem dX9_come_159 : decode cX9_come 159 = .ok (.getfield 44, 3) := by decide +kernel
theorem dX9_come_162 : decode cX9_come 162 = .ok (.iload 8, 2) := by decide +kernel
theorem dX9_come_164 : decode cX9_come 164 = .ok (.iaload, 1) := by decide +kernel
theorem dX9_come_165 : decode cX9_come 165 = .ok (.if_icmp .eq 16, 3) := by decide +kernel
theorem dX9_come_168 : decode cX9_come 168 = .ok (.aload_n 0, 1) := by decide +kernel
theorem dX9_come_169 : decode cX9_come 169 = .ok (.getfield 41, 3) := by decide +kernel
theorem dX9_come_172 : decode cX9_come 172 = .ok (.iload 8, 2) := by decide +kernel
theorem dX9_come_174 : decode cX9_come 174 = .ok (.iconst 0, 1) := by decide +kernel
theorem dX9_come_175 : decode cX9_come 175 = .ok (.bastore, 1) := by decide +kernel
theorem dX9_come_176 : decode cX9_come 176 = .ok (.aload_n 0, 1) := by decide +kernel
theorem dX9_come_177 : decode cX9_come 177 = .ok (.iconst 1, 1) := by decide +kernel
theorem dX9_come_178 : decode cX9_come 178 = .ok (.putfield 139, 3) := by decide +kernel
theorem dX9_come_181 : decode cX9_come 181 = .ok (.iinc 4 1, 3) := by decide +kernel
theorem dX9_come_184 : decode cX9_come 184 = .ok (.goto (-171), 3) := by decide +kernel
theorem dX9_come_187 : decode cX9_come 187 = .ok (.aload_n 0, 1) := by decide +kernel
theorem dX9_come_188 : decode cX9_come 188 = .ok (.aload_n 0, 1) := by decide +kernel
theorem dX9_come_189 : decode cX9_come 189 = .ok (.getfield 139, 3) := by decide +kernel
theorem dX9_come_192 : decode cX9_come 192 = .ok (.ifCond .ne 12, 3) := by decide +kernel
theorem dX9_come_195 : decode cX9_come 195 = .ok (.aload_n 0, 1) := by decide +kernel
theorem dX9_come_196 : decode cX9_come 196 = .ok (.getfield 38, 3) := by decide +kernel
theorem dX9_come_199 : decode cX9_come 199 = .ok (.iload_n 1, 1) := by decide +kernel
theorem dX9_come_200 : decode cX9_come 200 = .ok (.baload, 1) := by decide +kernel
theorem dX9_come_201 : decode cX9_come 201 = .ok (.ifCond .ne 7, 3) := by decide +kernel
theorem dX9_come_204 : decode cX9_come 204 = .ok (.iconst 1, 1) := by decide +kernel
theorem dX9_come_205 : decode cX9_come 205 = .ok (.goto 4, 3) := by decide +kernel
theorem dX9_come_208 : decode cX9_come 208 = .ok (.iconst 0, 1) := by decide +kernel
theorem dX9_come_209 : decode cX9_come 209 = .ok (.putfield 139, 3) := by decide +kernel
theorem dX9_come_212 : decode cX9_come 212 = .ok (.aload_n 0, 1) := by decide +kernel
theorem dX9_come_213 : decode cX9_come 213 = .ok (.getfield 38, 3) := by decide +kernel
theorem dX9_come_216 : decode cX9_come 216 = .ok (.iload_n 1, 1) := by decide +kernel
theorem dX9_come_217 : decode cX9_come 217 = .ok (.iconst 1, 1) := by decide +kernel
theorem dX9_come_218 : decode cX9_come 218 = .ok (.bastore, 1) := by decide +kernel
theorem dX9_come_219 : decode cX9_come 219 = .ok (.return_, 1) := by decide +kernel
theorem dX9_numberIn_0 : decode cX9_numberIn 0 = .ok (.aload_n 0, 1) := by decide +kernel
theorem dX9_numberIn_1 : decode cX9_numberIn 1 = .ok (.getfield 41, 3) := by decide +kernel
theorem dX9_numberIn_4 : decode cX9_numberIn 4 = .ok (.bipush 8, 2) := by decide +kernel
theorem dX9_numberIn_6 : decode cX9_numberIn 6 = .ok (.iload_n 1, 1) := by decide +kernel
theorem dX9_numberIn_7 : decode cX9_numberIn 7 = .ok (.imul, 1) := by decide +kernel
theorem dX9_numberIn_8 : decode cX9_numberIn 8 = .ok (.iload_n 2, 1) := by decide +kernel
theorem dX9_numberIn_9 : decode cX9_numberIn 9 = .ok (.iadd, 1) := by decide +kernel
theorem dX9_numberIn_10 : decode cX9_numberIn 10 = .ok (.baload, 1) := by decide +kernel
theorem dX9_numberIn_11 : decode cX9_numberIn 11 = .ok (.ireturn, 1) := by decide +kernel
set_option maxRecDepth 20000 in
theorem ggX9_gives_X9_numberIn : GoodIn wsX9_gives wsX9_numberIn := goodIn_r _ [9, 10, 11, 12, 13, 14, 15, 16, 17, 18, 19, 20, 21, 22, 23, 24, 25, 26, 27, 28, 29, 30, 31, 32, 33, 34, 35, 36, 37, 38, 39, 40, 41, 42, 43] (by decide +kernel) (by decide +kernel)
set_option maxRecDepth 20000 in
theorem gX9_gives_X9_numberIn : GoodIn wsX9_gives (wsV RX9 142 RX9 yX9_numberIn wsX9_numberIn) := goodIn_app (goodIn_of _ (by decide +kernel)) ggX9_gives_X9_numberIn
theorem dX9_gives_0 : decode cX9_gives 0 = .ok (.aload_n 0, 1) := by decide +kernel
theorem dX9_gives_1 : decode cX9_gives 1 = .ok (.getfield 13, 3) := by decide +kernel
theorem dX9_gives_4 : decode cX9_gives 4 = .ok (.bipush 100, 2) := by decide +kernel
theorem dX9_gives_6 : decode cX9_gives 6 = .ok (.iload_n 1, 1) := by decide +kernel
theorem dX9_gives_7 : decode cX9_gives 7 = .ok (.iadd, 1) := by decide +kernel
theorem dX9_gives_8 : decode cX9_gives 8 = .ok (.iaload, 1) := by decide +kernel
theorem dX9_gives_9 : decode cX9_gives 9 = .ok (.istore_n 2, 1) := by decide +kernel
theorem dX9_gives_10 : decode cX9_gives 10 = .ok (.iload_n 2, 1) := by decide +kernel
theorem dX9_gives_11 : decode cX9_gives 11 = .ok (.iconst 1, 1) := by decide +kernel
theorem dX9_gives_12 : decode cX9_gives 12 = .ok (.if_icmp .ne 5, 3) := by decide +kernel
theorem dX9_gives_15 : decode cX9_gives 15 = .ok (.iconst 1, 1) := by decide +kernel
theorem dX9_gives_16 : decode cX9_gives 16 = .ok (.ireturn, 1) := by decide +kernel
theorem dX9_gives_17 : decode cX9_gives 17 = .ok (.iload_n 2, 1) := by decide +kernel
theorem dX9_gives_18 : decode cX9_gives 18 = .ok (.iconst 2, 1) := by decide +kernel
theorem dX9_gives_19 : decode cX9_gives 19 = .ok (.if_icmp .lt 26, 3) := by decide +kernel
theorem dX9_gives_22 : decode cX9_gives 22 = .ok (.iload_n 2, 1) := by decide +kernel
theorem dX9_gives_23 : decode cX9_gives 23 = .ok (.bipush 6, 2) := by decide +kernel
theorem dX9_gives_25 : decode cX9_gives 25 = .ok (.if_icmp .gt 20, 3) := by decide +kernel
theorem dX9_gives_28 : decode cX9_gives 28 = .ok (.aload_n 0, 1) := by decide +kernel
theorem dX9_gives_29 : decode cX9_gives 29 = .ok (.iload_n 1, 1) := by decide +kernel
theorem dX9_gives_30 : decode cX9_gives 30 = .ok (.aload_n 0, 1) := by decide +kernel
theorem dX9_gives_31 : decode cX9_gives 31 = .ok (.getfield 19, 3) := by decide +kernel
theorem dX9_gives_34 : decode cX9_gives 34 = .ok (.bipush 100, 2) := by decide +kernel
theorem dX9_gives_36 : decode cX9_gives 36 = .ok (.iload_n 1, 1) := by decide +kernel
theorem dX9_gives_37 : decode cX9_gives 37 = .ok (.iadd, 1) := by decide +kernel
theorem dX9_gives_38 : decode cX9_gives 38 = .ok (.iaload, 1) := by decide +kernel
theorem dX9_gives_39 : decode cX9_gives 39 = .ok (.invokevirtual 142, 3) := by decide +kernel
theorem dX9_gives_42 : decode cX9_gives 42 = .ok (.ifCond .ne 5, 3) := by decide +kernel
theorem dX9_gives_45 : decode cX9_gives 45 = .ok (.iconst 0, 1) := by decide +kernel
theorem dX9_gives_46 : decode cX9_gives 46 = .ok (.ireturn, 1) := by decide +kernel
theorem dX9_gives_47 : decode cX9_gives 47 = .ok (.iload_n 2, 1) := by decide +kernel
theorem dX9_gives_48 : decode cX9_gives 48 = .ok (.iconst 2, 1) := by decide +kernel
theorem dX9_gives_49 : decode cX9_gives 49 = .ok (.if_icmp .eq 48, 3) := by decide +kernel
theorem dX9_gives_52 : decode cX9_gives 52 = .ok (.aload_n 0, 1) := by decide +kernel
theorem dX9_gives_53 : decode cX9_gives 53 = .ok (.iload_n 1, 1) := by decide +kernel
theorem dX9_gives_54 : decode cX9_gives 54 = .ok (.aload_n 0, 1) := by decide +kernel
theorem dX9_gives_55 : decode cX9_gives 55 = .ok (.getfield 22, 3) := by decide +kernel
theorem dX9_gives_58 : decode cX9_gives 58 = .ok (.bipush 100, 2) := by decide +kernel
theorem dX9_gives_60 : decode cX9_gives 60 = .ok (.iload_n 1, 1) := by decide +kernel
theorem dX9_gives_61 : decode cX9_gives 61 = .ok (.iadd, 1) := by decide +kernel
theorem dX9_gives_62 : decode cX9_gives 62 = .ok (.iaload, 1) := by decide +kernel
theorem dX9_gives_63 : decode cX9_gives 63 = .ok (.invokevirtual 142, 3) := by decide +kernel
theorem dX9_gives_66 : decode cX9_gives 66 = .ok (.ifCond .eq 35, 3) := by decide +kernel
theorem dX9_gives_69 : decode cX9_gives 69 = .ok (.iload_n 2, 1) := by decide +kernel
theorem dX9_gives_70 : decode cX9_gives 70 = .ok (.bipush 6, 2) := by decide +kernel
theorem dX9_gives_72 : decode cX9_gives 72 = .ok (.if_icmp .ne 25, 3) := by decide +kernel
theorem dX9_gives_75 : decode cX9_gives 75 = .ok (.aload_n 0, 1) := by decide +kernel
theorem dX9_gives_76 : decode cX9_gives 76 = .ok (.getfield 44, 3) := by decide +kernel
theorem dX9_gives_79 : decode cX9_gives 79 = .ok (.bipush 8, 2) := by decide +kernel
theorem dX9_gives_81 : decode cX9_gives 81 = .ok (.iload_n 1, 1) := by decide +kernel
theorem dX9_gives_82 : decode cX9_gives 82 = .ok (.imul, 1) := by decide +kernel
theorem dX9_gives_83 : decode cX9_gives 83 = .ok (.aload_n 0, 1) := by decide +kernel
theorem dX9_gives_84 : decode cX9_gives 84 = .ok (.getfield 22, 3) := by decide +kernel
theorem dX9_gives_87 : decode cX9_gives 87 = .ok (.bipush 100, 2) := by decide +kernel
theorem dX9_gives_89 : decode cX9_gives 89 = .ok (.iload_n 1, 1) := by decide +kernel
theorem dX9_gives_90 : decode cX9_gives 90 = .ok (.iadd, 1) := by decide +kernel
theorem dX9_gives_91 : decode cX9_gives 91 = .ok (.iaload, 1) := by decide +kernel
theorem dX9_gives_92 : decode cX9_gives 92 = .ok (.iadd, 1) := by decide +kernel
theorem dX9_gives_93 : decode cX9_gives 93 = .ok (.iaload, 1) := by decide +kernel
theorem dX9_gives_94 : decode cX9_gives 94 = .ok (.ifCond .eq 7, 3) := by decide +kernel
theorem dX9_gives_97 : decode cX9_gives 97 = .ok (.iconst 1, 1) := by decide +kernel
theorem dX9_gives_98 : decode cX9_gives 98 = .ok (.goto 4, 3) := by decide +kernel
theorem dX9_gives_101 : decode cX9_gives 101 = .ok (.iconst 0, 1) := by decide +kernel
theorem dX9_gives_102 : decode cX9_gives 102 = .ok (.ireturn, 1) := by decide +kernel
set_option maxRecDepth 20000 in
theorem ggX9_given_X9_gives : GoodIn wsX9_given wsX9_gives := goodIn_r _ [9, 1, 2, 4, 3, 10, 11, 12, 8, 13, 14, 18, 19, 20, 21, 22, 23, 24, 25, 26, 27, 28, 29, 30, 31, 32, 33, 34, 35, 36, 37, 38, 39, 40, 41, 42, 43, 44, 45, 46, 47, 48, 49, 50] (by decide +kernel) (by decide +kernel)
set_option maxRecDepth 20000 in
theorem gX9_given_X9_gives : GoodIn wsX9_given (wsV RX9 132 RX9 yX9_gives wsX9_gives) := goodIn_app (goodIn_of _ (by decide +kernel)) ggX9_given_X9_gives
set_option maxRecDepth 20000 in
theorem ggX9_given_X9_reckon : GoodIn wsX9_given wsX9_reckon := goodIn_r _ [17] (by decide +kernel) (by decide +kernel)
set_option maxRecDepth 20000 in
theorem gX9_given_X9_reckon : GoodIn wsX9_given (va_wsS RX9 145 yX9_reckon wsX9_reckon) := goodIn_app (goodIn_of _ (by decide +kernel)) ggX9_given_X9_reckon
theorem dX9_given_0 : decode cX9_given 0 = .ok (.aload_n 0, 1) := by decide +kernel
theorem dX9_given_1 : decode cX9_given 1 = .ok (.getfield 13, 3) := by decide +kernel
theorem dX9_given_4 : decode cX9_given 4 = .ok (.bipush 100, 2) := by decide +kernel
theorem dX9_given_6 : decode cX9_given 6 = .ok (.iload_n 1, 1) := by decide +kernel
theorem dX9_given_7 : decode cX9_given 7 = .ok (.iadd, 1) := by decide +kernel
theorem dX9_given_8 : decode cX9_given 8 = .ok (.iaload, 1) := by decide +kernel
theorem dX9_given_9 : decode cX9_given 9 = .ok (.istore_n 2, 1) := by decide +kernel
theorem dX9_given_10 : decode cX9_given 10 = .ok (.aload_n 0, 1) := by decide +kernel
theorem dX9_given_11 : decode cX9_given 11 = .ok (.iload_n 1, 1) := by decide +kernel
theorem dX9_given_12 : decode cX9_given 12 = .ok (.invokevirtual 132, 3) := by decide +kernel
theorem dX9_given_15 : decode cX9_given 15 = .ok (.ifCond .ne 5, 3) := by decide +kernel
theorem dX9_given_18 : decode cX9_given 18 = .ok (.iconst 0, 1) := by decide +kernel
theorem dX9_given_19 : decode cX9_given 19 = .ok (.ireturn, 1) := by decide +kernel
theorem dX9_given_20 : decode cX9_given 20 = .ok (.iload_n 2, 1) := by decide +kernel
theorem dX9_given_21 : decode cX9_given 21 = .ok (.iconst 1, 1) := by decide +kernel
theorem dX9_given_22 : decode cX9_given 22 = .ok (.if_icmp .ne 13, 3) := by decide +kernel
theorem dX9_given_25 : decode cX9_given 25 = .ok (.aload_n 0, 1) := by decide +kernel
theorem dX9_given_26 : decode cX9_given 26 = .ok (.getfield 19, 3) := by decide +kernel
theorem dX9_given_29 : decode cX9_given 29 = .ok (.bipush 100, 2) := by decide +kernel
theorem dX9_given_31 : decode cX9_given 31 = .ok (.iload_n 1, 1) := by decide +kernel
theorem dX9_given_32 : decode cX9_given 32 = .ok (.iadd, 1) := by decide +kernel
theorem dX9_given_33 : decode cX9_given 33 = .ok (.iaload, 1) := by decide +kernel
theorem dX9_given_34 : decode cX9_given 34 = .ok (.ireturn, 1) := by decide +kernel
theorem dX9_given_35 : decode cX9_given 35 = .ok (.aload_n 0, 1) := by decide +kernel
theorem dX9_given_36 : decode cX9_given 36 = .ok (.getfield 44, 3) := by decide +kernel
theorem dX9_given_39 : decode cX9_given 39 = .ok (.bipush 8, 2) := by decide +kernel
theorem dX9_given_41 : decode cX9_given 41 = .ok (.iload_n 1, 1) := by decide +kernel
