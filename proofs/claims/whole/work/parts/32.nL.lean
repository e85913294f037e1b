set_option maxRecDepth 20000 in
theorem ggL_instruction_X8_instruction : GoodIn wsL_instruction wsX8_instruction := goodIn_ca (goodIn_ca (goodIn_r _ [7, 8, 9, 10, 11, 12, 13, 14, 15, 16, 17, 18, 19, 20, 21, 22, 23, 24, 25, 26, 27, 28, 29, 30, 31, 32, 33, 34, 35, 36, 37, 38, 39, 40, 41, 42, 43, 44, 45, 46, 47, 48, 49, 50, 51, 52, 53, 54, 55, 56, 57, 58, 59, 60, 61, 62, 63, 64, 65, 66, 67, 68, 69] (by decide +kernel) (by decide +kernel)) (goodIn_sub (fun _ h => List.mem_cons_of_mem _ (List.mem_append_left _ (List.mem_append_right _ h))) (by decide +kernel))) (goodIn_sub (fun _ h => List.mem_cons_of_mem _ (List.mem_append_right _ h)) (by decide +kernel))
set_option maxRecDepth 20000 in
theorem gL_instruction_X8_instruction : GoodIn wsL_instruction (wsV RL 7 RX8 yX8_instruction wsX8_instruction) := goodIn_app (goodIn_of _ (by decide +kernel)) ggL_instruction_X8_instruction
theorem dL_instruction_0 : decode cL_instruction 0 = .ok (.aload 5, 2) := by decide +kernel
theorem dL_instruction_2 : decode cL_instruction 2 = .ok (.iconst 0, 1) := by decide +kernel
theorem dL_instruction_3 : decode cL_instruction 3 = .ok (.aload_n 0, 1) := by decide +kernel
theorem dL_instruction_4 : decode cL_instruction 4 = .ok (.iload_n 1, 1) := by decide +kernel
theorem dL_instruction_5 : decode cL_instruction 5 = .ok (.iload_n 2, 1) := by decide +kernel
theorem dL_instruction_6 : decode cL_instruction 6 = .ok (.iload_n 3, 1) := by decide +kernel
theorem dL_instruction_7 : decode cL_instruction 7 = .ok (.iload 4, 2) := by decide +kernel
theorem dL_instruction_9 : decode cL_instruction 9 = .ok (.invokevirtual 7, 3) := by decide +kernel
theorem dL_instruction_12 : decode cL_instruction 12 = .ok (.i2l, 1) := by decide +kernel
theorem dL_instruction_13 : decode cL_instruction 13 = .ok (.lastore, 1) := by decide +kernel
theorem dL_instruction_14 : decode cL_instruction 14 = .ok (.goto 11, 3) := by decide +kernel
theorem dL_instruction_17 : decode cL_instruction 17 = .ok (.astore 6, 2) := by decide +kernel
theorem dL_instruction_19 : decode cL_instruction 19 = .ok (.iconst 1, 1) := by decide +kernel
theorem dL_instruction_20 : decode cL_instruction 20 = .ok (.ireturn, 1) := by decide +kernel
theorem dL_instruction_21 : decode cL_instruction 21 = .ok (.astore 6, 2) := by decide +kernel
theorem dL_instruction_23 : decode cL_instruction 23 = .ok (.iconst 2, 1) := by decide +kernel
theorem dL_instruction_24 : decode cL_instruction 24 = .ok (.ireturn, 1) := by decide +kernel
theorem dL_instruction_25 : decode cL_instruction 25 = .ok (.iconst 0, 1) := by decide +kernel
theorem dL_instruction_26 : decode cL_instruction 26 = .ok (.ireturn, 1) := by decide +kernel
set_option maxRecDepth 20000 in
theorem ggL_take_X8_take : GoodIn wsL_take wsX8_take := goodIn_ca (goodIn_r _ [6, 7, 8, 9, 10, 11, 12, 13, 14, 15, 16, 17, 18, 19, 20, 21, 22, 23, 24, 25, 26, 27, 28, 29, 30, 31, 32, 33, 34, 35, 36, 37, 38, 39, 40, 41, 42, 43, 44, 45, 46, 47, 48, 49, 50, 51, 52, 53, 54, 55, 56, 57, 58, 59, 60] (by decide +kernel) (by decide +kernel)) (goodIn_sub (fun _ h => List.mem_cons_of_mem _ (List.mem_append_right _ h)) (by decide +kernel))
set_option maxRecDepth 20000 in
theorem gL_take_X8_take : GoodIn wsL_take (wsV RL 17 RX8 yX8_take wsX8_take) := goodIn_app (goodIn_of _ (by decide +kernel)) ggL_take_X8_take
theorem dL_take_0 : decode cL_take 0 = .ok (.aload_n 1, 1) := by decide +kernel
theorem dL_take_1 : decode cL_take 1 = .ok (.iconst 0, 1) := by decide +kernel
theorem dL_take_2 : decode cL_take 2 = .ok (.aload_n 0, 1) := by decide +kernel
theorem dL_take_3 : decode cL_take 3 = .ok (.invokevirtual 17, 3) := by decide +kernel
theorem dL_take_6 : decode cL_take 6 = .ok (.i2l, 1) := by decide +kernel
theorem dL_take_7 : decode cL_take 7 = .ok (.lastore, 1) := by decide +kernel
theorem dL_take_8 : decode cL_take 8 = .ok (.goto 6, 3) := by decide +kernel
theorem dL_take_11 : decode cL_take 11 = .ok (.astore_n 2, 1) := by decide +kernel
theorem dL_take_12 : decode cL_take 12 = .ok (.iconst 1, 1) := by decide +kernel
theorem dL_take_13 : decode cL_take 13 = .ok (.ireturn, 1) := by decide +kernel
theorem dL_take_14 : decode cL_take 14 = .ok (.iconst 0, 1) := by decide +kernel
theorem dL_take_15 : decode cL_take 15 = .ok (.ireturn, 1) := by decide +kernel
set_option maxRecDepth 20000 in
theorem ggL_pass_X8_pass : GoodIn wsL_pass wsX8_pass := goodIn_ca (goodIn_ca (goodIn_r _ [7, 8, 9, 10, 11, 12, 13, 14, 15, 16, 17, 18, 19, 20, 21, 22, 23, 24, 25, 26, 27, 28, 29, 30, 31, 32, 33, 34, 35, 36, 37, 38, 39, 40, 41, 42, 43, 44, 45, 46, 47, 48, 49, 50, 51, 52, 53, 54, 55, 56, 57, 58, 59, 60, 61, 62, 63, 64, 65, 66, 67, 68, 69, 70, 71, 72, 73, 74, 75, 76, 77, 78, 79, 80, 81, 82, 83, 84, 85, 86, 87, 88, 89, 90, 91, 92, 93, 94, 95, 96, 97, 98, 99, 100, 101, 102, 103, 104, 105, 106, 107, 108, 109, 110, 111, 112, 113, 114, 115, 116, 117, 118, 119, 120, 121, 122, 123, 124, 125, 126, 127, 128, 129, 130, 131, 132, 133, 134, 135, 136, 137, 138, 139, 140, 141, 142, 143, 144, 145, 146, 147, 148, 149, 150, 151, 152, 153, 154, 155, 156, 157, 158, 159, 160, 161, 162, 163, 164, 165, 166, 167, 168, 169, 170, 171, 172, 173, 174, 175, 176, 177, 178, 179, 180, 181, 182, 183, 184, 185, 186, 187, 188, 189, 190, 191, 192, 6, 193, 194, 195, 196, 197, 198, 199, 200, 201, 202, 203, 204, 205, 206, 207, 208, 209, 210, 211, 212, 213, 214, 215, 216, 217, 218, 219, 220, 221, 222, 223, 224, 225, 226, 227, 228, 229, 230, 231, 232, 233, 234, 235, 236, 237, 238, 239, 240, 241, 242, 243, 244, 245, 246, 247, 248, 249, 250, 251, 252, 253, 254, 255, 256, 257, 258, 259, 260, 261, 262, 263, 264, 265, 266, 267, 268, 269, 270, 271, 272, 273, 274, 275, 276, 277, 278, 279, 280, 281, 282, 283, 284, 285, 286, 287, 288, 289, 290, 291, 292, 293, 294, 295, 296, 297, 298, 299, 300, 301, 302, 303] (by decide +kernel) (by decide +kernel)) (goodIn_sub (fun _ h => List.mem_cons_of_mem _ (List.mem_append_left _ (List.mem_append_right _ h))) (by decide +kernel))) (goodIn_sub (fun _ h => List.mem_cons_of_mem _ (List.mem_append_right _ h)) (by decide +kernel))
set_option maxRecDepth 20000 in
theorem gL_pass_X8_pass : GoodIn wsL_pass (wsV RL 21 RX8 yX8_pass wsX8_pass) := goodIn_app (goodIn_of _ (by decide +kernel)) ggL_pass_X8_pass
theorem dL_pass_0 : decode cL_pass 0 = .ok (.aload_n 2, 1) := by decide +kernel
theorem dL_pass_1 : decode cL_pass 1 = .ok (.iconst 0, 1) := by decide +kernel
theorem dL_pass_2 : decode cL_pass 2 = .ok (.aload_n 0, 1) := by decide +kernel
theorem dL_pass_3 : decode cL_pass 3 = .ok (.iload_n 1, 1) := by decide +kernel
theorem dL_pass_4 : decode cL_pass 4 = .ok (.invokevirtual 21, 3) := by decide +kernel
theorem dL_pass_7 : decode cL_pass 7 = .ok (.i2l, 1) := by decide +kernel
theorem dL_pass_8 : decode cL_pass 8 = .ok (.lastore, 1) := by decide +kernel
theorem dL_pass_9 : decode cL_pass 9 = .ok (.goto 9, 3) := by decide +kernel
theorem dL_pass_12 : decode cL_pass 12 = .ok (.astore_n 3, 1) := by decide +kernel
theorem dL_pass_13 : decode cL_pass 13 = .ok (.iconst 1, 1) := by decide +kernel
theorem dL_pass_14 : decode cL_pass 14 = .ok (.ireturn, 1) := by decide +kernel
theorem dL_pass_15 : decode cL_pass 15 = .ok (.astore_n 3, 1) := by decide +kernel
theorem dL_pass_16 : decode cL_pass 16 = .ok (.iconst 2, 1) := by decide +kernel
theorem dL_pass_17 : decode cL_pass 17 = .ok (.ireturn, 1) := by decide +kernel
theorem dL_pass_18 : decode cL_pass 18 = .ok (.iconst 0, 1) := by decide +kernel
theorem dL_pass_19 : decode cL_pass 19 = .ok (.ireturn, 1) := by decide +kernel
set_option maxRecDepth 20000 in
theorem ggL_allocate_X8_allocate : GoodIn wsL_allocate wsX8_allocate := goodIn_ca (goodIn_ca (goodIn_r _ [7, 8, 9, 10, 11, 12, 13, 14, 15, 16, 17, 18, 19, 20, 21, 22, 23, 24, 25, 26, 27, 28, 29, 30, 31, 32, 33, 34, 35, 36, 37, 38, 39, 40, 41, 42, 43, 44, 45, 46, 47, 48, 49, 50, 51, 52, 53, 54, 55, 56, 57, 58, 59, 60, 61, 62, 63, 64, 65, 66, 67, 68, 69, 70, 71, 72, 73, 74, 75, 76, 77, 78, 79, 80, 81, 82, 83, 84, 85, 86, 87, 88, 89, 90, 91, 92, 93, 94, 95, 96, 97, 98, 99, 100, 101, 102, 103, 104, 105, 106, 107, 108, 109, 110, 111, 112, 113, 114, 115, 116, 117, 118, 119, 120, 121, 122, 123, 124, 125, 126, 127, 128, 129, 130, 131, 132, 133, 134, 135, 136, 137, 138, 139, 140, 141, 142, 143, 144, 145, 146, 147, 148, 149, 150, 151, 152, 153, 154, 155, 156, 157, 158, 159, 160, 161, 162, 163, 164, 165, 166, 167] (by decide +kernel) (by decide +kernel)) (goodIn_sub (fun _ h => List.mem_cons_of_mem _ (List.mem_append_left _ (List.mem_append_right _ h))) (by decide +kernel))) (goodIn_sub (fun _ h => List.mem_cons_of_mem _ (List.mem_append_right _ h)) (by decide +kernel))
set_option maxRecDepth 20000 in
theorem gL_allocate_X8_allocate : GoodIn wsL_allocate (wsV RL 25 RX8 yX8_allocate wsX8_allocate) := goodIn_app (goodIn_of _ (by decide +kernel)) ggL_allocate_X8_allocate
theorem dL_allocate_0 : decode cL_allocate 0 = .ok (.aload_n 2, 1) := by decide +kernel
theorem dL_allocate_1 : decode cL_allocate 1 = .ok (.iconst 0, 1) := by decide +kernel
theorem dL_allocate_2 : decode cL_allocate 2 = .ok (.aload_n 0, 1) := by decide +kernel
theorem dL_allocate_3 : decode cL_allocate 3 = .ok (.iload_n 1, 1) := by decide +kernel
theorem dL_allocate_4 : decode cL_allocate 4 = .ok (.invokevirtual 25, 3) := by decide +kernel
theorem dL_allocate_7 : decode cL_allocate 7 = .ok (.i2l, 1) := by decide +kernel
theorem dL_allocate_8 : decode cL_allocate 8 = .ok (.lastore, 1) := by decide +kernel
theorem dL_allocate_9 : decode cL_allocate 9 = .ok (.goto 9, 3) := by decide +kernel
theorem dL_allocate_12 : decode cL_allocate 12 = .ok (.astore_n 3, 1) := by decide +kernel
theorem dL_allocate_13 : decode cL_allocate 13 = .ok (.iconst 1, 1) := by decide +kernel
theorem dL_allocate_14 : decode cL_allocate 14 = .ok (.ireturn, 1) := by decide +kernel
theorem dL_allocate_15 : decode cL_allocate 15 = .ok (.astore_n 3, 1) := by decide +kernel
theorem dL_allocate_16 : decode cL_allocate 16 = .ok (.iconst 2, 1) := by decide +kernel
theorem dL_allocate_17 : decode cL_allocate 17 = .ok (.ireturn, 1) := by decide +kernel
theorem dL_allocate_18 : decode cL_allocate 18 = .ok (.iconst 0, 1) := by decide +kernel
theorem dL_allocate_19 : decode cL_allocate 19 = .ok (.ireturn, 1) := by decide +kernel
set_option maxRecDepth 20000 in
theorem ggL_home_X8_home : GoodIn wsL_home wsX8_home := goodIn_ca (goodIn_ca (goodIn_r _ [7, 8, 9, 10, 11, 12, 13, 14, 15, 16, 17, 18, 19, 20, 21, 22, 23, 24, 25, 26, 27, 28, 29, 30, 31, 32, 33, 34] (by decide +kernel) (by decide +kernel)) (goodIn_sub (fun _ h => List.mem_cons_of_mem _ (List.mem_append_left _ (List.mem_append_right _ h))) (by decide +kernel))) (goodIn_sub (fun _ h => List.mem_cons_of_mem _ (List.mem_append_right _ h)) (by decide +kernel))
set_option maxRecDepth 20000 in
theorem gL_home_X8_home : GoodIn wsL_home (wsV RL 28 RX8 yX8_home wsX8_home) := goodIn_app (goodIn_of _ (by decide +kernel)) ggL_home_X8_home
theorem dL_home_0 : decode cL_home 0 = .ok (.aload_n 2, 1) := by decide +kernel
theorem dL_home_1 : decode cL_home 1 = .ok (.iconst 0, 1) := by decide +kernel
theorem dL_home_2 : decode cL_home 2 = .ok (.aload_n 0, 1) := by decide +kernel
theorem dL_home_3 : decode cL_home 3 = .ok (.iload_n 1, 1) := by decide +kernel
theorem dL_home_4 : decode cL_home 4 = .ok (.invokevirtual 28, 3) := by decide +kernel
theorem dL_home_7 : decode cL_home 7 = .ok (.i2l, 1) := by decide +kernel
theorem dL_home_8 : decode cL_home 8 = .ok (.lastore, 1) := by decide +kernel
theorem dL_home_9 : decode cL_home 9 = .ok (.goto 9, 3) := by decide +kernel
theorem dL_home_12 : decode cL_home 12 = .ok (.astore_n 3, 1) := by decide +kernel
theorem dL_home_13 : decode cL_home 13 = .ok (.iconst 1, 1) := by decide +kernel
theorem dL_home_14 : decode cL_home 14 = .ok (.ireturn, 1) := by decide +kernel
theorem dL_home_15 : decode cL_home 15 = .ok (.astore_n 3, 1) := by decide +kernel
theorem dL_home_16 : decode cL_home 16 = .ok (.iconst 2, 1) := by decide +kernel
theorem dL_home_17 : decode cL_home 17 = .ok (.ireturn, 1) := by decide +kernel
theorem dL_home_18 : decode cL_home 18 = .ok (.iconst 0, 1) := by decide +kernel
theorem dL_home_19 : decode cL_home 19 = .ok (.ireturn, 1) := by decide +kernel
set_option maxRecDepth 20000 in
theorem ggL_restore_X8_restore : GoodIn wsL_restore wsX8_restore := goodIn_ca (goodIn_r _ [6, 7, 8, 9, 10, 11, 12, 13, 14, 15, 16, 17, 18, 19, 20, 21, 22, 23, 24, 25, 26, 27, 28, 29, 30, 31, 32, 33, 34, 35, 36, 37, 38, 39, 40, 41, 42, 43, 44, 45, 46] (by decide +kernel) (by decide +kernel)) (goodIn_sub (fun _ h => List.mem_cons_of_mem _ (List.mem_append_right _ h)) (by decide +kernel))
set_option maxRecDepth 20000 in
theorem gL_restore_X8_restore : GoodIn wsL_restore (wsV RL 33 RX8 yX8_restore wsX8_restore) := goodIn_app (goodIn_of _ (by decide +kernel)) ggL_restore_X8_restore
theorem dL_restore_0 : decode cL_restore 0 = .ok (.aload_n 0, 1) := by decide +kernel
theorem dL_restore_1 : decode cL_restore 1 = .ok (.invokevirtual 33, 3) := by decide +kernel
theorem dL_restore_4 : decode cL_restore 4 = .ok (.goto 6, 3) := by decide +kernel
theorem dL_restore_7 : decode cL_restore 7 = .ok (.astore_n 1, 1) := by decide +kernel
theorem dL_restore_8 : decode cL_restore 8 = .ok (.iconst 1, 1) := by decide +kernel
theorem dL_restore_9 : decode cL_restore 9 = .ok (.ireturn, 1) := by decide +kernel
theorem dL_restore_10 : decode cL_restore 10 = .ok (.iconst 0, 1) := by decide +kernel
theorem dL_restore_11 : decode cL_restore 11 = .ok (.ireturn, 1) := by decide +kernel
set_option maxRecDepth 20000 in
theorem ggL_look_X8_look : GoodIn wsL_look wsX8_look := goodIn_ca (goodIn_ca (goodIn_r _ [7, 8, 9, 10, 11, 12, 13, 14, 15, 16, 17, 18, 19, 6, 20, 21, 22, 23, 24, 25, 26, 27, 28, 29, 30, 31, 32, 33, 34, 35, 36, 37, 38] (by decide +kernel) (by decide +kernel)) (goodIn_sub (fun _ h => List.mem_cons_of_mem _ (List.mem_append_left _ (List.mem_append_right _ h))) (by decide +kernel))) (goodIn_sub (fun _ h => List.mem_cons_of_mem _ (List.mem_append_right _ h)) (by decide +kernel))
set_option maxRecDepth 20000 in
theorem gL_look_X8_look : GoodIn wsL_look (wsV RL 36 RX8 yX8_look wsX8_look) := goodIn_app (goodIn_of _ (by decide +kernel)) ggL_look_X8_look
theorem dL_look_0 : decode cL_look 0 = .ok (.aload 4, 2) := by decide +kernel
theorem dL_look_2 : decode cL_look 2 = .ok (.iconst 0, 1) := by decide +kernel
theorem dL_look_3 : decode cL_look 3 = .ok (.aload_n 0, 1) := by decide +kernel
theorem dL_look_4 : decode cL_look 4 = .ok (.iload_n 1, 1) := by decide +kernel
theorem dL_look_5 : decode cL_look 5 = .ok (.iload_n 2, 1) := by decide +kernel
theorem dL_look_6 : decode cL_look 6 = .ok (.iload_n 3, 1) := by decide +kernel
theorem dL_look_7 : decode cL_look 7 = .ok (.invokevirtual 36, 3) := by decide +kernel
theorem dL_look_10 : decode cL_look 10 = .ok (.i2l, 1) := by decide +kernel
theorem dL_look_11 : decode cL_look 11 = .ok (.lastore, 1) := by decide +kernel
theorem dL_look_12 : decode cL_look 12 = .ok (.goto 11, 3) := by decide +kernel
theorem dL_look_15 : decode cL_look 15 = .ok (.astore 5, 2) := by decide +kernel
theorem dL_look_17 : decode cL_look 17 = .ok (.iconst 1, 1) := by decide +kernel
theorem dL_look_18 : decode cL_look 18 = .ok (.ireturn, 1) := by decide +kernel
theorem dL_look_19 : decode cL_look 19 = .ok (.astore 5, 2) := by decide +kernel
theorem dL_look_21 : decode cL_look 21 = .ok (.iconst 2, 1) := by decide +kernel
theorem dL_look_22 : decode cL_look 22 = .ok (.ireturn, 1) := by decide +kernel
theorem dL_look_23 : decode cL_look 23 = .ok (.iconst 0, 1) := by decide +kernel
theorem dL_look_24 : decode cL_look 24 = .ok (.ireturn, 1) := by decide +kernel
set_option maxRecDepth 20000 in
theorem ggL_poke_X8_poke : GoodIn wsL_poke wsX8_poke := goodIn_ca (goodIn_r _ [6, 7, 8, 9, 10, 11, 12, 13, 14, 15, 16, 17, 18, 19, 20, 21, 22, 23, 24, 25, 26, 27, 28, 29, 30, 31, 32, 33, 34] (by decide +kernel) (by decide +kernel)) (goodIn_sub (fun _ h => List.mem_cons_of_mem _ (List.mem_append_right _ h)) (by decide +kernel))
set_option maxRecDepth 20000 in
theorem gL_poke_X8_poke : GoodIn wsL_poke (wsV RL 40 RX8 yX8_poke wsX8_poke) := goodIn_app (goodIn_of _ (by decide +kernel)) ggL_poke_X8_poke
theorem dL_poke_0 : decode cL_poke 0 = .ok (.aload_n 0, 1) := by decide +kernel
theorem dL_poke_1 : decode cL_poke 1 = .ok (.iload_n 1, 1) := by decide +kernel
theorem dL_poke_2 : decode cL_poke 2 = .ok (.iload_n 2, 1) := by decide +kernel
theorem dL_poke_3 : decode cL_poke 3 = .ok (.invokevirtual 40, 3) := by decide +kernel
theorem dL_poke_6 : decode cL_poke 6 = .ok (.goto 6, 3) := by decide +kernel
theorem dL_poke_9 : decode cL_poke 9 = .ok (.astore_n 3, 1) := by decide +kernel
theorem dL_poke_10 : decode cL_poke 10 = .ok (.iconst 1, 1) := by decide +kernel
theorem dL_poke_11 : decode cL_poke 11 = .ok (.ireturn, 1) := by decide +kernel
theorem dL_poke_12 : decode cL_poke 12 = .ok (.iconst 0, 1) := by decide +kernel
theorem dL_poke_13 : decode cL_poke 13 = .ok (.ireturn, 1) := by decide +kernel
set_option maxRecDepth 20000 in
theorem ggL_run_X8_run : GoodIn wsL_run wsX8_run := goodIn_ca (goodIn_r _ [6, 7, 8, 9, 10, 11, 12, 13, 14, 5, 15, 16, 17, 18, 19, 20, 21, 22, 23, 24, 25, 26, 27, 28, 29, 30, 31, 32, 33, 34, 35, 36, 37, 38, 39, 40, 41, 42, 43, 44, 45, 46, 47, 48, 49, 50, 51, 52, 53, 54, 55, 56, 57, 58, 59, 60, 61, 62, 63, 64, 65, 66, 67, 68, 69, 70, 71, 72, 73, 74, 75, 76, 77, 78, 79, 80, 81, 82, 83, 84, 85, 86, 87, 88, 89, 90, 91, 92, 93, 94, 95, 96, 97, 98, 99, 100] (by decide +kernel) (by decide +kernel)) (goodIn_sub (fun _ h => List.mem_cons_of_mem _ (List.mem_append_right _ h)) (by decide +kernel))
set_option maxRecDepth 20000 in
theorem gL_run_X8_run : GoodIn wsL_run (wsV RL 44 RX8 yX8_run wsX8_run) := goodIn_app (goodIn_of _ (by decide +kernel)) ggL_run_X8_run
theorem dL_run_0 : decode cL_run 0 = .ok (.aload 4, 2) := by decide +kernel
theorem dL_run_2 : decode cL_run 2 = .ok (.iconst 0, 1) := by decide +kernel
theorem dL_run_3 : decode cL_run 3 = .ok (.aload_n 0, 1) := by decide +kernel
theorem dL_run_4 : decode cL_run 4 = .ok (.iload_n 1, 1) := by decide +kernel
theorem dL_run_5 : decode cL_run 5 = .ok (.iload_n 2, 1) := by decide +kernel
theorem dL_run_6 : decode cL_run 6 = .ok (.iload_n 3, 1) := by decide +kernel
theorem dL_run_7 : decode cL_run 7 = .ok (.invokevirtual 44, 3) := by decide +kernel
theorem dL_run_10 : decode cL_run 10 = .ok (.i2l, 1) := by decide +kernel
theorem dL_run_11 : decode cL_run 11 = .ok (.lastore, 1) := by decide +kernel
theorem dL_run_12 : decode cL_run 12 = .ok (.goto 7, 3) := by decide +kernel
theorem dL_run_15 : decode cL_run 15 = .ok (.astore 5, 2) := by decide +kernel
theorem dL_run_17 : decode cL_run 17 = .ok (.iconst 1, 1) := by decide +kernel
theorem dL_run_18 : decode cL_run 18 = .ok (.ireturn, 1) := by decide +kernel
theorem dL_run_19 : decode cL_run 19 = .ok (.iconst 0, 1) := by decide +kernel
theorem dL_run_20 : decode cL_run 20 = .ok (.ireturn, 1) := by decide +kernel
set_option maxRecDepth 20000 in
theorem ggL_value_X8_value : GoodIn wsL_value wsX8_value := goodIn_ca (goodIn_r _ [6, 7, 8, 9, 10, 11, 12, 13, 14, 15, 16, 17, 18, 19, 20, 21, 22, 23, 24, 25, 26, 27, 28, 29, 30, 31] (by decide +kernel) (by decide +kernel)) (goodIn_sub (fun _ h => List.mem_cons_of_mem _ (List.mem_append_right _ h)) (by decide +kernel))
set_option maxRecDepth 20000 in
theorem gL_value_X8_value : GoodIn wsL_value (wsV RL 47 RX8 yX8_value wsX8_value) := goodIn_app (goodIn_of _ (by decide +kernel)) ggL_value_X8_value
theorem dL_value_0 : decode cL_value 0 = .ok (.aload_n 1, 1) := by decide +kernel
theorem dL_value_1 : decode cL_value 1 = .ok (.iconst 0, 1) := by decide +kernel
theorem dL_value_2 : decode cL_value 2 = .ok (.aload_n 0, 1) := by decide +kernel
theorem dL_value_3 : decode cL_value 3 = .ok (.invokevirtual 47, 3) := by decide +kernel
theorem dL_value_6 : decode cL_value 6 = .ok (.i2l, 1) := by decide +kernel
theorem dL_value_7 : decode cL_value 7 = .ok (.lastore, 1) := by decide +kernel
theorem dL_value_8 : decode cL_value 8 = .ok (.goto 6, 3) := by decide +kernel
theorem dL_value_11 : decode cL_value 11 = .ok (.astore_n 2, 1) := by decide +kernel
theorem dL_value_12 : decode cL_value 12 = .ok (.iconst 1, 1) := by decide +kernel
theorem dL_value_13 : decode cL_value 13 = .ok (.ireturn, 1) := by decide +kernel
theorem dL_value_14 : decode cL_value 14 = .ok (.iconst 0, 1) := by decide +kernel
theorem dL_value_15 : decode cL_value 15 = .ok (.ireturn, 1) := by decide +kernel
set_option maxRecDepth 20000 in
theorem ggL_cell_X8_cell : GoodIn wsL_cell wsX8_cell := goodIn_ca (goodIn_r _ [6, 7, 8, 9, 10, 11, 12, 13, 14, 15, 16, 17, 18, 19, 20, 21, 22, 23, 24, 25, 26, 27, 28, 29, 30, 31, 32, 33, 34, 35, 36] (by decide +kernel) (by decide +kernel)) (goodIn_sub (fun _ h => List.mem_cons_of_mem _ (List.mem_append_right _ h)) (by decide +kernel))
set_option maxRecDepth 20000 in
theorem gL_cell_X8_cell : GoodIn wsL_cell (wsV RL 50 RX8 yX8_cell wsX8_cell) := goodIn_app (goodIn_of _ (by decide +kernel)) ggL_cell_X8_cell
theorem dL_cell_0 : decode cL_cell 0 = .ok (.aload_n 2, 1) := by decide +kernel
theorem dL_cell_1 : decode cL_cell 1 = .ok (.iconst 0, 1) := by decide +kernel
theorem dL_cell_2 : decode cL_cell 2 = .ok (.aload_n 0, 1) := by decide +kernel
theorem dL_cell_3 : decode cL_cell 3 = .ok (.iload_n 1, 1) := by decide +kernel
theorem dL_cell_4 : decode cL_cell 4 = .ok (.invokevirtual 50, 3) := by decide +kernel
theorem dL_cell_7 : decode cL_cell 7 = .ok (.i2l, 1) := by decide +kernel
theorem dL_cell_8 : decode cL_cell 8 = .ok (.lastore, 1) := by decide +kernel
theorem dL_cell_9 : decode cL_cell 9 = .ok (.goto 6, 3) := by decide +kernel
theorem dL_cell_12 : decode cL_cell 12 = .ok (.astore_n 3, 1) := by decide +kernel
theorem dL_cell_13 : decode cL_cell 13 = .ok (.iconst 1, 1) := by decide +kernel
theorem dL_cell_14 : decode cL_cell 14 = .ok (.ireturn, 1) := by decide +kernel
theorem dL_cell_15 : decode cL_cell 15 = .ok (.iconst 0, 1) := by decide +kernel
theorem dL_cell_16 : decode cL_cell 16 = .ok (.ireturn, 1) := by decide +kernel
set_option maxRecDepth 20000 in
theorem ggL_traced_X8_traced : GoodIn wsL_traced wsX8_traced := goodIn_ca (goodIn_r _ [6, 7, 8, 9, 10, 11, 12, 13, 14, 15, 16, 17, 18, 19, 20, 21, 22, 23, 24, 25, 26, 27, 28, 29, 30, 31] (by decide +kernel) (by decide +kernel)) (goodIn_sub (fun _ h => List.mem_cons_of_mem _ (List.mem_append_right _ h)) (by decide +kernel))
set_option maxRecDepth 20000 in
theorem gL_traced_X8_traced : GoodIn wsL_traced (wsV RL 53 RX8 yX8_traced wsX8_traced) := goodIn_app (goodIn_of _ (by decide +kernel)) ggL_traced_X8_traced
theorem dL_traced_0 : decode cL_traced 0 = .ok (.aload_n 2, 1) := by decide +kernel
theorem dL_traced_1 : decode cL_traced 1 = .ok (.iconst 0, 1) := by decide +kernel
theorem dL_traced_2 : decode cL_traced 2 = .ok (.aload_n 0, 1) := by decide +kernel
theorem dL_traced_3 : decode cL_traced 3 = .ok (.iload_n 1, 1) := by decide +kernel
theorem dL_traced_4 : decode cL_traced 4 = .ok (.invokevirtual 53, 3) := by decide +kernel
theorem dL_traced_7 : decode cL_traced 7 = .ok (.i2l, 1) := by decide +kernel
theorem dL_traced_8 : decode cL_traced 8 = .ok (.lastore, 1) := by decide +kernel
theorem dL_traced_9 : decode cL_traced 9 = .ok (.goto 6, 3) := by decide +kernel
theorem dL_traced_12 : decode cL_traced 12 = .ok (.astore_n 3, 1) := by decide +kernel
theorem dL_traced_13 : decode cL_traced 13 = .ok (.iconst 1, 1) := by decide +kernel
theorem dL_traced_14 : decode cL_traced 14 = .ok (.ireturn, 1) := by decide +kernel
theorem dL_traced_15 : decode cL_traced 15 = .ok (.iconst 0, 1) := by decide +kernel
theorem dL_traced_16 : decode cL_traced 16 = .ok (.ireturn, 1) := by decide +kernel
