theorem dX9_pack_194 : decode cX9_pack 194 = .ok (.iconst 1, 1) := by decide +kernel
theorem dX9_pack_195 : decode cX9_pack 195 = .ok (.iadd, 1) := by decide +kernel
theorem dX9_pack_196 : decode cX9_pack 196 = .ok (.istore_n 2, 1) := by decide +kernel
theorem dX9_pack_197 : decode cX9_pack 197 = .ok (.iinc 3 1, 3) := by decide +kernel
theorem dX9_pack_200 : decode cX9_pack 200 = .ok (.goto (-92), 3) := by decide +kernel
theorem dX9_pack_203 : decode cX9_pack 203 = .ok (.aload_n 0, 1) := by decide +kernel
theorem dX9_pack_204 : decode cX9_pack 204 = .ok (.getfield 35, 3) := by decide +kernel
theorem dX9_pack_207 : decode cX9_pack 207 = .ok (.iload_n 1, 1) := by decide +kernel
theorem dX9_pack_208 : decode cX9_pack 208 = .ok (.iload_n 2, 1) := by decide +kernel
theorem dX9_pack_209 : decode cX9_pack 209 = .ok (.iastore, 1) := by decide +kernel
theorem dX9_pack_210 : decode cX9_pack 210 = .ok (.aload_n 0, 1) := by decide +kernel
theorem dX9_pack_211 : decode cX9_pack 211 = .ok (.getfield 7, 3) := by decide +kernel
theorem dX9_pack_214 : decode cX9_pack 214 = .ok (.iconst 3, 1) := by decide +kernel
theorem dX9_pack_215 : decode cX9_pack 215 = .ok (.iconst 0, 1) := by decide +kernel
theorem dX9_pack_216 : decode cX9_pack 216 = .ok (.iastore, 1) := by decide +kernel
theorem dX9_pack_217 : decode cX9_pack 217 = .ok (.bipush 100, 2) := by decide +kernel
theorem dX9_pack_219 : decode cX9_pack 219 = .ok (.istore_n 3, 1) := by decide +kernel
theorem dX9_pack_220 : decode cX9_pack 220 = .ok (.iload_n 3, 1) := by decide +kernel
theorem dX9_pack_221 : decode cX9_pack 221 = .ok (.bipush 100, 2) := by decide +kernel
theorem dX9_pack_223 : decode cX9_pack 223 = .ok (.iload_n 1, 1) := by decide +kernel
theorem dX9_pack_224 : decode cX9_pack 224 = .ok (.iadd, 1) := by decide +kernel
theorem dX9_pack_225 : decode cX9_pack 225 = .ok (.if_icmp .ge 76, 3) := by decide +kernel
theorem dX9_pack_228 : decode cX9_pack 228 = .ok (.aload_n 0, 1) := by decide +kernel
theorem dX9_pack_229 : decode cX9_pack 229 = .ok (.getfield 32, 3) := by decide +kernel
theorem dX9_pack_232 : decode cX9_pack 232 = .ok (.iload_n 3, 1) := by decide +kernel
theorem dX9_pack_233 : decode cX9_pack 233 = .ok (.bipush 100, 2) := by decide +kernel
theorem dX9_pack_235 : decode cX9_pack 235 = .ok (.isub, 1) := by decide +kernel
theorem dX9_pack_236 : decode cX9_pack 236 = .ok (.baload, 1) := by decide +kernel
theorem dX9_pack_237 : decode cX9_pack 237 = .ok (.ifCond .ne 58, 3) := by decide +kernel
theorem dX9_pack_240 : decode cX9_pack 240 = .ok (.aload_n 0, 1) := by decide +kernel
theorem dX9_pack_241 : decode cX9_pack 241 = .ok (.iconst 3, 1) := by decide +kernel
theorem dX9_pack_242 : decode cX9_pack 242 = .ok (.aload_n 0, 1) := by decide +kernel
theorem dX9_pack_243 : decode cX9_pack 243 = .ok (.getfield 13, 3) := by decide +kernel
theorem dX9_pack_246 : decode cX9_pack 246 = .ok (.iload_n 3, 1) := by decide +kernel
theorem dX9_pack_247 : decode cX9_pack 247 = .ok (.iaload, 1) := by decide +kernel
theorem dX9_pack_248 : decode cX9_pack 248 = .ok (.aload_n 0, 1) := by decide +kernel
theorem dX9_pack_249 : decode cX9_pack 249 = .ok (.getfield 13, 3) := by decide +kernel
theorem dX9_pack_252 : decode cX9_pack 252 = .ok (.iload_n 3, 1) := by decide +kernel
theorem dX9_pack_253 : decode cX9_pack 253 = .ok (.iaload, 1) := by decide +kernel
theorem dX9_pack_254 : decode cX9_pack 254 = .ok (.invokestatic 105, 3) := by decide +kernel
theorem dX9_pack_257 : decode cX9_pack 257 = .ok (.ifCond .eq 17, 3) := by decide +kernel
theorem dX9_pack_260 : decode cX9_pack 260 = .ok (.aload_n 0, 1) := by decide +kernel
theorem dX9_pack_261 : decode cX9_pack 261 = .ok (.getfield 35, 3) := by decide +kernel
theorem dX9_pack_264 : decode cX9_pack 264 = .ok (.aload_n 0, 1) := by decide +kernel
theorem dX9_pack_265 : decode cX9_pack 265 = .ok (.getfield 16, 3) := by decide +kernel
theorem dX9_pack_268 : decode cX9_pack 268 = .ok (.iload_n 3, 1) := by decide +kernel
theorem dX9_pack_269 : decode cX9_pack 269 = .ok (.iaload, 1) := by decide +kernel
theorem dX9_pack_270 : decode cX9_pack 270 = .ok (.iaload, 1) := by decide +kernel
theorem dX9_pack_271 : decode cX9_pack 271 = .ok (.goto 9, 3) := by decide +kernel
theorem dX9_pack_274 : decode cX9_pack 274 = .ok (.aload_n 0, 1) := by decide +kernel
theorem dX9_pack_275 : decode cX9_pack 275 = .ok (.getfield 16, 3) := by decide +kernel
theorem dX9_pack_278 : decode cX9_pack 278 = .ok (.iload_n 3, 1) := by decide +kernel
theorem dX9_pack_279 : decode cX9_pack 279 = .ok (.iaload, 1) := by decide +kernel
theorem dX9_pack_280 : decode cX9_pack 280 = .ok (.aload_n 0, 1) := by decide +kernel
theorem dX9_pack_281 : decode cX9_pack 281 = .ok (.getfield 19, 3) := by decide +kernel
theorem dX9_pack_284 : decode cX9_pack 284 = .ok (.iload_n 3, 1) := by decide +kernel
theorem dX9_pack_285 : decode cX9_pack 285 = .ok (.iaload, 1) := by decide +kernel
theorem dX9_pack_286 : decode cX9_pack 286 = .ok (.aload_n 0, 1) := by decide +kernel
theorem dX9_pack_287 : decode cX9_pack 287 = .ok (.getfield 22, 3) := by decide +kernel
theorem dX9_pack_290 : decode cX9_pack 290 = .ok (.iload_n 3, 1) := by decide +kernel
theorem dX9_pack_291 : decode cX9_pack 291 = .ok (.iaload, 1) := by decide +kernel
theorem dX9_pack_292 : decode cX9_pack 292 = .ok (.invokevirtual 88, 3) := by decide +kernel
theorem dX9_pack_295 : decode cX9_pack 295 = .ok (.iinc 3 1, 3) := by decide +kernel
theorem dX9_pack_298 : decode cX9_pack 298 = .ok (.goto (-78), 3) := by decide +kernel
theorem dX9_pack_301 : decode cX9_pack 301 = .ok (.aload_n 0, 1) := by decide +kernel
theorem dX9_pack_302 : decode cX9_pack 302 = .ok (.iconst 3, 1) := by decide +kernel
theorem dX9_pack_303 : decode cX9_pack 303 = .ok (.iconst 1, 1) := by decide +kernel
theorem dX9_pack_304 : decode cX9_pack 304 = .ok (.invokevirtual 115, 3) := by decide +kernel
theorem dX9_pack_307 : decode cX9_pack 307 = .ok (.iload_n 1, 1) := by decide +kernel
theorem dX9_pack_308 : decode cX9_pack 308 = .ok (.iload_n 2, 1) := by decide +kernel
theorem dX9_pack_309 : decode cX9_pack 309 = .ok (.isub, 1) := by decide +kernel
theorem dX9_pack_310 : decode cX9_pack 310 = .ok (.ireturn, 1) := by decide +kernel
set_option maxRecDepth 20000 in
theorem ggX9_pass_X9_out : GoodIn wsX9_pass wsX9_out := goodIn_r _ [6] (by decide +kernel) (by decide +kernel)
set_option maxRecDepth 20000 in
theorem gX9_pass_X9_out : GoodIn wsX9_pass (va_wsS RX9 91 yX9_out wsX9_out) := goodIn_app (goodIn_of _ (by decide +kernel)) ggX9_pass_X9_out
set_option maxRecDepth 20000 in
theorem ggX9_pass_X9_throwing : GoodIn wsX9_pass wsX9_throwing := goodIn_r _ [10, 11, 137, 138, 139, 140, 141, 142, 143, 144, 145, 146, 147, 148, 149, 150, 151, 152, 153, 154, 155, 156, 157, 158, 159, 160, 161, 162, 163, 164, 165, 166, 167, 168, 169] (by decide +kernel) (by decide +kernel)
set_option maxRecDepth 20000 in
theorem gX9_pass_X9_throwing : GoodIn wsX9_pass (wsV RX9 108 RX9 yX9_throwing wsX9_throwing) := goodIn_app (goodIn_of _ (by decide +kernel)) ggX9_pass_X9_throwing
set_option maxRecDepth 20000 in
theorem ggX9_pass_X9_fold : GoodIn wsX9_pass wsX9_fold := goodIn_r _ [15, 16, 17, 18, 19, 20, 21, 22, 23, 5, 24, 25, 26, 27, 28, 29, 30, 31, 32, 33, 34, 35, 36, 37, 38, 39, 40, 41, 42, 43, 44, 45, 46, 47, 48, 49, 50, 51, 52, 53, 54, 55, 56, 57, 58, 59, 60, 61, 62, 63, 64, 137, 138, 139, 140, 141, 142, 143, 144, 145, 146, 147, 148, 149, 150, 151, 152, 153, 154, 155, 156, 157, 158, 159, 160, 161, 162, 163, 164, 165, 166, 167, 168, 169] (by decide +kernel) (by decide +kernel)
set_option maxRecDepth 20000 in
theorem gX9_pass_X9_fold : GoodIn wsX9_pass (wsV RX9 186 RX9 yX9_fold wsX9_fold) := goodIn_app (goodIn_of _ (by decide +kernel)) ggX9_pass_X9_fold
set_option maxRecDepth 20000 in
theorem ggX9_pass_X9_share : GoodIn wsX9_pass wsX9_share := goodIn_r _ [68, 69, 20, 70, 71, 72, 73, 74, 5, 75, 25, 28, 54, 55, 56, 76, 77, 78, 79, 80, 81, 82, 83, 84, 85, 86, 27, 26, 87, 88, 89, 90, 91, 92, 93, 94, 95, 96, 36, 37, 38, 97, 98, 99, 100, 61, 62, 63, 64, 137, 138, 139, 140, 141, 142, 143, 144, 145, 146, 147, 148, 149, 150, 151, 152, 153, 154, 155, 156, 157, 158, 159, 160, 161, 162, 163, 164, 165, 166, 167, 168, 169] (by decide +kernel) (by decide +kernel)
set_option maxRecDepth 20000 in
theorem gX9_pass_X9_share : GoodIn wsX9_pass (wsV RX9 190 RX9 yX9_share wsX9_share) := goodIn_app (goodIn_of _ (by decide +kernel)) ggX9_pass_X9_share
set_option maxRecDepth 20000 in
theorem ggX9_pass_X9_drop : GoodIn wsX9_pass wsX9_drop := goodIn_r _ [104, 20, 25, 105, 28, 106, 107, 108, 5, 109, 29, 30, 31, 110, 111, 112, 113, 114, 115, 116, 117, 118, 119, 27, 26, 87, 88, 89, 94, 95, 96, 36, 37, 38, 54, 55, 56, 61, 62, 63, 64, 137, 138, 139, 140, 141, 142, 143, 144, 145, 146, 147, 148, 149, 150, 151, 152, 153, 154, 155, 156, 157, 158, 159, 160, 161, 162, 163, 164, 165, 166, 167, 168, 169] (by decide +kernel) (by decide +kernel)
set_option maxRecDepth 20000 in
theorem gX9_pass_X9_drop : GoodIn wsX9_pass (wsV RX9 193 RX9 yX9_drop wsX9_drop) := goodIn_app (goodIn_of _ (by decide +kernel)) ggX9_pass_X9_drop
set_option maxRecDepth 20000 in
theorem ggX9_pass_X9_pack : GoodIn wsX9_pass wsX9_pack := goodIn_r _ [123, 20, 25, 28, 105, 124, 27, 26, 54, 55, 5, 56, 125, 126, 127, 128, 129, 130, 131, 132, 61, 62, 63, 64, 133, 134, 135, 136, 137, 138, 139, 140, 141, 142, 143, 144, 145, 146, 147, 148, 149, 150, 151, 152, 153, 154, 155, 156, 157, 158, 159, 160, 161, 162, 163, 164, 165, 166, 167, 168, 169] (by decide +kernel) (by decide +kernel)
set_option maxRecDepth 20000 in
theorem gX9_pass_X9_pack : GoodIn wsX9_pass (wsV RX9 196 RX9 yX9_pack wsX9_pack) := goodIn_app (goodIn_of _ (by decide +kernel)) ggX9_pass_X9_pack
theorem dX9_pass_0 : decode cX9_pass 0 = .ok (.aload_n 0, 1) := by decide +kernel
theorem dX9_pass_1 : decode cX9_pass 1 = .ok (.iload_n 1, 1) := by decide +kernel
theorem dX9_pass_2 : decode cX9_pass 2 = .ok (.iconst 4, 1) := by decide +kernel
theorem dX9_pass_3 : decode cX9_pass 3 = .ok (.invokestatic 91, 3) := by decide +kernel
theorem dX9_pass_6 : decode cX9_pass 6 = .ok (.aload_n 0, 1) := by decide +kernel
theorem dX9_pass_7 : decode cX9_pass 7 = .ok (.getfield 119, 3) := by decide +kernel
theorem dX9_pass_10 : decode cX9_pass 10 = .ok (.ifCond .eq 10, 3) := by decide +kernel
theorem dX9_pass_13 : decode cX9_pass 13 = .ok (.aload_n 0, 1) := by decide +kernel
theorem dX9_pass_14 : decode cX9_pass 14 = .ok (.getfield 123, 3) := by decide +kernel
theorem dX9_pass_17 : decode cX9_pass 17 = .ok (.ifCond .eq 7, 3) := by decide +kernel
theorem dX9_pass_20 : decode cX9_pass 20 = .ok (.iconst 1, 1) := by decide +kernel
theorem dX9_pass_21 : decode cX9_pass 21 = .ok (.goto 4, 3) := by decide +kernel
theorem dX9_pass_24 : decode cX9_pass 24 = .ok (.iconst 0, 1) := by decide +kernel
theorem dX9_pass_25 : decode cX9_pass 25 = .ok (.invokevirtual 108, 3) := by decide +kernel
theorem dX9_pass_28 : decode cX9_pass 28 = .ok (.ifCond .eq 5, 3) := by decide +kernel
theorem dX9_pass_31 : decode cX9_pass 31 = .ok (.iconst 0, 1) := by decide +kernel
theorem dX9_pass_32 : decode cX9_pass 32 = .ok (.ireturn, 1) := by decide +kernel
theorem dX9_pass_33 : decode cX9_pass 33 = .ok (.iload_n 1, 1) := by decide +kernel
theorem dX9_pass_34 : decode cX9_pass 34 = .ok (.ifCond .ne 10, 3) := by decide +kernel
theorem dX9_pass_37 : decode cX9_pass 37 = .ok (.aload_n 0, 1) := by decide +kernel
theorem dX9_pass_38 : decode cX9_pass 38 = .ok (.invokevirtual 186, 3) := by decide +kernel
theorem dX9_pass_41 : decode cX9_pass 41 = .ok (.goto 31, 3) := by decide +kernel
theorem dX9_pass_44 : decode cX9_pass 44 = .ok (.iload_n 1, 1) := by decide +kernel
theorem dX9_pass_45 : decode cX9_pass 45 = .ok (.iconst 1, 1) := by decide +kernel
theorem dX9_pass_46 : decode cX9_pass 46 = .ok (.if_icmp .ne 10, 3) := by decide +kernel
theorem dX9_pass_49 : decode cX9_pass 49 = .ok (.aload_n 0, 1) := by decide +kernel
theorem dX9_pass_50 : decode cX9_pass 50 = .ok (.invokevirtual 190, 3) := by decide +kernel
theorem dX9_pass_53 : decode cX9_pass 53 = .ok (.goto 19, 3) := by decide +kernel
theorem dX9_pass_56 : decode cX9_pass 56 = .ok (.iload_n 1, 1) := by decide +kernel
theorem dX9_pass_57 : decode cX9_pass 57 = .ok (.iconst 2, 1) := by decide +kernel
theorem dX9_pass_58 : decode cX9_pass 58 = .ok (.if_icmp .ne 10, 3) := by decide +kernel
theorem dX9_pass_61 : decode cX9_pass 61 = .ok (.aload_n 0, 1) := by decide +kernel
theorem dX9_pass_62 : decode cX9_pass 62 = .ok (.invokevirtual 193, 3) := by decide +kernel
theorem dX9_pass_65 : decode cX9_pass 65 = .ok (.goto 7, 3) := by decide +kernel
theorem dX9_pass_68 : decode cX9_pass 68 = .ok (.aload_n 0, 1) := by decide +kernel
theorem dX9_pass_69 : decode cX9_pass 69 = .ok (.invokevirtual 196, 3) := by decide +kernel
theorem dX9_pass_72 : decode cX9_pass 72 = .ok (.ireturn, 1) := by decide +kernel
set_option maxRecDepth 20000 in
theorem ggX9_interfere_X9_live : GoodIn wsX9_interfere wsX9_live := goodIn_r _ [9, 10, 11, 1, 2, 3, 12, 13, 14, 8, 15, 4, 16, 17, 18, 19, 20, 21, 22, 23, 24, 25, 26, 27, 28, 29, 30, 31, 36, 37, 38, 39, 40, 41, 42, 43, 44, 45, 46, 47, 48, 49, 50, 51, 52, 53, 54, 55, 56, 57, 58, 59, 60, 61, 62, 63, 64, 65, 66, 67, 68] (by decide +kernel) (by decide +kernel)
set_option maxRecDepth 20000 in
theorem gX9_interfere_X9_live : GoodIn wsX9_interfere (wsV RX9 129 RX9 yX9_live wsX9_live) := goodIn_app (goodIn_of _ (by decide +kernel)) ggX9_interfere_X9_live
set_option maxRecDepth 20000 in
theorem ggX9_interfere_X9_writes : GoodIn wsX9_interfere wsX9_writes := goodIn_r _ [25] (by decide +kernel) (by decide +kernel)
set_option maxRecDepth 20000 in
theorem gX9_interfere_X9_writes : GoodIn wsX9_interfere (va_wsS RX9 95 yX9_writes wsX9_writes) := goodIn_app (goodIn_of _ (by decide +kernel)) ggX9_interfere_X9_writes
set_option maxRecDepth 20000 in
theorem ggX9_interfere_X9_liveBehind : GoodIn wsX9_interfere wsX9_liveBehind := goodIn_r _ [35, 2, 3, 26, 27, 8, 28, 5, 6, 7, 9, 10, 11, 1, 12, 13, 14, 15, 4, 16, 17, 18, 19, 20, 21, 22, 23, 24, 25, 29, 30, 31, 36, 37, 38, 39, 40, 41, 42, 43, 44, 45, 46, 47, 48, 49, 50, 51, 52, 53, 54, 55, 56, 57, 58, 59, 60, 61, 62, 63, 64, 65, 66, 67, 68] (by decide +kernel) (by decide +kernel)
set_option maxRecDepth 20000 in
theorem gX9_interfere_X9_liveBehind : GoodIn wsX9_interfere (wsV RX9 180 RX9 yX9_liveBehind wsX9_liveBehind) := goodIn_app (goodIn_of _ (by decide +kernel)) ggX9_interfere_X9_liveBehind
theorem dX9_interfere_0 : decode cX9_interfere 0 = .ok (.iload_n 1, 1) := by decide +kernel
theorem dX9_interfere_1 : decode cX9_interfere 1 = .ok (.iconst 2, 1) := by decide +kernel
theorem dX9_interfere_2 : decode cX9_interfere 2 = .ok (.if_icmp .lt 12, 3) := by decide +kernel
theorem dX9_interfere_5 : decode cX9_interfere 5 = .ok (.aload_n 0, 1) := by decide +kernel
theorem dX9_interfere_6 : decode cX9_interfere 6 = .ok (.iload_n 1, 1) := by decide +kernel
theorem dX9_interfere_7 : decode cX9_interfere 7 = .ok (.iconst 0, 1) := by decide +kernel
theorem dX9_interfere_8 : decode cX9_interfere 8 = .ok (.invokevirtual 129, 3) := by decide +kernel
theorem dX9_interfere_11 : decode cX9_interfere 11 = .ok (.ifCond .eq 21, 3) := by decide +kernel
theorem dX9_interfere_14 : decode cX9_interfere 14 = .ok (.iload_n 2, 1) := by decide +kernel
theorem dX9_interfere_15 : decode cX9_interfere 15 = .ok (.iconst 2, 1) := by decide +kernel
theorem dX9_interfere_16 : decode cX9_interfere 16 = .ok (.if_icmp .lt 12, 3) := by decide +kernel
theorem dX9_interfere_19 : decode cX9_interfere 19 = .ok (.aload_n 0, 1) := by decide +kernel
theorem dX9_interfere_20 : decode cX9_interfere 20 = .ok (.iload_n 2, 1) := by decide +kernel
theorem dX9_interfere_21 : decode cX9_interfere 21 = .ok (.iconst 0, 1) := by decide +kernel
theorem dX9_interfere_22 : decode cX9_interfere 22 = .ok (.invokevirtual 129, 3) := by decide +kernel
theorem dX9_interfere_25 : decode cX9_interfere 25 = .ok (.ifCond .eq 7, 3) := by decide +kernel
theorem dX9_interfere_28 : decode cX9_interfere 28 = .ok (.iconst 1, 1) := by decide +kernel
theorem dX9_interfere_29 : decode cX9_interfere 29 = .ok (.goto 4, 3) := by decide +kernel
theorem dX9_interfere_32 : decode cX9_interfere 32 = .ok (.iconst 0, 1) := by decide +kernel
theorem dX9_interfere_33 : decode cX9_interfere 33 = .ok (.istore_n 3, 1) := by decide +kernel
theorem dX9_interfere_34 : decode cX9_interfere 34 = .ok (.iconst 0, 1) := by decide +kernel
theorem dX9_interfere_35 : decode cX9_interfere 35 = .ok (.istore 4, 2) := by decide +kernel
theorem dX9_interfere_37 : decode cX9_interfere 37 = .ok (.iload 4, 2) := by decide +kernel
theorem dX9_interfere_39 : decode cX9_interfere 39 = .ok (.aload_n 0, 1) := by decide +kernel
theorem dX9_interfere_40 : decode cX9_interfere 40 = .ok (.getfield 7, 3) := by decide +kernel
theorem dX9_interfere_43 : decode cX9_interfere 43 = .ok (.iconst 1, 1) := by decide +kernel
theorem dX9_interfere_44 : decode cX9_interfere 44 = .ok (.iaload, 1) := by decide +kernel
theorem dX9_interfere_45 : decode cX9_interfere 45 = .ok (.if_icmp .ge 114, 3) := by decide +kernel
theorem dX9_interfere_48 : decode cX9_interfere 48 = .ok (.iload_n 3, 1) := by decide +kernel
theorem dX9_interfere_49 : decode cX9_interfere 49 = .ok (.ifCond .ne 110, 3) := by decide +kernel
theorem dX9_interfere_52 : decode cX9_interfere 52 = .ok (.aload_n 0, 1) := by decide +kernel
theorem dX9_interfere_53 : decode cX9_interfere 53 = .ok (.getfield 13, 3) := by decide +kernel
theorem dX9_interfere_56 : decode cX9_interfere 56 = .ok (.bipush 100, 2) := by decide +kernel
theorem dX9_interfere_58 : decode cX9_interfere 58 = .ok (.iload 4, 2) := by decide +kernel
theorem dX9_interfere_60 : decode cX9_interfere 60 = .ok (.iadd, 1) := by decide +kernel
theorem dX9_interfere_61 : decode cX9_interfere 61 = .ok (.iaload, 1) := by decide +kernel
theorem dX9_interfere_62 : decode cX9_interfere 62 = .ok (.istore 5, 2) := by decide +kernel
theorem dX9_interfere_64 : decode cX9_interfere 64 = .ok (.iload 5, 2) := by decide +kernel
theorem dX9_interfere_66 : decode cX9_interfere 66 = .ok (.invokestatic 95, 3) := by decide +kernel
theorem dX9_interfere_69 : decode cX9_interfere 69 = .ok (.ifCond .ne 6, 3) := by decide +kernel
theorem dX9_interfere_72 : decode cX9_interfere 72 = .ok (.goto 81, 3) := by decide +kernel
theorem dX9_interfere_75 : decode cX9_interfere 75 = .ok (.aload_n 0, 1) := by decide +kernel
theorem dX9_interfere_76 : decode cX9_interfere 76 = .ok (.getfield 16, 3) := by decide +kernel
theorem dX9_interfere_79 : decode cX9_interfere 79 = .ok (.bipush 100, 2) := by decide +kernel
theorem dX9_interfere_81 : decode cX9_interfere 81 = .ok (.iload 4, 2) := by decide +kernel
theorem dX9_interfere_83 : decode cX9_interfere 83 = .ok (.iadd, 1) := by decide +kernel
theorem dX9_interfere_84 : decode cX9_interfere 84 = .ok (.iaload, 1) := by decide +kernel
theorem dX9_interfere_85 : decode cX9_interfere 85 = .ok (.istore 6, 2) := by decide +kernel
theorem dX9_interfere_87 : decode cX9_interfere 87 = .ok (.iload 6, 2) := by decide +kernel
theorem dX9_interfere_89 : decode cX9_interfere 89 = .ok (.iload_n 1, 1) := by decide +kernel
theorem dX9_interfere_90 : decode cX9_interfere 90 = .ok (.if_icmp .ne 7, 3) := by decide +kernel
theorem dX9_interfere_93 : decode cX9_interfere 93 = .ok (.iload_n 2, 1) := by decide +kernel
theorem dX9_interfere_94 : decode cX9_interfere 94 = .ok (.goto 14, 3) := by decide +kernel
theorem dX9_interfere_97 : decode cX9_interfere 97 = .ok (.iload 6, 2) := by decide +kernel
theorem dX9_interfere_99 : decode cX9_interfere 99 = .ok (.iload_n 2, 1) := by decide +kernel
theorem dX9_interfere_100 : decode cX9_interfere 100 = .ok (.if_icmp .ne 7, 3) := by decide +kernel
theorem dX9_interfere_103 : decode cX9_interfere 103 = .ok (.iload_n 1, 1) := by decide +kernel
theorem dX9_interfere_104 : decode cX9_interfere 104 = .ok (.goto 4, 3) := by decide +kernel
theorem dX9_interfere_107 : decode cX9_interfere 107 = .ok (.iconst (-1), 1) := by decide +kernel
theorem dX9_interfere_108 : decode cX9_interfere 108 = .ok (.istore 7, 2) := by decide +kernel
theorem dX9_interfere_110 : decode cX9_interfere 110 = .ok (.iload 7, 2) := by decide +kernel
theorem dX9_interfere_112 : decode cX9_interfere 112 = .ok (.ifCond .lt 39, 3) := by decide +kernel
theorem dX9_interfere_115 : decode cX9_interfere 115 = .ok (.iload 5, 2) := by decide +kernel
theorem dX9_interfere_117 : decode cX9_interfere 117 = .ok (.iconst 2, 1) := by decide +kernel
theorem dX9_interfere_118 : decode cX9_interfere 118 = .ok (.if_icmp .ne 18, 3) := by decide +kernel
theorem dX9_interfere_121 : decode cX9_interfere 121 = .ok (.aload_n 0, 1) := by decide +kernel
theorem dX9_interfere_122 : decode cX9_interfere 122 = .ok (.getfield 19, 3) := by decide +kernel
theorem dX9_interfere_125 : decode cX9_interfere 125 = .ok (.bipush 100, 2) := by decide +kernel
theorem dX9_interfere_127 : decode cX9_interfere 127 = .ok (.iload 4, 2) := by decide +kernel
theorem dX9_interfere_129 : decode cX9_interfere 129 = .ok (.iadd, 1) := by decide +kernel
theorem dX9_interfere_130 : decode cX9_interfere 130 = .ok (.iaload, 1) := by decide +kernel
theorem dX9_interfere_131 : decode cX9_interfere 131 = .ok (.iload 7, 2) := by decide +kernel
theorem dX9_interfere_133 : decode cX9_interfere 133 = .ok (.if_icmp .eq 18, 3) := by decide +kernel
theorem dX9_interfere_136 : decode cX9_interfere 136 = .ok (.aload_n 0, 1) := by decide +kernel
theorem dX9_interfere_137 : decode cX9_interfere 137 = .ok (.iload 7, 2) := by decide +kernel
theorem dX9_interfere_139 : decode cX9_interfere 139 = .ok (.iload 4, 2) := by decide +kernel
theorem dX9_interfere_141 : decode cX9_interfere 141 = .ok (.invokevirtual 180, 3) := by decide +kernel
theorem dX9_interfere_144 : decode cX9_interfere 144 = .ok (.ifCond .eq 7, 3) := by decide +kernel
theorem dX9_interfere_147 : decode cX9_interfere 147 = .ok (.iconst 1, 1) := by decide +kernel
theorem dX9_interfere_148 : decode cX9_interfere 148 = .ok (.goto 4, 3) := by decide +kernel
theorem dX9_interfere_151 : decode cX9_interfere 151 = .ok (.iconst 0, 1) := by decide +kernel
theorem dX9_interfere_152 : decode cX9_interfere 152 = .ok (.istore_n 3, 1) := by decide +kernel
theorem dX9_interfere_153 : decode cX9_interfere 153 = .ok (.iinc 4 1, 3) := by decide +kernel
theorem dX9_interfere_156 : decode cX9_interfere 156 = .ok (.goto (-119), 3) := by decide +kernel
theorem dX9_interfere_159 : decode cX9_interfere 159 = .ok (.iload_n 3, 1) := by decide +kernel
theorem dX9_interfere_160 : decode cX9_interfere 160 = .ok (.ireturn, 1) := by decide +kernel
set_option maxRecDepth 20000 in
theorem ggX9_settle_X9_interfere : GoodIn wsX9_settle wsX9_interfere := goodIn_r _ [7, 8, 9, 10, 11, 12, 13, 14, 6, 15, 16, 17, 18, 19, 20, 21, 22, 23, 24, 25, 26, 27, 28, 29, 30, 31, 32, 33, 34, 35, 36, 37, 38, 39, 40, 41, 42, 43, 44, 45, 46, 47, 48, 49, 50, 51, 52, 53, 54, 55, 56, 57, 58, 59, 60, 61, 62, 63, 64, 65, 66, 67, 68, 69, 70, 71, 72, 73, 74] (by decide +kernel) (by decide +kernel)
set_option maxRecDepth 20000 in
theorem gX9_settle_X9_interfere : GoodIn wsX9_settle (wsV RX9 202 RX9 yX9_interfere wsX9_interfere) := goodIn_app (goodIn_of _ (by decide +kernel)) ggX9_settle_X9_interfere
theorem dX9_settle_0 : decode cX9_settle 0 = .ok (.aload_n 0, 1) := by decide +kernel
theorem dX9_settle_1 : decode cX9_settle 1 = .ok (.iconst 0, 1) := by decide +kernel
theorem dX9_settle_2 : decode cX9_settle 2 = .ok (.putfield 199, 3) := by decide +kernel
theorem dX9_settle_5 : decode cX9_settle 5 = .ok (.aload_n 0, 1) := by decide +kernel
theorem dX9_settle_6 : decode cX9_settle 6 = .ok (.getfield 59, 3) := by decide +kernel
theorem dX9_settle_9 : decode cX9_settle 9 = .ok (.iconst 0, 1) := by decide +kernel
theorem dX9_settle_10 : decode cX9_settle 10 = .ok (.iconst 0, 1) := by decide +kernel
theorem dX9_settle_11 : decode cX9_settle 11 = .ok (.iastore, 1) := by decide +kernel
theorem dX9_settle_12 : decode cX9_settle 12 = .ok (.aload_n 0, 1) := by decide +kernel
theorem dX9_settle_13 : decode cX9_settle 13 = .ok (.getfield 59, 3) := by decide +kernel
theorem dX9_settle_16 : decode cX9_settle 16 = .ok (.iconst 1, 1) := by decide +kernel
theorem dX9_settle_17 : decode cX9_settle 17 = .ok (.iconst 1, 1) := by decide +kernel
theorem dX9_settle_18 : decode cX9_settle 18 = .ok (.iastore, 1) := by decide +kernel
theorem dX9_settle_19 : decode cX9_settle 19 = .ok (.iconst 2, 1) := by decide +kernel
theorem dX9_settle_20 : decode cX9_settle 20 = .ok (.istore_n 2, 1) := by decide +kernel
theorem dX9_settle_21 : decode cX9_settle 21 = .ok (.iload_n 2, 1) := by decide +kernel
theorem dX9_settle_22 : decode cX9_settle 22 = .ok (.bipush 8, 2) := by decide +kernel
theorem dX9_settle_24 : decode cX9_settle 24 = .ok (.if_icmp .ge 135, 3) := by decide +kernel
theorem dX9_settle_27 : decode cX9_settle 27 = .ok (.iconst 0, 1) := by decide +kernel
theorem dX9_settle_28 : decode cX9_settle 28 = .ok (.istore_n 3, 1) := by decide +kernel
theorem dX9_settle_29 : decode cX9_settle 29 = .ok (.iconst 0, 1) := by decide +kernel
theorem dX9_settle_30 : decode cX9_settle 30 = .ok (.istore 4, 2) := by decide +kernel
theorem dX9_settle_32 : decode cX9_settle 32 = .ok (.iload_n 3, 1) := by decide +kernel
theorem dX9_settle_33 : decode cX9_settle 33 = .ok (.iload_n 1, 1) := by decide +kernel
theorem dX9_settle_34 : decode cX9_settle 34 = .ok (.if_icmp .ge 75, 3) := by decide +kernel
theorem dX9_settle_37 : decode cX9_settle 37 = .ok (.iload 4, 2) := by decide +kernel
theorem dX9_settle_39 : decode cX9_settle 39 = .ok (.ifCond .ne 70, 3) := by decide +kernel
theorem dX9_settle_42 : decode cX9_settle 42 = .ok (.iconst 1, 1) := by decide +kernel
theorem dX9_settle_43 : decode cX9_settle 43 = .ok (.istore 4, 2) := by decide +kernel
theorem dX9_settle_45 : decode cX9_settle 45 = .ok (.iconst 0, 1) := by decide +kernel
theorem dX9_settle_46 : decode cX9_settle 46 = .ok (.istore 5, 2) := by decide +kernel
theorem dX9_settle_48 : decode cX9_settle 48 = .ok (.iload 5, 2) := by decide +kernel
theorem dX9_settle_50 : decode cX9_settle 50 = .ok (.iload_n 2, 1) := by decide +kernel
theorem dX9_settle_51 : decode cX9_settle 51 = .ok (.if_icmp .ge 42, 3) := by decide +kernel
theorem dX9_settle_54 : decode cX9_settle 54 = .ok (.iload 4, 2) := by decide +kernel
theorem dX9_settle_56 : decode cX9_settle 56 = .ok (.ifCond .eq 28, 3) := by decide +kernel
theorem dX9_settle_59 : decode cX9_settle 59 = .ok (.aload_n 0, 1) := by decide +kernel
theorem dX9_settle_60 : decode cX9_settle 60 = .ok (.getfield 59, 3) := by decide +kernel
theorem dX9_settle_63 : decode cX9_settle 63 = .ok (.iload 5, 2) := by decide +kernel
theorem dX9_settle_65 : decode cX9_settle 65 = .ok (.iaload, 1) := by decide +kernel
theorem dX9_settle_66 : decode cX9_settle 66 = .ok (.iload_n 3, 1) := by decide +kernel
theorem dX9_settle_67 : decode cX9_settle 67 = .ok (.if_icmp .ne 13, 3) := by decide +kernel
theorem dX9_settle_70 : decode cX9_settle 70 = .ok (.aload_n 0, 1) := by decide +kernel
theorem dX9_settle_71 : decode cX9_settle 71 = .ok (.iload 5, 2) := by decide +kernel
theorem dX9_settle_73 : decode cX9_settle 73 = .ok (.iload_n 2, 1) := by decide +kernel
theorem dX9_settle_74 : decode cX9_settle 74 = .ok (.invokevirtual 202, 3) := by decide +kernel
theorem dX9_settle_77 : decode cX9_settle 77 = .ok (.ifCond .ne 7, 3) := by decide +kernel
theorem dX9_settle_80 : decode cX9_settle 80 = .ok (.iconst 1, 1) := by decide +kernel
theorem dX9_settle_81 : decode cX9_settle 81 = .ok (.goto 4, 3) := by decide +kernel
theorem dX9_settle_84 : decode cX9_settle 84 = .ok (.iconst 0, 1) := by decide +kernel
theorem dX9_settle_85 : decode cX9_settle 85 = .ok (.istore 4, 2) := by decide +kernel
theorem dX9_settle_87 : decode cX9_settle 87 = .ok (.iinc 5 1, 3) := by decide +kernel
theorem dX9_settle_90 : decode cX9_settle 90 = .ok (.goto (-42), 3) := by decide +kernel
theorem dX9_settle_93 : decode cX9_settle 93 = .ok (.iload 4, 2) := by decide +kernel
theorem dX9_settle_95 : decode cX9_settle 95 = .ok (.ifCond .eq 7, 3) := by decide +kernel
theorem dX9_settle_98 : decode cX9_settle 98 = .ok (.iload_n 3, 1) := by decide +kernel
theorem dX9_settle_99 : decode cX9_settle 99 = .ok (.goto 6, 3) := by decide +kernel
theorem dX9_settle_102 : decode cX9_settle 102 = .ok (.iload_n 3, 1) := by decide +kernel
theorem dX9_settle_103 : decode cX9_settle 103 = .ok (.iconst 1, 1) := by decide +kernel
theorem dX9_settle_104 : decode cX9_settle 104 = .ok (.iadd, 1) := by decide +kernel
theorem dX9_settle_105 : decode cX9_settle 105 = .ok (.istore_n 3, 1) := by decide +kernel
theorem dX9_settle_106 : decode cX9_settle 106 = .ok (.goto (-74), 3) := by decide +kernel
theorem dX9_settle_109 : decode cX9_settle 109 = .ok (.aload_n 0, 1) := by decide +kernel
theorem dX9_settle_110 : decode cX9_settle 110 = .ok (.getfield 59, 3) := by decide +kernel
theorem dX9_settle_113 : decode cX9_settle 113 = .ok (.iload_n 2, 1) := by decide +kernel
theorem dX9_settle_114 : decode cX9_settle 114 = .ok (.iload 4, 2) := by decide +kernel
theorem dX9_settle_116 : decode cX9_settle 116 = .ok (.ifCond .eq 7, 3) := by decide +kernel
theorem dX9_settle_119 : decode cX9_settle 119 = .ok (.iload_n 3, 1) := by decide +kernel
theorem dX9_settle_120 : decode cX9_settle 120 = .ok (.goto 10, 3) := by decide +kernel
theorem dX9_settle_123 : decode cX9_settle 123 = .ok (.bipush 8, 2) := by decide +kernel
theorem dX9_settle_125 : decode cX9_settle 125 = .ok (.aload_n 0, 1) := by decide +kernel
theorem dX9_settle_126 : decode cX9_settle 126 = .ok (.getfield 199, 3) := by decide +kernel
theorem dX9_settle_129 : decode cX9_settle 129 = .ok (.iadd, 1) := by decide +kernel
theorem dX9_settle_130 : decode cX9_settle 130 = .ok (.iastore, 1) := by decide +kernel
theorem dX9_settle_131 : decode cX9_settle 131 = .ok (.aload_n 0, 1) := by decide +kernel
theorem dX9_settle_132 : decode cX9_settle 132 = .ok (.iload 4, 2) := by decide +kernel
theorem dX9_settle_134 : decode cX9_settle 134 = .ok (.ifCond .eq 10, 3) := by decide +kernel
theorem dX9_settle_137 : decode cX9_settle 137 = .ok (.aload_n 0, 1) := by decide +kernel
theorem dX9_settle_138 : decode cX9_settle 138 = .ok (.getfield 199, 3) := by decide +kernel
theorem dX9_settle_141 : decode cX9_settle 141 = .ok (.goto 9, 3) := by decide +kernel
theorem dX9_settle_144 : decode cX9_settle 144 = .ok (.aload_n 0, 1) := by decide +kernel
theorem dX9_settle_145 : decode cX9_settle 145 = .ok (.getfield 199, 3) := by decide +kernel
theorem dX9_settle_148 : decode cX9_settle 148 = .ok (.iconst 1, 1) := by decide +kernel
theorem dX9_settle_149 : decode cX9_settle 149 = .ok (.iadd, 1) := by decide +kernel
theorem dX9_settle_150 : decode cX9_settle 150 = .ok (.putfield 199, 3) := by decide +kernel
theorem dX9_settle_153 : decode cX9_settle 153 = .ok (.iinc 2 1, 3) := by decide +kernel
theorem dX9_settle_156 : decode cX9_settle 156 = .ok (.goto (-135), 3) := by decide +kernel
theorem dX9_settle_159 : decode cX9_settle 159 = .ok (.aload_n 0, 1) := by decide +kernel
theorem dX9_settle_160 : decode cX9_settle 160 = .ok (.getfield 199, 3) := by decide +kernel
theorem dX9_settle_163 : decode cX9_settle 163 = .ok (.ireturn, 1) := by decide +kernel
set_option maxRecDepth 20000 in
theorem ggX9_rewrite_X9_writes : GoodIn wsX9_rewrite wsX9_writes := goodIn_r _ [9] (by decide +kernel) (by decide +kernel)
set_option maxRecDepth 20000 in
theorem gX9_rewrite_X9_writes : GoodIn wsX9_rewrite (va_wsS RX9 95 yX9_writes wsX9_writes) := goodIn_app (goodIn_of _ (by decide +kernel)) ggX9_rewrite_X9_writes
set_option maxRecDepth 20000 in
theorem ggX9_rewrite_X9_readsA : GoodIn wsX9_rewrite wsX9_readsA := goodIn_r _ [12] (by decide +kernel) (by decide +kernel)
set_option maxRecDepth 20000 in
theorem gX9_rewrite_X9_readsA : GoodIn wsX9_rewrite (va_wsS RX9 99 yX9_readsA wsX9_readsA) := goodIn_app (goodIn_of _ (by decide +kernel)) ggX9_rewrite_X9_readsA
set_option maxRecDepth 20000 in
theorem ggX9_rewrite_X9_readsB : GoodIn wsX9_rewrite wsX9_readsB := goodIn_r _ [15] (by decide +kernel) (by decide +kernel)
set_option maxRecDepth 20000 in
theorem gX9_rewrite_X9_readsB : GoodIn wsX9_rewrite (va_wsS RX9 102 yX9_readsB wsX9_readsB) := goodIn_app (goodIn_of _ (by decide +kernel)) ggX9_rewrite_X9_readsB
set_option maxRecDepth 20000 in
theorem ggX9_rewrite_X9_append : GoodIn wsX9_rewrite wsX9_append := goodIn_r _ [19, 20, 21, 22, 23, 8, 24, 1, 2, 3, 4, 25, 26, 27, 28, 29, 30, 31, 32, 33, 34, 35, 36, 37, 38, 39, 40, 41, 42, 43, 44, 45, 46, 47, 48, 49, 50, 51, 52, 53, 54, 55, 56, 57] (by decide +kernel) (by decide +kernel)
set_option maxRecDepth 20000 in
theorem gX9_rewrite_X9_append : GoodIn wsX9_rewrite (wsV RX9 88 RX9 yX9_append wsX9_append) := goodIn_app (goodIn_of _ (by decide +kernel)) ggX9_rewrite_X9_append
theorem dX9_rewrite_0 : decode cX9_rewrite 0 = .ok (.aload_n 0, 1) := by decide +kernel
theorem dX9_rewrite_1 : decode cX9_rewrite 1 = .ok (.getfield 13, 3) := by decide +kernel
theorem dX9_rewrite_4 : decode cX9_rewrite 4 = .ok (.bipush 100, 2) := by decide +kernel
theorem dX9_rewrite_6 : decode cX9_rewrite 6 = .ok (.iload_n 1, 1) := by decide +kernel
theorem dX9_rewrite_7 : decode cX9_rewrite 7 = .ok (.iadd, 1) := by decide +kernel
theorem dX9_rewrite_8 : decode cX9_rewrite 8 = .ok (.iaload, 1) := by decide +kernel
theorem dX9_rewrite_9 : decode cX9_rewrite 9 = .ok (.istore_n 3, 1) := by decide +kernel
theorem dX9_rewrite_10 : decode cX9_rewrite 10 = .ok (.aload_n 0, 1) := by decide +kernel
theorem dX9_rewrite_11 : decode cX9_rewrite 11 = .ok (.getfield 16, 3) := by decide +kernel
theorem dX9_rewrite_14 : decode cX9_rewrite 14 = .ok (.bipush 100, 2) := by decide +kernel
theorem dX9_rewrite_16 : decode cX9_rewrite 16 = .ok (.iload_n 1, 1) := by decide +kernel
theorem dX9_rewrite_17 : decode cX9_rewrite 17 = .ok (.iadd, 1) := by decide +kernel
theorem dX9_rewrite_18 : decode cX9_rewrite 18 = .ok (.iaload, 1) := by decide +kernel
theorem dX9_rewrite_19 : decode cX9_rewrite 19 = .ok (.istore 4, 2) := by decide +kernel
theorem dX9_rewrite_21 : decode cX9_rewrite 21 = .ok (.aload_n 0, 1) := by decide +kernel
theorem dX9_rewrite_22 : decode cX9_rewrite 22 = .ok (.getfield 19, 3) := by decide +kernel
theorem dX9_rewrite_25 : decode cX9_rewrite 25 = .ok (.bipush 100, 2) := by decide +kernel
theorem dX9_rewrite_27 : decode cX9_rewrite 27 = .ok (.iload_n 1, 1) := by decide +kernel
theorem dX9_rewrite_28 : decode cX9_rewrite 28 = .ok (.iadd, 1) := by decide +kernel
theorem dX9_rewrite_29 : decode cX9_rewrite 29 = .ok (.iaload, 1) := by decide +kernel
theorem dX9_rewrite_30 : decode cX9_rewrite 30 = .ok (.istore 5, 2) := by decide +kernel
theorem dX9_rewrite_32 : decode cX9_rewrite 32 = .ok (.aload_n 0, 1) := by decide +kernel
theorem dX9_rewrite_33 : decode cX9_rewrite 33 = .ok (.getfield 22, 3) := by decide +kernel
theorem dX9_rewrite_36 : decode cX9_rewrite 36 = .ok (.bipush 100, 2) := by decide +kernel
theorem dX9_rewrite_38 : decode cX9_rewrite 38 = .ok (.iload_n 1, 1) := by decide +kernel
theorem dX9_rewrite_39 : decode cX9_rewrite 39 = .ok (.iadd, 1) := by decide +kernel
theorem dX9_rewrite_40 : decode cX9_rewrite 40 = .ok (.iaload, 1) := by decide +kernel
theorem dX9_rewrite_41 : decode cX9_rewrite 41 = .ok (.istore 6, 2) := by decide +kernel
theorem dX9_rewrite_43 : decode cX9_rewrite 43 = .ok (.iload_n 3, 1) := by decide +kernel
theorem dX9_rewrite_44 : decode cX9_rewrite 44 = .ok (.invokestatic 95, 3) := by decide +kernel
theorem dX9_rewrite_47 : decode cX9_rewrite 47 = .ok (.ifCond .eq 19, 3) := by decide +kernel
theorem dX9_rewrite_50 : decode cX9_rewrite 50 = .ok (.aload_n 0, 1) := by decide +kernel
theorem dX9_rewrite_51 : decode cX9_rewrite 51 = .ok (.getfield 59, 3) := by decide +kernel
theorem dX9_rewrite_54 : decode cX9_rewrite 54 = .ok (.iload 4, 2) := by decide +kernel
theorem dX9_rewrite_56 : decode cX9_rewrite 56 = .ok (.iaload, 1) := by decide +kernel
theorem dX9_rewrite_57 : decode cX9_rewrite 57 = .ok (.bipush 8, 2) := by decide +kernel
theorem dX9_rewrite_59 : decode cX9_rewrite 59 = .ok (.if_icmp .lt 7, 3) := by decide +kernel
theorem dX9_rewrite_62 : decode cX9_rewrite 62 = .ok (.iconst 1, 1) := by decide +kernel
theorem dX9_rewrite_63 : decode cX9_rewrite 63 = .ok (.goto 4, 3) := by decide +kernel
theorem dX9_rewrite_66 : decode cX9_rewrite 66 = .ok (.iconst 0, 1) := by decide +kernel
theorem dX9_rewrite_67 : decode cX9_rewrite 67 = .ok (.istore 7, 2) := by decide +kernel
theorem dX9_rewrite_69 : decode cX9_rewrite 69 = .ok (.iload_n 3, 1) := by decide +kernel
theorem dX9_rewrite_70 : decode cX9_rewrite 70 = .ok (.invokestatic 99, 3) := by decide +kernel
theorem dX9_rewrite_73 : decode cX9_rewrite 73 = .ok (.ifCond .eq 19, 3) := by decide +kernel
theorem dX9_rewrite_76 : decode cX9_rewrite 76 = .ok (.aload_n 0, 1) := by decide +kernel
theorem dX9_rewrite_77 : decode cX9_rewrite 77 = .ok (.getfield 59, 3) := by decide +kernel
theorem dX9_rewrite_80 : decode cX9_rewrite 80 = .ok (.iload 5, 2) := by decide +kernel
theorem dX9_rewrite_82 : decode cX9_rewrite 82 = .ok (.iaload, 1) := by decide +kernel
theorem dX9_rewrite_83 : decode cX9_rewrite 83 = .ok (.bipush 8, 2) := by decide +kernel
theorem dX9_rewrite_85 : decode cX9_rewrite 85 = .ok (.if_icmp .lt 7, 3) := by decide +kernel
theorem dX9_rewrite_88 : decode cX9_rewrite 88 = .ok (.iconst 1, 1) := by decide +kernel
theorem dX9_rewrite_89 : decode cX9_rewrite 89 = .ok (.goto 4, 3) := by decide +kernel
theorem dX9_rewrite_92 : decode cX9_rewrite 92 = .ok (.iconst 0, 1) := by decide +kernel
theorem dX9_rewrite_93 : decode cX9_rewrite 93 = .ok (.istore 8, 2) := by decide +kernel
theorem dX9_rewrite_95 : decode cX9_rewrite 95 = .ok (.iload_n 3, 1) := by decide +kernel
theorem dX9_rewrite_96 : decode cX9_rewrite 96 = .ok (.invokestatic 102, 3) := by decide +kernel
theorem dX9_rewrite_99 : decode cX9_rewrite 99 = .ok (.ifCond .eq 19, 3) := by decide +kernel
theorem dX9_rewrite_102 : decode cX9_rewrite 102 = .ok (.aload_n 0, 1) := by decide +kernel
theorem dX9_rewrite_103 : decode cX9_rewrite 103 = .ok (.getfield 59, 3) := by decide +kernel
theorem dX9_rewrite_106 : decode cX9_rewrite 106 = .ok (.iload 6, 2) := by decide +kernel
theorem dX9_rewrite_108 : decode cX9_rewrite 108 = .ok (.iaload, 1) := by decide +kernel
theorem dX9_rewrite_109 : decode cX9_rewrite 109 = .ok (.bipush 8, 2) := by decide +kernel
theorem dX9_rewrite_111 : decode cX9_rewrite 111 = .ok (.if_icmp .lt 7, 3) := by decide +kernel
theorem dX9_rewrite_114 : decode cX9_rewrite 114 = .ok (.iconst 1, 1) := by decide +kernel
theorem dX9_rewrite_115 : decode cX9_rewrite 115 = .ok (.goto 4, 3) := by decide +kernel
theorem dX9_rewrite_118 : decode cX9_rewrite 118 = .ok (.iconst 0, 1) := by decide +kernel
theorem dX9_rewrite_119 : decode cX9_rewrite 119 = .ok (.istore 9, 2) := by decide +kernel
theorem dX9_rewrite_121 : decode cX9_rewrite 121 = .ok (.iload 8, 2) := by decide +kernel
theorem dX9_rewrite_123 : decode cX9_rewrite 123 = .ok (.ifCond .eq 22, 3) := by decide +kernel
theorem dX9_rewrite_126 : decode cX9_rewrite 126 = .ok (.aload_n 0, 1) := by decide +kernel
theorem dX9_rewrite_127 : decode cX9_rewrite 127 = .ok (.iconst 3, 1) := by decide +kernel
theorem dX9_rewrite_128 : decode cX9_rewrite 128 = .ok (.bipush 13, 2) := by decide +kernel
theorem dX9_rewrite_130 : decode cX9_rewrite 130 = .ok (.iload_n 2, 1) := by decide +kernel
theorem dX9_rewrite_131 : decode cX9_rewrite 131 = .ok (.aload_n 0, 1) := by decide +kernel
theorem dX9_rewrite_132 : decode cX9_rewrite 132 = .ok (.getfield 59, 3) := by decide +kernel
theorem dX9_rewrite_135 : decode cX9_rewrite 135 = .ok (.iload 5, 2) := by decide +kernel
theorem dX9_rewrite_137 : decode cX9_rewrite 137 = .ok (.iaload, 1) := by decide +kernel
theorem dX9_rewrite_138 : decode cX9_rewrite 138 = .ok (.bipush 8, 2) := by decide +kernel
theorem dX9_rewrite_140 : decode cX9_rewrite 140 = .ok (.isub, 1) := by decide +kernel
theorem dX9_rewrite_141 : decode cX9_rewrite 141 = .ok (.iconst 0, 1) := by decide +kernel
theorem dX9_rewrite_142 : decode cX9_rewrite 142 = .ok (.invokevirtual 88, 3) := by decide +kernel
theorem dX9_rewrite_145 : decode cX9_rewrite 145 = .ok (.iload 9, 2) := by decide +kernel
theorem dX9_rewrite_147 : decode cX9_rewrite 147 = .ok (.ifCond .eq 24, 3) := by decide +kernel
theorem dX9_rewrite_150 : decode cX9_rewrite 150 = .ok (.aload_n 0, 1) := by decide +kernel
theorem dX9_rewrite_151 : decode cX9_rewrite 151 = .ok (.iconst 3, 1) := by decide +kernel
theorem dX9_rewrite_152 : decode cX9_rewrite 152 = .ok (.bipush 13, 2) := by decide +kernel
theorem dX9_rewrite_154 : decode cX9_rewrite 154 = .ok (.iload_n 2, 1) := by decide +kernel
theorem dX9_rewrite_155 : decode cX9_rewrite 155 = .ok (.iconst 1, 1) := by decide +kernel
theorem dX9_rewrite_156 : decode cX9_rewrite 156 = .ok (.iadd, 1) := by decide +kernel
theorem dX9_rewrite_157 : decode cX9_rewrite 157 = .ok (.aload_n 0, 1) := by decide +kernel
theorem dX9_rewrite_158 : decode cX9_rewrite 158 = .ok (.getfield 59, 3) := by decide +kernel
theorem dX9_rewrite_161 : decode cX9_rewrite 161 = .ok (.iload 6, 2) := by decide +kernel
theorem dX9_rewrite_163 : decode cX9_rewrite 163 = .ok (.iaload, 1) := by decide +kernel
theorem dX9_rewrite_164 : decode cX9_rewrite 164 = .ok (.bipush 8, 2) := by decide +kernel
theorem dX9_rewrite_166 : decode cX9_rewrite 166 = .ok (.isub, 1) := by decide +kernel
theorem dX9_rewrite_167 : decode cX9_rewrite 167 = .ok (.iconst 0, 1) := by decide +kernel
theorem dX9_rewrite_168 : decode cX9_rewrite 168 = .ok (.invokevirtual 88, 3) := by decide +kernel
theorem dX9_rewrite_171 : decode cX9_rewrite 171 = .ok (.iload 7, 2) := by decide +kernel
theorem dX9_rewrite_173 : decode cX9_rewrite 173 = .ok (.ifCond .eq 7, 3) := by decide +kernel
theorem dX9_rewrite_176 : decode cX9_rewrite 176 = .ok (.iload_n 2, 1) := by decide +kernel
theorem dX9_rewrite_177 : decode cX9_rewrite 177 = .ok (.goto 22, 3) := by decide +kernel
theorem dX9_rewrite_180 : decode cX9_rewrite 180 = .ok (.iload_n 3, 1) := by decide +kernel
theorem dX9_rewrite_181 : decode cX9_rewrite 181 = .ok (.invokestatic 95, 3) := by decide +kernel
theorem dX9_rewrite_184 : decode cX9_rewrite 184 = .ok (.ifCond .eq 13, 3) := by decide +kernel
theorem dX9_rewrite_187 : decode cX9_rewrite 187 = .ok (.aload_n 0, 1) := by decide +kernel
theorem dX9_rewrite_188 : decode cX9_rewrite 188 = .ok (.getfield 59, 3) := by decide +kernel
theorem dX9_rewrite_191 : decode cX9_rewrite 191 = .ok (.iload 4, 2) := by decide +kernel
theorem dX9_rewrite_193 : decode cX9_rewrite 193 = .ok (.iaload, 1) := by decide +kernel
theorem dX9_rewrite_194 : decode cX9_rewrite 194 = .ok (.goto 5, 3) := by decide +kernel
theorem dX9_rewrite_197 : decode cX9_rewrite 197 = .ok (.iload 4, 2) := by decide +kernel
theorem dX9_rewrite_199 : decode cX9_rewrite 199 = .ok (.istore 10, 2) := by decide +kernel
theorem dX9_rewrite_201 : decode cX9_rewrite 201 = .ok (.iload 8, 2) := by decide +kernel
theorem dX9_rewrite_203 : decode cX9_rewrite 203 = .ok (.ifCond .eq 7, 3) := by decide +kernel
theorem dX9_rewrite_206 : decode cX9_rewrite 206 = .ok (.iload_n 2, 1) := by decide +kernel
theorem dX9_rewrite_207 : decode cX9_rewrite 207 = .ok (.goto 22, 3) := by decide +kernel
theorem dX9_rewrite_210 : decode cX9_rewrite 210 = .ok (.iload_n 3, 1) := by decide +kernel
theorem dX9_rewrite_211 : decode cX9_rewrite 211 = .ok (.invokestatic 99, 3) := by decide +kernel
theorem dX9_rewrite_214 : decode cX9_rewrite 214 = .ok (.ifCond .eq 13, 3) := by decide +kernel
theorem dX9_rewrite_217 : decode cX9_rewrite 217 = .ok (.aload_n 0, 1) := by decide +kernel
theorem dX9_rewrite_218 : decode cX9_rewrite 218 = .ok (.getfield 59, 3) := by decide +kernel
theorem dX9_rewrite_221 : decode cX9_rewrite 221 = .ok (.iload 5, 2) := by decide +kernel
theorem dX9_rewrite_223 : decode cX9_rewrite 223 = .ok (.iaload, 1) := by decide +kernel
theorem dX9_rewrite_224 : decode cX9_rewrite 224 = .ok (.goto 5, 3) := by decide +kernel
theorem dX9_rewrite_227 : decode cX9_rewrite 227 = .ok (.iload 5, 2) := by decide +kernel
theorem dX9_rewrite_229 : decode cX9_rewrite 229 = .ok (.istore 11, 2) := by decide +kernel
theorem dX9_rewrite_231 : decode cX9_rewrite 231 = .ok (.iload 9, 2) := by decide +kernel
theorem dX9_rewrite_233 : decode cX9_rewrite 233 = .ok (.ifCond .eq 9, 3) := by decide +kernel
theorem dX9_rewrite_236 : decode cX9_rewrite 236 = .ok (.iload_n 2, 1) := by decide +kernel
theorem dX9_rewrite_237 : decode cX9_rewrite 237 = .ok (.iconst 1, 1) := by decide +kernel
theorem dX9_rewrite_238 : decode cX9_rewrite 238 = .ok (.iadd, 1) := by decide +kernel
theorem dX9_rewrite_239 : decode cX9_rewrite 239 = .ok (.goto 22, 3) := by decide +kernel
theorem dX9_rewrite_242 : decode cX9_rewrite 242 = .ok (.iload_n 3, 1) := by decide +kernel
theorem dX9_rewrite_243 : decode cX9_rewrite 243 = .ok (.invokestatic 102, 3) := by decide +kernel
theorem dX9_rewrite_246 : decode cX9_rewrite 246 = .ok (.ifCond .eq 13, 3) := by decide +kernel
theorem dX9_rewrite_249 : decode cX9_rewrite 249 = .ok (.aload_n 0, 1) := by decide +kernel
theorem dX9_rewrite_250 : decode cX9_rewrite 250 = .ok (.getfield 59, 3) := by decide +kernel
theorem dX9_rewrite_253 : decode cX9_rewrite 253 = .ok (.iload 6, 2) := by decide +kernel
theorem dX9_rewrite_255 : decode cX9_rewrite 255 = .ok (.iaload, 1) := by decide +kernel
theorem dX9_rewrite_256 : decode cX9_rewrite 256 = .ok (.goto 5, 3) := by decide +kernel
theorem dX9_rewrite_259 : decode cX9_rewrite 259 = .ok (.iload 6, 2) := by decide +kernel
theorem dX9_rewrite_261 : decode cX9_rewrite 261 = .ok (.istore 12, 2) := by decide +kernel
theorem dX9_rewrite_263 : decode cX9_rewrite 263 = .ok (.aload_n 0, 1) := by decide +kernel
theorem dX9_rewrite_264 : decode cX9_rewrite 264 = .ok (.iconst 3, 1) := by decide +kernel
theorem dX9_rewrite_265 : decode cX9_rewrite 265 = .ok (.iload_n 3, 1) := by decide +kernel
theorem dX9_rewrite_266 : decode cX9_rewrite 266 = .ok (.iload 10, 2) := by decide +kernel
theorem dX9_rewrite_268 : decode cX9_rewrite 268 = .ok (.iload 11, 2) := by decide +kernel
theorem dX9_rewrite_270 : decode cX9_rewrite 270 = .ok (.iload 12, 2) := by decide +kernel
theorem dX9_rewrite_272 : decode cX9_rewrite 272 = .ok (.invokevirtual 88, 3) := by decide +kernel
theorem dX9_rewrite_275 : decode cX9_rewrite 275 = .ok (.iload 7, 2) := by decide +kernel
theorem dX9_rewrite_277 : decode cX9_rewrite 277 = .ok (.ifCond .eq 22, 3) := by decide +kernel
theorem dX9_rewrite_280 : decode cX9_rewrite 280 = .ok (.aload_n 0, 1) := by decide +kernel
theorem dX9_rewrite_281 : decode cX9_rewrite 281 = .ok (.iconst 3, 1) := by decide +kernel
theorem dX9_rewrite_282 : decode cX9_rewrite 282 = .ok (.bipush 14, 2) := by decide +kernel
theorem dX9_rewrite_284 : decode cX9_rewrite 284 = .ok (.iconst 0, 1) := by decide +kernel
theorem dX9_rewrite_285 : decode cX9_rewrite 285 = .ok (.iload_n 2, 1) := by decide +kernel
theorem dX9_rewrite_286 : decode cX9_rewrite 286 = .ok (.aload_n 0, 1) := by decide +kernel
theorem dX9_rewrite_287 : decode cX9_rewrite 287 = .ok (.getfield 59, 3) := by decide +kernel
theorem dX9_rewrite_290 : decode cX9_rewrite 290 = .ok (.iload 4, 2) := by decide +kernel
theorem dX9_rewrite_292 : decode cX9_rewrite 292 = .ok (.iaload, 1) := by decide +kernel
theorem dX9_rewrite_293 : decode cX9_rewrite 293 = .ok (.bipush 8, 2) := by decide +kernel
theorem dX9_rewrite_295 : decode cX9_rewrite 295 = .ok (.isub, 1) := by decide +kernel
theorem dX9_rewrite_296 : decode cX9_rewrite 296 = .ok (.invokevirtual 88, 3) := by decide +kernel
theorem dX9_rewrite_299 : decode cX9_rewrite 299 = .ok (.return_, 1) := by decide +kernel
set_option maxRecDepth 20000 in
theorem ggX9_allocate_X9_settle : GoodIn wsX9_allocate wsX9_settle := goodIn_r _ [12, 3, 13, 14, 15, 16, 11, 17, 4, 7, 6, 18, 19, 20, 21, 22, 23, 24, 25, 26, 27, 28, 29, 30, 31, 32, 33, 34, 35, 36, 37, 38, 39, 40, 41, 42, 43, 44, 45, 46, 47, 48, 70, 71, 72, 73, 74, 75, 76, 77, 78, 79, 80, 81, 82, 83, 84, 85, 86, 87, 88, 89, 90, 91, 92, 93, 94, 95, 96, 97, 98, 99, 100, 101, 102] (by decide +kernel) (by decide +kernel)
set_option maxRecDepth 20000 in
theorem gX9_allocate_X9_settle : GoodIn wsX9_allocate (wsV RX9 205 RX9 yX9_settle wsX9_settle) := goodIn_app (goodIn_of _ (by decide +kernel)) ggX9_allocate_X9_settle
set_option maxRecDepth 20000 in
theorem ggX9_allocate_X9_throwing : GoodIn wsX9_allocate wsX9_throwing := goodIn_r _ [52, 53, 70, 71, 72, 73, 74, 75, 76, 77, 78, 79, 80, 81, 82, 83, 84, 85, 86, 87, 88, 89, 90, 91, 92, 93, 94, 95, 96, 97, 98, 99, 100, 101, 102] (by decide +kernel) (by decide +kernel)
set_option maxRecDepth 20000 in
theorem gX9_allocate_X9_throwing : GoodIn wsX9_allocate (wsV RX9 108 RX9 yX9_throwing wsX9_throwing) := goodIn_app (goodIn_of _ (by decide +kernel)) ggX9_allocate_X9_throwing
set_option maxRecDepth 20000 in
theorem ggX9_allocate_X9_rewrite : GoodIn wsX9_allocate wsX9_rewrite := goodIn_r _ [57, 7, 6, 18, 29, 13, 36, 37, 11, 38, 30, 31, 32, 33, 34, 35, 58, 59, 60, 61, 4, 62, 63, 64, 65, 70, 71, 72, 73, 74, 75, 76, 77, 78, 79, 80, 81, 82, 83, 84, 85, 86, 87, 88, 89, 90, 91, 92, 93, 94, 95, 96, 97, 98, 99, 100, 101, 102] (by decide +kernel) (by decide +kernel)
set_option maxRecDepth 20000 in
theorem gX9_allocate_X9_rewrite : GoodIn wsX9_allocate (wsV RX9 208 RX9 yX9_rewrite wsX9_rewrite) := goodIn_app (goodIn_of _ (by decide +kernel)) ggX9_allocate_X9_rewrite
set_option maxRecDepth 20000 in
theorem ggX9_allocate_X9_goes : GoodIn wsX9_allocate wsX9_goes := goodIn_r _ [44] (by decide +kernel) (by decide +kernel)
set_option maxRecDepth 20000 in
theorem gX9_allocate_X9_goes : GoodIn wsX9_allocate (va_wsS RX9 105 yX9_goes wsX9_goes) := goodIn_app (goodIn_of _ (by decide +kernel)) ggX9_allocate_X9_goes
set_option maxRecDepth 20000 in
theorem ggX9_allocate_X9_copy : GoodIn wsX9_allocate wsX9_copy := goodIn_r _ [69, 4, 7, 6, 18, 29, 58, 59, 60, 11, 61, 62, 63, 64, 65, 70, 71, 72, 73, 74, 75, 76, 77, 78, 79, 80, 81, 82, 83, 84, 85, 86, 87, 88, 89, 90, 91, 92, 93, 94, 95, 96, 97, 98, 99, 100, 101, 102] (by decide +kernel) (by decide +kernel)
set_option maxRecDepth 20000 in
theorem gX9_allocate_X9_copy : GoodIn wsX9_allocate (wsV RX9 115 RX9 yX9_copy wsX9_copy) := goodIn_app (goodIn_of _ (by decide +kernel)) ggX9_allocate_X9_copy
theorem dX9_allocate_0 : decode cX9_allocate 0 = .ok (.iload_n 1, 1) := by decide +kernel
theorem dX9_allocate_1 : decode cX9_allocate 1 = .ok (.iconst 2, 1) := by decide +kernel
theorem dX9_allocate_2 : decode cX9_allocate 2 = .ok (.if_icmp .lt 9, 3) := by decide +kernel
theorem dX9_allocate_5 : decode cX9_allocate 5 = .ok (.iload_n 1, 1) := by decide +kernel
theorem dX9_allocate_6 : decode cX9_allocate 6 = .ok (.bipush 8, 2) := by decide +kernel
theorem dX9_allocate_8 : decode cX9_allocate 8 = .ok (.if_icmp .le 7, 3) := by decide +kernel
theorem dX9_allocate_11 : decode cX9_allocate 11 = .ok (.iconst 1, 1) := by decide +kernel
theorem dX9_allocate_12 : decode cX9_allocate 12 = .ok (.goto 4, 3) := by decide +kernel
theorem dX9_allocate_15 : decode cX9_allocate 15 = .ok (.iconst 0, 1) := by decide +kernel
theorem dX9_allocate_16 : decode cX9_allocate 16 = .ok (.istore_n 2, 1) := by decide +kernel
theorem dX9_allocate_17 : decode cX9_allocate 17 = .ok (.aload_n 0, 1) := by decide +kernel
theorem dX9_allocate_18 : decode cX9_allocate 18 = .ok (.getfield 119, 3) := by decide +kernel
theorem dX9_allocate_21 : decode cX9_allocate 21 = .ok (.ifCond .eq 10, 3) := by decide +kernel
theorem dX9_allocate_24 : decode cX9_allocate 24 = .ok (.aload_n 0, 1) := by decide +kernel
theorem dX9_allocate_25 : decode cX9_allocate 25 = .ok (.getfield 123, 3) := by decide +kernel
theorem dX9_allocate_28 : decode cX9_allocate 28 = .ok (.ifCond .eq 7, 3) := by decide +kernel
theorem dX9_allocate_31 : decode cX9_allocate 31 = .ok (.iconst 1, 1) := by decide +kernel
theorem dX9_allocate_32 : decode cX9_allocate 32 = .ok (.goto 4, 3) := by decide +kernel
theorem dX9_allocate_35 : decode cX9_allocate 35 = .ok (.iconst 0, 1) := by decide +kernel
theorem dX9_allocate_36 : decode cX9_allocate 36 = .ok (.istore_n 3, 1) := by decide +kernel
theorem dX9_allocate_37 : decode cX9_allocate 37 = .ok (.iload_n 2, 1) := by decide +kernel
theorem dX9_allocate_38 : decode cX9_allocate 38 = .ok (.ifCond .ne 26, 3) := by decide +kernel
theorem dX9_allocate_41 : decode cX9_allocate 41 = .ok (.iload_n 3, 1) := by decide +kernel
theorem dX9_allocate_42 : decode cX9_allocate 42 = .ok (.ifCond .ne 22, 3) := by decide +kernel
theorem dX9_allocate_45 : decode cX9_allocate 45 = .ok (.aload_n 0, 1) := by decide +kernel
theorem dX9_allocate_46 : decode cX9_allocate 46 = .ok (.iload_n 1, 1) := by decide +kernel
theorem dX9_allocate_47 : decode cX9_allocate 47 = .ok (.invokevirtual 205, 3) := by decide +kernel
theorem dX9_allocate_50 : decode cX9_allocate 50 = .ok (.ifCond .le 12, 3) := by decide +kernel
theorem dX9_allocate_53 : decode cX9_allocate 53 = .ok (.iload_n 1, 1) := by decide +kernel
theorem dX9_allocate_54 : decode cX9_allocate 54 = .ok (.iconst 4, 1) := by decide +kernel
theorem dX9_allocate_55 : decode cX9_allocate 55 = .ok (.if_icmp .ge 7, 3) := by decide +kernel
theorem dX9_allocate_58 : decode cX9_allocate 58 = .ok (.iconst 1, 1) := by decide +kernel
theorem dX9_allocate_59 : decode cX9_allocate 59 = .ok (.goto 4, 3) := by decide +kernel
theorem dX9_allocate_62 : decode cX9_allocate 62 = .ok (.iconst 0, 1) := by decide +kernel
theorem dX9_allocate_63 : decode cX9_allocate 63 = .ok (.istore_n 3, 1) := by decide +kernel
theorem dX9_allocate_64 : decode cX9_allocate 64 = .ok (.aload_n 0, 1) := by decide +kernel
theorem dX9_allocate_65 : decode cX9_allocate 65 = .ok (.iload_n 2, 1) := by decide +kernel
theorem dX9_allocate_66 : decode cX9_allocate 66 = .ok (.iload_n 3, 1) := by decide +kernel
theorem dX9_allocate_67 : decode cX9_allocate 67 = .ok (.invokevirtual 108, 3) := by decide +kernel
theorem dX9_allocate_70 : decode cX9_allocate 70 = .ok (.ifCond .eq 5, 3) := by decide +kernel
theorem dX9_allocate_73 : decode cX9_allocate 73 = .ok (.iconst 0, 1) := by decide +kernel
theorem dX9_allocate_74 : decode cX9_allocate 74 = .ok (.ireturn, 1) := by decide +kernel
theorem dX9_allocate_75 : decode cX9_allocate 75 = .ok (.aload_n 0, 1) := by decide +kernel
theorem dX9_allocate_76 : decode cX9_allocate 76 = .ok (.getfield 199, 3) := by decide +kernel
theorem dX9_allocate_79 : decode cX9_allocate 79 = .ok (.ifCond .le 11, 3) := by decide +kernel
theorem dX9_allocate_82 : decode cX9_allocate 82 = .ok (.aload_n 0, 1) := by decide +kernel
theorem dX9_allocate_83 : decode cX9_allocate 83 = .ok (.iload_n 1, 1) := by decide +kernel
theorem dX9_allocate_84 : decode cX9_allocate 84 = .ok (.iconst 2, 1) := by decide +kernel
theorem dX9_allocate_85 : decode cX9_allocate 85 = .ok (.isub, 1) := by decide +kernel
theorem dX9_allocate_86 : decode cX9_allocate 86 = .ok (.invokevirtual 205, 3) := by decide +kernel
theorem dX9_allocate_89 : decode cX9_allocate 89 = .ok (.pop, 1) := by decide +kernel
theorem dX9_allocate_90 : decode cX9_allocate 90 = .ok (.aload_n 0, 1) := by decide +kernel
theorem dX9_allocate_91 : decode cX9_allocate 91 = .ok (.getfield 7, 3) := by decide +kernel
theorem dX9_allocate_94 : decode cX9_allocate 94 = .ok (.iconst 3, 1) := by decide +kernel
theorem dX9_allocate_95 : decode cX9_allocate 95 = .ok (.iconst 0, 1) := by decide +kernel
theorem dX9_allocate_96 : decode cX9_allocate 96 = .ok (.iastore, 1) := by decide +kernel
theorem dX9_allocate_97 : decode cX9_allocate 97 = .ok (.iconst 0, 1) := by decide +kernel
theorem dX9_allocate_98 : decode cX9_allocate 98 = .ok (.istore 4, 2) := by decide +kernel
theorem dX9_allocate_100 : decode cX9_allocate 100 = .ok (.iload 4, 2) := by decide +kernel
theorem dX9_allocate_102 : decode cX9_allocate 102 = .ok (.aload_n 0, 1) := by decide +kernel
theorem dX9_allocate_103 : decode cX9_allocate 103 = .ok (.getfield 7, 3) := by decide +kernel
theorem dX9_allocate_106 : decode cX9_allocate 106 = .ok (.iconst 1, 1) := by decide +kernel
theorem dX9_allocate_107 : decode cX9_allocate 107 = .ok (.iaload, 1) := by decide +kernel
theorem dX9_allocate_108 : decode cX9_allocate 108 = .ok (.if_icmp .ge 31, 3) := by decide +kernel
theorem dX9_allocate_111 : decode cX9_allocate 111 = .ok (.aload_n 0, 1) := by decide +kernel
theorem dX9_allocate_112 : decode cX9_allocate 112 = .ok (.getfield 35, 3) := by decide +kernel
theorem dX9_allocate_115 : decode cX9_allocate 115 = .ok (.iload 4, 2) := by decide +kernel
theorem dX9_allocate_117 : decode cX9_allocate 117 = .ok (.aload_n 0, 1) := by decide +kernel
theorem dX9_allocate_118 : decode cX9_allocate 118 = .ok (.getfield 7, 3) := by decide +kernel
theorem dX9_allocate_121 : decode cX9_allocate 121 = .ok (.iconst 3, 1) := by decide +kernel
theorem dX9_allocate_122 : decode cX9_allocate 122 = .ok (.iaload, 1) := by decide +kernel
theorem dX9_allocate_123 : decode cX9_allocate 123 = .ok (.iastore, 1) := by decide +kernel
theorem dX9_allocate_124 : decode cX9_allocate 124 = .ok (.aload_n 0, 1) := by decide +kernel
theorem dX9_allocate_125 : decode cX9_allocate 125 = .ok (.iload 4, 2) := by decide +kernel
theorem dX9_allocate_127 : decode cX9_allocate 127 = .ok (.iload_n 1, 1) := by decide +kernel
theorem dX9_allocate_128 : decode cX9_allocate 128 = .ok (.iconst 2, 1) := by decide +kernel
theorem dX9_allocate_129 : decode cX9_allocate 129 = .ok (.isub, 1) := by decide +kernel
theorem dX9_allocate_130 : decode cX9_allocate 130 = .ok (.invokevirtual 208, 3) := by decide +kernel
theorem dX9_allocate_133 : decode cX9_allocate 133 = .ok (.iinc 4 1, 3) := by decide +kernel
theorem dX9_allocate_136 : decode cX9_allocate 136 = .ok (.goto (-36), 3) := by decide +kernel
theorem dX9_allocate_139 : decode cX9_allocate 139 = .ok (.sipush 300, 3) := by decide +kernel
theorem dX9_allocate_142 : decode cX9_allocate 142 = .ok (.istore 4, 2) := by decide +kernel
theorem dX9_allocate_144 : decode cX9_allocate 144 = .ok (.iload 4, 2) := by decide +kernel
theorem dX9_allocate_146 : decode cX9_allocate 146 = .ok (.sipush 300, 3) := by decide +kernel
theorem dX9_allocate_149 : decode cX9_allocate 149 = .ok (.aload_n 0, 1) := by decide +kernel
theorem dX9_allocate_150 : decode cX9_allocate 150 = .ok (.getfield 7, 3) := by decide +kernel
theorem dX9_allocate_153 : decode cX9_allocate 153 = .ok (.iconst 3, 1) := by decide +kernel
theorem dX9_allocate_154 : decode cX9_allocate 154 = .ok (.iaload, 1) := by decide +kernel
theorem dX9_allocate_155 : decode cX9_allocate 155 = .ok (.iadd, 1) := by decide +kernel
theorem dX9_allocate_156 : decode cX9_allocate 156 = .ok (.if_icmp .ge 51, 3) := by decide +kernel
theorem dX9_allocate_159 : decode cX9_allocate 159 = .ok (.aload_n 0, 1) := by decide +kernel
theorem dX9_allocate_160 : decode cX9_allocate 160 = .ok (.getfield 16, 3) := by decide +kernel
theorem dX9_allocate_163 : decode cX9_allocate 163 = .ok (.iload 4, 2) := by decide +kernel
theorem dX9_allocate_165 : decode cX9_allocate 165 = .ok (.aload_n 0, 1) := by decide +kernel
theorem dX9_allocate_166 : decode cX9_allocate 166 = .ok (.getfield 13, 3) := by decide +kernel
theorem dX9_allocate_169 : decode cX9_allocate 169 = .ok (.iload 4, 2) := by decide +kernel
theorem dX9_allocate_171 : decode cX9_allocate 171 = .ok (.iaload, 1) := by decide +kernel
theorem dX9_allocate_172 : decode cX9_allocate 172 = .ok (.invokestatic 105, 3) := by decide +kernel
theorem dX9_allocate_175 : decode cX9_allocate 175 = .ok (.ifCond .eq 18, 3) := by decide +kernel
theorem dX9_allocate_178 : decode cX9_allocate 178 = .ok (.aload_n 0, 1) := by decide +kernel
theorem dX9_allocate_179 : decode cX9_allocate 179 = .ok (.getfield 35, 3) := by decide +kernel
theorem dX9_allocate_182 : decode cX9_allocate 182 = .ok (.aload_n 0, 1) := by decide +kernel
theorem dX9_allocate_183 : decode cX9_allocate 183 = .ok (.getfield 16, 3) := by decide +kernel
theorem dX9_allocate_186 : decode cX9_allocate 186 = .ok (.iload 4, 2) := by decide +kernel
theorem dX9_allocate_188 : decode cX9_allocate 188 = .ok (.iaload, 1) := by decide +kernel
theorem dX9_allocate_189 : decode cX9_allocate 189 = .ok (.iaload, 1) := by decide +kernel
theorem dX9_allocate_190 : decode cX9_allocate 190 = .ok (.goto 10, 3) := by decide +kernel
theorem dX9_allocate_193 : decode cX9_allocate 193 = .ok (.aload_n 0, 1) := by decide +kernel
theorem dX9_allocate_194 : decode cX9_allocate 194 = .ok (.getfield 16, 3) := by decide +kernel
theorem dX9_allocate_197 : decode cX9_allocate 197 = .ok (.iload 4, 2) := by decide +kernel
theorem dX9_allocate_199 : decode cX9_allocate 199 = .ok (.iaload, 1) := by decide +kernel
theorem dX9_allocate_200 : decode cX9_allocate 200 = .ok (.iastore, 1) := by decide +kernel
theorem dX9_allocate_201 : decode cX9_allocate 201 = .ok (.iinc 4 1, 3) := by decide +kernel
theorem dX9_allocate_204 : decode cX9_allocate 204 = .ok (.goto (-60), 3) := by decide +kernel
theorem dX9_allocate_207 : decode cX9_allocate 207 = .ok (.aload_n 0, 1) := by decide +kernel
theorem dX9_allocate_208 : decode cX9_allocate 208 = .ok (.iconst 3, 1) := by decide +kernel
theorem dX9_allocate_209 : decode cX9_allocate 209 = .ok (.iconst 1, 1) := by decide +kernel
theorem dX9_allocate_210 : decode cX9_allocate 210 = .ok (.invokevirtual 115, 3) := by decide +kernel
theorem dX9_allocate_213 : decode cX9_allocate 213 = .ok (.aload_n 0, 1) := by decide +kernel
theorem dX9_allocate_214 : decode cX9_allocate 214 = .ok (.iconst 1, 1) := by decide +kernel
theorem dX9_allocate_215 : decode cX9_allocate 215 = .ok (.putfield 123, 3) := by decide +kernel
theorem dX9_allocate_218 : decode cX9_allocate 218 = .ok (.aload_n 0, 1) := by decide +kernel
theorem dX9_allocate_219 : decode cX9_allocate 219 = .ok (.getfield 199, 3) := by decide +kernel
theorem dX9_allocate_222 : decode cX9_allocate 222 = .ok (.ireturn, 1) := by decide +kernel
set_option maxRecDepth 20000 in
theorem ggX9_home_X9_out : GoodIn wsX9_home wsX9_out := goodIn_r _ [6] (by decide +kernel) (by decide +kernel)
set_option maxRecDepth 20000 in
theorem gX9_home_X9_out : GoodIn wsX9_home (va_wsS RX9 91 yX9_out wsX9_out) := goodIn_app (goodIn_of _ (by decide +kernel)) ggX9_home_X9_out
set_option maxRecDepth 20000 in
theorem ggX9_home_X9_throwing : GoodIn wsX9_home wsX9_throwing := goodIn_r _ [10, 11, 12, 13, 14, 15, 16, 17, 18, 19, 20, 21, 22, 23, 24, 25, 26, 27, 28, 29, 30, 31, 32, 33, 34, 35, 36, 37, 38, 39, 40, 41, 42, 43, 44] (by decide +kernel) (by decide +kernel)
set_option maxRecDepth 20000 in
theorem gX9_home_X9_throwing : GoodIn wsX9_home (wsV RX9 108 RX9 yX9_throwing wsX9_throwing) := goodIn_app (goodIn_of _ (by decide +kernel)) ggX9_home_X9_throwing
theorem dX9_home_0 : decode cX9_home 0 = .ok (.aload_n 0, 1) := by decide +kernel
theorem dX9_home_1 : decode cX9_home 1 = .ok (.iload_n 1, 1) := by decide +kernel
theorem dX9_home_2 : decode cX9_home 2 = .ok (.bipush 8, 2) := by decide +kernel
theorem dX9_home_4 : decode cX9_home 4 = .ok (.invokestatic 91, 3) := by decide +kernel
theorem dX9_home_7 : decode cX9_home 7 = .ok (.aload_n 0, 1) := by decide +kernel
theorem dX9_home_8 : decode cX9_home 8 = .ok (.getfield 123, 3) := by decide +kernel
theorem dX9_home_11 : decode cX9_home 11 = .ok (.ifCond .ne 7, 3) := by decide +kernel
theorem dX9_home_14 : decode cX9_home 14 = .ok (.iconst 1, 1) := by decide +kernel
theorem dX9_home_15 : decode cX9_home 15 = .ok (.goto 4, 3) := by decide +kernel
theorem dX9_home_18 : decode cX9_home 18 = .ok (.iconst 0, 1) := by decide +kernel
theorem dX9_home_19 : decode cX9_home 19 = .ok (.invokevirtual 108, 3) := by decide +kernel
theorem dX9_home_22 : decode cX9_home 22 = .ok (.ifCond .eq 7, 3) := by decide +kernel
theorem dX9_home_25 : decode cX9_home 25 = .ok (.iconst 0, 1) := by decide +kernel
theorem dX9_home_26 : decode cX9_home 26 = .ok (.goto 9, 3) := by decide +kernel
theorem dX9_home_29 : decode cX9_home 29 = .ok (.aload_n 0, 1) := by decide +kernel
theorem dX9_home_30 : decode cX9_home 30 = .ok (.getfield 59, 3) := by decide +kernel
theorem dX9_home_33 : decode cX9_home 33 = .ok (.iload_n 1, 1) := by decide +kernel
theorem dX9_home_34 : decode cX9_home 34 = .ok (.iaload, 1) := by decide +kernel
theorem dX9_home_35 : decode cX9_home 35 = .ok (.ireturn, 1) := by decide +kernel
set_option maxRecDepth 20000 in
theorem ggX9_poke_X9_out : GoodIn wsX9_poke wsX9_out := goodIn_r _ [7] (by decide +kernel) (by decide +kernel)
set_option maxRecDepth 20000 in
theorem gX9_poke_X9_out : GoodIn wsX9_poke (va_wsS RX9 91 yX9_out wsX9_out) := goodIn_app (goodIn_of _ (by decide +kernel)) ggX9_poke_X9_out
set_option maxRecDepth 20000 in
theorem ggX9_poke_X9_throwing : GoodIn wsX9_poke wsX9_throwing := goodIn_r _ [11, 12, 13, 14, 15, 16, 17, 18, 19, 20, 21, 22, 23, 24, 25, 26, 27, 28, 29, 30, 31, 32, 33, 34, 35, 36, 37, 38, 39, 40, 41, 42, 43, 44, 45] (by decide +kernel) (by decide +kernel)
set_option maxRecDepth 20000 in
theorem gX9_poke_X9_throwing : GoodIn wsX9_poke (wsV RX9 108 RX9 yX9_throwing wsX9_throwing) := goodIn_app (goodIn_of _ (by decide +kernel)) ggX9_poke_X9_throwing
theorem dX9_poke_0 : decode cX9_poke 0 = .ok (.aload_n 0, 1) := by decide +kernel
theorem dX9_poke_1 : decode cX9_poke 1 = .ok (.iload_n 1, 1) := by decide +kernel
theorem dX9_poke_2 : decode cX9_poke 2 = .ok (.bipush 8, 2) := by decide +kernel
theorem dX9_poke_4 : decode cX9_poke 4 = .ok (.invokestatic 91, 3) := by decide +kernel
theorem dX9_poke_7 : decode cX9_poke 7 = .ok (.iconst 0, 1) := by decide +kernel
theorem dX9_poke_8 : decode cX9_poke 8 = .ok (.invokevirtual 108, 3) := by decide +kernel
theorem dX9_poke_11 : decode cX9_poke 11 = .ok (.ifCond .eq 4, 3) := by decide +kernel
theorem dX9_poke_14 : decode cX9_poke 14 = .ok (.return_, 1) := by decide +kernel
theorem dX9_poke_15 : decode cX9_poke 15 = .ok (.aload_n 0, 1) := by decide +kernel
theorem dX9_poke_16 : decode cX9_poke 16 = .ok (.getfield 62, 3) := by decide +kernel
theorem dX9_poke_19 : decode cX9_poke 19 = .ok (.iload_n 1, 1) := by decide +kernel
theorem dX9_poke_20 : decode cX9_poke 20 = .ok (.iload_n 2, 1) := by decide +kernel
theorem dX9_poke_21 : decode cX9_poke 21 = .ok (.iastore, 1) := by decide +kernel
theorem dX9_poke_22 : decode cX9_poke 22 = .ok (.aload_n 0, 1) := by decide +kernel
theorem dX9_poke_23 : decode cX9_poke 23 = .ok (.getfield 77, 3) := by decide +kernel
theorem dX9_poke_26 : decode cX9_poke 26 = .ok (.ifCond .ge 10, 3) := by decide +kernel
theorem dX9_poke_29 : decode cX9_poke 29 = .ok (.aload_n 0, 1) := by decide +kernel
theorem dX9_poke_30 : decode cX9_poke 30 = .ok (.getfield 65, 3) := by decide +kernel
theorem dX9_poke_33 : decode cX9_poke 33 = .ok (.iload_n 1, 1) := by decide +kernel
theorem dX9_poke_34 : decode cX9_poke 34 = .ok (.iload_n 2, 1) := by decide +kernel
theorem dX9_poke_35 : decode cX9_poke 35 = .ok (.iastore, 1) := by decide +kernel
theorem dX9_poke_36 : decode cX9_poke 36 = .ok (.return_, 1) := by decide +kernel
set_option maxRecDepth 20000 in
theorem ggX9_run_X9_throwing : GoodIn wsX9_run wsX9_throwing := goodIn_r _ [13, 14, 40, 41, 42, 43, 44, 45, 46, 47, 48, 49, 50, 51, 52, 53, 54, 55, 56, 57, 58, 59, 60, 61, 62, 63, 64, 65, 66, 67, 68, 69, 70, 71, 72] (by decide +kernel) (by decide +kernel)
set_option maxRecDepth 20000 in
theorem gX9_run_X9_throwing : GoodIn wsX9_run (wsV RX9 108 RX9 yX9_throwing wsX9_throwing) := goodIn_app (goodIn_of _ (by decide +kernel)) ggX9_run_X9_throwing
set_option maxRecDepth 20000 in
theorem ggX9_run_X9_step : GoodIn wsX9_run wsX9_step := goodIn_r _ [18, 19, 2, 20, 21, 7, 6, 8, 22, 4, 3, 23, 24, 25, 26, 12, 27, 28, 29, 30, 31, 32, 33, 34, 35, 36, 37, 38, 39, 40, 41, 42, 43, 44, 45, 46, 47, 48, 49, 50, 51, 52, 53, 54, 55, 56, 57, 58, 59, 60, 61, 62, 63, 64, 65, 66, 67, 68, 69, 70, 71, 72] (by decide +kernel) (by decide +kernel)
set_option maxRecDepth 20000 in
theorem gX9_run_X9_step : GoodIn wsX9_run (wsV RX9 217 RX9 yX9_step wsX9_step) := goodIn_app (goodIn_of _ (by decide +kernel)) ggX9_run_X9_step
theorem dX9_run_0 : decode cX9_run 0 = .ok (.aload_n 0, 1) := by decide +kernel
theorem dX9_run_1 : decode cX9_run 1 = .ok (.aload_n 0, 1) := by decide +kernel
theorem dX9_run_2 : decode cX9_run 2 = .ok (.getfield 119, 3) := by decide +kernel
theorem dX9_run_5 : decode cX9_run 5 = .ok (.ifCond .ne 7, 3) := by decide +kernel
theorem dX9_run_8 : decode cX9_run 8 = .ok (.iconst 1, 1) := by decide +kernel
theorem dX9_run_9 : decode cX9_run 9 = .ok (.goto 4, 3) := by decide +kernel
theorem dX9_run_12 : decode cX9_run 12 = .ok (.iconst 0, 1) := by decide +kernel
theorem dX9_run_13 : decode cX9_run 13 = .ok (.iconst 0, 1) := by decide +kernel
theorem dX9_run_14 : decode cX9_run 14 = .ok (.invokevirtual 108, 3) := by decide +kernel
theorem dX9_run_17 : decode cX9_run 17 = .ok (.ifCond .eq 5, 3) := by decide +kernel
theorem dX9_run_20 : decode cX9_run 20 = .ok (.iconst 0, 1) := by decide +kernel
theorem dX9_run_21 : decode cX9_run 21 = .ok (.ireturn, 1) := by decide +kernel
theorem dX9_run_22 : decode cX9_run 22 = .ok (.iconst 0, 1) := by decide +kernel
theorem dX9_run_23 : decode cX9_run 23 = .ok (.istore 4, 2) := by decide +kernel
theorem dX9_run_25 : decode cX9_run 25 = .ok (.iload 4, 2) := by decide +kernel
theorem dX9_run_27 : decode cX9_run 27 = .ok (.bipush 8, 2) := by decide +kernel
theorem dX9_run_29 : decode cX9_run 29 = .ok (.if_icmp .ge 58, 3) := by decide +kernel
theorem dX9_run_32 : decode cX9_run 32 = .ok (.aload_n 0, 1) := by decide +kernel
theorem dX9_run_33 : decode cX9_run 33 = .ok (.getfield 68, 3) := by decide +kernel
theorem dX9_run_36 : decode cX9_run 36 = .ok (.iload 4, 2) := by decide +kernel
theorem dX9_run_38 : decode cX9_run 38 = .ok (.iload 4, 2) := by decide +kernel
theorem dX9_run_40 : decode cX9_run 40 = .ok (.ifCond .ne 7, 3) := by decide +kernel
theorem dX9_run_43 : decode cX9_run 43 = .ok (.iload_n 2, 1) := by decide +kernel
theorem dX9_run_44 : decode cX9_run 44 = .ok (.goto 14, 3) := by decide +kernel
theorem dX9_run_47 : decode cX9_run 47 = .ok (.iload 4, 2) := by decide +kernel
theorem dX9_run_49 : decode cX9_run 49 = .ok (.iconst 1, 1) := by decide +kernel
theorem dX9_run_50 : decode cX9_run 50 = .ok (.if_icmp .ne 7, 3) := by decide +kernel
theorem dX9_run_53 : decode cX9_run 53 = .ok (.iload_n 3, 1) := by decide +kernel
theorem dX9_run_54 : decode cX9_run 54 = .ok (.goto 4, 3) := by decide +kernel
theorem dX9_run_57 : decode cX9_run 57 = .ok (.iconst 0, 1) := by decide +kernel
theorem dX9_run_58 : decode cX9_run 58 = .ok (.iastore, 1) := by decide +kernel
theorem dX9_run_59 : decode cX9_run 59 = .ok (.aload_n 0, 1) := by decide +kernel
theorem dX9_run_60 : decode cX9_run 60 = .ok (.getfield 71, 3) := by decide +kernel
theorem dX9_run_63 : decode cX9_run 63 = .ok (.iload 4, 2) := by decide +kernel
theorem dX9_run_65 : decode cX9_run 65 = .ok (.iconst 0, 1) := by decide +kernel
theorem dX9_run_66 : decode cX9_run 66 = .ok (.iastore, 1) := by decide +kernel
theorem dX9_run_67 : decode cX9_run 67 = .ok (.aload_n 0, 1) := by decide +kernel
theorem dX9_run_68 : decode cX9_run 68 = .ok (.getfield 65, 3) := by decide +kernel
theorem dX9_run_71 : decode cX9_run 71 = .ok (.iload 4, 2) := by decide +kernel
theorem dX9_run_73 : decode cX9_run 73 = .ok (.aload_n 0, 1) := by decide +kernel
theorem dX9_run_74 : decode cX9_run 74 = .ok (.getfield 62, 3) := by decide +kernel
theorem dX9_run_77 : decode cX9_run 77 = .ok (.iload 4, 2) := by decide +kernel
theorem dX9_run_79 : decode cX9_run 79 = .ok (.iaload, 1) := by decide +kernel
theorem dX9_run_80 : decode cX9_run 80 = .ok (.iastore, 1) := by decide +kernel
theorem dX9_run_81 : decode cX9_run 81 = .ok (.iinc 4 1, 3) := by decide +kernel
theorem dX9_run_84 : decode cX9_run 84 = .ok (.goto (-59), 3) := by decide +kernel
theorem dX9_run_87 : decode cX9_run 87 = .ok (.aload_n 0, 1) := by decide +kernel
theorem dX9_run_88 : decode cX9_run 88 = .ok (.iconst 0, 1) := by decide +kernel
theorem dX9_run_89 : decode cX9_run 89 = .ok (.putfield 211, 3) := by decide +kernel
theorem dX9_run_92 : decode cX9_run 92 = .ok (.aload_n 0, 1) := by decide +kernel
theorem dX9_run_93 : decode cX9_run 93 = .ok (.iconst 0, 1) := by decide +kernel
theorem dX9_run_94 : decode cX9_run 94 = .ok (.putfield 214, 3) := by decide +kernel
theorem dX9_run_97 : decode cX9_run 97 = .ok (.aload_n 0, 1) := by decide +kernel
theorem dX9_run_98 : decode cX9_run 98 = .ok (.iconst (-1), 1) := by decide +kernel
theorem dX9_run_99 : decode cX9_run 99 = .ok (.putfield 77, 3) := by decide +kernel
theorem dX9_run_102 : decode cX9_run 102 = .ok (.iload_n 1, 1) := by decide +kernel
theorem dX9_run_103 : decode cX9_run 103 = .ok (.ifCond .eq 8, 3) := by decide +kernel
theorem dX9_run_106 : decode cX9_run 106 = .ok (.bipush 100, 2) := by decide +kernel
theorem dX9_run_108 : decode cX9_run 108 = .ok (.goto 4, 3) := by decide +kernel
theorem dX9_run_111 : decode cX9_run 111 = .ok (.iconst 0, 1) := by decide +kernel
theorem dX9_run_112 : decode cX9_run 112 = .ok (.istore 4, 2) := by decide +kernel
theorem dX9_run_114 : decode cX9_run 114 = .ok (.iconst 0, 1) := by decide +kernel
theorem dX9_run_115 : decode cX9_run 115 = .ok (.istore 5, 2) := by decide +kernel
theorem dX9_run_117 : decode cX9_run 117 = .ok (.aload_n 0, 1) := by decide +kernel
theorem dX9_run_118 : decode cX9_run 118 = .ok (.getfield 77, 3) := by decide +kernel
theorem dX9_run_121 : decode cX9_run 121 = .ok (.ifCond .ge 20, 3) := by decide +kernel
theorem dX9_run_124 : decode cX9_run 124 = .ok (.aload_n 0, 1) := by decide +kernel
theorem dX9_run_125 : decode cX9_run 125 = .ok (.iload 4, 2) := by decide +kernel
theorem dX9_run_127 : decode cX9_run 127 = .ok (.iload 5, 2) := by decide +kernel
theorem dX9_run_129 : decode cX9_run 129 = .ok (.iadd, 1) := by decide +kernel
theorem dX9_run_130 : decode cX9_run 130 = .ok (.invokevirtual 217, 3) := by decide +kernel
theorem dX9_run_133 : decode cX9_run 133 = .ok (.iload 4, 2) := by decide +kernel
theorem dX9_run_135 : decode cX9_run 135 = .ok (.isub, 1) := by decide +kernel
theorem dX9_run_136 : decode cX9_run 136 = .ok (.istore 5, 2) := by decide +kernel
theorem dX9_run_138 : decode cX9_run 138 = .ok (.goto (-21), 3) := by decide +kernel
theorem dX9_run_141 : decode cX9_run 141 = .ok (.aload_n 0, 1) := by decide +kernel
theorem dX9_run_142 : decode cX9_run 142 = .ok (.getfield 77, 3) := by decide +kernel
theorem dX9_run_145 : decode cX9_run 145 = .ok (.ireturn, 1) := by decide +kernel
set_option maxRecDepth 20000 in
theorem ggX9_step_X9_readsA : GoodIn wsX9_step wsX9_readsA := goodIn_r _ [16] (by decide +kernel) (by decide +kernel)
set_option maxRecDepth 20000 in
theorem gX9_step_X9_readsA : GoodIn wsX9_step (va_wsS RX9 99 yX9_readsA wsX9_readsA) := goodIn_app (goodIn_of _ (by decide +kernel)) ggX9_step_X9_readsA
set_option maxRecDepth 20000 in
theorem ggX9_step_X9_readsB : GoodIn wsX9_step wsX9_readsB := goodIn_r _ [19] (by decide +kernel) (by decide +kernel)
set_option maxRecDepth 20000 in
theorem gX9_step_X9_readsB : GoodIn wsX9_step (va_wsS RX9 102 yX9_readsB wsX9_readsB) := goodIn_app (goodIn_of _ (by decide +kernel)) ggX9_step_X9_readsB
set_option maxRecDepth 20000 in
theorem ggX9_step_X9_out : GoodIn wsX9_step wsX9_out := goodIn_r _ [22] (by decide +kernel) (by decide +kernel)
set_option maxRecDepth 20000 in
theorem gX9_step_X9_out : GoodIn wsX9_step (va_wsS RX9 91 yX9_out wsX9_out) := goodIn_app (goodIn_of _ (by decide +kernel)) ggX9_step_X9_out
set_option maxRecDepth 20000 in
theorem ggX9_step_X9_writes : GoodIn wsX9_step wsX9_writes := goodIn_r _ [25] (by decide +kernel) (by decide +kernel)
set_option maxRecDepth 20000 in
theorem gX9_step_X9_writes : GoodIn wsX9_step (va_wsS RX9 95 yX9_writes wsX9_writes) := goodIn_app (goodIn_of _ (by decide +kernel)) ggX9_step_X9_writes
set_option maxRecDepth 20000 in
theorem ggX9_step_X9_reckon : GoodIn wsX9_step wsX9_reckon := goodIn_r _ [28] (by decide +kernel) (by decide +kernel)
set_option maxRecDepth 20000 in
theorem gX9_step_X9_reckon : GoodIn wsX9_step (va_wsS RX9 145 yX9_reckon wsX9_reckon) := goodIn_app (goodIn_of _ (by decide +kernel)) ggX9_step_X9_reckon
theorem dX9_step_0 : decode cX9_step 0 = .ok (.aload_n 0, 1) := by decide +kernel
theorem dX9_step_1 : decode cX9_step 1 = .ok (.getfield 13, 3) := by decide +kernel
theorem dX9_step_4 : decode cX9_step 4 = .ok (.iload_n 1, 1) := by decide +kernel
theorem dX9_step_5 : decode cX9_step 5 = .ok (.iaload, 1) := by decide +kernel
theorem dX9_step_6 : decode cX9_step 6 = .ok (.istore_n 2, 1) := by decide +kernel
theorem dX9_step_7 : decode cX9_step 7 = .ok (.iload_n 2, 1) := by decide +kernel
theorem dX9_step_8 : decode cX9_step 8 = .ok (.invokestatic 99, 3) := by decide +kernel
theorem dX9_step_11 : decode cX9_step 11 = .ok (.ifCond .eq 17, 3) := by decide +kernel
theorem dX9_step_14 : decode cX9_step 14 = .ok (.aload_n 0, 1) := by decide +kernel
theorem dX9_step_15 : decode cX9_step 15 = .ok (.getfield 68, 3) := by decide +kernel
theorem dX9_step_18 : decode cX9_step 18 = .ok (.aload_n 0, 1) := by decide +kernel
theorem dX9_step_19 : decode cX9_step 19 = .ok (.getfield 19, 3) := by decide +kernel
theorem dX9_step_22 : decode cX9_step 22 = .ok (.iload_n 1, 1) := by decide +kernel
theorem dX9_step_23 : decode cX9_step 23 = .ok (.iaload, 1) := by decide +kernel
theorem dX9_step_24 : decode cX9_step 24 = .ok (.iaload, 1) := by decide +kernel
theorem dX9_step_25 : decode cX9_step 25 = .ok (.goto 4, 3) := by decide +kernel
theorem dX9_step_28 : decode cX9_step 28 = .ok (.iconst 0, 1) := by decide +kernel
theorem dX9_step_29 : decode cX9_step 29 = .ok (.istore_n 3, 1) := by decide +kernel
theorem dX9_step_30 : decode cX9_step 30 = .ok (.iload_n 2, 1) := by decide +kernel
theorem dX9_step_31 : decode cX9_step 31 = .ok (.invokestatic 102, 3) := by decide +kernel
theorem dX9_step_34 : decode cX9_step 34 = .ok (.ifCond .eq 17, 3) := by decide +kernel
theorem dX9_step_37 : decode cX9_step 37 = .ok (.aload_n 0, 1) := by decide +kernel
theorem dX9_step_38 : decode cX9_step 38 = .ok (.getfield 68, 3) := by decide +kernel
theorem dX9_step_41 : decode cX9_step 41 = .ok (.aload_n 0, 1) := by decide +kernel
theorem dX9_step_42 : decode cX9_step 42 = .ok (.getfield 22, 3) := by decide +kernel
theorem dX9_step_45 : decode cX9_step 45 = .ok (.iload_n 1, 1) := by decide +kernel
theorem dX9_step_46 : decode cX9_step 46 = .ok (.iaload, 1) := by decide +kernel
theorem dX9_step_47 : decode cX9_step 47 = .ok (.iaload, 1) := by decide +kernel
theorem dX9_step_48 : decode cX9_step 48 = .ok (.goto 4, 3) := by decide +kernel
theorem dX9_step_51 : decode cX9_step 51 = .ok (.iconst 0, 1) := by decide +kernel
theorem dX9_step_52 : decode cX9_step 52 = .ok (.istore 4, 2) := by decide +kernel
theorem dX9_step_54 : decode cX9_step 54 = .ok (.iload_n 2, 1) := by decide +kernel
theorem dX9_step_55 : decode cX9_step 55 = .ok (.bipush 7, 2) := by decide +kernel
theorem dX9_step_57 : decode cX9_step 57 = .ok (.if_icmp .eq 9, 3) := by decide +kernel
theorem dX9_step_60 : decode cX9_step 60 = .ok (.iload_n 2, 1) := by decide +kernel
theorem dX9_step_61 : decode cX9_step 61 = .ok (.bipush 8, 2) := by decide +kernel
theorem dX9_step_63 : decode cX9_step 63 = .ok (.if_icmp .ne 7, 3) := by decide +kernel
theorem dX9_step_66 : decode cX9_step 66 = .ok (.iconst 1, 1) := by decide +kernel
theorem dX9_step_67 : decode cX9_step 67 = .ok (.goto 4, 3) := by decide +kernel
theorem dX9_step_70 : decode cX9_step 70 = .ok (.iconst 0, 1) := by decide +kernel
theorem dX9_step_71 : decode cX9_step 71 = .ok (.istore 5, 2) := by decide +kernel
theorem dX9_step_73 : decode cX9_step 73 = .ok (.aload_n 0, 1) := by decide +kernel
theorem dX9_step_74 : decode cX9_step 74 = .ok (.aload_n 0, 1) := by decide +kernel
theorem dX9_step_75 : decode cX9_step 75 = .ok (.getfield 214, 3) := by decide +kernel
theorem dX9_step_78 : decode cX9_step 78 = .ok (.sipush 400, 3) := by decide +kernel
theorem dX9_step_81 : decode cX9_step 81 = .ok (.if_icmp .ne 7, 3) := by decide +kernel
theorem dX9_step_84 : decode cX9_step 84 = .ok (.iconst 3, 1) := by decide +kernel
theorem dX9_step_85 : decode cX9_step 85 = .ok (.goto 56, 3) := by decide +kernel
theorem dX9_step_88 : decode cX9_step 88 = .ok (.iload_n 2, 1) := by decide +kernel
theorem dX9_step_89 : decode cX9_step 89 = .ok (.bipush 6, 2) := by decide +kernel
theorem dX9_step_91 : decode cX9_step 91 = .ok (.if_icmp .ne 12, 3) := by decide +kernel
theorem dX9_step_94 : decode cX9_step 94 = .ok (.iload 4, 2) := by decide +kernel
theorem dX9_step_96 : decode cX9_step 96 = .ok (.ifCond .ne 7, 3) := by decide +kernel
theorem dX9_step_99 : decode cX9_step 99 = .ok (.iconst 1, 1) := by decide +kernel
theorem dX9_step_100 : decode cX9_step 100 = .ok (.goto 41, 3) := by decide +kernel
theorem dX9_step_103 : decode cX9_step 103 = .ok (.iload 5, 2) := by decide +kernel
theorem dX9_step_105 : decode cX9_step 105 = .ok (.ifCond .eq 16, 3) := by decide +kernel
theorem dX9_step_108 : decode cX9_step 108 = .ok (.iload_n 3, 1) := by decide +kernel
theorem dX9_step_109 : decode cX9_step 109 = .ok (.bipush 8, 2) := by decide +kernel
theorem dX9_step_111 : decode cX9_step 111 = .ok (.invokestatic 91, 3) := by decide +kernel
theorem dX9_step_114 : decode cX9_step 114 = .ok (.ifCond .eq 7, 3) := by decide +kernel
theorem dX9_step_117 : decode cX9_step 117 = .ok (.iconst 2, 1) := by decide +kernel
theorem dX9_step_118 : decode cX9_step 118 = .ok (.goto 23, 3) := by decide +kernel
theorem dX9_step_121 : decode cX9_step 121 = .ok (.iload_n 2, 1) := by decide +kernel
theorem dX9_step_122 : decode cX9_step 122 = .ok (.bipush 11, 2) := by decide +kernel
theorem dX9_step_124 : decode cX9_step 124 = .ok (.if_icmp .ne 16, 3) := by decide +kernel
theorem dX9_step_127 : decode cX9_step 127 = .ok (.aload_n 0, 1) := by decide +kernel
theorem dX9_step_128 : decode cX9_step 128 = .ok (.getfield 211, 3) := by decide +kernel
theorem dX9_step_131 : decode cX9_step 131 = .ok (.bipush 16, 2) := by decide +kernel
theorem dX9_step_133 : decode cX9_step 133 = .ok (.if_icmp .ne 7, 3) := by decide +kernel
theorem dX9_step_136 : decode cX9_step 136 = .ok (.iconst 4, 1) := by decide +kernel
theorem dX9_step_137 : decode cX9_step 137 = .ok (.goto 4, 3) := by decide +kernel
theorem dX9_step_140 : decode cX9_step 140 = .ok (.iconst (-1), 1) := by decide +kernel
theorem dX9_step_141 : decode cX9_step 141 = .ok (.putfield 77, 3) := by decide +kernel
theorem dX9_step_144 : decode cX9_step 144 = .ok (.aload_n 0, 1) := by decide +kernel
theorem dX9_step_145 : decode cX9_step 145 = .ok (.getfield 77, 3) := by decide +kernel
theorem dX9_step_148 : decode cX9_step 148 = .ok (.ifCond .lt 5, 3) := by decide +kernel
theorem dX9_step_151 : decode cX9_step 151 = .ok (.iload_n 1, 1) := by decide +kernel
theorem dX9_step_152 : decode cX9_step 152 = .ok (.ireturn, 1) := by decide +kernel
theorem dX9_step_153 : decode cX9_step 153 = .ok (.aload_n 0, 1) := by decide +kernel
theorem dX9_step_154 : decode cX9_step 154 = .ok (.dup, 1) := by decide +kernel
theorem dX9_step_155 : decode cX9_step 155 = .ok (.getfield 214, 3) := by decide +kernel
theorem dX9_step_158 : decode cX9_step 158 = .ok (.iconst 1, 1) := by decide +kernel
theorem dX9_step_159 : decode cX9_step 159 = .ok (.iadd, 1) := by decide +kernel
theorem dX9_step_160 : decode cX9_step 160 = .ok (.putfield 214, 3) := by decide +kernel
theorem dX9_step_163 : decode cX9_step 163 = .ok (.iload_n 2, 1) := by decide +kernel
theorem dX9_step_164 : decode cX9_step 164 = .ok (.bipush 12, 2) := by decide +kernel
theorem dX9_step_166 : decode cX9_step 166 = .ok (.if_icmp .ne 13, 3) := by decide +kernel
theorem dX9_step_169 : decode cX9_step 169 = .ok (.aload_n 0, 1) := by decide +kernel
theorem dX9_step_170 : decode cX9_step 170 = .ok (.iconst 0, 1) := by decide +kernel
theorem dX9_step_171 : decode cX9_step 171 = .ok (.putfield 77, 3) := by decide +kernel
theorem dX9_step_174 : decode cX9_step 174 = .ok (.aload_n 0, 1) := by decide +kernel
theorem dX9_step_175 : decode cX9_step 175 = .ok (.iload_n 3, 1) := by decide +kernel
theorem dX9_step_176 : decode cX9_step 176 = .ok (.putfield 220, 3) := by decide +kernel
theorem dX9_step_179 : decode cX9_step 179 = .ok (.iload_n 2, 1) := by decide +kernel
theorem dX9_step_180 : decode cX9_step 180 = .ok (.bipush 8, 2) := by decide +kernel
theorem dX9_step_182 : decode cX9_step 182 = .ok (.if_icmp .ne 11, 3) := by decide +kernel
theorem dX9_step_185 : decode cX9_step 185 = .ok (.aload_n 0, 1) := by decide +kernel
theorem dX9_step_186 : decode cX9_step 186 = .ok (.getfield 65, 3) := by decide +kernel
theorem dX9_step_189 : decode cX9_step 189 = .ok (.iload_n 3, 1) := by decide +kernel
theorem dX9_step_190 : decode cX9_step 190 = .ok (.iload 4, 2) := by decide +kernel
theorem dX9_step_192 : decode cX9_step 192 = .ok (.iastore, 1) := by decide +kernel
theorem dX9_step_193 : decode cX9_step 193 = .ok (.iload_n 2, 1) := by decide +kernel
theorem dX9_step_194 : decode cX9_step 194 = .ok (.bipush 14, 2) := by decide +kernel
theorem dX9_step_196 : decode cX9_step 196 = .ok (.if_icmp .ne 15, 3) := by decide +kernel
theorem dX9_step_199 : decode cX9_step 199 = .ok (.aload_n 0, 1) := by decide +kernel
theorem dX9_step_200 : decode cX9_step 200 = .ok (.getfield 71, 3) := by decide +kernel
theorem dX9_step_203 : decode cX9_step 203 = .ok (.aload_n 0, 1) := by decide +kernel
theorem dX9_step_204 : decode cX9_step 204 = .ok (.getfield 22, 3) := by decide +kernel
theorem dX9_step_207 : decode cX9_step 207 = .ok (.iload_n 1, 1) := by decide +kernel
theorem dX9_step_208 : decode cX9_step 208 = .ok (.iaload, 1) := by decide +kernel
theorem dX9_step_209 : decode cX9_step 209 = .ok (.iload_n 3, 1) := by decide +kernel
theorem dX9_step_210 : decode cX9_step 210 = .ok (.iastore, 1) := by decide +kernel
theorem dX9_step_211 : decode cX9_step 211 = .ok (.iload_n 2, 1) := by decide +kernel
theorem dX9_step_212 : decode cX9_step 212 = .ok (.bipush 11, 2) := by decide +kernel
theorem dX9_step_214 : decode cX9_step 214 = .ok (.if_icmp .ne 23, 3) := by decide +kernel
theorem dX9_step_217 : decode cX9_step 217 = .ok (.aload_n 0, 1) := by decide +kernel
theorem dX9_step_218 : decode cX9_step 218 = .ok (.getfield 74, 3) := by decide +kernel
theorem dX9_step_221 : decode cX9_step 221 = .ok (.aload_n 0, 1) := by decide +kernel
theorem dX9_step_222 : decode cX9_step 222 = .ok (.getfield 211, 3) := by decide +kernel
theorem dX9_step_225 : decode cX9_step 225 = .ok (.iload_n 3, 1) := by decide +kernel
theorem dX9_step_226 : decode cX9_step 226 = .ok (.iastore, 1) := by decide +kernel
theorem dX9_step_227 : decode cX9_step 227 = .ok (.aload_n 0, 1) := by decide +kernel
theorem dX9_step_228 : decode cX9_step 228 = .ok (.dup, 1) := by decide +kernel
theorem dX9_step_229 : decode cX9_step 229 = .ok (.getfield 211, 3) := by decide +kernel
theorem dX9_step_232 : decode cX9_step 232 = .ok (.iconst 1, 1) := by decide +kernel
theorem dX9_step_233 : decode cX9_step 233 = .ok (.iadd, 1) := by decide +kernel
theorem dX9_step_234 : decode cX9_step 234 = .ok (.putfield 211, 3) := by decide +kernel
theorem dX9_step_237 : decode cX9_step 237 = .ok (.iload_n 2, 1) := by decide +kernel
theorem dX9_step_238 : decode cX9_step 238 = .ok (.invokestatic 95, 3) := by decide +kernel
theorem dX9_step_241 : decode cX9_step 241 = .ok (.ifCond .eq 96, 3) := by decide +kernel
theorem dX9_step_244 : decode cX9_step 244 = .ok (.aload_n 0, 1) := by decide +kernel
theorem dX9_step_245 : decode cX9_step 245 = .ok (.getfield 68, 3) := by decide +kernel
theorem dX9_step_248 : decode cX9_step 248 = .ok (.aload_n 0, 1) := by decide +kernel
theorem dX9_step_249 : decode cX9_step 249 = .ok (.getfield 16, 3) := by decide +kernel
theorem dX9_step_252 : decode cX9_step 252 = .ok (.iload_n 1, 1) := by decide +kernel
theorem dX9_step_253 : decode cX9_step 253 = .ok (.iaload, 1) := by decide +kernel
theorem dX9_step_254 : decode cX9_step 254 = .ok (.iload_n 2, 1) := by decide +kernel
theorem dX9_step_255 : decode cX9_step 255 = .ok (.iconst 1, 1) := by decide +kernel
theorem dX9_step_256 : decode cX9_step 256 = .ok (.if_icmp .ne 12, 3) := by decide +kernel
theorem dX9_step_259 : decode cX9_step 259 = .ok (.aload_n 0, 1) := by decide +kernel
theorem dX9_step_260 : decode cX9_step 260 = .ok (.getfield 19, 3) := by decide +kernel
theorem dX9_step_263 : decode cX9_step 263 = .ok (.iload_n 1, 1) := by decide +kernel
theorem dX9_step_264 : decode cX9_step 264 = .ok (.iaload, 1) := by decide +kernel
theorem dX9_step_265 : decode cX9_step 265 = .ok (.goto 71, 3) := by decide +kernel
theorem dX9_step_268 : decode cX9_step 268 = .ok (.iload_n 2, 1) := by decide +kernel
theorem dX9_step_269 : decode cX9_step 269 = .ok (.iconst 2, 1) := by decide +kernel
theorem dX9_step_270 : decode cX9_step 270 = .ok (.if_icmp .ne 7, 3) := by decide +kernel
theorem dX9_step_273 : decode cX9_step 273 = .ok (.iload_n 3, 1) := by decide +kernel
theorem dX9_step_274 : decode cX9_step 274 = .ok (.goto 62, 3) := by decide +kernel
theorem dX9_step_277 : decode cX9_step 277 = .ok (.iload_n 2, 1) := by decide +kernel
theorem dX9_step_278 : decode cX9_step 278 = .ok (.bipush 7, 2) := by decide +kernel
theorem dX9_step_280 : decode cX9_step 280 = .ok (.if_icmp .ne 12, 3) := by decide +kernel
theorem dX9_step_283 : decode cX9_step 283 = .ok (.aload_n 0, 1) := by decide +kernel
theorem dX9_step_284 : decode cX9_step 284 = .ok (.getfield 65, 3) := by decide +kernel
theorem dX9_step_287 : decode cX9_step 287 = .ok (.iload_n 3, 1) := by decide +kernel
theorem dX9_step_288 : decode cX9_step 288 = .ok (.iaload, 1) := by decide +kernel
theorem dX9_step_289 : decode cX9_step 289 = .ok (.goto 47, 3) := by decide +kernel
theorem dX9_step_292 : decode cX9_step 292 = .ok (.iload_n 2, 1) := by decide +kernel
theorem dX9_step_293 : decode cX9_step 293 = .ok (.bipush 11, 2) := by decide +kernel
theorem dX9_step_295 : decode cX9_step 295 = .ok (.if_icmp .ne 14, 3) := by decide +kernel
theorem dX9_step_298 : decode cX9_step 298 = .ok (.iconst 3, 1) := by decide +kernel
theorem dX9_step_299 : decode cX9_step 299 = .ok (.iload_n 3, 1) := by decide +kernel
theorem dX9_step_300 : decode cX9_step 300 = .ok (.imul, 1) := by decide +kernel
theorem dX9_step_301 : decode cX9_step 301 = .ok (.aload_n 0, 1) := by decide +kernel
theorem dX9_step_302 : decode cX9_step 302 = .ok (.getfield 211, 3) := by decide +kernel
theorem dX9_step_305 : decode cX9_step 305 = .ok (.iadd, 1) := by decide +kernel
theorem dX9_step_306 : decode cX9_step 306 = .ok (.goto 30, 3) := by decide +kernel
theorem dX9_step_309 : decode cX9_step 309 = .ok (.iload_n 2, 1) := by decide +kernel
theorem dX9_step_310 : decode cX9_step 310 = .ok (.bipush 13, 2) := by decide +kernel
theorem dX9_step_312 : decode cX9_step 312 = .ok (.if_icmp .ne 17, 3) := by decide +kernel
theorem dX9_step_315 : decode cX9_step 315 = .ok (.aload_n 0, 1) := by decide +kernel
theorem dX9_step_316 : decode cX9_step 316 = .ok (.getfield 71, 3) := by decide +kernel
theorem dX9_step_319 : decode cX9_step 319 = .ok (.aload_n 0, 1) := by decide +kernel
theorem dX9_step_320 : decode cX9_step 320 = .ok (.getfield 19, 3) := by decide +kernel
theorem dX9_step_323 : decode cX9_step 323 = .ok (.iload_n 1, 1) := by decide +kernel
theorem dX9_step_324 : decode cX9_step 324 = .ok (.iaload, 1) := by decide +kernel
theorem dX9_step_325 : decode cX9_step 325 = .ok (.iaload, 1) := by decide +kernel
theorem dX9_step_326 : decode cX9_step 326 = .ok (.goto 10, 3) := by decide +kernel
theorem dX9_step_329 : decode cX9_step 329 = .ok (.iload_n 2, 1) := by decide +kernel
theorem dX9_step_330 : decode cX9_step 330 = .ok (.iload_n 3, 1) := by decide +kernel
theorem dX9_step_331 : decode cX9_step 331 = .ok (.iload 4, 2) := by decide +kernel
theorem dX9_step_333 : decode cX9_step 333 = .ok (.invokestatic 145, 3) := by decide +kernel
theorem dX9_step_336 : decode cX9_step 336 = .ok (.iastore, 1) := by decide +kernel
theorem dX9_step_337 : decode cX9_step 337 = .ok (.iload_n 2, 1) := by decide +kernel
theorem dX9_step_338 : decode cX9_step 338 = .ok (.bipush 9, 2) := by decide +kernel
theorem dX9_step_340 : decode cX9_step 340 = .ok (.if_icmp .eq 13, 3) := by decide +kernel
theorem dX9_step_343 : decode cX9_step 343 = .ok (.iload_n 2, 1) := by decide +kernel
theorem dX9_step_344 : decode cX9_step 344 = .ok (.bipush 10, 2) := by decide +kernel
theorem dX9_step_346 : decode cX9_step 346 = .ok (.if_icmp .ne 11, 3) := by decide +kernel
theorem dX9_step_349 : decode cX9_step 349 = .ok (.iload_n 3, 1) := by decide +kernel
theorem dX9_step_350 : decode cX9_step 350 = .ok (.ifCond .ne 7, 3) := by decide +kernel
theorem dX9_step_353 : decode cX9_step 353 = .ok (.iconst 1, 1) := by decide +kernel
theorem dX9_step_354 : decode cX9_step 354 = .ok (.goto 4, 3) := by decide +kernel
theorem dX9_step_357 : decode cX9_step 357 = .ok (.iconst 0, 1) := by decide +kernel
theorem dX9_step_358 : decode cX9_step 358 = .ok (.istore 6, 2) := by decide +kernel
theorem dX9_step_360 : decode cX9_step 360 = .ok (.iload 6, 2) := by decide +kernel
theorem dX9_step_362 : decode cX9_step 362 = .ok (.ifCond .eq 20, 3) := by decide +kernel
theorem dX9_step_365 : decode cX9_step 365 = .ok (.iload_n 1, 1) := by decide +kernel
theorem dX9_step_366 : decode cX9_step 366 = .ok (.bipush 100, 2) := by decide +kernel
theorem dX9_step_368 : decode cX9_step 368 = .ok (.idiv, 1) := by decide +kernel
theorem dX9_step_369 : decode cX9_step 369 = .ok (.bipush 100, 2) := by decide +kernel
theorem dX9_step_371 : decode cX9_step 371 = .ok (.imul, 1) := by decide +kernel
theorem dX9_step_372 : decode cX9_step 372 = .ok (.aload_n 0, 1) := by decide +kernel
theorem dX9_step_373 : decode cX9_step 373 = .ok (.getfield 16, 3) := by decide +kernel
theorem dX9_step_376 : decode cX9_step 376 = .ok (.iload_n 1, 1) := by decide +kernel
theorem dX9_step_377 : decode cX9_step 377 = .ok (.iaload, 1) := by decide +kernel
theorem dX9_step_378 : decode cX9_step 378 = .ok (.iadd, 1) := by decide +kernel
theorem dX9_step_379 : decode cX9_step 379 = .ok (.goto 6, 3) := by decide +kernel
theorem dX9_step_382 : decode cX9_step 382 = .ok (.iload_n 1, 1) := by decide +kernel
theorem dX9_step_383 : decode cX9_step 383 = .ok (.iconst 1, 1) := by decide +kernel
theorem dX9_step_384 : decode cX9_step 384 = .ok (.iadd, 1) := by decide +kernel
theorem dX9_step_385 : decode cX9_step 385 = .ok (.ireturn, 1) := by decide +kernel
set_option maxRecDepth 20000 in
theorem ggX9_value_X9_throwing : GoodIn wsX9_value wsX9_throwing := goodIn_r _ [7, 8, 9, 10, 11, 12, 13, 14, 15, 16, 17, 18, 19, 20, 21, 22, 23, 24, 25, 26, 27, 28, 29, 30, 31, 32, 33, 34, 35, 36, 37, 38, 39, 40, 41] (by decide +kernel) (by decide +kernel)
set_option maxRecDepth 20000 in
theorem gX9_value_X9_throwing : GoodIn wsX9_value (wsV RX9 108 RX9 yX9_throwing wsX9_throwing) := goodIn_app (goodIn_of _ (by decide +kernel)) ggX9_value_X9_throwing
theorem dX9_value_0 : decode cX9_value 0 = .ok (.aload_n 0, 1) := by decide +kernel
theorem dX9_value_1 : decode cX9_value 1 = .ok (.aload_n 0, 1) := by decide +kernel
theorem dX9_value_2 : decode cX9_value 2 = .ok (.getfield 77, 3) := by decide +kernel
theorem dX9_value_5 : decode cX9_value 5 = .ok (.ifCond .eq 7, 3) := by decide +kernel
theorem dX9_value_8 : decode cX9_value 8 = .ok (.iconst 1, 1) := by decide +kernel
theorem dX9_value_9 : decode cX9_value 9 = .ok (.goto 4, 3) := by decide +kernel
theorem dX9_value_12 : decode cX9_value 12 = .ok (.iconst 0, 1) := by decide +kernel
theorem dX9_value_13 : decode cX9_value 13 = .ok (.iconst 0, 1) := by decide +kernel
theorem dX9_value_14 : decode cX9_value 14 = .ok (.invokevirtual 108, 3) := by decide +kernel
theorem dX9_value_17 : decode cX9_value 17 = .ok (.ifCond .eq 7, 3) := by decide +kernel
theorem dX9_value_20 : decode cX9_value 20 = .ok (.iconst 0, 1) := by decide +kernel
theorem dX9_value_21 : decode cX9_value 21 = .ok (.goto 7, 3) := by decide +kernel
theorem dX9_value_24 : decode cX9_value 24 = .ok (.aload_n 0, 1) := by decide +kernel
theorem dX9_value_25 : decode cX9_value 25 = .ok (.getfield 220, 3) := by decide +kernel
theorem dX9_value_28 : decode cX9_value 28 = .ok (.ireturn, 1) := by decide +kernel
set_option maxRecDepth 20000 in
theorem ggX9_cell_X9_out : GoodIn wsX9_cell wsX9_out := goodIn_r _ [5] (by decide +kernel) (by decide +kernel)
set_option maxRecDepth 20000 in
theorem gX9_cell_X9_out : GoodIn wsX9_cell (va_wsS RX9 91 yX9_out wsX9_out) := goodIn_app (goodIn_of _ (by decide +kernel)) ggX9_cell_X9_out
set_option maxRecDepth 20000 in
theorem ggX9_cell_X9_throwing : GoodIn wsX9_cell wsX9_throwing := goodIn_r _ [9, 10, 11, 12, 13, 14, 15, 16, 17, 18, 19, 20, 21, 22, 23, 24, 25, 26, 27, 28, 29, 30, 31, 32, 33, 34, 35, 36, 37, 38, 39, 40, 41, 42, 43] (by decide +kernel) (by decide +kernel)
set_option maxRecDepth 20000 in
theorem gX9_cell_X9_throwing : GoodIn wsX9_cell (wsV RX9 108 RX9 yX9_throwing wsX9_throwing) := goodIn_app (goodIn_of _ (by decide +kernel)) ggX9_cell_X9_throwing
theorem dX9_cell_0 : decode cX9_cell 0 = .ok (.aload_n 0, 1) := by decide +kernel
theorem dX9_cell_1 : decode cX9_cell 1 = .ok (.iload_n 1, 1) := by decide +kernel
theorem dX9_cell_2 : decode cX9_cell 2 = .ok (.bipush 8, 2) := by decide +kernel
theorem dX9_cell_4 : decode cX9_cell 4 = .ok (.invokestatic 91, 3) := by decide +kernel
theorem dX9_cell_7 : decode cX9_cell 7 = .ok (.iconst 0, 1) := by decide +kernel
theorem dX9_cell_8 : decode cX9_cell 8 = .ok (.invokevirtual 108, 3) := by decide +kernel
theorem dX9_cell_11 : decode cX9_cell 11 = .ok (.ifCond .eq 7, 3) := by decide +kernel
theorem dX9_cell_14 : decode cX9_cell 14 = .ok (.iconst 0, 1) := by decide +kernel
theorem dX9_cell_15 : decode cX9_cell 15 = .ok (.goto 9, 3) := by decide +kernel
theorem dX9_cell_18 : decode cX9_cell 18 = .ok (.aload_n 0, 1) := by decide +kernel
theorem dX9_cell_19 : decode cX9_cell 19 = .ok (.getfield 65, 3) := by decide +kernel
theorem dX9_cell_22 : decode cX9_cell 22 = .ok (.iload_n 1, 1) := by decide +kernel
theorem dX9_cell_23 : decode cX9_cell 23 = .ok (.iaload, 1) := by decide +kernel
theorem dX9_cell_24 : decode cX9_cell 24 = .ok (.ireturn, 1) := by decide +kernel
set_option maxRecDepth 20000 in
theorem ggX9_traced_X9_out : GoodIn wsX9_traced wsX9_out := goodIn_r _ [6] (by decide +kernel) (by decide +kernel)
set_option maxRecDepth 20000 in
theorem gX9_traced_X9_out : GoodIn wsX9_traced (va_wsS RX9 91 yX9_out wsX9_out) := goodIn_app (goodIn_of _ (by decide +kernel)) ggX9_traced_X9_out
set_option maxRecDepth 20000 in
theorem ggX9_traced_X9_throwing : GoodIn wsX9_traced wsX9_throwing := goodIn_r _ [10, 11, 12, 13, 14, 15, 16, 17, 18, 19, 20, 21, 22, 23, 24, 25, 26, 27, 28, 29, 30, 31, 32, 33, 34, 35, 36, 37, 38, 39, 40, 41, 42, 43, 44] (by decide +kernel) (by decide +kernel)
set_option maxRecDepth 20000 in
theorem gX9_traced_X9_throwing : GoodIn wsX9_traced (wsV RX9 108 RX9 yX9_throwing wsX9_throwing) := goodIn_app (goodIn_of _ (by decide +kernel)) ggX9_traced_X9_throwing
theorem dX9_traced_0 : decode cX9_traced 0 = .ok (.aload_n 0, 1) := by decide +kernel
theorem dX9_traced_1 : decode cX9_traced 1 = .ok (.iload_n 1, 1) := by decide +kernel
theorem dX9_traced_2 : decode cX9_traced 2 = .ok (.aload_n 0, 1) := by decide +kernel
theorem dX9_traced_3 : decode cX9_traced 3 = .ok (.getfield 211, 3) := by decide +kernel
theorem dX9_traced_6 : decode cX9_traced 6 = .ok (.invokestatic 91, 3) := by decide +kernel
theorem dX9_traced_9 : decode cX9_traced 9 = .ok (.iconst 0, 1) := by decide +kernel
theorem dX9_traced_10 : decode cX9_traced 10 = .ok (.invokevirtual 108, 3) := by decide +kernel
theorem dX9_traced_13 : decode cX9_traced 13 = .ok (.ifCond .eq 7, 3) := by decide +kernel
theorem dX9_traced_16 : decode cX9_traced 16 = .ok (.iconst 0, 1) := by decide +kernel
theorem dX9_traced_17 : decode cX9_traced 17 = .ok (.goto 9, 3) := by decide +kernel
theorem dX9_traced_20 : decode cX9_traced 20 = .ok (.aload_n 0, 1) := by decide +kernel
theorem dX9_traced_21 : decode cX9_traced 21 = .ok (.getfield 74, 3) := by decide +kernel
theorem dX9_traced_24 : decode cX9_traced 24 = .ok (.iload_n 1, 1) := by decide +kernel
theorem dX9_traced_25 : decode cX9_traced 25 = .ok (.iaload, 1) := by decide +kernel
theorem dX9_traced_26 : decode cX9_traced 26 = .ok (.ireturn, 1) := by decide +kernel
theorem dX9_steps_0 : decode cX9_steps 0 = .ok (.aload_n 0, 1) := by decide +kernel
theorem dX9_steps_1 : decode cX9_steps 1 = .ok (.iconst 0, 1) := by decide +kernel
theorem dX9_steps_2 : decode cX9_steps 2 = .ok (.putfield 81, 3) := by decide +kernel
theorem dX9_steps_5 : decode cX9_steps 5 = .ok (.aload_n 0, 1) := by decide +kernel
theorem dX9_steps_6 : decode cX9_steps 6 = .ok (.getfield 214, 3) := by decide +kernel
theorem dX9_steps_9 : decode cX9_steps 9 = .ok (.ireturn, 1) := by decide +kernel
