theorem dL_refused_184 : decode cL_refused 184 = .ok (.if_icmp .ne 85, 3) := by decide +kernel
theorem dL_refused_187 : decode cL_refused 187 = .ok (.aload_n 0, 1) := by decide +kernel
theorem dL_refused_188 : decode cL_refused 188 = .ok (.iconst 4, 1) := by decide +kernel
theorem dL_refused_189 : decode cL_refused 189 = .ok (.invokestatic 136, 3) := by decide +kernel
theorem dL_refused_192 : decode cL_refused 192 = .ok (.ldc 17, 2) := by decide +kernel
theorem dL_refused_194 : decode cL_refused 194 = .ok (.if_icmp .ne 75, 3) := by decide +kernel
theorem dL_refused_197 : decode cL_refused 197 = .ok (.aload_n 0, 1) := by decide +kernel
theorem dL_refused_198 : decode cL_refused 198 = .ok (.iconst 4, 1) := by decide +kernel
theorem dL_refused_199 : decode cL_refused 199 = .ok (.iconst 0, 1) := by decide +kernel
theorem dL_refused_200 : decode cL_refused 200 = .ok (.invokestatic 100, 3) := by decide +kernel
theorem dL_refused_203 : decode cL_refused 203 = .ok (.ldc 17, 2) := by decide +kernel
theorem dL_refused_205 : decode cL_refused 205 = .ok (.if_icmp .ne 64, 3) := by decide +kernel
theorem dL_refused_208 : decode cL_refused 208 = .ok (.aload_n 0, 1) := by decide +kernel
theorem dL_refused_209 : decode cL_refused 209 = .ok (.bipush 64, 2) := by decide +kernel
theorem dL_refused_211 : decode cL_refused 211 = .ok (.iconst 0, 1) := by decide +kernel
theorem dL_refused_212 : decode cL_refused 212 = .ok (.iconst 0, 1) := by decide +kernel
theorem dL_refused_213 : decode cL_refused 213 = .ok (.invokestatic 138, 3) := by decide +kernel
theorem dL_refused_216 : decode cL_refused 216 = .ok (.ldc 20, 2) := by decide +kernel
theorem dL_refused_218 : decode cL_refused 218 = .ok (.if_icmp .ne 51, 3) := by decide +kernel
theorem dL_refused_221 : decode cL_refused 221 = .ok (.aload_n 0, 1) := by decide +kernel
theorem dL_refused_222 : decode cL_refused 222 = .ok (.iconst (-1), 1) := by decide +kernel
theorem dL_refused_223 : decode cL_refused 223 = .ok (.iconst 0, 1) := by decide +kernel
theorem dL_refused_224 : decode cL_refused 224 = .ok (.iconst 0, 1) := by decide +kernel
theorem dL_refused_225 : decode cL_refused 225 = .ok (.iconst 0, 1) := by decide +kernel
theorem dL_refused_226 : decode cL_refused 226 = .ok (.invokestatic 140, 3) := by decide +kernel
theorem dL_refused_229 : decode cL_refused 229 = .ok (.ldc 20, 2) := by decide +kernel
theorem dL_refused_231 : decode cL_refused 231 = .ok (.if_icmp .ne 38, 3) := by decide +kernel
theorem dL_refused_234 : decode cL_refused 234 = .ok (.aload_n 0, 1) := by decide +kernel
theorem dL_refused_235 : decode cL_refused 235 = .ok (.iconst (-1), 1) := by decide +kernel
theorem dL_refused_236 : decode cL_refused 236 = .ok (.invokestatic 104, 3) := by decide +kernel
theorem dL_refused_239 : decode cL_refused 239 = .ok (.ldc 20, 2) := by decide +kernel
theorem dL_refused_241 : decode cL_refused 241 = .ok (.if_icmp .ne 28, 3) := by decide +kernel
theorem dL_refused_244 : decode cL_refused 244 = .ok (.aload_n 0, 1) := by decide +kernel
theorem dL_refused_245 : decode cL_refused 245 = .ok (.sipush 500, 3) := by decide +kernel
theorem dL_refused_248 : decode cL_refused 248 = .ok (.invokestatic 142, 3) := by decide +kernel
theorem dL_refused_251 : decode cL_refused 251 = .ok (.ldc 20, 2) := by decide +kernel
theorem dL_refused_253 : decode cL_refused 253 = .ok (.if_icmp .ne 16, 3) := by decide +kernel
theorem dL_refused_256 : decode cL_refused 256 = .ok (.aload_n 0, 1) := by decide +kernel
theorem dL_refused_257 : decode cL_refused 257 = .ok (.invokestatic 107, 3) := by decide +kernel
theorem dL_refused_260 : decode cL_refused 260 = .ok (.lload_n 1, 1) := by decide +kernel
theorem dL_refused_261 : decode cL_refused 261 = .ok (.lcmp, 1) := by decide +kernel
theorem dL_refused_262 : decode cL_refused 262 = .ok (.ifCond .ne 7, 3) := by decide +kernel
theorem dL_refused_265 : decode cL_refused 265 = .ok (.iconst 1, 1) := by decide +kernel
theorem dL_refused_266 : decode cL_refused 266 = .ok (.goto 4, 3) := by decide +kernel
theorem dL_refused_269 : decode cL_refused 269 = .ok (.iconst 0, 1) := by decide +kernel
theorem dL_refused_270 : decode cL_refused 270 = .ok (.ireturn, 1) := by decide +kernel
set_option maxRecDepth 20000 in
theorem ggL_indexOf_L_level : GoodIn wsL_indexOf wsL_level := goodIn_ca (goodIn_ca (goodIn_ca (goodIn_r _ [4, 5, 6, 7, 8, 9, 10, 11, 12, 13, 14, 15, 16, 17, 18, 19, 20, 21, 22, 23, 24, 25, 26, 27, 28, 29, 30, 31, 32, 33, 34, 35, 36, 37, 38, 39, 40, 41, 42, 43, 44, 45, 46, 47, 48, 49, 50, 51, 52, 53, 54, 55, 56, 57, 58, 59, 60, 61, 62, 63, 64, 65, 66, 67, 68, 69, 70, 71, 72, 73, 74, 75, 76, 77, 78, 79, 80, 81, 82, 83, 84, 85, 86, 87, 88, 123, 124, 125, 126, 127, 128, 129, 130, 131, 132, 133] (by decide +kernel) (by decide +kernel)) (goodIn_sub (fun _ h => List.mem_cons_of_mem _ (List.mem_append_left _ (List.mem_append_left _ (List.mem_append_right _ h)))) (by decide +kernel))) (goodIn_sub (fun _ h => List.mem_cons_of_mem _ (List.mem_append_left _ (List.mem_append_right _ h))) (by decide +kernel))) (goodIn_sub (fun _ h => List.mem_cons_of_mem _ (List.mem_append_right _ h)) (by decide +kernel))
set_option maxRecDepth 20000 in
theorem gL_indexOf_L_level : GoodIn wsL_indexOf (va_wsS RL 102 yL_level wsL_level) := goodIn_app (goodIn_of _ (by decide +kernel)) ggL_indexOf_L_level
set_option maxRecDepth 20000 in
theorem ggL_indexOf_L_node : GoodIn wsL_indexOf wsL_node := goodIn_ca (goodIn_ca (goodIn_ca (goodIn_r _ [91, 5, 6, 7, 8, 92, 93, 94, 12, 95, 14, 15, 96, 97, 98, 99, 100, 17, 21, 22, 23, 18, 19, 20, 24, 25, 26, 27, 28, 29, 30, 31, 32, 101, 49, 50, 51, 102, 79, 80, 75, 76, 77, 103, 73, 74, 104, 105, 106, 56, 57, 58, 107, 44, 45, 36, 46, 47, 48, 52, 53, 54, 55, 108, 109, 110, 111, 67, 68, 112, 113, 114, 115, 69, 70, 71, 116, 117, 118, 119, 120, 121, 122, 123, 124, 125, 126, 127, 128, 129, 130, 131, 132, 133] (by decide +kernel) (by decide +kernel)) (goodIn_sub (fun _ h => List.mem_cons_of_mem _ (List.mem_append_left _ (List.mem_append_left _ (List.mem_append_right _ h)))) (by decide +kernel))) (goodIn_sub (fun _ h => List.mem_cons_of_mem _ (List.mem_append_left _ (List.mem_append_right _ h))) (by decide +kernel))) (goodIn_sub (fun _ h => List.mem_cons_of_mem _ (List.mem_append_right _ h)) (by decide +kernel))
set_option maxRecDepth 20000 in
theorem gL_indexOf_L_node : GoodIn wsL_indexOf (va_wsS RL 125 yL_node wsL_node) := goodIn_app (goodIn_of _ (by decide +kernel)) ggL_indexOf_L_node
theorem dL_indexOf_0 : decode cL_indexOf 0 = .ok (.iconst (-1), 1) := by decide +kernel
theorem dL_indexOf_1 : decode cL_indexOf 1 = .ok (.istore 5, 2) := by decide +kernel
theorem dL_indexOf_3 : decode cL_indexOf 3 = .ok (.iconst 0, 1) := by decide +kernel
theorem dL_indexOf_4 : decode cL_indexOf 4 = .ok (.istore 6, 2) := by decide +kernel
theorem dL_indexOf_6 : decode cL_indexOf 6 = .ok (.iload 6, 2) := by decide +kernel
theorem dL_indexOf_8 : decode cL_indexOf 8 = .ok (.aload_n 0, 1) := by decide +kernel
theorem dL_indexOf_9 : decode cL_indexOf 9 = .ok (.iload_n 1, 1) := by decide +kernel
theorem dL_indexOf_10 : decode cL_indexOf 10 = .ok (.iconst 1, 1) := by decide +kernel
theorem dL_indexOf_11 : decode cL_indexOf 11 = .ok (.invokestatic 102, 3) := by decide +kernel
theorem dL_indexOf_14 : decode cL_indexOf 14 = .ok (.if_icmp .ge 55, 3) := by decide +kernel
theorem dL_indexOf_17 : decode cL_indexOf 17 = .ok (.aload_n 0, 1) := by decide +kernel
theorem dL_indexOf_18 : decode cL_indexOf 18 = .ok (.iload_n 1, 1) := by decide +kernel
theorem dL_indexOf_19 : decode cL_indexOf 19 = .ok (.iload 6, 2) := by decide +kernel
theorem dL_indexOf_21 : decode cL_indexOf 21 = .ok (.iconst 0, 1) := by decide +kernel
theorem dL_indexOf_22 : decode cL_indexOf 22 = .ok (.invokestatic 125, 3) := by decide +kernel
theorem dL_indexOf_25 : decode cL_indexOf 25 = .ok (.iload_n 2, 1) := by decide +kernel
theorem dL_indexOf_26 : decode cL_indexOf 26 = .ok (.if_icmp .ne 33, 3) := by decide +kernel
theorem dL_indexOf_29 : decode cL_indexOf 29 = .ok (.aload_n 0, 1) := by decide +kernel
theorem dL_indexOf_30 : decode cL_indexOf 30 = .ok (.iload_n 1, 1) := by decide +kernel
theorem dL_indexOf_31 : decode cL_indexOf 31 = .ok (.iload 6, 2) := by decide +kernel
theorem dL_indexOf_33 : decode cL_indexOf 33 = .ok (.iconst 1, 1) := by decide +kernel
theorem dL_indexOf_34 : decode cL_indexOf 34 = .ok (.invokestatic 125, 3) := by decide +kernel
theorem dL_indexOf_37 : decode cL_indexOf 37 = .ok (.iload_n 3, 1) := by decide +kernel
theorem dL_indexOf_38 : decode cL_indexOf 38 = .ok (.if_icmp .ne 21, 3) := by decide +kernel
theorem dL_indexOf_41 : decode cL_indexOf 41 = .ok (.aload_n 0, 1) := by decide +kernel
theorem dL_indexOf_42 : decode cL_indexOf 42 = .ok (.iload_n 1, 1) := by decide +kernel
theorem dL_indexOf_43 : decode cL_indexOf 43 = .ok (.iload 6, 2) := by decide +kernel
theorem dL_indexOf_45 : decode cL_indexOf 45 = .ok (.iconst 2, 1) := by decide +kernel
theorem dL_indexOf_46 : decode cL_indexOf 46 = .ok (.invokestatic 125, 3) := by decide +kernel
theorem dL_indexOf_49 : decode cL_indexOf 49 = .ok (.iload 4, 2) := by decide +kernel
theorem dL_indexOf_51 : decode cL_indexOf 51 = .ok (.if_icmp .ne 8, 3) := by decide +kernel
theorem dL_indexOf_54 : decode cL_indexOf 54 = .ok (.iload 6, 2) := by decide +kernel
theorem dL_indexOf_56 : decode cL_indexOf 56 = .ok (.goto 5, 3) := by decide +kernel
theorem dL_indexOf_59 : decode cL_indexOf 59 = .ok (.iload 5, 2) := by decide +kernel
theorem dL_indexOf_61 : decode cL_indexOf 61 = .ok (.istore 5, 2) := by decide +kernel
theorem dL_indexOf_63 : decode cL_indexOf 63 = .ok (.iinc 6 1, 3) := by decide +kernel
theorem dL_indexOf_66 : decode cL_indexOf 66 = .ok (.goto (-60), 3) := by decide +kernel
theorem dL_indexOf_69 : decode cL_indexOf 69 = .ok (.iload 5, 2) := by decide +kernel
theorem dL_indexOf_71 : decode cL_indexOf 71 = .ok (.ireturn, 1) := by decide +kernel
set_option maxRecDepth 20000 in
theorem ggL_areNodes_L_level : GoodIn wsL_areNodes wsL_level := goodIn_ca (goodIn_ca (goodIn_ca (goodIn_r _ [4, 5, 6, 7, 8, 9, 10, 11, 12, 13, 14, 15, 16, 17, 18, 19, 20, 21, 22, 23, 24, 25, 26, 27, 28, 29, 30, 31, 32, 33, 34, 35, 36, 37, 38, 39, 40, 41, 42, 43, 44, 45, 46, 47, 48, 49, 50, 51, 52, 53, 54, 55, 56, 57, 58, 59, 60, 61, 62, 63, 64, 65, 66, 67, 68, 69, 70, 71, 72, 73, 74, 75, 76, 77, 78, 79, 80, 81, 82, 83, 84, 85, 86, 87, 88, 134, 135, 136, 137, 138, 139, 140, 141, 142, 143, 144] (by decide +kernel) (by decide +kernel)) (goodIn_sub (fun _ h => List.mem_cons_of_mem _ (List.mem_append_left _ (List.mem_append_left _ (List.mem_append_right _ h)))) (by decide +kernel))) (goodIn_sub (fun _ h => List.mem_cons_of_mem _ (List.mem_append_left _ (List.mem_append_right _ h))) (by decide +kernel))) (goodIn_sub (fun _ h => List.mem_cons_of_mem _ (List.mem_append_right _ h)) (by decide +kernel))
set_option maxRecDepth 20000 in
theorem gL_areNodes_L_level : GoodIn wsL_areNodes (va_wsS RL 102 yL_level wsL_level) := goodIn_app (goodIn_of _ (by decide +kernel)) ggL_areNodes_L_level
set_option maxRecDepth 20000 in
theorem ggL_areNodes_L_node : GoodIn wsL_areNodes wsL_node := goodIn_ca (goodIn_ca (goodIn_ca (goodIn_r _ [91, 5, 6, 7, 8, 92, 93, 94, 12, 95, 14, 15, 96, 97, 98, 99, 100, 17, 21, 22, 23, 18, 19, 20, 24, 25, 26, 27, 28, 29, 30, 31, 32, 101, 49, 50, 51, 102, 79, 80, 75, 76, 77, 103, 73, 74, 104, 105, 106, 56, 57, 58, 107, 44, 45, 36, 46, 47, 48, 52, 53, 54, 55, 108, 109, 110, 111, 67, 68, 112, 113, 114, 115, 69, 70, 71, 116, 117, 118, 119, 120, 121, 122, 134, 135, 136, 137, 138, 139, 140, 141, 142, 143, 144] (by decide +kernel) (by decide +kernel)) (goodIn_sub (fun _ h => List.mem_cons_of_mem _ (List.mem_append_left _ (List.mem_append_left _ (List.mem_append_right _ h)))) (by decide +kernel))) (goodIn_sub (fun _ h => List.mem_cons_of_mem _ (List.mem_append_left _ (List.mem_append_right _ h))) (by decide +kernel))) (goodIn_sub (fun _ h => List.mem_cons_of_mem _ (List.mem_append_right _ h)) (by decide +kernel))
set_option maxRecDepth 20000 in
theorem gL_areNodes_L_node : GoodIn wsL_areNodes (va_wsS RL 125 yL_node wsL_node) := goodIn_app (goodIn_of _ (by decide +kernel)) ggL_areNodes_L_node
set_option maxRecDepth 20000 in
theorem ggL_areNodes_L_indexOf : GoodIn wsL_areNodes wsL_indexOf := goodIn_ca (goodIn_ca (goodIn_ca (goodIn_r _ [125, 1, 2, 3, 4, 5, 6, 7, 8, 9, 10, 11, 12, 13, 14, 15, 16, 17, 18, 19, 20, 21, 22, 23, 24, 25, 26, 27, 28, 29, 30, 31, 32, 33, 34, 35, 36, 37, 38, 39, 40, 41, 42, 43, 44, 45, 46, 47, 48, 49, 50, 51, 52, 53, 54, 55, 56, 57, 58, 59, 60, 61, 62, 63, 64, 65, 66, 67, 68, 69, 70, 71, 72, 73, 74, 75, 76, 77, 78, 79, 80, 81, 82, 83, 84, 85, 86, 87, 88, 89, 90, 91, 92, 93, 94, 95, 96, 97, 98, 99, 100, 101, 102, 103, 104, 105, 106, 107, 108, 109, 110, 111, 112, 113, 114, 115, 116, 117, 118, 119, 120, 121, 122, 134, 135, 136, 137, 138, 139, 140, 141, 142, 143, 144] (by decide +kernel) (by decide +kernel)) (goodIn_sub (fun _ h => List.mem_cons_of_mem _ (List.mem_append_left _ (List.mem_append_left _ (List.mem_append_right _ h)))) (by decide +kernel))) (goodIn_sub (fun _ h => List.mem_cons_of_mem _ (List.mem_append_left _ (List.mem_append_right _ h))) (by decide +kernel))) (goodIn_sub (fun _ h => List.mem_cons_of_mem _ (List.mem_append_right _ h)) (by decide +kernel))
set_option maxRecDepth 20000 in
theorem gL_areNodes_L_indexOf : GoodIn wsL_areNodes (va_wsS RL 144 yL_indexOf wsL_indexOf) := goodIn_app (goodIn_of _ (by decide +kernel)) ggL_areNodes_L_indexOf
set_option maxRecDepth 20000 in
theorem ggL_areNodes_L_child : GoodIn wsL_areNodes wsL_child := goodIn_ca (goodIn_ca (goodIn_ca (goodIn_r _ [128, 5, 6, 7, 8, 129, 130, 131, 12, 132, 14, 15, 97, 98, 99, 100, 17, 21, 22, 23, 18, 19, 20, 24, 25, 26, 27, 28, 29, 30, 31, 32, 133, 64, 65, 36, 66, 47, 67, 68, 52, 53, 50, 54, 55, 49, 51, 56, 57, 58, 69, 70, 71, 72, 73, 74, 75, 76, 77, 78, 79, 80, 81, 82, 83, 84, 38, 134, 135, 136, 137, 138, 139, 140, 141, 142, 143, 144] (by decide +kernel) (by decide +kernel)) (goodIn_sub (fun _ h => List.mem_cons_of_mem _ (List.mem_append_left _ (List.mem_append_left _ (List.mem_append_right _ h)))) (by decide +kernel))) (goodIn_sub (fun _ h => List.mem_cons_of_mem _ (List.mem_append_left _ (List.mem_append_right _ h))) (by decide +kernel))) (goodIn_sub (fun _ h => List.mem_cons_of_mem _ (List.mem_append_right _ h)) (by decide +kernel))
set_option maxRecDepth 20000 in
theorem gL_areNodes_L_child : GoodIn wsL_areNodes (va_wsS RL 127 yL_child wsL_child) := goodIn_app (goodIn_of _ (by decide +kernel)) ggL_areNodes_L_child
theorem dL_areNodes_0 : decode cL_areNodes 0 = .ok (.aload_n 0, 1) := by decide +kernel
theorem dL_areNodes_1 : decode cL_areNodes 1 = .ok (.iload_n 1, 1) := by decide +kernel
theorem dL_areNodes_2 : decode cL_areNodes 2 = .ok (.iconst 1, 1) := by decide +kernel
theorem dL_areNodes_3 : decode cL_areNodes 3 = .ok (.invokestatic 102, 3) := by decide +kernel
theorem dL_areNodes_6 : decode cL_areNodes 6 = .ok (.istore_n 2, 1) := by decide +kernel
theorem dL_areNodes_7 : decode cL_areNodes 7 = .ok (.aload_n 0, 1) := by decide +kernel
theorem dL_areNodes_8 : decode cL_areNodes 8 = .ok (.iload_n 1, 1) := by decide +kernel
theorem dL_areNodes_9 : decode cL_areNodes 9 = .ok (.iconst 0, 1) := by decide +kernel
theorem dL_areNodes_10 : decode cL_areNodes 10 = .ok (.invokestatic 102, 3) := by decide +kernel
theorem dL_areNodes_13 : decode cL_areNodes 13 = .ok (.istore_n 3, 1) := by decide +kernel
theorem dL_areNodes_14 : decode cL_areNodes 14 = .ok (.iload_n 2, 1) := by decide +kernel
theorem dL_areNodes_15 : decode cL_areNodes 15 = .ok (.ifCond .le 80, 3) := by decide +kernel
theorem dL_areNodes_18 : decode cL_areNodes 18 = .ok (.aload_n 0, 1) := by decide +kernel
theorem dL_areNodes_19 : decode cL_areNodes 19 = .ok (.iload_n 1, 1) := by decide +kernel
theorem dL_areNodes_20 : decode cL_areNodes 20 = .ok (.iconst 0, 1) := by decide +kernel
theorem dL_areNodes_21 : decode cL_areNodes 21 = .ok (.iconst 2, 1) := by decide +kernel
theorem dL_areNodes_22 : decode cL_areNodes 22 = .ok (.invokestatic 125, 3) := by decide +kernel
theorem dL_areNodes_25 : decode cL_areNodes 25 = .ok (.bipush 64, 2) := by decide +kernel
theorem dL_areNodes_27 : decode cL_areNodes 27 = .ok (.if_icmp .ne 68, 3) := by decide +kernel
theorem dL_areNodes_30 : decode cL_areNodes 30 = .ok (.aload_n 0, 1) := by decide +kernel
theorem dL_areNodes_31 : decode cL_areNodes 31 = .ok (.iload_n 1, 1) := by decide +kernel
theorem dL_areNodes_32 : decode cL_areNodes 32 = .ok (.iconst 0, 1) := by decide +kernel
theorem dL_areNodes_33 : decode cL_areNodes 33 = .ok (.iconst 4, 1) := by decide +kernel
theorem dL_areNodes_34 : decode cL_areNodes 34 = .ok (.invokestatic 125, 3) := by decide +kernel
theorem dL_areNodes_37 : decode cL_areNodes 37 = .ok (.iload_n 3, 1) := by decide +kernel
theorem dL_areNodes_38 : decode cL_areNodes 38 = .ok (.if_icmp .ne 57, 3) := by decide +kernel
theorem dL_areNodes_41 : decode cL_areNodes 41 = .ok (.iload_n 3, 1) := by decide +kernel
theorem dL_areNodes_42 : decode cL_areNodes 42 = .ok (.iconst 2, 1) := by decide +kernel
theorem dL_areNodes_43 : decode cL_areNodes 43 = .ok (.if_icmp .lt 10, 3) := by decide +kernel
theorem dL_areNodes_46 : decode cL_areNodes 46 = .ok (.iload_n 2, 1) := by decide +kernel
theorem dL_areNodes_47 : decode cL_areNodes 47 = .ok (.iload_n 3, 1) := by decide +kernel
theorem dL_areNodes_48 : decode cL_areNodes 48 = .ok (.iconst 1, 1) := by decide +kernel
theorem dL_areNodes_49 : decode cL_areNodes 49 = .ok (.iadd, 1) := by decide +kernel
theorem dL_areNodes_50 : decode cL_areNodes 50 = .ok (.if_icmp .ge 45, 3) := by decide +kernel
theorem dL_areNodes_53 : decode cL_areNodes 53 = .ok (.aload_n 0, 1) := by decide +kernel
theorem dL_areNodes_54 : decode cL_areNodes 54 = .ok (.iload_n 1, 1) := by decide +kernel
theorem dL_areNodes_55 : decode cL_areNodes 55 = .ok (.iconst 4, 1) := by decide +kernel
theorem dL_areNodes_56 : decode cL_areNodes 56 = .ok (.invokestatic 102, 3) := by decide +kernel
theorem dL_areNodes_59 : decode cL_areNodes 59 = .ok (.iload_n 3, 1) := by decide +kernel
theorem dL_areNodes_60 : decode cL_areNodes 60 = .ok (.if_icmp .gt 35, 3) := by decide +kernel
theorem dL_areNodes_63 : decode cL_areNodes 63 = .ok (.iload_n 1, 1) := by decide +kernel
theorem dL_areNodes_64 : decode cL_areNodes 64 = .ok (.ifCond .eq 27, 3) := by decide +kernel
theorem dL_areNodes_67 : decode cL_areNodes 67 = .ok (.iload_n 3, 1) := by decide +kernel
theorem dL_areNodes_68 : decode cL_areNodes 68 = .ok (.aload_n 0, 1) := by decide +kernel
theorem dL_areNodes_69 : decode cL_areNodes 69 = .ok (.iload_n 1, 1) := by decide +kernel
theorem dL_areNodes_70 : decode cL_areNodes 70 = .ok (.iconst 1, 1) := by decide +kernel
theorem dL_areNodes_71 : decode cL_areNodes 71 = .ok (.isub, 1) := by decide +kernel
theorem dL_areNodes_72 : decode cL_areNodes 72 = .ok (.iconst 0, 1) := by decide +kernel
theorem dL_areNodes_73 : decode cL_areNodes 73 = .ok (.invokestatic 102, 3) := by decide +kernel
theorem dL_areNodes_76 : decode cL_areNodes 76 = .ok (.if_icmp .gt 19, 3) := by decide +kernel
theorem dL_areNodes_79 : decode cL_areNodes 79 = .ok (.iload_n 2, 1) := by decide +kernel
theorem dL_areNodes_80 : decode cL_areNodes 80 = .ok (.aload_n 0, 1) := by decide +kernel
theorem dL_areNodes_81 : decode cL_areNodes 81 = .ok (.iload_n 1, 1) := by decide +kernel
theorem dL_areNodes_82 : decode cL_areNodes 82 = .ok (.iconst 1, 1) := by decide +kernel
theorem dL_areNodes_83 : decode cL_areNodes 83 = .ok (.isub, 1) := by decide +kernel
theorem dL_areNodes_84 : decode cL_areNodes 84 = .ok (.iconst 1, 1) := by decide +kernel
theorem dL_areNodes_85 : decode cL_areNodes 85 = .ok (.invokestatic 102, 3) := by decide +kernel
theorem dL_areNodes_88 : decode cL_areNodes 88 = .ok (.if_icmp .gt 7, 3) := by decide +kernel
theorem dL_areNodes_91 : decode cL_areNodes 91 = .ok (.iconst 1, 1) := by decide +kernel
theorem dL_areNodes_92 : decode cL_areNodes 92 = .ok (.goto 4, 3) := by decide +kernel
theorem dL_areNodes_95 : decode cL_areNodes 95 = .ok (.iconst 0, 1) := by decide +kernel
theorem dL_areNodes_96 : decode cL_areNodes 96 = .ok (.istore 4, 2) := by decide +kernel
theorem dL_areNodes_98 : decode cL_areNodes 98 = .ok (.iconst 0, 1) := by decide +kernel
theorem dL_areNodes_99 : decode cL_areNodes 99 = .ok (.istore 5, 2) := by decide +kernel
theorem dL_areNodes_101 : decode cL_areNodes 101 = .ok (.iconst 0, 1) := by decide +kernel
theorem dL_areNodes_102 : decode cL_areNodes 102 = .ok (.istore 6, 2) := by decide +kernel
theorem dL_areNodes_104 : decode cL_areNodes 104 = .ok (.iconst 0, 1) := by decide +kernel
theorem dL_areNodes_105 : decode cL_areNodes 105 = .ok (.istore 7, 2) := by decide +kernel
theorem dL_areNodes_107 : decode cL_areNodes 107 = .ok (.iload 7, 2) := by decide +kernel
theorem dL_areNodes_109 : decode cL_areNodes 109 = .ok (.iload_n 2, 1) := by decide +kernel
theorem dL_areNodes_110 : decode cL_areNodes 110 = .ok (.if_icmp .ge 427, 3) := by decide +kernel
theorem dL_areNodes_113 : decode cL_areNodes 113 = .ok (.iload 4, 2) := by decide +kernel
theorem dL_areNodes_115 : decode cL_areNodes 115 = .ok (.ifCond .eq 422, 3) := by decide +kernel
theorem dL_areNodes_118 : decode cL_areNodes 118 = .ok (.aload_n 0, 1) := by decide +kernel
theorem dL_areNodes_119 : decode cL_areNodes 119 = .ok (.iload_n 1, 1) := by decide +kernel
theorem dL_areNodes_120 : decode cL_areNodes 120 = .ok (.iload 7, 2) := by decide +kernel
theorem dL_areNodes_122 : decode cL_areNodes 122 = .ok (.iconst 0, 1) := by decide +kernel
theorem dL_areNodes_123 : decode cL_areNodes 123 = .ok (.invokestatic 125, 3) := by decide +kernel
theorem dL_areNodes_126 : decode cL_areNodes 126 = .ok (.istore 8, 2) := by decide +kernel
theorem dL_areNodes_128 : decode cL_areNodes 128 = .ok (.aload_n 0, 1) := by decide +kernel
theorem dL_areNodes_129 : decode cL_areNodes 129 = .ok (.iload_n 1, 1) := by decide +kernel
theorem dL_areNodes_130 : decode cL_areNodes 130 = .ok (.iload 7, 2) := by decide +kernel
theorem dL_areNodes_132 : decode cL_areNodes 132 = .ok (.iconst 1, 1) := by decide +kernel
theorem dL_areNodes_133 : decode cL_areNodes 133 = .ok (.invokestatic 125, 3) := by decide +kernel
theorem dL_areNodes_136 : decode cL_areNodes 136 = .ok (.istore 9, 2) := by decide +kernel
theorem dL_areNodes_138 : decode cL_areNodes 138 = .ok (.aload_n 0, 1) := by decide +kernel
theorem dL_areNodes_139 : decode cL_areNodes 139 = .ok (.iload_n 1, 1) := by decide +kernel
theorem dL_areNodes_140 : decode cL_areNodes 140 = .ok (.iload 7, 2) := by decide +kernel
theorem dL_areNodes_142 : decode cL_areNodes 142 = .ok (.iconst 2, 1) := by decide +kernel
theorem dL_areNodes_143 : decode cL_areNodes 143 = .ok (.invokestatic 125, 3) := by decide +kernel
theorem dL_areNodes_146 : decode cL_areNodes 146 = .ok (.istore 10, 2) := by decide +kernel
theorem dL_areNodes_148 : decode cL_areNodes 148 = .ok (.iconst 0, 1) := by decide +kernel
theorem dL_areNodes_149 : decode cL_areNodes 149 = .ok (.istore 11, 2) := by decide +kernel
theorem dL_areNodes_151 : decode cL_areNodes 151 = .ok (.iload 8, 2) := by decide +kernel
theorem dL_areNodes_153 : decode cL_areNodes 153 = .ok (.iload 10, 2) := by decide +kernel
theorem dL_areNodes_155 : decode cL_areNodes 155 = .ok (.irem, 1) := by decide +kernel
theorem dL_areNodes_156 : decode cL_areNodes 156 = .ok (.ifCond .ne 54, 3) := by decide +kernel
theorem dL_areNodes_159 : decode cL_areNodes 159 = .ok (.iload 9, 2) := by decide +kernel
theorem dL_areNodes_161 : decode cL_areNodes 161 = .ok (.iload 10, 2) := by decide +kernel
theorem dL_areNodes_163 : decode cL_areNodes 163 = .ok (.irem, 1) := by decide +kernel
theorem dL_areNodes_164 : decode cL_areNodes 164 = .ok (.ifCond .ne 46, 3) := by decide +kernel
theorem dL_areNodes_167 : decode cL_areNodes 167 = .ok (.iload 7, 2) := by decide +kernel
theorem dL_areNodes_169 : decode cL_areNodes 169 = .ok (.ifCond .eq 15, 3) := by decide +kernel
theorem dL_areNodes_172 : decode cL_areNodes 172 = .ok (.aload_n 0, 1) := by decide +kernel
theorem dL_areNodes_173 : decode cL_areNodes 173 = .ok (.iload_n 1, 1) := by decide +kernel
theorem dL_areNodes_174 : decode cL_areNodes 174 = .ok (.iload 7, 2) := by decide +kernel
theorem dL_areNodes_176 : decode cL_areNodes 176 = .ok (.iconst 5, 1) := by decide +kernel
theorem dL_areNodes_177 : decode cL_areNodes 177 = .ok (.invokestatic 125, 3) := by decide +kernel
theorem dL_areNodes_180 : decode cL_areNodes 180 = .ok (.iconst 1, 1) := by decide +kernel
theorem dL_areNodes_181 : decode cL_areNodes 181 = .ok (.if_icmp .le 29, 3) := by decide +kernel
theorem dL_areNodes_184 : decode cL_areNodes 184 = .ok (.iload_n 1, 1) := by decide +kernel
theorem dL_areNodes_185 : decode cL_areNodes 185 = .ok (.ifCond .eq 21, 3) := by decide +kernel
theorem dL_areNodes_188 : decode cL_areNodes 188 = .ok (.aload_n 0, 1) := by decide +kernel
theorem dL_areNodes_189 : decode cL_areNodes 189 = .ok (.iload_n 1, 1) := by decide +kernel
theorem dL_areNodes_190 : decode cL_areNodes 190 = .ok (.iconst 1, 1) := by decide +kernel
theorem dL_areNodes_191 : decode cL_areNodes 191 = .ok (.isub, 1) := by decide +kernel
theorem dL_areNodes_192 : decode cL_areNodes 192 = .ok (.iload 8, 2) := by decide +kernel
theorem dL_areNodes_194 : decode cL_areNodes 194 = .ok (.iload 9, 2) := by decide +kernel
theorem dL_areNodes_196 : decode cL_areNodes 196 = .ok (.iload 10, 2) := by decide +kernel
theorem dL_areNodes_198 : decode cL_areNodes 198 = .ok (.invokestatic 144, 3) := by decide +kernel
theorem dL_areNodes_201 : decode cL_areNodes 201 = .ok (.iload 7, 2) := by decide +kernel
theorem dL_areNodes_203 : decode cL_areNodes 203 = .ok (.if_icmp .lt 7, 3) := by decide +kernel
theorem dL_areNodes_206 : decode cL_areNodes 206 = .ok (.iconst 1, 1) := by decide +kernel
theorem dL_areNodes_207 : decode cL_areNodes 207 = .ok (.goto 4, 3) := by decide +kernel
theorem dL_areNodes_210 : decode cL_areNodes 210 = .ok (.iconst 0, 1) := by decide +kernel
theorem dL_areNodes_211 : decode cL_areNodes 211 = .ok (.istore 4, 2) := by decide +kernel
theorem dL_areNodes_213 : decode cL_areNodes 213 = .ok (.iconst 0, 1) := by decide +kernel
theorem dL_areNodes_214 : decode cL_areNodes 214 = .ok (.istore 12, 2) := by decide +kernel
theorem dL_areNodes_216 : decode cL_areNodes 216 = .ok (.iload 12, 2) := by decide +kernel
theorem dL_areNodes_218 : decode cL_areNodes 218 = .ok (.iconst 4, 1) := by decide +kernel
theorem dL_areNodes_219 : decode cL_areNodes 219 = .ok (.if_icmp .ge 287, 3) := by decide +kernel
theorem dL_areNodes_222 : decode cL_areNodes 222 = .ok (.iload 4, 2) := by decide +kernel
theorem dL_areNodes_224 : decode cL_areNodes 224 = .ok (.ifCond .eq 282, 3) := by decide +kernel
theorem dL_areNodes_227 : decode cL_areNodes 227 = .ok (.aload_n 0, 1) := by decide +kernel
theorem dL_areNodes_228 : decode cL_areNodes 228 = .ok (.iload_n 1, 1) := by decide +kernel
theorem dL_areNodes_229 : decode cL_areNodes 229 = .ok (.iload 7, 2) := by decide +kernel
theorem dL_areNodes_231 : decode cL_areNodes 231 = .ok (.iload 12, 2) := by decide +kernel
theorem dL_areNodes_233 : decode cL_areNodes 233 = .ok (.invokestatic 127, 3) := by decide +kernel
theorem dL_areNodes_236 : decode cL_areNodes 236 = .ok (.istore 13, 2) := by decide +kernel
theorem dL_areNodes_238 : decode cL_areNodes 238 = .ok (.iload 13, 2) := by decide +kernel
theorem dL_areNodes_240 : decode cL_areNodes 240 = .ok (.ifCond .ge 8, 3) := by decide +kernel
theorem dL_areNodes_243 : decode cL_areNodes 243 = .ok (.iload 8, 2) := by decide +kernel
theorem dL_areNodes_245 : decode cL_areNodes 245 = .ok (.goto 31, 3) := by decide +kernel
theorem dL_areNodes_248 : decode cL_areNodes 248 = .ok (.iload 13, 2) := by decide +kernel
theorem dL_areNodes_250 : decode cL_areNodes 250 = .ok (.sipush 1000, 3) := by decide +kernel
theorem dL_areNodes_253 : decode cL_areNodes 253 = .ok (.if_icmp .ge 14, 3) := by decide +kernel
theorem dL_areNodes_256 : decode cL_areNodes 256 = .ok (.aload_n 0, 1) := by decide +kernel
theorem dL_areNodes_257 : decode cL_areNodes 257 = .ok (.iload_n 1, 1) := by decide +kernel
theorem dL_areNodes_258 : decode cL_areNodes 258 = .ok (.iload 13, 2) := by decide +kernel
theorem dL_areNodes_260 : decode cL_areNodes 260 = .ok (.iconst 0, 1) := by decide +kernel
theorem dL_areNodes_261 : decode cL_areNodes 261 = .ok (.invokestatic 125, 3) := by decide +kernel
theorem dL_areNodes_264 : decode cL_areNodes 264 = .ok (.goto 12, 3) := by decide +kernel
theorem dL_areNodes_267 : decode cL_areNodes 267 = .ok (.iload 13, 2) := by decide +kernel
theorem dL_areNodes_269 : decode cL_areNodes 269 = .ok (.sipush 1000, 3) := by decide +kernel
theorem dL_areNodes_272 : decode cL_areNodes 272 = .ok (.isub, 1) := by decide +kernel
theorem dL_areNodes_273 : decode cL_areNodes 273 = .ok (.bipush 64, 2) := by decide +kernel
theorem dL_areNodes_275 : decode cL_areNodes 275 = .ok (.irem, 1) := by decide +kernel
theorem dL_areNodes_276 : decode cL_areNodes 276 = .ok (.istore 14, 2) := by decide +kernel
theorem dL_areNodes_278 : decode cL_areNodes 278 = .ok (.iload 13, 2) := by decide +kernel
theorem dL_areNodes_280 : decode cL_areNodes 280 = .ok (.ifCond .ge 8, 3) := by decide +kernel
theorem dL_areNodes_283 : decode cL_areNodes 283 = .ok (.iload 9, 2) := by decide +kernel
theorem dL_areNodes_285 : decode cL_areNodes 285 = .ok (.goto 31, 3) := by decide +kernel
theorem dL_areNodes_288 : decode cL_areNodes 288 = .ok (.iload 13, 2) := by decide +kernel
theorem dL_areNodes_290 : decode cL_areNodes 290 = .ok (.sipush 1000, 3) := by decide +kernel
theorem dL_areNodes_293 : decode cL_areNodes 293 = .ok (.if_icmp .ge 14, 3) := by decide +kernel
theorem dL_areNodes_296 : decode cL_areNodes 296 = .ok (.aload_n 0, 1) := by decide +kernel
theorem dL_areNodes_297 : decode cL_areNodes 297 = .ok (.iload_n 1, 1) := by decide +kernel
theorem dL_areNodes_298 : decode cL_areNodes 298 = .ok (.iload 13, 2) := by decide +kernel
theorem dL_areNodes_300 : decode cL_areNodes 300 = .ok (.iconst 1, 1) := by decide +kernel
theorem dL_areNodes_301 : decode cL_areNodes 301 = .ok (.invokestatic 125, 3) := by decide +kernel
theorem dL_areNodes_304 : decode cL_areNodes 304 = .ok (.goto 12, 3) := by decide +kernel
theorem dL_areNodes_307 : decode cL_areNodes 307 = .ok (.iload 13, 2) := by decide +kernel
theorem dL_areNodes_309 : decode cL_areNodes 309 = .ok (.sipush 1000, 3) := by decide +kernel
theorem dL_areNodes_312 : decode cL_areNodes 312 = .ok (.isub, 1) := by decide +kernel
theorem dL_areNodes_313 : decode cL_areNodes 313 = .ok (.bipush 64, 2) := by decide +kernel
theorem dL_areNodes_315 : decode cL_areNodes 315 = .ok (.idiv, 1) := by decide +kernel
theorem dL_areNodes_316 : decode cL_areNodes 316 = .ok (.istore 15, 2) := by decide +kernel
theorem dL_areNodes_318 : decode cL_areNodes 318 = .ok (.iload 11, 2) := by decide +kernel
theorem dL_areNodes_320 : decode cL_areNodes 320 = .ok (.iload 13, 2) := by decide +kernel
theorem dL_areNodes_322 : decode cL_areNodes 322 = .ok (.ifCond .ge 7, 3) := by decide +kernel
theorem dL_areNodes_325 : decode cL_areNodes 325 = .ok (.iconst 0, 1) := by decide +kernel
theorem dL_areNodes_326 : decode cL_areNodes 326 = .ok (.goto 4, 3) := by decide +kernel
theorem dL_areNodes_329 : decode cL_areNodes 329 = .ok (.iconst 1, 1) := by decide +kernel
theorem dL_areNodes_330 : decode cL_areNodes 330 = .ok (.iadd, 1) := by decide +kernel
theorem dL_areNodes_331 : decode cL_areNodes 331 = .ok (.istore 11, 2) := by decide +kernel
theorem dL_areNodes_333 : decode cL_areNodes 333 = .ok (.iload 5, 2) := by decide +kernel
theorem dL_areNodes_335 : decode cL_areNodes 335 = .ok (.iload 13, 2) := by decide +kernel
theorem dL_areNodes_337 : decode cL_areNodes 337 = .ok (.sipush 1000, 3) := by decide +kernel
theorem dL_areNodes_340 : decode cL_areNodes 340 = .ok (.if_icmp .lt 7, 3) := by decide +kernel
theorem dL_areNodes_343 : decode cL_areNodes 343 = .ok (.iconst 1, 1) := by decide +kernel
theorem dL_areNodes_344 : decode cL_areNodes 344 = .ok (.goto 4, 3) := by decide +kernel
theorem dL_areNodes_347 : decode cL_areNodes 347 = .ok (.iconst 0, 1) := by decide +kernel
theorem dL_areNodes_348 : decode cL_areNodes 348 = .ok (.iadd, 1) := by decide +kernel
theorem dL_areNodes_349 : decode cL_areNodes 349 = .ok (.istore 5, 2) := by decide +kernel
theorem dL_areNodes_351 : decode cL_areNodes 351 = .ok (.iload 6, 2) := by decide +kernel
theorem dL_areNodes_353 : decode cL_areNodes 353 = .ok (.iload 13, 2) := by decide +kernel
theorem dL_areNodes_355 : decode cL_areNodes 355 = .ok (.ifCond .lt 15, 3) := by decide +kernel
theorem dL_areNodes_358 : decode cL_areNodes 358 = .ok (.iload 13, 2) := by decide +kernel
theorem dL_areNodes_360 : decode cL_areNodes 360 = .ok (.sipush 1000, 3) := by decide +kernel
theorem dL_areNodes_363 : decode cL_areNodes 363 = .ok (.if_icmp .ge 7, 3) := by decide +kernel
theorem dL_areNodes_366 : decode cL_areNodes 366 = .ok (.iconst 1, 1) := by decide +kernel
theorem dL_areNodes_367 : decode cL_areNodes 367 = .ok (.goto 4, 3) := by decide +kernel
theorem dL_areNodes_370 : decode cL_areNodes 370 = .ok (.iconst 0, 1) := by decide +kernel
theorem dL_areNodes_371 : decode cL_areNodes 371 = .ok (.iadd, 1) := by decide +kernel
theorem dL_areNodes_372 : decode cL_areNodes 372 = .ok (.istore 6, 2) := by decide +kernel
theorem dL_areNodes_374 : decode cL_areNodes 374 = .ok (.iload 13, 2) := by decide +kernel
theorem dL_areNodes_376 : decode cL_areNodes 376 = .ok (.ifCond .lt 117, 3) := by decide +kernel
theorem dL_areNodes_379 : decode cL_areNodes 379 = .ok (.iload 14, 2) := by decide +kernel
theorem dL_areNodes_381 : decode cL_areNodes 381 = .ok (.iload 8, 2) := by decide +kernel
theorem dL_areNodes_383 : decode cL_areNodes 383 = .ok (.iload 12, 2) := by decide +kernel
theorem dL_areNodes_385 : decode cL_areNodes 385 = .ok (.iconst 2, 1) := by decide +kernel
theorem dL_areNodes_386 : decode cL_areNodes 386 = .ok (.irem, 1) := by decide +kernel
theorem dL_areNodes_387 : decode cL_areNodes 387 = .ok (.iload 10, 2) := by decide +kernel
theorem dL_areNodes_389 : decode cL_areNodes 389 = .ok (.iconst 2, 1) := by decide +kernel
theorem dL_areNodes_390 : decode cL_areNodes 390 = .ok (.idiv, 1) := by decide +kernel
theorem dL_areNodes_391 : decode cL_areNodes 391 = .ok (.imul, 1) := by decide +kernel
theorem dL_areNodes_392 : decode cL_areNodes 392 = .ok (.iadd, 1) := by decide +kernel
theorem dL_areNodes_393 : decode cL_areNodes 393 = .ok (.if_icmp .lt 104, 3) := by decide +kernel
theorem dL_areNodes_396 : decode cL_areNodes 396 = .ok (.iload 14, 2) := by decide +kernel
theorem dL_areNodes_398 : decode cL_areNodes 398 = .ok (.iload 8, 2) := by decide +kernel
theorem dL_areNodes_400 : decode cL_areNodes 400 = .ok (.iload 12, 2) := by decide +kernel
theorem dL_areNodes_402 : decode cL_areNodes 402 = .ok (.iconst 2, 1) := by decide +kernel
theorem dL_areNodes_403 : decode cL_areNodes 403 = .ok (.irem, 1) := by decide +kernel
theorem dL_areNodes_404 : decode cL_areNodes 404 = .ok (.iload 10, 2) := by decide +kernel
theorem dL_areNodes_406 : decode cL_areNodes 406 = .ok (.iconst 2, 1) := by decide +kernel
theorem dL_areNodes_407 : decode cL_areNodes 407 = .ok (.idiv, 1) := by decide +kernel
theorem dL_areNodes_408 : decode cL_areNodes 408 = .ok (.imul, 1) := by decide +kernel
theorem dL_areNodes_409 : decode cL_areNodes 409 = .ok (.iadd, 1) := by decide +kernel
theorem dL_areNodes_410 : decode cL_areNodes 410 = .ok (.iload 10, 2) := by decide +kernel
theorem dL_areNodes_412 : decode cL_areNodes 412 = .ok (.iconst 2, 1) := by decide +kernel
theorem dL_areNodes_413 : decode cL_areNodes 413 = .ok (.idiv, 1) := by decide +kernel
theorem dL_areNodes_414 : decode cL_areNodes 414 = .ok (.iadd, 1) := by decide +kernel
theorem dL_areNodes_415 : decode cL_areNodes 415 = .ok (.if_icmp .ge 82, 3) := by decide +kernel
theorem dL_areNodes_418 : decode cL_areNodes 418 = .ok (.iload 15, 2) := by decide +kernel
theorem dL_areNodes_420 : decode cL_areNodes 420 = .ok (.iload 9, 2) := by decide +kernel
theorem dL_areNodes_422 : decode cL_areNodes 422 = .ok (.iload 12, 2) := by decide +kernel
theorem dL_areNodes_424 : decode cL_areNodes 424 = .ok (.iconst 2, 1) := by decide +kernel
theorem dL_areNodes_425 : decode cL_areNodes 425 = .ok (.idiv, 1) := by decide +kernel
theorem dL_areNodes_426 : decode cL_areNodes 426 = .ok (.iload 10, 2) := by decide +kernel
theorem dL_areNodes_428 : decode cL_areNodes 428 = .ok (.iconst 2, 1) := by decide +kernel
theorem dL_areNodes_429 : decode cL_areNodes 429 = .ok (.idiv, 1) := by decide +kernel
theorem dL_areNodes_430 : decode cL_areNodes 430 = .ok (.imul, 1) := by decide +kernel
theorem dL_areNodes_431 : decode cL_areNodes 431 = .ok (.iadd, 1) := by decide +kernel
theorem dL_areNodes_432 : decode cL_areNodes 432 = .ok (.if_icmp .lt 65, 3) := by decide +kernel
theorem dL_areNodes_435 : decode cL_areNodes 435 = .ok (.iload 15, 2) := by decide +kernel
theorem dL_areNodes_437 : decode cL_areNodes 437 = .ok (.iload 9, 2) := by decide +kernel
theorem dL_areNodes_439 : decode cL_areNodes 439 = .ok (.iload 12, 2) := by decide +kernel
theorem dL_areNodes_441 : decode cL_areNodes 441 = .ok (.iconst 2, 1) := by decide +kernel
theorem dL_areNodes_442 : decode cL_areNodes 442 = .ok (.idiv, 1) := by decide +kernel
theorem dL_areNodes_443 : decode cL_areNodes 443 = .ok (.iload 10, 2) := by decide +kernel
theorem dL_areNodes_445 : decode cL_areNodes 445 = .ok (.iconst 2, 1) := by decide +kernel
theorem dL_areNodes_446 : decode cL_areNodes 446 = .ok (.idiv, 1) := by decide +kernel
theorem dL_areNodes_447 : decode cL_areNodes 447 = .ok (.imul, 1) := by decide +kernel
theorem dL_areNodes_448 : decode cL_areNodes 448 = .ok (.iadd, 1) := by decide +kernel
theorem dL_areNodes_449 : decode cL_areNodes 449 = .ok (.iload 10, 2) := by decide +kernel
theorem dL_areNodes_451 : decode cL_areNodes 451 = .ok (.iconst 2, 1) := by decide +kernel
theorem dL_areNodes_452 : decode cL_areNodes 452 = .ok (.idiv, 1) := by decide +kernel
theorem dL_areNodes_453 : decode cL_areNodes 453 = .ok (.iadd, 1) := by decide +kernel
theorem dL_areNodes_454 : decode cL_areNodes 454 = .ok (.if_icmp .ge 43, 3) := by decide +kernel
theorem dL_areNodes_457 : decode cL_areNodes 457 = .ok (.iload 13, 2) := by decide +kernel
theorem dL_areNodes_459 : decode cL_areNodes 459 = .ok (.sipush 1000, 3) := by decide +kernel
theorem dL_areNodes_462 : decode cL_areNodes 462 = .ok (.if_icmp .ge 31, 3) := by decide +kernel
theorem dL_areNodes_465 : decode cL_areNodes 465 = .ok (.iload 13, 2) := by decide +kernel
theorem dL_areNodes_467 : decode cL_areNodes 467 = .ok (.iload 7, 2) := by decide +kernel
theorem dL_areNodes_469 : decode cL_areNodes 469 = .ok (.if_icmp .le 28, 3) := by decide +kernel
theorem dL_areNodes_472 : decode cL_areNodes 472 = .ok (.aload_n 0, 1) := by decide +kernel
theorem dL_areNodes_473 : decode cL_areNodes 473 = .ok (.iload_n 1, 1) := by decide +kernel
theorem dL_areNodes_474 : decode cL_areNodes 474 = .ok (.iload 13, 2) := by decide +kernel
theorem dL_areNodes_476 : decode cL_areNodes 476 = .ok (.iconst 3, 1) := by decide +kernel
theorem dL_areNodes_477 : decode cL_areNodes 477 = .ok (.invokestatic 125, 3) := by decide +kernel
theorem dL_areNodes_480 : decode cL_areNodes 480 = .ok (.aload_n 0, 1) := by decide +kernel
theorem dL_areNodes_481 : decode cL_areNodes 481 = .ok (.iload_n 1, 1) := by decide +kernel
theorem dL_areNodes_482 : decode cL_areNodes 482 = .ok (.iload 7, 2) := by decide +kernel
theorem dL_areNodes_484 : decode cL_areNodes 484 = .ok (.iconst 3, 1) := by decide +kernel
theorem dL_areNodes_485 : decode cL_areNodes 485 = .ok (.invokestatic 125, 3) := by decide +kernel
theorem dL_areNodes_488 : decode cL_areNodes 488 = .ok (.iconst 1, 1) := by decide +kernel
theorem dL_areNodes_489 : decode cL_areNodes 489 = .ok (.iadd, 1) := by decide +kernel
theorem dL_areNodes_490 : decode cL_areNodes 490 = .ok (.if_icmp .ne 7, 3) := by decide +kernel
theorem dL_areNodes_493 : decode cL_areNodes 493 = .ok (.iconst 1, 1) := by decide +kernel
theorem dL_areNodes_494 : decode cL_areNodes 494 = .ok (.goto 4, 3) := by decide +kernel
theorem dL_areNodes_497 : decode cL_areNodes 497 = .ok (.iconst 0, 1) := by decide +kernel
theorem dL_areNodes_498 : decode cL_areNodes 498 = .ok (.istore 4, 2) := by decide +kernel
theorem dL_areNodes_500 : decode cL_areNodes 500 = .ok (.iinc 12 1, 3) := by decide +kernel
theorem dL_areNodes_503 : decode cL_areNodes 503 = .ok (.goto (-287), 3) := by decide +kernel
theorem dL_areNodes_506 : decode cL_areNodes 506 = .ok (.iload 4, 2) := by decide +kernel
theorem dL_areNodes_508 : decode cL_areNodes 508 = .ok (.ifCond .eq 20, 3) := by decide +kernel
theorem dL_areNodes_511 : decode cL_areNodes 511 = .ok (.iload 11, 2) := by decide +kernel
theorem dL_areNodes_513 : decode cL_areNodes 513 = .ok (.aload_n 0, 1) := by decide +kernel
theorem dL_areNodes_514 : decode cL_areNodes 514 = .ok (.iload_n 1, 1) := by decide +kernel
theorem dL_areNodes_515 : decode cL_areNodes 515 = .ok (.iload 7, 2) := by decide +kernel
theorem dL_areNodes_517 : decode cL_areNodes 517 = .ok (.iconst 5, 1) := by decide +kernel
theorem dL_areNodes_518 : decode cL_areNodes 518 = .ok (.invokestatic 125, 3) := by decide +kernel
theorem dL_areNodes_521 : decode cL_areNodes 521 = .ok (.if_icmp .ne 7, 3) := by decide +kernel
theorem dL_areNodes_524 : decode cL_areNodes 524 = .ok (.iconst 1, 1) := by decide +kernel
theorem dL_areNodes_525 : decode cL_areNodes 525 = .ok (.goto 4, 3) := by decide +kernel
theorem dL_areNodes_528 : decode cL_areNodes 528 = .ok (.iconst 0, 1) := by decide +kernel
theorem dL_areNodes_529 : decode cL_areNodes 529 = .ok (.istore 4, 2) := by decide +kernel
theorem dL_areNodes_531 : decode cL_areNodes 531 = .ok (.iinc 7 1, 3) := by decide +kernel
theorem dL_areNodes_534 : decode cL_areNodes 534 = .ok (.goto (-427), 3) := by decide +kernel
theorem dL_areNodes_537 : decode cL_areNodes 537 = .ok (.iload 4, 2) := by decide +kernel
theorem dL_areNodes_539 : decode cL_areNodes 539 = .ok (.ifCond .eq 37, 3) := by decide +kernel
theorem dL_areNodes_542 : decode cL_areNodes 542 = .ok (.iload 6, 2) := by decide +kernel
theorem dL_areNodes_544 : decode cL_areNodes 544 = .ok (.iload_n 2, 1) := by decide +kernel
theorem dL_areNodes_545 : decode cL_areNodes 545 = .ok (.iconst 1, 1) := by decide +kernel
theorem dL_areNodes_546 : decode cL_areNodes 546 = .ok (.isub, 1) := by decide +kernel
theorem dL_areNodes_547 : decode cL_areNodes 547 = .ok (.if_icmp .ne 29, 3) := by decide +kernel
theorem dL_areNodes_550 : decode cL_areNodes 550 = .ok (.iload 5, 2) := by decide +kernel
theorem dL_areNodes_552 : decode cL_areNodes 552 = .ok (.aload_n 0, 1) := by decide +kernel
theorem dL_areNodes_553 : decode cL_areNodes 553 = .ok (.iload_n 1, 1) := by decide +kernel
theorem dL_areNodes_554 : decode cL_areNodes 554 = .ok (.iconst 3, 1) := by decide +kernel
theorem dL_areNodes_555 : decode cL_areNodes 555 = .ok (.invokestatic 102, 3) := by decide +kernel
theorem dL_areNodes_558 : decode cL_areNodes 558 = .ok (.if_icmp .ne 18, 3) := by decide +kernel
theorem dL_areNodes_561 : decode cL_areNodes 561 = .ok (.iload 5, 2) := by decide +kernel
theorem dL_areNodes_563 : decode cL_areNodes 563 = .ok (.aload_n 0, 1) := by decide +kernel
theorem dL_areNodes_564 : decode cL_areNodes 564 = .ok (.iload_n 1, 1) := by decide +kernel
theorem dL_areNodes_565 : decode cL_areNodes 565 = .ok (.iconst 4, 1) := by decide +kernel
theorem dL_areNodes_566 : decode cL_areNodes 566 = .ok (.invokestatic 102, 3) := by decide +kernel
theorem dL_areNodes_569 : decode cL_areNodes 569 = .ok (.if_icmp .ne 7, 3) := by decide +kernel
theorem dL_areNodes_572 : decode cL_areNodes 572 = .ok (.iconst 1, 1) := by decide +kernel
theorem dL_areNodes_573 : decode cL_areNodes 573 = .ok (.goto 4, 3) := by decide +kernel
theorem dL_areNodes_576 : decode cL_areNodes 576 = .ok (.iconst 0, 1) := by decide +kernel
theorem dL_areNodes_577 : decode cL_areNodes 577 = .ok (.ireturn, 1) := by decide +kernel
set_option maxRecDepth 20000 in
theorem ggL_areSearches_L_search : GoodIn wsL_areSearches wsL_search := goodIn_ca (goodIn_ca (goodIn_ca (goodIn_r _ [4, 5, 6, 7, 8, 9, 10, 11, 12, 13, 14, 15, 16, 17, 18, 19, 20, 21, 22, 23, 24, 25, 26, 27, 28, 29, 30, 31, 32, 33, 34, 35, 36, 37, 38, 39, 40, 41, 42, 43, 44, 45, 46, 47, 48, 49, 50, 51, 52, 53, 54, 55, 56, 57, 58, 59, 60, 61, 62, 63, 64, 65, 66, 67, 68, 69, 70, 71, 72, 73, 74, 75, 76, 77, 78, 79, 80, 81, 82, 83, 84, 85, 86, 87, 88, 89, 90, 91, 92, 93, 94, 181, 182, 183, 184, 185, 186, 187, 188, 189, 190, 191] (by decide +kernel) (by decide +kernel)) (goodIn_sub (fun _ h => List.mem_cons_of_mem _ (List.mem_append_left _ (List.mem_append_left _ (List.mem_append_right _ h)))) (by decide +kernel))) (goodIn_sub (fun _ h => List.mem_cons_of_mem _ (List.mem_append_left _ (List.mem_append_right _ h))) (by decide +kernel))) (goodIn_sub (fun _ h => List.mem_cons_of_mem _ (List.mem_append_right _ h)) (by decide +kernel))
set_option maxRecDepth 20000 in
theorem gL_areSearches_L_search : GoodIn wsL_areSearches (va_wsS RL 129 yL_search wsL_search) := goodIn_app (goodIn_of _ (by decide +kernel)) ggL_areSearches_L_search
set_option maxRecDepth 20000 in
theorem ggL_areSearches_L_node : GoodIn wsL_areSearches wsL_node := goodIn_ca (goodIn_ca (goodIn_ca (goodIn_r _ [97, 98, 5, 99, 6, 100, 101, 102, 10, 103, 12, 13, 14, 104, 105, 106, 107, 108, 18, 19, 20, 109, 110, 111, 21, 22, 23, 24, 25, 26, 27, 28, 29, 112, 72, 39, 73, 113, 81, 82, 77, 78, 79, 114, 75, 76, 92, 93, 94, 59, 60, 61, 115, 116, 117, 53, 118, 55, 119, 68, 69, 70, 71, 120, 121, 122, 123, 66, 67, 124, 125, 126, 127, 56, 57, 58, 128, 129, 130, 131, 132, 133, 134, 181, 182, 183, 184, 185, 186, 187, 188, 189, 190, 191] (by decide +kernel) (by decide +kernel)) (goodIn_sub (fun _ h => List.mem_cons_of_mem _ (List.mem_append_left _ (List.mem_append_left _ (List.mem_append_right _ h)))) (by decide +kernel))) (goodIn_sub (fun _ h => List.mem_cons_of_mem _ (List.mem_append_left _ (List.mem_append_right _ h))) (by decide +kernel))) (goodIn_sub (fun _ h => List.mem_cons_of_mem _ (List.mem_append_right _ h)) (by decide +kernel))
set_option maxRecDepth 20000 in
theorem gL_areSearches_L_node : GoodIn wsL_areSearches (va_wsS RL 125 yL_node wsL_node) := goodIn_app (goodIn_of _ (by decide +kernel)) ggL_areSearches_L_node
set_option maxRecDepth 20000 in
theorem ggL_areSearches_L_point : GoodIn wsL_areSearches wsL_point := goodIn_ca (goodIn_ca (goodIn_ca (goodIn_r _ [137, 98, 5, 99, 6, 138, 139, 140, 10, 141, 142, 143, 144, 145, 146, 147, 109, 110, 111, 18, 19, 20, 21, 22, 23, 24, 25, 26, 27, 28, 29, 148, 149, 150, 181, 182, 183, 184, 185, 192, 193, 194, 195, 196, 197, 198, 199, 200] (by decide +kernel) (by decide +kernel)) (goodIn_sub (fun _ h => List.mem_cons_of_mem _ (List.mem_append_left _ (List.mem_append_left _ (List.mem_append_right _ h)))) (by decide +kernel))) (goodIn_sub (fun _ h => List.mem_cons_of_mem _ (List.mem_append_left _ (List.mem_append_right _ h))) (by decide +kernel))) (goodIn_sub (fun _ h => List.mem_cons_of_mem _ (List.mem_append_right _ h)) (by decide +kernel))
set_option maxRecDepth 20000 in
theorem gL_areSearches_L_point : GoodIn wsL_areSearches (va_wsS RL 95 yL_point wsL_point) := goodIn_app (goodIn_of _ (by decide +kernel)) ggL_areSearches_L_point
set_option maxRecDepth 20000 in
theorem ggL_areSearches_X6_worst : GoodIn wsL_areSearches wsX6_worst := goodIn_r _ [154, 142, 143, 12, 144, 145, 155, 156, 157, 158, 30, 31, 32, 33, 34, 35, 36, 37, 38, 39, 40, 41, 42, 43, 44, 45, 46, 47, 48, 49, 50, 51, 52, 53, 54, 55, 56, 57, 58, 59, 60, 61, 62, 63, 64, 65, 66, 67, 68, 69, 70, 71, 72, 73, 74, 75, 76, 77, 78, 79, 80, 81, 82, 83, 84, 85, 86, 87, 88, 89, 90, 91, 181, 182, 183, 184, 185, 192, 193, 194, 195, 196, 197, 198, 199, 200, 186, 187, 188, 189, 190, 191] (by decide +kernel) (by decide +kernel)
set_option maxRecDepth 20000 in
theorem gL_areSearches_X6_worst : GoodIn wsL_areSearches (wsV RL 91 RX6 yX6_worst wsX6_worst) := goodIn_app (goodIn_of _ (by decide +kernel)) ggL_areSearches_X6_worst
set_option maxRecDepth 20000 in
theorem ggL_areSearches_L_level : GoodIn wsL_areSearches wsL_level := goodIn_ca (goodIn_ca (goodIn_ca (goodIn_r _ [161, 98, 5, 99, 6, 162, 163, 164, 10, 165, 12, 13, 166, 108, 109, 110, 111, 18, 19, 20, 21, 22, 23, 24, 25, 26, 27, 28, 29, 167, 168, 169, 53, 170, 87, 171, 156, 157, 158, 172, 116, 117, 118, 55, 119, 72, 39, 73, 68, 69, 70, 71, 59, 60, 61, 173, 174, 175, 176, 62, 63, 64, 65, 66, 67, 56, 57, 58, 74, 75, 76, 77, 78, 79, 80, 81, 82, 83, 84, 85, 86, 177, 178, 179, 180, 181, 182, 183, 184, 185, 186, 187, 188, 189, 190, 191] (by decide +kernel) (by decide +kernel)) (goodIn_sub (fun _ h => List.mem_cons_of_mem _ (List.mem_append_left _ (List.mem_append_left _ (List.mem_append_right _ h)))) (by decide +kernel))) (goodIn_sub (fun _ h => List.mem_cons_of_mem _ (List.mem_append_left _ (List.mem_append_right _ h))) (by decide +kernel))) (goodIn_sub (fun _ h => List.mem_cons_of_mem _ (List.mem_append_right _ h)) (by decide +kernel))
set_option maxRecDepth 20000 in
theorem gL_areSearches_L_level : GoodIn wsL_areSearches (va_wsS RL 102 yL_level wsL_level) := goodIn_app (goodIn_of _ (by decide +kernel)) ggL_areSearches_L_level
theorem dL_areSearches_0 : decode cL_areSearches 0 = .ok (.aload_n 0, 1) := by decide +kernel
theorem dL_areSearches_1 : decode cL_areSearches 1 = .ok (.iload_n 1, 1) := by decide +kernel
theorem dL_areSearches_2 : decode cL_areSearches 2 = .ok (.iload_n 2, 1) := by decide +kernel
theorem dL_areSearches_3 : decode cL_areSearches 3 = .ok (.iconst 1, 1) := by decide +kernel
theorem dL_areSearches_4 : decode cL_areSearches 4 = .ok (.iconst 1, 1) := by decide +kernel
theorem dL_areSearches_5 : decode cL_areSearches 5 = .ok (.invokestatic 129, 3) := by decide +kernel
theorem dL_areSearches_8 : decode cL_areSearches 8 = .ok (.aload_n 0, 1) := by decide +kernel
theorem dL_areSearches_9 : decode cL_areSearches 9 = .ok (.iload_n 1, 1) := by decide +kernel
theorem dL_areSearches_10 : decode cL_areSearches 10 = .ok (.iload_n 2, 1) := by decide +kernel
theorem dL_areSearches_11 : decode cL_areSearches 11 = .ok (.iconst 0, 1) := by decide +kernel
theorem dL_areSearches_12 : decode cL_areSearches 12 = .ok (.iconst 1, 1) := by decide +kernel
theorem dL_areSearches_13 : decode cL_areSearches 13 = .ok (.invokestatic 129, 3) := by decide +kernel
theorem dL_areSearches_16 : decode cL_areSearches 16 = .ok (.if_icmp .ne 26, 3) := by decide +kernel
theorem dL_areSearches_19 : decode cL_areSearches 19 = .ok (.aload_n 0, 1) := by decide +kernel
theorem dL_areSearches_20 : decode cL_areSearches 20 = .ok (.iload_n 1, 1) := by decide +kernel
theorem dL_areSearches_21 : decode cL_areSearches 21 = .ok (.iload_n 2, 1) := by decide +kernel
theorem dL_areSearches_22 : decode cL_areSearches 22 = .ok (.iconst 1, 1) := by decide +kernel
theorem dL_areSearches_23 : decode cL_areSearches 23 = .ok (.iconst 2, 1) := by decide +kernel
theorem dL_areSearches_24 : decode cL_areSearches 24 = .ok (.invokestatic 129, 3) := by decide +kernel
theorem dL_areSearches_27 : decode cL_areSearches 27 = .ok (.aload_n 0, 1) := by decide +kernel
theorem dL_areSearches_28 : decode cL_areSearches 28 = .ok (.iload_n 1, 1) := by decide +kernel
theorem dL_areSearches_29 : decode cL_areSearches 29 = .ok (.iload_n 2, 1) := by decide +kernel
theorem dL_areSearches_30 : decode cL_areSearches 30 = .ok (.iconst 0, 1) := by decide +kernel
theorem dL_areSearches_31 : decode cL_areSearches 31 = .ok (.iconst 2, 1) := by decide +kernel
theorem dL_areSearches_32 : decode cL_areSearches 32 = .ok (.invokestatic 129, 3) := by decide +kernel
theorem dL_areSearches_35 : decode cL_areSearches 35 = .ok (.if_icmp .ne 7, 3) := by decide +kernel
theorem dL_areSearches_38 : decode cL_areSearches 38 = .ok (.iconst 1, 1) := by decide +kernel
theorem dL_areSearches_39 : decode cL_areSearches 39 = .ok (.goto 4, 3) := by decide +kernel
theorem dL_areSearches_42 : decode cL_areSearches 42 = .ok (.iconst 0, 1) := by decide +kernel
theorem dL_areSearches_43 : decode cL_areSearches 43 = .ok (.istore_n 3, 1) := by decide +kernel
theorem dL_areSearches_44 : decode cL_areSearches 44 = .ok (.aload_n 0, 1) := by decide +kernel
theorem dL_areSearches_45 : decode cL_areSearches 45 = .ok (.iload_n 1, 1) := by decide +kernel
theorem dL_areSearches_46 : decode cL_areSearches 46 = .ok (.iload_n 2, 1) := by decide +kernel
theorem dL_areSearches_47 : decode cL_areSearches 47 = .ok (.iconst 0, 1) := by decide +kernel
theorem dL_areSearches_48 : decode cL_areSearches 48 = .ok (.iconst 1, 1) := by decide +kernel
theorem dL_areSearches_49 : decode cL_areSearches 49 = .ok (.invokestatic 129, 3) := by decide +kernel
theorem dL_areSearches_52 : decode cL_areSearches 52 = .ok (.istore 4, 2) := by decide +kernel
theorem dL_areSearches_54 : decode cL_areSearches 54 = .ok (.iload_n 3, 1) := by decide +kernel
theorem dL_areSearches_55 : decode cL_areSearches 55 = .ok (.ifCond .eq 92, 3) := by decide +kernel
theorem dL_areSearches_58 : decode cL_areSearches 58 = .ok (.iload_n 1, 1) := by decide +kernel
theorem dL_areSearches_59 : decode cL_areSearches 59 = .ok (.aload_n 0, 1) := by decide +kernel
theorem dL_areSearches_60 : decode cL_areSearches 60 = .ok (.iconst 0, 1) := by decide +kernel
theorem dL_areSearches_61 : decode cL_areSearches 61 = .ok (.iload 4, 2) := by decide +kernel
theorem dL_areSearches_63 : decode cL_areSearches 63 = .ok (.iconst 0, 1) := by decide +kernel
theorem dL_areSearches_64 : decode cL_areSearches 64 = .ok (.invokestatic 125, 3) := by decide +kernel
theorem dL_areSearches_67 : decode cL_areSearches 67 = .ok (.if_icmp .lt 80, 3) := by decide +kernel
theorem dL_areSearches_70 : decode cL_areSearches 70 = .ok (.iload_n 2, 1) := by decide +kernel
theorem dL_areSearches_71 : decode cL_areSearches 71 = .ok (.aload_n 0, 1) := by decide +kernel
theorem dL_areSearches_72 : decode cL_areSearches 72 = .ok (.iconst 0, 1) := by decide +kernel
theorem dL_areSearches_73 : decode cL_areSearches 73 = .ok (.iload 4, 2) := by decide +kernel
theorem dL_areSearches_75 : decode cL_areSearches 75 = .ok (.iconst 1, 1) := by decide +kernel
theorem dL_areSearches_76 : decode cL_areSearches 76 = .ok (.invokestatic 125, 3) := by decide +kernel
theorem dL_areSearches_79 : decode cL_areSearches 79 = .ok (.if_icmp .lt 68, 3) := by decide +kernel
theorem dL_areSearches_82 : decode cL_areSearches 82 = .ok (.iload_n 1, 1) := by decide +kernel
theorem dL_areSearches_83 : decode cL_areSearches 83 = .ok (.aload_n 0, 1) := by decide +kernel
theorem dL_areSearches_84 : decode cL_areSearches 84 = .ok (.iconst 0, 1) := by decide +kernel
theorem dL_areSearches_85 : decode cL_areSearches 85 = .ok (.iload 4, 2) := by decide +kernel
theorem dL_areSearches_87 : decode cL_areSearches 87 = .ok (.iconst 0, 1) := by decide +kernel
theorem dL_areSearches_88 : decode cL_areSearches 88 = .ok (.invokestatic 125, 3) := by decide +kernel
theorem dL_areSearches_91 : decode cL_areSearches 91 = .ok (.aload_n 0, 1) := by decide +kernel
theorem dL_areSearches_92 : decode cL_areSearches 92 = .ok (.iconst 0, 1) := by decide +kernel
theorem dL_areSearches_93 : decode cL_areSearches 93 = .ok (.iload 4, 2) := by decide +kernel
theorem dL_areSearches_95 : decode cL_areSearches 95 = .ok (.iconst 2, 1) := by decide +kernel
theorem dL_areSearches_96 : decode cL_areSearches 96 = .ok (.invokestatic 125, 3) := by decide +kernel
theorem dL_areSearches_99 : decode cL_areSearches 99 = .ok (.iadd, 1) := by decide +kernel
theorem dL_areSearches_100 : decode cL_areSearches 100 = .ok (.if_icmp .ge 47, 3) := by decide +kernel
theorem dL_areSearches_103 : decode cL_areSearches 103 = .ok (.iload_n 2, 1) := by decide +kernel
theorem dL_areSearches_104 : decode cL_areSearches 104 = .ok (.aload_n 0, 1) := by decide +kernel
theorem dL_areSearches_105 : decode cL_areSearches 105 = .ok (.iconst 0, 1) := by decide +kernel
theorem dL_areSearches_106 : decode cL_areSearches 106 = .ok (.iload 4, 2) := by decide +kernel
theorem dL_areSearches_108 : decode cL_areSearches 108 = .ok (.iconst 1, 1) := by decide +kernel
theorem dL_areSearches_109 : decode cL_areSearches 109 = .ok (.invokestatic 125, 3) := by decide +kernel
theorem dL_areSearches_112 : decode cL_areSearches 112 = .ok (.aload_n 0, 1) := by decide +kernel
theorem dL_areSearches_113 : decode cL_areSearches 113 = .ok (.iconst 0, 1) := by decide +kernel
theorem dL_areSearches_114 : decode cL_areSearches 114 = .ok (.iload 4, 2) := by decide +kernel
theorem dL_areSearches_116 : decode cL_areSearches 116 = .ok (.iconst 2, 1) := by decide +kernel
theorem dL_areSearches_117 : decode cL_areSearches 117 = .ok (.invokestatic 125, 3) := by decide +kernel
theorem dL_areSearches_120 : decode cL_areSearches 120 = .ok (.iadd, 1) := by decide +kernel
theorem dL_areSearches_121 : decode cL_areSearches 121 = .ok (.if_icmp .ge 26, 3) := by decide +kernel
theorem dL_areSearches_124 : decode cL_areSearches 124 = .ok (.aload_n 0, 1) := by decide +kernel
theorem dL_areSearches_125 : decode cL_areSearches 125 = .ok (.iload_n 1, 1) := by decide +kernel
theorem dL_areSearches_126 : decode cL_areSearches 126 = .ok (.iload_n 2, 1) := by decide +kernel
theorem dL_areSearches_127 : decode cL_areSearches 127 = .ok (.iconst 0, 1) := by decide +kernel
theorem dL_areSearches_128 : decode cL_areSearches 128 = .ok (.iconst 0, 1) := by decide +kernel
theorem dL_areSearches_129 : decode cL_areSearches 129 = .ok (.invokestatic 129, 3) := by decide +kernel
theorem dL_areSearches_132 : decode cL_areSearches 132 = .ok (.aload_n 0, 1) := by decide +kernel
theorem dL_areSearches_133 : decode cL_areSearches 133 = .ok (.iconst 0, 1) := by decide +kernel
theorem dL_areSearches_134 : decode cL_areSearches 134 = .ok (.iload 4, 2) := by decide +kernel
theorem dL_areSearches_136 : decode cL_areSearches 136 = .ok (.iconst 3, 1) := by decide +kernel
theorem dL_areSearches_137 : decode cL_areSearches 137 = .ok (.invokestatic 125, 3) := by decide +kernel
theorem dL_areSearches_140 : decode cL_areSearches 140 = .ok (.if_icmp .ne 7, 3) := by decide +kernel
theorem dL_areSearches_143 : decode cL_areSearches 143 = .ok (.iconst 1, 1) := by decide +kernel
theorem dL_areSearches_144 : decode cL_areSearches 144 = .ok (.goto 4, 3) := by decide +kernel
theorem dL_areSearches_147 : decode cL_areSearches 147 = .ok (.iconst 0, 1) := by decide +kernel
theorem dL_areSearches_148 : decode cL_areSearches 148 = .ok (.istore_n 3, 1) := by decide +kernel
theorem dL_areSearches_149 : decode cL_areSearches 149 = .ok (.iconst 0, 1) := by decide +kernel
theorem dL_areSearches_150 : decode cL_areSearches 150 = .ok (.istore 5, 2) := by decide +kernel
theorem dL_areSearches_152 : decode cL_areSearches 152 = .ok (.iload 5, 2) := by decide +kernel
theorem dL_areSearches_154 : decode cL_areSearches 154 = .ok (.bipush 24, 2) := by decide +kernel
theorem dL_areSearches_156 : decode cL_areSearches 156 = .ok (.if_icmp .ge 85, 3) := by decide +kernel
theorem dL_areSearches_159 : decode cL_areSearches 159 = .ok (.iload_n 3, 1) := by decide +kernel
theorem dL_areSearches_160 : decode cL_areSearches 160 = .ok (.ifCond .eq 81, 3) := by decide +kernel
theorem dL_areSearches_163 : decode cL_areSearches 163 = .ok (.aload_n 0, 1) := by decide +kernel
theorem dL_areSearches_164 : decode cL_areSearches 164 = .ok (.iload 5, 2) := by decide +kernel
theorem dL_areSearches_166 : decode cL_areSearches 166 = .ok (.iconst 0, 1) := by decide +kernel
theorem dL_areSearches_167 : decode cL_areSearches 167 = .ok (.invokestatic 95, 3) := by decide +kernel
theorem dL_areSearches_170 : decode cL_areSearches 170 = .ok (.ifCond .eq 59, 3) := by decide +kernel
theorem dL_areSearches_173 : decode cL_areSearches 173 = .ok (.aload_n 0, 1) := by decide +kernel
theorem dL_areSearches_174 : decode cL_areSearches 174 = .ok (.aload_n 0, 1) := by decide +kernel
theorem dL_areSearches_175 : decode cL_areSearches 175 = .ok (.iload 5, 2) := by decide +kernel
theorem dL_areSearches_177 : decode cL_areSearches 177 = .ok (.iconst 1, 1) := by decide +kernel
theorem dL_areSearches_178 : decode cL_areSearches 178 = .ok (.invokestatic 95, 3) := by decide +kernel
theorem dL_areSearches_181 : decode cL_areSearches 181 = .ok (.aload_n 0, 1) := by decide +kernel
theorem dL_areSearches_182 : decode cL_areSearches 182 = .ok (.iload 5, 2) := by decide +kernel
theorem dL_areSearches_184 : decode cL_areSearches 184 = .ok (.iconst 2, 1) := by decide +kernel
theorem dL_areSearches_185 : decode cL_areSearches 185 = .ok (.invokestatic 95, 3) := by decide +kernel
theorem dL_areSearches_188 : decode cL_areSearches 188 = .ok (.iconst 1, 1) := by decide +kernel
theorem dL_areSearches_189 : decode cL_areSearches 189 = .ok (.iconst 0, 1) := by decide +kernel
theorem dL_areSearches_190 : decode cL_areSearches 190 = .ok (.invokestatic 129, 3) := by decide +kernel
theorem dL_areSearches_193 : decode cL_areSearches 193 = .ok (.aload_n 0, 1) := by decide +kernel
theorem dL_areSearches_194 : decode cL_areSearches 194 = .ok (.iconst 1, 1) := by decide +kernel
theorem dL_areSearches_195 : decode cL_areSearches 195 = .ok (.invokevirtual 91, 3) := by decide +kernel
theorem dL_areSearches_198 : decode cL_areSearches 198 = .ok (.if_icmp .gt 35, 3) := by decide +kernel
theorem dL_areSearches_201 : decode cL_areSearches 201 = .ok (.aload_n 0, 1) := by decide +kernel
theorem dL_areSearches_202 : decode cL_areSearches 202 = .ok (.aload_n 0, 1) := by decide +kernel
theorem dL_areSearches_203 : decode cL_areSearches 203 = .ok (.iload 5, 2) := by decide +kernel
theorem dL_areSearches_205 : decode cL_areSearches 205 = .ok (.iconst 1, 1) := by decide +kernel
theorem dL_areSearches_206 : decode cL_areSearches 206 = .ok (.invokestatic 95, 3) := by decide +kernel
theorem dL_areSearches_209 : decode cL_areSearches 209 = .ok (.aload_n 0, 1) := by decide +kernel
theorem dL_areSearches_210 : decode cL_areSearches 210 = .ok (.iload 5, 2) := by decide +kernel
theorem dL_areSearches_212 : decode cL_areSearches 212 = .ok (.iconst 2, 1) := by decide +kernel
theorem dL_areSearches_213 : decode cL_areSearches 213 = .ok (.invokestatic 95, 3) := by decide +kernel
theorem dL_areSearches_216 : decode cL_areSearches 216 = .ok (.iconst 0, 1) := by decide +kernel
theorem dL_areSearches_217 : decode cL_areSearches 217 = .ok (.iconst 0, 1) := by decide +kernel
theorem dL_areSearches_218 : decode cL_areSearches 218 = .ok (.invokestatic 129, 3) := by decide +kernel
theorem dL_areSearches_221 : decode cL_areSearches 221 = .ok (.aload_n 0, 1) := by decide +kernel
theorem dL_areSearches_222 : decode cL_areSearches 222 = .ok (.iconst 0, 1) := by decide +kernel
theorem dL_areSearches_223 : decode cL_areSearches 223 = .ok (.invokevirtual 91, 3) := by decide +kernel
theorem dL_areSearches_226 : decode cL_areSearches 226 = .ok (.if_icmp .gt 7, 3) := by decide +kernel
theorem dL_areSearches_229 : decode cL_areSearches 229 = .ok (.iconst 1, 1) := by decide +kernel
theorem dL_areSearches_230 : decode cL_areSearches 230 = .ok (.goto 4, 3) := by decide +kernel
theorem dL_areSearches_233 : decode cL_areSearches 233 = .ok (.iconst 0, 1) := by decide +kernel
theorem dL_areSearches_234 : decode cL_areSearches 234 = .ok (.istore_n 3, 1) := by decide +kernel
theorem dL_areSearches_235 : decode cL_areSearches 235 = .ok (.iinc 5 1, 3) := by decide +kernel
theorem dL_areSearches_238 : decode cL_areSearches 238 = .ok (.goto (-86), 3) := by decide +kernel
theorem dL_areSearches_241 : decode cL_areSearches 241 = .ok (.iload_n 3, 1) := by decide +kernel
theorem dL_areSearches_242 : decode cL_areSearches 242 = .ok (.ifCond .eq 21, 3) := by decide +kernel
theorem dL_areSearches_245 : decode cL_areSearches 245 = .ok (.aload_n 0, 1) := by decide +kernel
theorem dL_areSearches_246 : decode cL_areSearches 246 = .ok (.iconst 0, 1) := by decide +kernel
theorem dL_areSearches_247 : decode cL_areSearches 247 = .ok (.invokevirtual 91, 3) := by decide +kernel
theorem dL_areSearches_250 : decode cL_areSearches 250 = .ok (.aload_n 0, 1) := by decide +kernel
theorem dL_areSearches_251 : decode cL_areSearches 251 = .ok (.iconst 0, 1) := by decide +kernel
theorem dL_areSearches_252 : decode cL_areSearches 252 = .ok (.iconst 2, 1) := by decide +kernel
theorem dL_areSearches_253 : decode cL_areSearches 253 = .ok (.invokestatic 102, 3) := by decide +kernel
theorem dL_areSearches_256 : decode cL_areSearches 256 = .ok (.if_icmp .gt 7, 3) := by decide +kernel
theorem dL_areSearches_259 : decode cL_areSearches 259 = .ok (.iconst 1, 1) := by decide +kernel
theorem dL_areSearches_260 : decode cL_areSearches 260 = .ok (.goto 4, 3) := by decide +kernel
theorem dL_areSearches_263 : decode cL_areSearches 263 = .ok (.iconst 0, 1) := by decide +kernel
theorem dL_areSearches_264 : decode cL_areSearches 264 = .ok (.ireturn, 1) := by decide +kernel
set_option maxRecDepth 20000 in
theorem ggL_isMoved_L_print : GoodIn wsL_isMoved wsL_print := goodIn_ca (goodIn_ca (goodIn_ca (goodIn_r _ [5, 6, 7, 8, 9, 10, 11, 12, 13, 14, 15, 16, 17, 18, 19, 20, 21, 22, 23, 24, 25, 26, 27, 28, 29, 30, 31, 32, 33, 34, 35, 36, 37, 38, 39, 40, 41, 42, 43, 44, 45, 46, 47, 48, 49, 50, 51, 52, 53, 54, 55, 56, 57, 58, 59, 60, 61, 62, 63, 64, 65, 66, 67, 68, 69, 70, 71, 72, 73, 74, 75, 76, 77, 78, 79, 80, 81, 82, 83, 84, 85, 86, 87, 88, 89, 4, 90, 91, 92, 93, 94, 95, 96, 97, 98, 99, 100, 101, 102, 103, 104, 105, 106, 107, 108, 109, 110, 111, 112, 113, 114, 115, 116, 117, 118, 119, 120, 121, 122, 123, 124, 125, 126, 127, 128, 129, 130, 131, 132, 133, 134, 135, 136, 137, 138, 139, 140, 141, 142, 143, 144, 145, 146, 147, 148, 149, 150, 151, 152, 153, 154, 155, 156, 157, 158, 159, 160, 161, 162, 163, 164, 165, 166, 167, 168, 169, 170, 171, 172, 173, 174, 175, 176, 177, 178, 179, 180, 181, 182, 183, 184, 185, 186, 187, 188, 189, 190, 191, 192, 193, 194, 195, 196, 197, 319, 320, 321, 322, 323, 324, 325, 326, 327, 328, 329, 330, 331, 332, 333, 334, 335, 336, 337, 338] (by decide +kernel) (by decide +kernel)) (goodIn_sub (fun _ h => List.mem_cons_of_mem _ (List.mem_append_left _ (List.mem_append_left _ (List.mem_append_right _ h)))) (by decide +kernel))) (goodIn_sub (fun _ h => List.mem_cons_of_mem _ (List.mem_append_left _ (List.mem_append_right _ h))) (by decide +kernel))) (goodIn_sub (fun _ h => List.mem_cons_of_mem _ (List.mem_append_right _ h)) (by decide +kernel))
set_option maxRecDepth 20000 in
theorem gL_isMoved_L_print : GoodIn wsL_isMoved (va_wsS RL 107 yL_print wsL_print) := goodIn_app (goodIn_of _ (by decide +kernel)) ggL_isMoved_L_print
set_option maxRecDepth 20000 in
theorem ggL_isMoved_L_wouldTouch : GoodIn wsL_isMoved wsL_wouldTouch := goodIn_ca (goodIn_ca (goodIn_ca (goodIn_r _ [200, 91, 92, 201, 93, 94, 1, 202, 203, 204, 10, 205, 12, 20, 21, 206, 19, 207, 208, 209, 210, 18, 211, 212, 213, 104, 105, 106, 214, 215, 216, 107, 108, 109, 110, 111, 112, 113, 114, 115, 217, 218, 219, 133, 220, 135, 140, 141, 221, 222, 223, 29, 224, 31, 225, 226, 227, 228, 229, 230, 231, 232, 33, 34, 35, 36, 37, 38, 39, 40, 233, 234, 235, 236, 237, 238, 239, 49, 240, 62, 83, 117, 118, 241, 242, 243, 244, 63, 245, 246, 247, 248, 249, 250, 251, 252, 253, 254, 255, 256, 257, 258, 259, 260, 261, 262, 263, 51, 264, 265, 266, 267, 268, 269, 270, 271, 319, 320, 321, 322, 323, 324, 325, 326, 327, 328, 329, 330, 331, 332, 333, 334, 335, 336, 337, 338] (by decide +kernel) (by decide +kernel)) (goodIn_sub (fun _ h => List.mem_cons_of_mem _ (List.mem_append_left _ (List.mem_append_left _ (List.mem_append_right _ h)))) (by decide +kernel))) (goodIn_sub (fun _ h => List.mem_cons_of_mem _ (List.mem_append_left _ (List.mem_append_right _ h))) (by decide +kernel))) (goodIn_sub (fun _ h => List.mem_cons_of_mem _ (List.mem_append_right _ h)) (by decide +kernel))
set_option maxRecDepth 20000 in
theorem gL_isMoved_L_wouldTouch : GoodIn wsL_isMoved (va_wsS RL 132 yL_wouldTouch wsL_wouldTouch) := goodIn_app (goodIn_of _ (by decide +kernel)) ggL_isMoved_L_wouldTouch
set_option maxRecDepth 20000 in
theorem ggL_isMoved_L_point : GoodIn wsL_isMoved wsL_point := goodIn_ca (goodIn_ca (goodIn_ca (goodIn_r _ [90, 91, 92, 93, 94, 95, 96, 97, 10, 98, 12, 18, 20, 21, 99, 100, 101, 102, 103, 104, 105, 106, 107, 108, 109, 110, 111, 112, 113, 114, 115, 116, 117, 118, 319, 320, 321, 322, 323, 324, 325, 326, 327, 328, 329, 330, 331, 332] (by decide +kernel) (by decide +kernel)) (goodIn_sub (fun _ h => List.mem_cons_of_mem _ (List.mem_append_left _ (List.mem_append_left _ (List.mem_append_right _ h)))) (by decide +kernel))) (goodIn_sub (fun _ h => List.mem_cons_of_mem _ (List.mem_append_left _ (List.mem_append_right _ h))) (by decide +kernel))) (goodIn_sub (fun _ h => List.mem_cons_of_mem _ (List.mem_append_right _ h)) (by decide +kernel))
set_option maxRecDepth 20000 in
theorem gL_isMoved_L_point : GoodIn wsL_isMoved (va_wsS RL 95 yL_point wsL_point) := goodIn_app (goodIn_of _ (by decide +kernel)) ggL_isMoved_L_point
set_option maxRecDepth 20000 in
theorem ggL_isMoved_L_move : GoodIn wsL_isMoved wsL_move := goodIn_ca (goodIn_ca (goodIn_ca (goodIn_r _ [274, 91, 92, 201, 93, 94, 1, 275, 276, 277, 10, 278, 279, 12, 207, 208, 209, 210, 18, 211, 212, 213, 104, 105, 106, 214, 215, 216, 107, 108, 109, 110, 111, 112, 113, 114, 115, 280, 281, 282, 283, 284, 285, 286, 287, 288, 152, 24, 153, 289, 290, 291, 133, 292, 135, 140, 141, 293, 294, 295, 296, 297, 298, 299, 300, 301, 302, 217, 218, 219, 220, 303, 304, 305, 306, 206, 19, 221, 222, 223, 29, 224, 31, 225, 226, 227, 228, 229, 230, 231, 232, 33, 34, 35, 36, 37, 38, 39, 40, 233, 234, 235, 236, 237, 238, 239, 49, 240, 62, 83, 117, 118, 241, 242, 243, 244, 63, 245, 246, 247, 248, 249, 250, 251, 252, 253, 254, 255, 256, 257, 258, 259, 260, 261, 262, 263, 51, 264, 265, 266, 267, 268, 269, 270, 271, 319, 320, 321, 322, 323, 324, 325, 326, 327, 328, 329, 330, 331, 332, 339, 340, 341, 333, 334, 335, 336, 337, 338] (by decide +kernel) (by decide +kernel)) (goodIn_sub (fun _ h => List.mem_cons_of_mem _ (List.mem_append_left _ (List.mem_append_left _ (List.mem_append_right _ h)))) (by decide +kernel))) (goodIn_sub (fun _ h => List.mem_cons_of_mem _ (List.mem_append_left _ (List.mem_append_right _ h))) (by decide +kernel))) (goodIn_sub (fun _ h => List.mem_cons_of_mem _ (List.mem_append_right _ h)) (by decide +kernel))
set_option maxRecDepth 20000 in
theorem gL_isMoved_L_move : GoodIn wsL_isMoved (va_wsS RL 114 yL_move wsL_move) := goodIn_app (goodIn_of _ (by decide +kernel)) ggL_isMoved_L_move
set_option maxRecDepth 20000 in
theorem ggL_isMoved_L_undo : GoodIn wsL_isMoved wsL_undo := goodIn_ca (goodIn_ca (goodIn_ca (goodIn_r _ [309, 201, 1, 310, 311, 312, 10, 313, 279, 314, 12, 19, 107, 108, 109, 110, 111, 112, 113, 114, 115, 315, 316, 317, 283, 318, 286, 287, 285, 289, 290, 291, 133, 292, 135, 140, 141, 293, 294, 295, 296, 297, 298, 221, 222, 223, 29, 224, 31, 225, 226, 227, 228, 229, 230, 231, 232, 33, 34, 35, 36, 37, 38, 39, 40, 233, 234, 235, 236, 237, 238, 239, 49, 240, 62, 83, 117, 118, 241, 242, 243, 244, 63, 245, 246, 247, 248, 249, 250, 251, 252, 253, 254, 255, 256, 257, 258, 259, 260, 261, 262, 263, 51, 319, 320, 321, 322, 323, 339, 340, 341, 324, 325, 326, 327, 328, 329, 330, 331, 332, 333, 334, 335, 336, 337, 338] (by decide +kernel) (by decide +kernel)) (goodIn_sub (fun _ h => List.mem_cons_of_mem _ (List.mem_append_left _ (List.mem_append_left _ (List.mem_append_right _ h)))) (by decide +kernel))) (goodIn_sub (fun _ h => List.mem_cons_of_mem _ (List.mem_append_left _ (List.mem_append_right _ h))) (by decide +kernel))) (goodIn_sub (fun _ h => List.mem_cons_of_mem _ (List.mem_append_right _ h)) (by decide +kernel))
set_option maxRecDepth 20000 in
theorem gL_isMoved_L_undo : GoodIn wsL_isMoved (va_wsS RL 147 yL_undo wsL_undo) := goodIn_app (goodIn_of _ (by decide +kernel)) ggL_isMoved_L_undo
theorem dL_isMoved_0 : decode cL_isMoved 0 = .ok (.aload_n 0, 1) := by decide +kernel
theorem dL_isMoved_1 : decode cL_isMoved 1 = .ok (.invokestatic 107, 3) := by decide +kernel
theorem dL_isMoved_4 : decode cL_isMoved 4 = .ok (.lstore 4, 2) := by decide +kernel
theorem dL_isMoved_6 : decode cL_isMoved 6 = .ok (.aload_n 0, 1) := by decide +kernel
theorem dL_isMoved_7 : decode cL_isMoved 7 = .ok (.iload_n 1, 1) := by decide +kernel
theorem dL_isMoved_8 : decode cL_isMoved 8 = .ok (.iload_n 2, 1) := by decide +kernel
theorem dL_isMoved_9 : decode cL_isMoved 9 = .ok (.iload_n 3, 1) := by decide +kernel
theorem dL_isMoved_10 : decode cL_isMoved 10 = .ok (.invokestatic 132, 3) := by decide +kernel
theorem dL_isMoved_13 : decode cL_isMoved 13 = .ok (.istore 6, 2) := by decide +kernel
theorem dL_isMoved_15 : decode cL_isMoved 15 = .ok (.aload_n 0, 1) := by decide +kernel
theorem dL_isMoved_16 : decode cL_isMoved 16 = .ok (.iload_n 1, 1) := by decide +kernel
theorem dL_isMoved_17 : decode cL_isMoved 17 = .ok (.iconst 0, 1) := by decide +kernel
theorem dL_isMoved_18 : decode cL_isMoved 18 = .ok (.invokestatic 95, 3) := by decide +kernel
theorem dL_isMoved_21 : decode cL_isMoved 21 = .ok (.ifCond .ne 26, 3) := by decide +kernel
theorem dL_isMoved_24 : decode cL_isMoved 24 = .ok (.iload 6, 2) := by decide +kernel
theorem dL_isMoved_26 : decode cL_isMoved 26 = .ok (.ldc 23, 2) := by decide +kernel
theorem dL_isMoved_28 : decode cL_isMoved 28 = .ok (.if_icmp .ne 17, 3) := by decide +kernel
theorem dL_isMoved_31 : decode cL_isMoved 31 = .ok (.aload_n 0, 1) := by decide +kernel
theorem dL_isMoved_32 : decode cL_isMoved 32 = .ok (.invokestatic 107, 3) := by decide +kernel
theorem dL_isMoved_35 : decode cL_isMoved 35 = .ok (.lload 4, 2) := by decide +kernel
theorem dL_isMoved_37 : decode cL_isMoved 37 = .ok (.lcmp, 1) := by decide +kernel
theorem dL_isMoved_38 : decode cL_isMoved 38 = .ok (.ifCond .ne 7, 3) := by decide +kernel
theorem dL_isMoved_41 : decode cL_isMoved 41 = .ok (.iconst 1, 1) := by decide +kernel
theorem dL_isMoved_42 : decode cL_isMoved 42 = .ok (.goto 4, 3) := by decide +kernel
theorem dL_isMoved_45 : decode cL_isMoved 45 = .ok (.iconst 0, 1) := by decide +kernel
theorem dL_isMoved_46 : decode cL_isMoved 46 = .ok (.ireturn, 1) := by decide +kernel
theorem dL_isMoved_47 : decode cL_isMoved 47 = .ok (.aload_n 0, 1) := by decide +kernel
theorem dL_isMoved_48 : decode cL_isMoved 48 = .ok (.iload_n 1, 1) := by decide +kernel
theorem dL_isMoved_49 : decode cL_isMoved 49 = .ok (.iconst 1, 1) := by decide +kernel
theorem dL_isMoved_50 : decode cL_isMoved 50 = .ok (.invokestatic 95, 3) := by decide +kernel
theorem dL_isMoved_53 : decode cL_isMoved 53 = .ok (.istore 7, 2) := by decide +kernel
theorem dL_isMoved_55 : decode cL_isMoved 55 = .ok (.aload_n 0, 1) := by decide +kernel
theorem dL_isMoved_56 : decode cL_isMoved 56 = .ok (.iload_n 1, 1) := by decide +kernel
theorem dL_isMoved_57 : decode cL_isMoved 57 = .ok (.iconst 2, 1) := by decide +kernel
theorem dL_isMoved_58 : decode cL_isMoved 58 = .ok (.invokestatic 95, 3) := by decide +kernel
theorem dL_isMoved_61 : decode cL_isMoved 61 = .ok (.istore 8, 2) := by decide +kernel
theorem dL_isMoved_63 : decode cL_isMoved 63 = .ok (.aload_n 0, 1) := by decide +kernel
theorem dL_isMoved_64 : decode cL_isMoved 64 = .ok (.invokestatic 107, 3) := by decide +kernel
theorem dL_isMoved_67 : decode cL_isMoved 67 = .ok (.lload 4, 2) := by decide +kernel
theorem dL_isMoved_69 : decode cL_isMoved 69 = .ok (.lcmp, 1) := by decide +kernel
theorem dL_isMoved_70 : decode cL_isMoved 70 = .ok (.ifCond .ne 86, 3) := by decide +kernel
theorem dL_isMoved_73 : decode cL_isMoved 73 = .ok (.iload 6, 2) := by decide +kernel
theorem dL_isMoved_75 : decode cL_isMoved 75 = .ok (.ifCond .lt 81, 3) := by decide +kernel
theorem dL_isMoved_78 : decode cL_isMoved 78 = .ok (.aload_n 0, 1) := by decide +kernel
theorem dL_isMoved_79 : decode cL_isMoved 79 = .ok (.iload_n 1, 1) := by decide +kernel
theorem dL_isMoved_80 : decode cL_isMoved 80 = .ok (.iload_n 2, 1) := by decide +kernel
theorem dL_isMoved_81 : decode cL_isMoved 81 = .ok (.iload_n 3, 1) := by decide +kernel
theorem dL_isMoved_82 : decode cL_isMoved 82 = .ok (.invokestatic 114, 3) := by decide +kernel
theorem dL_isMoved_85 : decode cL_isMoved 85 = .ok (.iload 6, 2) := by decide +kernel
theorem dL_isMoved_87 : decode cL_isMoved 87 = .ok (.if_icmp .ne 69, 3) := by decide +kernel
theorem dL_isMoved_90 : decode cL_isMoved 90 = .ok (.aload_n 0, 1) := by decide +kernel
theorem dL_isMoved_91 : decode cL_isMoved 91 = .ok (.iload_n 1, 1) := by decide +kernel
theorem dL_isMoved_92 : decode cL_isMoved 92 = .ok (.iload 7, 2) := by decide +kernel
theorem dL_isMoved_94 : decode cL_isMoved 94 = .ok (.iload 8, 2) := by decide +kernel
theorem dL_isMoved_96 : decode cL_isMoved 96 = .ok (.invokestatic 132, 3) := by decide +kernel
theorem dL_isMoved_99 : decode cL_isMoved 99 = .ok (.iload 6, 2) := by decide +kernel
theorem dL_isMoved_101 : decode cL_isMoved 101 = .ok (.if_icmp .ne 55, 3) := by decide +kernel
theorem dL_isMoved_104 : decode cL_isMoved 104 = .ok (.aload_n 0, 1) := by decide +kernel
theorem dL_isMoved_105 : decode cL_isMoved 105 = .ok (.iload_n 1, 1) := by decide +kernel
theorem dL_isMoved_106 : decode cL_isMoved 106 = .ok (.iload 7, 2) := by decide +kernel
theorem dL_isMoved_108 : decode cL_isMoved 108 = .ok (.iload 8, 2) := by decide +kernel
theorem dL_isMoved_110 : decode cL_isMoved 110 = .ok (.invokestatic 114, 3) := by decide +kernel
theorem dL_isMoved_113 : decode cL_isMoved 113 = .ok (.iload 6, 2) := by decide +kernel
theorem dL_isMoved_115 : decode cL_isMoved 115 = .ok (.if_icmp .ne 41, 3) := by decide +kernel
theorem dL_isMoved_118 : decode cL_isMoved 118 = .ok (.aload_n 0, 1) := by decide +kernel
theorem dL_isMoved_119 : decode cL_isMoved 119 = .ok (.invokestatic 107, 3) := by decide +kernel
theorem dL_isMoved_122 : decode cL_isMoved 122 = .ok (.lload 4, 2) := by decide +kernel
theorem dL_isMoved_124 : decode cL_isMoved 124 = .ok (.lcmp, 1) := by decide +kernel
theorem dL_isMoved_125 : decode cL_isMoved 125 = .ok (.ifCond .ne 31, 3) := by decide +kernel
theorem dL_isMoved_128 : decode cL_isMoved 128 = .ok (.aload_n 0, 1) := by decide +kernel
theorem dL_isMoved_129 : decode cL_isMoved 129 = .ok (.invokestatic 147, 3) := by decide +kernel
theorem dL_isMoved_132 : decode cL_isMoved 132 = .ok (.ifCond .lt 24, 3) := by decide +kernel
theorem dL_isMoved_135 : decode cL_isMoved 135 = .ok (.aload_n 0, 1) := by decide +kernel
theorem dL_isMoved_136 : decode cL_isMoved 136 = .ok (.invokestatic 147, 3) := by decide +kernel
theorem dL_isMoved_139 : decode cL_isMoved 139 = .ok (.ifCond .lt 17, 3) := by decide +kernel
theorem dL_isMoved_142 : decode cL_isMoved 142 = .ok (.aload_n 0, 1) := by decide +kernel
theorem dL_isMoved_143 : decode cL_isMoved 143 = .ok (.invokestatic 107, 3) := by decide +kernel
theorem dL_isMoved_146 : decode cL_isMoved 146 = .ok (.lload 4, 2) := by decide +kernel
theorem dL_isMoved_148 : decode cL_isMoved 148 = .ok (.lcmp, 1) := by decide +kernel
theorem dL_isMoved_149 : decode cL_isMoved 149 = .ok (.ifCond .ne 7, 3) := by decide +kernel
theorem dL_isMoved_152 : decode cL_isMoved 152 = .ok (.iconst 1, 1) := by decide +kernel
theorem dL_isMoved_153 : decode cL_isMoved 153 = .ok (.goto 4, 3) := by decide +kernel
theorem dL_isMoved_156 : decode cL_isMoved 156 = .ok (.iconst 0, 1) := by decide +kernel
theorem dL_isMoved_157 : decode cL_isMoved 157 = .ok (.istore 9, 2) := by decide +kernel
theorem dL_isMoved_159 : decode cL_isMoved 159 = .ok (.iload 9, 2) := by decide +kernel
theorem dL_isMoved_161 : decode cL_isMoved 161 = .ok (.ifCond .eq 24, 3) := by decide +kernel
theorem dL_isMoved_164 : decode cL_isMoved 164 = .ok (.iload 7, 2) := by decide +kernel
theorem dL_isMoved_166 : decode cL_isMoved 166 = .ok (.iload_n 2, 1) := by decide +kernel
theorem dL_isMoved_167 : decode cL_isMoved 167 = .ok (.if_icmp .ne 14, 3) := by decide +kernel
theorem dL_isMoved_170 : decode cL_isMoved 170 = .ok (.iload 8, 2) := by decide +kernel
theorem dL_isMoved_172 : decode cL_isMoved 172 = .ok (.iload_n 3, 1) := by decide +kernel
theorem dL_isMoved_173 : decode cL_isMoved 173 = .ok (.if_icmp .ne 8, 3) := by decide +kernel
theorem dL_isMoved_176 : decode cL_isMoved 176 = .ok (.iload 6, 2) := by decide +kernel
theorem dL_isMoved_178 : decode cL_isMoved 178 = .ok (.ifCond .ne 7, 3) := by decide +kernel
theorem dL_isMoved_181 : decode cL_isMoved 181 = .ok (.iconst 1, 1) := by decide +kernel
theorem dL_isMoved_182 : decode cL_isMoved 182 = .ok (.goto 4, 3) := by decide +kernel
theorem dL_isMoved_185 : decode cL_isMoved 185 = .ok (.iconst 0, 1) := by decide +kernel
theorem dL_isMoved_186 : decode cL_isMoved 186 = .ok (.ireturn, 1) := by decide +kernel
set_option maxRecDepth 20000 in
theorem ggL_isGone_L_open : GoodIn wsL_isGone wsL_open := goodIn_ca (goodIn_ca (goodIn_ca (goodIn_r _ [4, 5, 6, 7, 8, 9, 10, 11, 12, 13, 14, 15, 16, 17, 18, 19, 20, 21, 22, 23, 24, 25, 26, 27, 28, 29, 30, 31, 32, 33, 34, 35, 36, 37, 38, 39, 40, 41, 42, 43, 44, 45, 46, 47, 48, 49, 50, 51, 52, 53, 54, 55, 56, 57, 58, 59, 60, 61, 62, 63, 64, 65, 66, 220, 221, 222, 223, 224, 225, 226, 227, 228, 229, 230, 231, 232, 233, 234, 235, 236] (by decide +kernel) (by decide +kernel)) (goodIn_sub (fun _ h => List.mem_cons_of_mem _ (List.mem_append_left _ (List.mem_append_left _ (List.mem_append_right _ h)))) (by decide +kernel))) (goodIn_sub (fun _ h => List.mem_cons_of_mem _ (List.mem_append_left _ (List.mem_append_right _ h))) (by decide +kernel))) (goodIn_sub (fun _ h => List.mem_cons_of_mem _ (List.mem_append_right _ h)) (by decide +kernel))
set_option maxRecDepth 20000 in
theorem gL_isGone_L_open : GoodIn wsL_isGone (va_wsS RL 134 yL_open wsL_open) := goodIn_app (goodIn_of _ (by decide +kernel)) ggL_isGone_L_open
set_option maxRecDepth 20000 in
theorem ggL_isGone_L_within : GoodIn wsL_isGone wsL_within := goodIn_ca (goodIn_ca (goodIn_ca (goodIn_r _ [69, 6, 8, 70, 71, 72, 12, 73, 15, 74, 75, 76, 25, 26, 27, 22, 23, 24, 28, 29, 30, 31, 32, 33, 34, 35, 36, 220, 221, 222, 223, 224, 225, 226, 227, 228, 229, 230, 231, 232, 233] (by decide +kernel) (by decide +kernel)) (goodIn_sub (fun _ h => List.mem_cons_of_mem _ (List.mem_append_left _ (List.mem_append_left _ (List.mem_append_right _ h)))) (by decide +kernel))) (goodIn_sub (fun _ h => List.mem_cons_of_mem _ (List.mem_append_left _ (List.mem_append_right _ h))) (by decide +kernel))) (goodIn_sub (fun _ h => List.mem_cons_of_mem _ (List.mem_append_right _ h)) (by decide +kernel))
set_option maxRecDepth 20000 in
theorem gL_isGone_L_within : GoodIn wsL_isGone (va_wsS RL 140 yL_within wsL_within) := goodIn_app (goodIn_of _ (by decide +kernel)) ggL_isGone_L_within
set_option maxRecDepth 20000 in
theorem ggL_isGone_L_cursor : GoodIn wsL_isGone wsL_cursor := goodIn_ca (goodIn_ca (goodIn_ca (goodIn_r _ [79, 5, 6, 7, 8, 80, 81, 82, 12, 83, 15, 16, 17, 18, 84, 85, 86, 87, 88, 22, 23, 24, 28, 29, 30, 31, 32, 33, 34, 35, 36, 89, 90, 91, 52, 92, 54, 93, 94, 95, 96, 55, 56, 97, 98, 99, 100, 101, 102, 103, 104, 105, 106, 107, 108, 109, 110, 46, 47, 48, 111, 112, 113, 114, 115, 116, 117, 118, 119, 120, 121, 122, 123, 124, 125, 126, 127, 128, 129, 130, 131, 220, 221, 222, 223, 224, 225, 226, 227, 228, 229, 230, 231, 232, 233, 237, 238, 239, 240, 241, 242] (by decide +kernel) (by decide +kernel)) (goodIn_sub (fun _ h => List.mem_cons_of_mem _ (List.mem_append_left _ (List.mem_append_left _ (List.mem_append_right _ h)))) (by decide +kernel))) (goodIn_sub (fun _ h => List.mem_cons_of_mem _ (List.mem_append_left _ (List.mem_append_right _ h))) (by decide +kernel))) (goodIn_sub (fun _ h => List.mem_cons_of_mem _ (List.mem_append_right _ h)) (by decide +kernel))
set_option maxRecDepth 20000 in
theorem gL_isGone_L_cursor : GoodIn wsL_isGone (va_wsS RL 100 yL_cursor wsL_cursor) := goodIn_app (goodIn_of _ (by decide +kernel)) ggL_isGone_L_cursor
set_option maxRecDepth 20000 in
theorem ggL_isGone_L_next : GoodIn wsL_isGone wsL_next := goodIn_ca (goodIn_ca (goodIn_ca (goodIn_r _ [134, 5, 7, 135, 136, 137, 12, 138, 14, 15, 18, 16, 17, 22, 23, 24, 28, 29, 30, 31, 32, 33, 34, 35, 36, 37, 38, 39, 40, 41, 42, 43, 44, 45, 46, 47, 48, 49, 50, 51, 52, 53, 54, 55, 56, 57, 58, 59, 60, 61, 62, 139, 140, 141, 142, 93, 94, 95, 96, 97, 98, 220, 221, 222, 223, 224, 225, 226, 227, 228, 229, 230, 231, 232, 233, 234, 235, 236] (by decide +kernel) (by decide +kernel)) (goodIn_sub (fun _ h => List.mem_cons_of_mem _ (List.mem_append_left _ (List.mem_append_left _ (List.mem_append_right _ h)))) (by decide +kernel))) (goodIn_sub (fun _ h => List.mem_cons_of_mem _ (List.mem_append_left _ (List.mem_append_right _ h))) (by decide +kernel))) (goodIn_sub (fun _ h => List.mem_cons_of_mem _ (List.mem_append_right _ h)) (by decide +kernel))
set_option maxRecDepth 20000 in
theorem gL_isGone_L_next : GoodIn wsL_isGone (va_wsS RL 136 yL_next wsL_next) := goodIn_app (goodIn_of _ (by decide +kernel)) ggL_isGone_L_next
set_option maxRecDepth 20000 in
theorem ggL_isGone_L_nearest : GoodIn wsL_isGone wsL_nearest := goodIn_ca (goodIn_ca (goodIn_ca (goodIn_r _ [145, 6, 8, 146, 147, 148, 12, 149, 15, 25, 26, 27, 22, 23, 24, 28, 29, 30, 31, 32, 33, 34, 35, 36, 63, 64, 65, 52, 66, 54, 139, 140, 141, 142, 93, 94, 95, 96, 55, 56, 97, 98, 220, 221, 222, 223, 224, 225, 226, 227, 228, 229, 230, 231, 232, 233] (by decide +kernel) (by decide +kernel)) (goodIn_sub (fun _ h => List.mem_cons_of_mem _ (List.mem_append_left _ (List.mem_append_left _ (List.mem_append_right _ h)))) (by decide +kernel))) (goodIn_sub (fun _ h => List.mem_cons_of_mem _ (List.mem_append_left _ (List.mem_append_right _ h))) (by decide +kernel))) (goodIn_sub (fun _ h => List.mem_cons_of_mem _ (List.mem_append_right _ h)) (by decide +kernel))
set_option maxRecDepth 20000 in
theorem gL_isGone_L_nearest : GoodIn wsL_isGone (va_wsS RL 138 yL_nearest wsL_nearest) := goodIn_app (goodIn_of _ (by decide +kernel)) ggL_isGone_L_nearest
set_option maxRecDepth 20000 in
theorem ggL_isGone_L_undo : GoodIn wsL_isGone wsL_undo := goodIn_ca (goodIn_ca (goodIn_ca (goodIn_r _ [152, 153, 154, 155, 156, 157, 12, 158, 14, 159, 15, 84, 28, 29, 30, 31, 32, 33, 34, 35, 36, 160, 161, 162, 40, 163, 43, 44, 42, 49, 50, 51, 52, 53, 54, 55, 56, 57, 58, 59, 60, 61, 62, 164, 165, 166, 167, 168, 169, 170, 171, 172, 173, 174, 175, 176, 177, 178, 179, 108, 180, 181, 182, 183, 184, 185, 186, 187, 188, 189, 190, 191, 102, 192, 193, 104, 194, 195, 196, 197, 198, 199, 200, 201, 202, 203, 204, 205, 206, 207, 208, 209, 210, 211, 212, 213, 214, 215, 216, 217, 218, 219, 105, 220, 221, 222, 223, 224, 234, 235, 236, 225, 226, 227, 228, 229, 230, 231, 232, 233, 237, 238, 239, 240, 241, 242] (by decide +kernel) (by decide +kernel)) (goodIn_sub (fun _ h => List.mem_cons_of_mem _ (List.mem_append_left _ (List.mem_append_left _ (List.mem_append_right _ h)))) (by decide +kernel))) (goodIn_sub (fun _ h => List.mem_cons_of_mem _ (List.mem_append_left _ (List.mem_append_right _ h))) (by decide +kernel))) (goodIn_sub (fun _ h => List.mem_cons_of_mem _ (List.mem_append_right _ h)) (by decide +kernel))
set_option maxRecDepth 20000 in
theorem gL_isGone_L_undo : GoodIn wsL_isGone (va_wsS RL 147 yL_undo wsL_undo) := goodIn_app (goodIn_of _ (by decide +kernel)) ggL_isGone_L_undo
theorem dL_isGone_0 : decode cL_isGone 0 = .ok (.aload_n 0, 1) := by decide +kernel
theorem dL_isGone_1 : decode cL_isGone 1 = .ok (.iload_n 1, 1) := by decide +kernel
theorem dL_isGone_2 : decode cL_isGone 2 = .ok (.iload_n 2, 1) := by decide +kernel
theorem dL_isGone_3 : decode cL_isGone 3 = .ok (.iload_n 3, 1) := by decide +kernel
theorem dL_isGone_4 : decode cL_isGone 4 = .ok (.invokestatic 134, 3) := by decide +kernel
theorem dL_isGone_7 : decode cL_isGone 7 = .ok (.istore 4, 2) := by decide +kernel
theorem dL_isGone_9 : decode cL_isGone 9 = .ok (.iload 4, 2) := by decide +kernel
theorem dL_isGone_11 : decode cL_isGone 11 = .ok (.aload_n 0, 1) := by decide +kernel
theorem dL_isGone_12 : decode cL_isGone 12 = .ok (.iconst 0, 1) := by decide +kernel
theorem dL_isGone_13 : decode cL_isGone 13 = .ok (.iconst 0, 1) := by decide +kernel
theorem dL_isGone_14 : decode cL_isGone 14 = .ok (.bipush 63, 2) := by decide +kernel
theorem dL_isGone_16 : decode cL_isGone 16 = .ok (.bipush 63, 2) := by decide +kernel
theorem dL_isGone_18 : decode cL_isGone 18 = .ok (.invokestatic 140, 3) := by decide +kernel
theorem dL_isGone_21 : decode cL_isGone 21 = .ok (.if_icmp .ne 28, 3) := by decide +kernel
theorem dL_isGone_24 : decode cL_isGone 24 = .ok (.aload_n 0, 1) := by decide +kernel
theorem dL_isGone_25 : decode cL_isGone 25 = .ok (.iload_n 1, 1) := by decide +kernel
theorem dL_isGone_26 : decode cL_isGone 26 = .ok (.iconst 4, 1) := by decide +kernel
theorem dL_isGone_27 : decode cL_isGone 27 = .ok (.invokestatic 100, 3) := by decide +kernel
theorem dL_isGone_30 : decode cL_isGone 30 = .ok (.iload 4, 2) := by decide +kernel
theorem dL_isGone_32 : decode cL_isGone 32 = .ok (.if_icmp .ne 17, 3) := by decide +kernel
theorem dL_isGone_35 : decode cL_isGone 35 = .ok (.aload_n 0, 1) := by decide +kernel
theorem dL_isGone_36 : decode cL_isGone 36 = .ok (.iload_n 1, 1) := by decide +kernel
