theorem goodIn_c1 {big a : List Cond} {c : Cond} (h : GoodIn big [c]) (ha : GoodIn big a) : GoodIn big (c :: a) := fun w hw => (List.mem_cons.mp hw).elim (fun e => h w (List.mem_singleton.mpr e)) (ha w)
theorem dL_isGone_37 : decode cL_isGone 37 = .ok (.iconst 2, 1) := by decide +kernel
theorem dL_isGone_38 : decode cL_isGone 38 = .ok (.invokestatic 100, 3) := by decide +kernel
theorem dL_isGone_41 : decode cL_isGone 41 = .ok (.iconst (-1), 1) := by decide +kernel
theorem dL_isGone_42 : decode cL_isGone 42 = .ok (.if_icmp .ne 7, 3) := by decide +kernel
theorem dL_isGone_45 : decode cL_isGone 45 = .ok (.iconst 1, 1) := by decide +kernel
theorem dL_isGone_46 : decode cL_isGone 46 = .ok (.goto 4, 3) := by decide +kernel
theorem dL_isGone_49 : decode cL_isGone 49 = .ok (.iconst 0, 1) := by decide +kernel
theorem dL_isGone_50 : decode cL_isGone 50 = .ok (.istore 5, 2) := by decide +kernel
theorem dL_isGone_52 : decode cL_isGone 52 = .ok (.iconst 0, 1) := by decide +kernel
theorem dL_isGone_53 : decode cL_isGone 53 = .ok (.istore 6, 2) := by decide +kernel
theorem dL_isGone_55 : decode cL_isGone 55 = .ok (.iconst 0, 1) := by decide +kernel
theorem dL_isGone_56 : decode cL_isGone 56 = .ok (.istore 7, 2) := by decide +kernel
theorem dL_isGone_58 : decode cL_isGone 58 = .ok (.iload 7, 2) := by decide +kernel
theorem dL_isGone_60 : decode cL_isGone 60 = .ok (.iload 4, 2) := by decide +kernel
theorem dL_isGone_62 : decode cL_isGone 62 = .ok (.if_icmp .ge 105, 3) := by decide +kernel
theorem dL_isGone_65 : decode cL_isGone 65 = .ok (.iload 5, 2) := by decide +kernel
theorem dL_isGone_67 : decode cL_isGone 67 = .ok (.ifCond .eq 100, 3) := by decide +kernel
theorem dL_isGone_70 : decode cL_isGone 70 = .ok (.aload_n 0, 1) := by decide +kernel
theorem dL_isGone_71 : decode cL_isGone 71 = .ok (.iload_n 1, 1) := by decide +kernel
theorem dL_isGone_72 : decode cL_isGone 72 = .ok (.invokestatic 136, 3) := by decide +kernel
theorem dL_isGone_75 : decode cL_isGone 75 = .ok (.istore 8, 2) := by decide +kernel
theorem dL_isGone_77 : decode cL_isGone 77 = .ok (.iload 8, 2) := by decide +kernel
theorem dL_isGone_79 : decode cL_isGone 79 = .ok (.ifCond .lt 67, 3) := by decide +kernel
theorem dL_isGone_82 : decode cL_isGone 82 = .ok (.iload 8, 2) := by decide +kernel
theorem dL_isGone_84 : decode cL_isGone 84 = .ok (.aload_n 0, 1) := by decide +kernel
theorem dL_isGone_85 : decode cL_isGone 85 = .ok (.iload_n 2, 1) := by decide +kernel
theorem dL_isGone_86 : decode cL_isGone 86 = .ok (.iload_n 3, 1) := by decide +kernel
theorem dL_isGone_87 : decode cL_isGone 87 = .ok (.iload 7, 2) := by decide +kernel
theorem dL_isGone_89 : decode cL_isGone 89 = .ok (.invokestatic 138, 3) := by decide +kernel
theorem dL_isGone_92 : decode cL_isGone 92 = .ok (.if_icmp .ne 54, 3) := by decide +kernel
theorem dL_isGone_95 : decode cL_isGone 95 = .ok (.iload 6, 2) := by decide +kernel
theorem dL_isGone_97 : decode cL_isGone 97 = .ok (.iload 8, 2) := by decide +kernel
theorem dL_isGone_99 : decode cL_isGone 99 = .ok (.ishr, 1) := by decide +kernel
theorem dL_isGone_100 : decode cL_isGone 100 = .ok (.iconst 1, 1) := by decide +kernel
theorem dL_isGone_101 : decode cL_isGone 101 = .ok (.iand, 1) := by decide +kernel
theorem dL_isGone_102 : decode cL_isGone 102 = .ok (.ifCond .ne 44, 3) := by decide +kernel
theorem dL_isGone_105 : decode cL_isGone 105 = .ok (.aload_n 0, 1) := by decide +kernel
theorem dL_isGone_106 : decode cL_isGone 106 = .ok (.iload_n 1, 1) := by decide +kernel
theorem dL_isGone_107 : decode cL_isGone 107 = .ok (.iconst 3, 1) := by decide +kernel
theorem dL_isGone_108 : decode cL_isGone 108 = .ok (.invokestatic 100, 3) := by decide +kernel
theorem dL_isGone_111 : decode cL_isGone 111 = .ok (.iload 8, 2) := by decide +kernel
theorem dL_isGone_113 : decode cL_isGone 113 = .ok (.if_icmp .ne 33, 3) := by decide +kernel
theorem dL_isGone_116 : decode cL_isGone 116 = .ok (.aload_n 0, 1) := by decide +kernel
theorem dL_isGone_117 : decode cL_isGone 117 = .ok (.iload_n 1, 1) := by decide +kernel
theorem dL_isGone_118 : decode cL_isGone 118 = .ok (.iconst 4, 1) := by decide +kernel
theorem dL_isGone_119 : decode cL_isGone 119 = .ok (.invokestatic 100, 3) := by decide +kernel
theorem dL_isGone_122 : decode cL_isGone 122 = .ok (.iload 4, 2) := by decide +kernel
theorem dL_isGone_124 : decode cL_isGone 124 = .ok (.iload 7, 2) := by decide +kernel
theorem dL_isGone_126 : decode cL_isGone 126 = .ok (.isub, 1) := by decide +kernel
theorem dL_isGone_127 : decode cL_isGone 127 = .ok (.iconst 1, 1) := by decide +kernel
theorem dL_isGone_128 : decode cL_isGone 128 = .ok (.isub, 1) := by decide +kernel
theorem dL_isGone_129 : decode cL_isGone 129 = .ok (.if_icmp .ne 17, 3) := by decide +kernel
theorem dL_isGone_132 : decode cL_isGone 132 = .ok (.aload_n 0, 1) := by decide +kernel
theorem dL_isGone_133 : decode cL_isGone 133 = .ok (.iload_n 1, 1) := by decide +kernel
theorem dL_isGone_134 : decode cL_isGone 134 = .ok (.iconst 5, 1) := by decide +kernel
theorem dL_isGone_135 : decode cL_isGone 135 = .ok (.invokestatic 100, 3) := by decide +kernel
theorem dL_isGone_138 : decode cL_isGone 138 = .ok (.iconst 1, 1) := by decide +kernel
theorem dL_isGone_139 : decode cL_isGone 139 = .ok (.if_icmp .lt 7, 3) := by decide +kernel
theorem dL_isGone_142 : decode cL_isGone 142 = .ok (.iconst 1, 1) := by decide +kernel
theorem dL_isGone_143 : decode cL_isGone 143 = .ok (.goto 4, 3) := by decide +kernel
theorem dL_isGone_146 : decode cL_isGone 146 = .ok (.iconst 0, 1) := by decide +kernel
theorem dL_isGone_147 : decode cL_isGone 147 = .ok (.istore 5, 2) := by decide +kernel
theorem dL_isGone_149 : decode cL_isGone 149 = .ok (.iload 6, 2) := by decide +kernel
theorem dL_isGone_151 : decode cL_isGone 151 = .ok (.iconst 1, 1) := by decide +kernel
theorem dL_isGone_152 : decode cL_isGone 152 = .ok (.iload 8, 2) := by decide +kernel
theorem dL_isGone_154 : decode cL_isGone 154 = .ok (.bipush 31, 2) := by decide +kernel
theorem dL_isGone_156 : decode cL_isGone 156 = .ok (.iand, 1) := by decide +kernel
theorem dL_isGone_157 : decode cL_isGone 157 = .ok (.ishl, 1) := by decide +kernel
theorem dL_isGone_158 : decode cL_isGone 158 = .ok (.ior, 1) := by decide +kernel
theorem dL_isGone_159 : decode cL_isGone 159 = .ok (.istore 6, 2) := by decide +kernel
theorem dL_isGone_161 : decode cL_isGone 161 = .ok (.iinc 7 1, 3) := by decide +kernel
theorem dL_isGone_164 : decode cL_isGone 164 = .ok (.goto (-106), 3) := by decide +kernel
theorem dL_isGone_167 : decode cL_isGone 167 = .ok (.iload 5, 2) := by decide +kernel
theorem dL_isGone_169 : decode cL_isGone 169 = .ok (.ifCond .eq 32, 3) := by decide +kernel
theorem dL_isGone_172 : decode cL_isGone 172 = .ok (.aload_n 0, 1) := by decide +kernel
theorem dL_isGone_173 : decode cL_isGone 173 = .ok (.iload_n 1, 1) := by decide +kernel
theorem dL_isGone_174 : decode cL_isGone 174 = .ok (.invokestatic 136, 3) := by decide +kernel
theorem dL_isGone_177 : decode cL_isGone 177 = .ok (.iconst (-1), 1) := by decide +kernel
theorem dL_isGone_178 : decode cL_isGone 178 = .ok (.if_icmp .ne 23, 3) := by decide +kernel
theorem dL_isGone_181 : decode cL_isGone 181 = .ok (.aload_n 0, 1) := by decide +kernel
theorem dL_isGone_182 : decode cL_isGone 182 = .ok (.iload_n 1, 1) := by decide +kernel
theorem dL_isGone_183 : decode cL_isGone 183 = .ok (.iconst 4, 1) := by decide +kernel
theorem dL_isGone_184 : decode cL_isGone 184 = .ok (.invokestatic 100, 3) := by decide +kernel
theorem dL_isGone_187 : decode cL_isGone 187 = .ok (.ifCond .ne 14, 3) := by decide +kernel
theorem dL_isGone_190 : decode cL_isGone 190 = .ok (.aload_n 0, 1) := by decide +kernel
theorem dL_isGone_191 : decode cL_isGone 191 = .ok (.invokestatic 147, 3) := by decide +kernel
theorem dL_isGone_194 : decode cL_isGone 194 = .ok (.ifCond .lt 7, 3) := by decide +kernel
theorem dL_isGone_197 : decode cL_isGone 197 = .ok (.iconst 1, 1) := by decide +kernel
theorem dL_isGone_198 : decode cL_isGone 198 = .ok (.goto 4, 3) := by decide +kernel
theorem dL_isGone_201 : decode cL_isGone 201 = .ok (.iconst 0, 1) := by decide +kernel
theorem dL_isGone_202 : decode cL_isGone 202 = .ok (.ireturn, 1) := by decide +kernel
set_option maxRecDepth 20000 in
theorem ggL_isClosest_L_within : GoodIn wsL_isClosest wsL_within := goodIn_ca (goodIn_ca (goodIn_ca (goodIn_r _ [4, 5, 6, 7, 8, 9, 10, 11, 12, 13, 14, 15, 16, 17, 18, 19, 20, 21, 22, 23, 24, 25, 26, 27, 28, 29, 30, 136, 137, 138, 139, 140, 141, 142, 143, 144, 145, 146, 147, 148, 149] (by decide +kernel) (by decide +kernel)) (goodIn_sub (fun _ h => List.mem_cons_of_mem _ (List.mem_append_left _ (List.mem_append_left _ (List.mem_append_right _ h)))) (by decide +kernel))) (goodIn_sub (fun _ h => List.mem_cons_of_mem _ (List.mem_append_left _ (List.mem_append_right _ h))) (by decide +kernel))) (goodIn_sub (fun _ h => List.mem_cons_of_mem _ (List.mem_append_right _ h)) (by decide +kernel))
set_option maxRecDepth 20000 in
theorem gL_isClosest_L_within : GoodIn wsL_isClosest (va_wsS RL 140 yL_within wsL_within) := goodIn_app (goodIn_of _ (by decide +kernel)) ggL_isClosest_L_within
set_option maxRecDepth 20000 in
theorem ggL_isClosest_L_closest : GoodIn wsL_isClosest wsL_closest := goodIn_ca (goodIn_ca (goodIn_ca (goodIn_r _ [33, 5, 6, 34, 35, 36, 10, 37, 12, 19, 20, 21, 22, 23, 24, 25, 26, 27, 28, 29, 30, 38, 39, 40, 41, 42, 43, 44, 45, 46, 47, 48, 49, 50, 51, 136, 137, 138, 139, 140, 141, 142, 143, 144, 145, 146, 147, 148, 149] (by decide +kernel) (by decide +kernel)) (goodIn_sub (fun _ h => List.mem_cons_of_mem _ (List.mem_append_left _ (List.mem_append_left _ (List.mem_append_right _ h)))) (by decide +kernel))) (goodIn_sub (fun _ h => List.mem_cons_of_mem _ (List.mem_append_left _ (List.mem_append_right _ h))) (by decide +kernel))) (goodIn_sub (fun _ h => List.mem_cons_of_mem _ (List.mem_append_right _ h)) (by decide +kernel))
set_option maxRecDepth 20000 in
theorem gL_isClosest_L_closest : GoodIn wsL_isClosest (va_wsS RL 104 yL_closest wsL_closest) := goodIn_app (goodIn_of _ (by decide +kernel)) ggL_isClosest_L_closest
set_option maxRecDepth 20000 in
theorem ggL_isClosest_L_point : GoodIn wsL_isClosest wsL_point := goodIn_ca (goodIn_ca (goodIn_ca (goodIn_r _ [54, 55, 5, 56, 6, 57, 58, 59, 10, 60, 12, 13, 14, 15, 61, 62, 63, 64, 65, 19, 20, 21, 22, 23, 24, 25, 26, 27, 28, 29, 30, 66, 67, 68, 136, 137, 138, 139, 140, 141, 142, 143, 144, 145, 146, 147, 148, 149] (by decide +kernel) (by decide +kernel)) (goodIn_sub (fun _ h => List.mem_cons_of_mem _ (List.mem_append_left _ (List.mem_append_left _ (List.mem_append_right _ h)))) (by decide +kernel))) (goodIn_sub (fun _ h => List.mem_cons_of_mem _ (List.mem_append_left _ (List.mem_append_right _ h))) (by decide +kernel))) (goodIn_sub (fun _ h => List.mem_cons_of_mem _ (List.mem_append_right _ h)) (by decide +kernel))
set_option maxRecDepth 20000 in
theorem gL_isClosest_L_point : GoodIn wsL_isClosest (va_wsS RL 95 yL_point wsL_point) := goodIn_app (goodIn_of _ (by decide +kernel)) ggL_isClosest_L_point
set_option maxRecDepth 20000 in
theorem ggL_isClosest_L_level : GoodIn wsL_isClosest wsL_level := goodIn_ca (goodIn_ca (goodIn_ca ((goodIn_ca (goodIn_ca (goodIn_ca (goodIn_c1 (goodIn_r _ [71] (by decide +kernel) (by decide +kernel)) (goodIn_app (goodIn_r _ [55, 5, 56, 6, 72, 73, 74, 10, 75, 76, 77, 78, 79, 63, 64, 65, 19, 20, 21, 22, 23, 24, 25, 26] (by decide +kernel) (by decide +kernel)) (goodIn_app (goodIn_r _ [27, 28, 29, 30, 80, 81, 82, 83, 84, 85, 86, 87, 88, 89, 90, 91, 92, 93, 94, 95, 96, 97, 98, 99] (by decide +kernel) (by decide +kernel)) (goodIn_app (goodIn_r _ [100, 101, 102, 103, 104, 105, 106, 107, 108, 109, 110, 111, 112, 113, 114, 115, 116, 117, 118, 119, 120, 121, 122, 123] (by decide +kernel) (by decide +kernel)) (goodIn_r _ [124, 125, 126, 127, 128, 129, 130, 131, 132, 133, 134, 135] (by decide +kernel) (by decide +kernel)))))) (goodIn_r _ [136, 137, 138, 139, 140] (by decide +kernel) (by decide +kernel))) (goodIn_r _ [150, 151] (by decide +kernel) (by decide +kernel))) (goodIn_r _ [152, 153, 154, 155] (by decide +kernel) (by decide +kernel)))) (goodIn_sub (fun _ h => List.mem_cons_of_mem _ (List.mem_append_left _ (List.mem_append_left _ (List.mem_append_right _ h)))) (by decide +kernel))) (goodIn_sub (fun _ h => List.mem_cons_of_mem _ (List.mem_append_left _ (List.mem_append_right _ h))) (by decide +kernel))) (goodIn_sub (fun _ h => List.mem_cons_of_mem _ (List.mem_append_right _ h)) (by decide +kernel))
set_option maxRecDepth 20000 in
theorem gL_isClosest_L_level : GoodIn wsL_isClosest (va_wsS RL 102 yL_level wsL_level) := goodIn_app (goodIn_of _ (by decide +kernel)) ggL_isClosest_L_level
theorem dL_isClosest_0 : decode cL_isClosest 0 = .ok (.aload_n 0, 1) := by decide +kernel
theorem dL_isClosest_1 : decode cL_isClosest 1 = .ok (.iconst 0, 1) := by decide +kernel
theorem dL_isClosest_2 : decode cL_isClosest 2 = .ok (.iconst 0, 1) := by decide +kernel
theorem dL_isClosest_3 : decode cL_isClosest 3 = .ok (.bipush 63, 2) := by decide +kernel
theorem dL_isClosest_5 : decode cL_isClosest 5 = .ok (.bipush 63, 2) := by decide +kernel
theorem dL_isClosest_7 : decode cL_isClosest 7 = .ok (.invokestatic 140, 3) := by decide +kernel
theorem dL_isClosest_10 : decode cL_isClosest 10 = .ok (.istore_n 1, 1) := by decide +kernel
theorem dL_isClosest_11 : decode cL_isClosest 11 = .ok (.aload_n 0, 1) := by decide +kernel
theorem dL_isClosest_12 : decode cL_isClosest 12 = .ok (.iconst 0, 1) := by decide +kernel
theorem dL_isClosest_13 : decode cL_isClosest 13 = .ok (.invokestatic 104, 3) := by decide +kernel
theorem dL_isClosest_16 : decode cL_isClosest 16 = .ok (.istore_n 2, 1) := by decide +kernel
theorem dL_isClosest_17 : decode cL_isClosest 17 = .ok (.aload_n 0, 1) := by decide +kernel
theorem dL_isClosest_18 : decode cL_isClosest 18 = .ok (.iconst 1, 1) := by decide +kernel
theorem dL_isClosest_19 : decode cL_isClosest 19 = .ok (.invokestatic 104, 3) := by decide +kernel
theorem dL_isClosest_22 : decode cL_isClosest 22 = .ok (.istore_n 3, 1) := by decide +kernel
theorem dL_isClosest_23 : decode cL_isClosest 23 = .ok (.aload_n 0, 1) := by decide +kernel
theorem dL_isClosest_24 : decode cL_isClosest 24 = .ok (.iconst 2, 1) := by decide +kernel
theorem dL_isClosest_25 : decode cL_isClosest 25 = .ok (.invokestatic 104, 3) := by decide +kernel
theorem dL_isClosest_28 : decode cL_isClosest 28 = .ok (.istore 4, 2) := by decide +kernel
theorem dL_isClosest_30 : decode cL_isClosest 30 = .ok (.iload_n 1, 1) := by decide +kernel
theorem dL_isClosest_31 : decode cL_isClosest 31 = .ok (.iconst 2, 1) := by decide +kernel
theorem dL_isClosest_32 : decode cL_isClosest 32 = .ok (.if_icmp .ge 25, 3) := by decide +kernel
theorem dL_isClosest_35 : decode cL_isClosest 35 = .ok (.iload_n 2, 1) := by decide +kernel
theorem dL_isClosest_36 : decode cL_isClosest 36 = .ok (.iconst (-1), 1) := by decide +kernel
theorem dL_isClosest_37 : decode cL_isClosest 37 = .ok (.if_icmp .ne 18, 3) := by decide +kernel
theorem dL_isClosest_40 : decode cL_isClosest 40 = .ok (.iload_n 3, 1) := by decide +kernel
theorem dL_isClosest_41 : decode cL_isClosest 41 = .ok (.iconst (-1), 1) := by decide +kernel
theorem dL_isClosest_42 : decode cL_isClosest 42 = .ok (.if_icmp .ne 13, 3) := by decide +kernel
theorem dL_isClosest_45 : decode cL_isClosest 45 = .ok (.iload 4, 2) := by decide +kernel
theorem dL_isClosest_47 : decode cL_isClosest 47 = .ok (.iconst (-1), 1) := by decide +kernel
theorem dL_isClosest_48 : decode cL_isClosest 48 = .ok (.if_icmp .ne 7, 3) := by decide +kernel
theorem dL_isClosest_51 : decode cL_isClosest 51 = .ok (.iconst 1, 1) := by decide +kernel
theorem dL_isClosest_52 : decode cL_isClosest 52 = .ok (.goto 4, 3) := by decide +kernel
theorem dL_isClosest_55 : decode cL_isClosest 55 = .ok (.iconst 0, 1) := by decide +kernel
theorem dL_isClosest_56 : decode cL_isClosest 56 = .ok (.ireturn, 1) := by decide +kernel
theorem dL_isClosest_57 : decode cL_isClosest 57 = .ok (.aload_n 0, 1) := by decide +kernel
theorem dL_isClosest_58 : decode cL_isClosest 58 = .ok (.iload_n 3, 1) := by decide +kernel
theorem dL_isClosest_59 : decode cL_isClosest 59 = .ok (.iconst 1, 1) := by decide +kernel
theorem dL_isClosest_60 : decode cL_isClosest 60 = .ok (.invokestatic 95, 3) := by decide +kernel
theorem dL_isClosest_63 : decode cL_isClosest 63 = .ok (.aload_n 0, 1) := by decide +kernel
theorem dL_isClosest_64 : decode cL_isClosest 64 = .ok (.iload 4, 2) := by decide +kernel
theorem dL_isClosest_66 : decode cL_isClosest 66 = .ok (.iconst 1, 1) := by decide +kernel
theorem dL_isClosest_67 : decode cL_isClosest 67 = .ok (.invokestatic 95, 3) := by decide +kernel
theorem dL_isClosest_70 : decode cL_isClosest 70 = .ok (.isub, 1) := by decide +kernel
theorem dL_isClosest_71 : decode cL_isClosest 71 = .ok (.istore 5, 2) := by decide +kernel
theorem dL_isClosest_73 : decode cL_isClosest 73 = .ok (.aload_n 0, 1) := by decide +kernel
theorem dL_isClosest_74 : decode cL_isClosest 74 = .ok (.iload_n 3, 1) := by decide +kernel
theorem dL_isClosest_75 : decode cL_isClosest 75 = .ok (.iconst 2, 1) := by decide +kernel
theorem dL_isClosest_76 : decode cL_isClosest 76 = .ok (.invokestatic 95, 3) := by decide +kernel
theorem dL_isClosest_79 : decode cL_isClosest 79 = .ok (.aload_n 0, 1) := by decide +kernel
theorem dL_isClosest_80 : decode cL_isClosest 80 = .ok (.iload 4, 2) := by decide +kernel
theorem dL_isClosest_82 : decode cL_isClosest 82 = .ok (.iconst 2, 1) := by decide +kernel
theorem dL_isClosest_83 : decode cL_isClosest 83 = .ok (.invokestatic 95, 3) := by decide +kernel
theorem dL_isClosest_86 : decode cL_isClosest 86 = .ok (.isub, 1) := by decide +kernel
theorem dL_isClosest_87 : decode cL_isClosest 87 = .ok (.istore 6, 2) := by decide +kernel
theorem dL_isClosest_89 : decode cL_isClosest 89 = .ok (.iload_n 3, 1) := by decide +kernel
theorem dL_isClosest_90 : decode cL_isClosest 90 = .ok (.iload 4, 2) := by decide +kernel
theorem dL_isClosest_92 : decode cL_isClosest 92 = .ok (.if_icmp .ge 49, 3) := by decide +kernel
theorem dL_isClosest_95 : decode cL_isClosest 95 = .ok (.iload 5, 2) := by decide +kernel
theorem dL_isClosest_97 : decode cL_isClosest 97 = .ok (.iload 5, 2) := by decide +kernel
theorem dL_isClosest_99 : decode cL_isClosest 99 = .ok (.imul, 1) := by decide +kernel
theorem dL_isClosest_100 : decode cL_isClosest 100 = .ok (.iload 6, 2) := by decide +kernel
theorem dL_isClosest_102 : decode cL_isClosest 102 = .ok (.iload 6, 2) := by decide +kernel
theorem dL_isClosest_104 : decode cL_isClosest 104 = .ok (.imul, 1) := by decide +kernel
theorem dL_isClosest_105 : decode cL_isClosest 105 = .ok (.iadd, 1) := by decide +kernel
theorem dL_isClosest_106 : decode cL_isClosest 106 = .ok (.iload_n 2, 1) := by decide +kernel
theorem dL_isClosest_107 : decode cL_isClosest 107 = .ok (.if_icmp .ne 34, 3) := by decide +kernel
theorem dL_isClosest_110 : decode cL_isClosest 110 = .ok (.iload_n 2, 1) := by decide +kernel
theorem dL_isClosest_111 : decode cL_isClosest 111 = .ok (.ifCond .ne 7, 3) := by decide +kernel
theorem dL_isClosest_114 : decode cL_isClosest 114 = .ok (.iconst 1, 1) := by decide +kernel
theorem dL_isClosest_115 : decode cL_isClosest 115 = .ok (.goto 4, 3) := by decide +kernel
theorem dL_isClosest_118 : decode cL_isClosest 118 = .ok (.iconst 0, 1) := by decide +kernel
theorem dL_isClosest_119 : decode cL_isClosest 119 = .ok (.aload_n 0, 1) := by decide +kernel
theorem dL_isClosest_120 : decode cL_isClosest 120 = .ok (.iconst 0, 1) := by decide +kernel
theorem dL_isClosest_121 : decode cL_isClosest 121 = .ok (.iconst 4, 1) := by decide +kernel
theorem dL_isClosest_122 : decode cL_isClosest 122 = .ok (.invokestatic 102, 3) := by decide +kernel
theorem dL_isClosest_125 : decode cL_isClosest 125 = .ok (.iload_n 1, 1) := by decide +kernel
theorem dL_isClosest_126 : decode cL_isClosest 126 = .ok (.if_icmp .ge 7, 3) := by decide +kernel
theorem dL_isClosest_129 : decode cL_isClosest 129 = .ok (.iconst 1, 1) := by decide +kernel
theorem dL_isClosest_130 : decode cL_isClosest 130 = .ok (.goto 4, 3) := by decide +kernel
theorem dL_isClosest_133 : decode cL_isClosest 133 = .ok (.iconst 0, 1) := by decide +kernel
theorem dL_isClosest_134 : decode cL_isClosest 134 = .ok (.if_icmp .ne 7, 3) := by decide +kernel
theorem dL_isClosest_137 : decode cL_isClosest 137 = .ok (.iconst 1, 1) := by decide +kernel
theorem dL_isClosest_138 : decode cL_isClosest 138 = .ok (.goto 4, 3) := by decide +kernel
theorem dL_isClosest_141 : decode cL_isClosest 141 = .ok (.iconst 0, 1) := by decide +kernel
theorem dL_isClosest_142 : decode cL_isClosest 142 = .ok (.ireturn, 1) := by decide +kernel
set_option maxRecDepth 20000 in
theorem ggL_law_X6_init : GoodIn wsL_law wsX6_init := (goodIn_ca (goodIn_ca (goodIn_ca (goodIn_ca (goodIn_ca (goodIn_ca (goodIn_c1 (goodIn_r _ [8] (by decide +kernel) (by decide +kernel)) (goodIn_app (goodIn_r _ [9, 10, 11, 12, 13, 14, 15, 16, 17, 18, 19, 20, 21, 22, 23, 24, 25, 26, 27, 28, 29, 30, 31, 32] (by decide +kernel) (by decide +kernel)) (goodIn_app (goodIn_r _ [33, 34, 35, 36, 37, 38, 39, 40, 41, 42, 43, 44, 45, 46, 47, 48, 49, 50, 51, 52, 53, 54, 55, 56] (by decide +kernel) (by decide +kernel)) (goodIn_r _ [57, 58, 59, 60, 61, 62, 63, 64, 65, 66, 67, 68, 69] (by decide +kernel) (by decide +kernel))))) (goodIn_r _ [587, 588, 589, 590, 591, 592, 593, 594, 595] (by decide +kernel) (by decide +kernel))) (goodIn_r _ [582, 583, 584, 585, 586] (by decide +kernel) (by decide +kernel))) (goodIn_r _ [596, 597, 598] (by decide +kernel) (by decide +kernel))) (goodIn_r _ [599, 600, 601, 602, 603, 604] (by decide +kernel) (by decide +kernel))) (goodIn_r _ [605, 606] (by decide +kernel) (by decide +kernel))) (goodIn_r _ [607, 608, 609, 610] (by decide +kernel) (by decide +kernel)))
set_option maxRecDepth 20000 in
theorem gL_law_X6_init : GoodIn wsL_law (wsX6_init) := ggL_law_X6_init
set_option maxRecDepth 20000 in
theorem ggL_law_L_undo : GoodIn wsL_law wsL_undo := goodIn_ca (goodIn_ca (goodIn_ca ((goodIn_ca (goodIn_ca (goodIn_ca (goodIn_ca (goodIn_ca (goodIn_c1 (goodIn_r _ [73] (by decide +kernel) (by decide +kernel)) (goodIn_app (goodIn_r _ [74, 3, 75, 76, 77, 2, 78, 19, 79, 15, 27, 80, 81, 82, 83, 84, 85, 86, 87, 88, 89, 90, 91, 18] (by decide +kernel) (by decide +kernel)) (goodIn_app (goodIn_r _ [92, 93, 94, 48, 95, 96, 97, 14, 98, 34, 36, 37, 38, 39, 40, 41, 42, 99, 100, 101, 102, 26, 103, 60] (by decide +kernel) (by decide +kernel)) (goodIn_app (goodIn_r _ [61, 104, 105, 106, 107, 108, 109, 110, 111, 112, 113, 114, 115, 116, 117, 118, 119, 120, 121, 122, 123, 124, 125, 63] (by decide +kernel) (by decide +kernel)) (goodIn_app (goodIn_r _ [126, 127, 69, 128, 129, 130, 131, 132, 133, 67, 134, 135, 136, 137, 138, 139, 140, 141, 142, 143, 144, 145, 146, 147] (by decide +kernel) (by decide +kernel)) (goodIn_r _ [148, 149, 150, 151, 152, 68] (by decide +kernel) (by decide +kernel))))))) (goodIn_r _ [582, 583, 584, 585, 586] (by decide +kernel) (by decide +kernel))) (goodIn_r _ [596, 597, 598] (by decide +kernel) (by decide +kernel))) (goodIn_r _ [587, 588, 589, 590, 591, 592, 593, 594, 595] (by decide +kernel) (by decide +kernel))) (goodIn_r _ [605, 606] (by decide +kernel) (by decide +kernel))) (goodIn_r _ [607, 608, 609, 610] (by decide +kernel) (by decide +kernel)))) (goodIn_sub (fun _ h => List.mem_append_left _ (List.mem_append_left _ (List.mem_append_right _ h))) (by decide +kernel))) (goodIn_sub (fun _ h => List.mem_append_left _ (List.mem_append_right _ h)) (by decide +kernel))) (goodIn_sub (fun _ h => List.mem_append_right _ h) (by decide +kernel))
set_option maxRecDepth 20000 in
theorem gL_law_L_undo : GoodIn wsL_law (va_wsS RL 147 yL_undo wsL_undo) := goodIn_app (goodIn_of _ (by decide +kernel)) ggL_law_L_undo
set_option maxRecDepth 20000 in
theorem ggL_law_L_refused : GoodIn wsL_law wsL_refused := goodIn_ca (goodIn_ca (goodIn_ca ((goodIn_ca (goodIn_ca (goodIn_ca (goodIn_ca (goodIn_ca (goodIn_ca (goodIn_c1 (goodIn_r _ [155] (by decide +kernel) (by decide +kernel)) (goodIn_app (goodIn_r _ [156, 157, 158, 159, 72, 160, 161, 162, 163, 164, 2, 165, 15, 166, 167, 168, 169, 170, 171, 27, 172, 173, 174, 175] (by decide +kernel) (by decide +kernel)) (goodIn_app (goodIn_r _ [176, 177, 178, 179, 180, 26, 181, 60, 182, 111, 112, 113, 114, 115, 116, 117, 118, 183, 184, 185, 186, 187, 188, 189] (by decide +kernel) (by decide +kernel)) (goodIn_app (goodIn_r _ [190, 63, 191, 68, 192, 193, 194, 195, 196, 197, 198, 199, 200, 201, 127, 67, 202, 203, 204, 205, 206, 207, 208, 209] (by decide +kernel) (by decide +kernel)) (goodIn_app (goodIn_r _ [210, 211, 212, 213, 214, 215, 216, 217, 218, 219, 220, 69, 221, 222, 223, 224, 225, 226, 227, 228, 229, 230, 231, 232] (by decide +kernel) (by decide +kernel)) (goodIn_app (goodIn_r _ [233, 234, 235, 236, 237, 238, 239, 240, 241, 80, 81, 82, 83, 84, 85, 86, 87, 88, 242, 128, 129, 243, 244, 245] (by decide +kernel) (by decide +kernel)) (goodIn_app (goodIn_r _ [246, 247, 248, 249, 250, 251, 252, 253, 254, 255, 256, 14, 257, 34, 258, 259, 260, 261, 36, 37, 262, 263, 264, 265] (by decide +kernel) (by decide +kernel)) (goodIn_app (goodIn_r _ [266, 267, 268, 269, 270, 271, 272, 273, 274, 275, 276, 277, 278, 279, 280, 281, 282, 283, 284, 285, 286, 287, 288, 289] (by decide +kernel) (by decide +kernel)) (goodIn_app (goodIn_r _ [290, 291, 292, 293, 294, 295, 296, 297, 298, 299, 300, 301, 302, 303, 304, 305, 306, 307, 308, 309, 310, 311, 312, 313] (by decide +kernel) (by decide +kernel)) (goodIn_app (goodIn_r _ [314, 315, 316, 317, 318, 319, 320, 74, 3, 321, 322, 323, 324, 19, 325, 326, 327, 328, 329, 330, 331, 332, 333, 334] (by decide +kernel) (by decide +kernel)) (goodIn_app (goodIn_r _ [335, 336, 337, 18, 338, 48, 93, 94, 339, 95, 96, 97, 98, 38, 39, 40, 41, 42, 99, 340, 341, 342, 343, 344] (by decide +kernel) (by decide +kernel)) (goodIn_app (goodIn_r _ [345, 346, 347, 348, 349, 350, 351, 28, 100, 101, 102, 103, 61, 104, 105, 106, 107, 108, 109, 110, 119, 120, 121, 122] (by decide +kernel) (by decide +kernel)) (goodIn_app (goodIn_r _ [123, 124, 125, 126, 130, 131, 132, 133, 134, 135, 136, 137, 138, 139, 140, 141, 142, 143, 144, 145, 146, 147, 148, 149] (by decide +kernel) (by decide +kernel)) (goodIn_app (goodIn_r _ [150, 151, 152, 352, 353, 354, 355, 356, 357, 358, 359, 360, 361, 362, 363, 364, 365, 366, 367, 368, 369, 370, 371, 372] (by decide +kernel) (by decide +kernel)) (goodIn_app (goodIn_r _ [373, 374, 375, 376, 377, 378, 379, 380, 381, 382, 383, 384, 385, 386, 387, 388, 389, 390, 391, 392, 393, 394, 395, 396] (by decide +kernel) (by decide +kernel)) (goodIn_app (goodIn_r _ [397, 398, 399, 400, 401, 402, 403, 404, 405, 406, 407, 408, 409, 410, 411, 412, 413, 414, 415, 416, 417, 418, 419, 420] (by decide +kernel) (by decide +kernel)) (goodIn_app (goodIn_r _ [421, 422, 423, 424, 425, 426, 427, 428, 429, 430, 431, 432, 433, 434, 435, 436, 437, 438, 439, 440, 441, 442, 443, 444] (by decide +kernel) (by decide +kernel)) (goodIn_app (goodIn_r _ [445, 446, 447, 448, 449, 450, 451, 452, 453, 454, 455, 456, 457, 458, 459, 460, 461, 462, 463, 464, 465, 466, 467, 468] (by decide +kernel) (by decide +kernel)) (goodIn_app (goodIn_r _ [469, 470, 471, 472, 473, 474, 475, 476, 477, 478, 479, 480, 481, 482, 483, 484, 485, 486, 487, 488, 489, 490, 491, 492] (by decide +kernel) (by decide +kernel)) (goodIn_app (goodIn_r _ [493, 494, 495, 496, 497, 498, 499, 500, 501, 502, 503, 504, 505, 506, 507, 508, 509, 510, 511, 512, 513, 514, 515, 516] (by decide +kernel) (by decide +kernel)) (goodIn_app (goodIn_r _ [517, 518, 519, 520, 521, 522, 523, 524, 525, 526, 527, 528, 529, 530, 531, 532, 533, 534, 535, 536, 537, 538, 539, 540] (by decide +kernel) (by decide +kernel)) (goodIn_r _ [541, 542, 543, 544, 545, 23, 546, 547, 548, 549, 550, 551, 552, 553, 22, 554, 555, 53] (by decide +kernel) (by decide +kernel))))))))))))))))))))))) (goodIn_r _ [582, 583, 584, 585, 586] (by decide +kernel) (by decide +kernel))) (goodIn_r _ [587, 588, 589, 590, 591, 592, 593, 594, 595] (by decide +kernel) (by decide +kernel))) (goodIn_r _ [605, 606] (by decide +kernel) (by decide +kernel))) (goodIn_r _ [607, 608, 609, 610] (by decide +kernel) (by decide +kernel))) (goodIn_r _ [596, 597, 598] (by decide +kernel) (by decide +kernel))) (goodIn_r _ [599, 600, 601, 602, 603, 604] (by decide +kernel) (by decide +kernel)))) (goodIn_sub (fun _ h => List.mem_append_left _ (List.mem_append_left _ (List.mem_append_right _ h))) (by decide +kernel))) (goodIn_sub (fun _ h => List.mem_append_left _ (List.mem_append_right _ h)) (by decide +kernel))) (goodIn_sub (fun _ h => List.mem_append_right _ h) (by decide +kernel))
set_option maxRecDepth 20000 in
theorem gL_law_L_refused : GoodIn wsL_law (va_wsS RL 151 yL_refused wsL_refused) := goodIn_app (goodIn_of _ (by decide +kernel)) ggL_law_L_refused
set_option maxRecDepth 20000 in
theorem ggL_law_L_cell : GoodIn wsL_law wsL_cell := goodIn_r _ [558, 559] (by decide +kernel) (by decide +kernel)
set_option maxRecDepth 20000 in
theorem gL_law_L_cell : GoodIn wsL_law (va_wsS RL 155 yL_cell wsL_cell) := goodIn_app (goodIn_of _ (by decide +kernel)) ggL_law_L_cell
set_option maxRecDepth 20000 in
theorem ggL_law_L_low : GoodIn wsL_law wsL_low := goodIn_r _ [562, 563] (by decide +kernel) (by decide +kernel)
set_option maxRecDepth 20000 in
theorem gL_law_L_low : GoodIn wsL_law (va_wsS RL 160 yL_low wsL_low) := goodIn_app (goodIn_of _ (by decide +kernel)) ggL_law_L_low
set_option maxRecDepth 20000 in
theorem ggL_law_L_print : GoodIn wsL_law wsL_print := goodIn_ca (goodIn_ca (goodIn_ca ((goodIn_ca (goodIn_ca (goodIn_ca (goodIn_ca (goodIn_c1 (goodIn_r _ [160] (by decide +kernel) (by decide +kernel)) (goodIn_app (goodIn_r _ [161, 162, 163, 164, 2, 165, 15, 166, 167, 168, 169, 170, 171, 27, 172, 173, 174, 175, 176, 177, 178, 179, 180, 26] (by decide +kernel) (by decide +kernel)) (goodIn_app (goodIn_r _ [181, 60, 182, 111, 112, 113, 114, 115, 116, 117, 118, 183, 184, 185, 186, 187, 188, 189, 190, 63, 191, 68, 192, 193] (by decide +kernel) (by decide +kernel)) (goodIn_app (goodIn_r _ [194, 195, 196, 197, 198, 199, 200, 201, 127, 67, 202, 203, 204, 205, 206, 207, 208, 209, 210, 211, 212, 213, 214, 215] (by decide +kernel) (by decide +kernel)) (goodIn_app (goodIn_r _ [216, 217, 218, 219, 220, 69, 221, 222, 223, 224, 225, 226, 72, 227, 228, 229, 156, 157, 230, 231, 232, 233, 234, 235] (by decide +kernel) (by decide +kernel)) (goodIn_app (goodIn_r _ [236, 237, 238, 239, 240, 241, 80, 81, 82, 83, 84, 85, 86, 87, 88, 242, 128, 129, 243, 244, 245, 246, 247, 248] (by decide +kernel) (by decide +kernel)) (goodIn_app (goodIn_r _ [249, 250, 251, 252, 253, 254, 255, 256, 14, 257, 34, 258, 259, 260, 261, 36, 37, 262, 263, 264, 265, 266, 267, 268] (by decide +kernel) (by decide +kernel)) (goodIn_app (goodIn_r _ [269, 270, 271, 272, 273, 274, 275, 276, 277, 278, 279, 280, 281, 282, 283, 284, 285, 286, 287, 288, 289, 290, 291, 292] (by decide +kernel) (by decide +kernel)) (goodIn_app (goodIn_r _ [293, 294, 295, 296, 297, 298, 299, 300, 301, 302, 303, 304, 305, 306, 307, 308, 309, 310, 311, 312, 313, 314, 315, 316] (by decide +kernel) (by decide +kernel)) (goodIn_r _ [317] (by decide +kernel) (by decide +kernel))))))))))) (goodIn_r _ [582, 583, 584, 585, 586] (by decide +kernel) (by decide +kernel))) (goodIn_r _ [587, 588, 589, 590, 591, 592, 593, 594, 595] (by decide +kernel) (by decide +kernel))) (goodIn_r _ [605, 606] (by decide +kernel) (by decide +kernel))) (goodIn_r _ [607, 608, 609, 610] (by decide +kernel) (by decide +kernel)))) (goodIn_sub (fun _ h => List.mem_append_left _ (List.mem_append_left _ (List.mem_append_right _ h))) (by decide +kernel))) (goodIn_sub (fun _ h => List.mem_append_left _ (List.mem_append_right _ h)) (by decide +kernel))) (goodIn_sub (fun _ h => List.mem_append_right _ h) (by decide +kernel))
set_option maxRecDepth 20000 in
theorem gL_law_L_print : GoodIn wsL_law (va_wsS RL 107 yL_print wsL_print) := goodIn_app (goodIn_of _ (by decide +kernel)) ggL_law_L_print
set_option maxRecDepth 20000 in
theorem ggL_law_L_scatter : GoodIn wsL_law wsL_scatter := goodIn_ca (goodIn_ca (goodIn_ca ((goodIn_ca (goodIn_ca (goodIn_ca (goodIn_ca (goodIn_ca (goodIn_c1 (goodIn_r _ [427] (by decide +kernel) (by decide +kernel)) (goodIn_app (goodIn_r _ [228, 229, 156, 157, 428, 429, 430, 2, 431, 19, 15, 432, 433, 434, 435, 329, 330, 331, 239, 240, 241, 80, 81, 82] (by decide +kernel) (by decide +kernel)) (goodIn_app (goodIn_r _ [83, 84, 85, 86, 87, 88, 335, 336, 337, 18, 338, 48, 93, 94, 339, 272, 176, 273, 95, 96, 97, 14, 98, 34] (by decide +kernel) (by decide +kernel)) (goodIn_app (goodIn_r _ [36, 37, 38, 39, 40, 41, 42, 99, 436, 437, 438, 439, 440, 441, 442, 443, 444, 445, 344, 345, 346, 347, 348, 349] (by decide +kernel) (by decide +kernel)) (goodIn_app (goodIn_r _ [350, 351, 28, 27, 100, 101, 102, 26, 103, 60, 61, 104, 105, 106, 107, 108, 109, 110, 111, 112, 113, 114, 115, 116] (by decide +kernel) (by decide +kernel)) (goodIn_app (goodIn_r _ [117, 118, 119, 120, 121, 122, 123, 124, 125, 63, 126, 127, 69, 128, 129, 130, 131, 132, 133, 67, 134, 135, 136, 137] (by decide +kernel) (by decide +kernel)) (goodIn_app (goodIn_r _ [138, 139, 140, 141, 142, 143, 144, 145, 146, 147, 148, 149, 150, 151, 152, 68, 352, 353, 354, 355, 356, 357, 358, 359] (by decide +kernel) (by decide +kernel)) (goodIn_r _ [446, 447, 448, 449] (by decide +kernel) (by decide +kernel))))))))) (goodIn_r _ [582, 583, 584, 585, 586] (by decide +kernel) (by decide +kernel))) (goodIn_r _ [596, 597, 598] (by decide +kernel) (by decide +kernel))) (goodIn_r _ [587, 588, 589, 590, 591, 592, 593, 594, 595] (by decide +kernel) (by decide +kernel))) (goodIn_r _ [605, 606] (by decide +kernel) (by decide +kernel))) (goodIn_r _ [607, 608, 609, 610] (by decide +kernel) (by decide +kernel)))) (goodIn_sub (fun _ h => List.mem_append_left _ (List.mem_append_left _ (List.mem_append_right _ h))) (by decide +kernel))) (goodIn_sub (fun _ h => List.mem_append_left _ (List.mem_append_right _ h)) (by decide +kernel))) (goodIn_sub (fun _ h => List.mem_append_right _ h) (by decide +kernel))
set_option maxRecDepth 20000 in
theorem gL_law_L_scatter : GoodIn wsL_law (va_wsS RL 122 yL_scatter wsL_scatter) := goodIn_app (goodIn_of _ (by decide +kernel)) ggL_law_L_scatter
set_option maxRecDepth 20000 in
theorem ggL_law_L_add : GoodIn wsL_law wsL_add := goodIn_ca (goodIn_ca (goodIn_ca ((goodIn_ca (goodIn_ca (goodIn_ca (goodIn_ca (goodIn_ca (goodIn_c1 (goodIn_r _ [320] (by decide +kernel) (by decide +kernel)) (goodIn_app (goodIn_r _ [228, 229, 74, 156, 157, 3, 321, 322, 323, 2, 324, 19, 15, 325, 326, 327, 328, 171, 329, 330, 331, 239, 240, 241] (by decide +kernel) (by decide +kernel)) (goodIn_app (goodIn_r _ [332, 333, 334, 80, 81, 82, 83, 84, 85, 86, 87, 88, 335, 336, 337, 18, 338, 48, 93, 94, 339, 272, 176, 273] (by decide +kernel) (by decide +kernel)) (goodIn_app (goodIn_r _ [95, 96, 97, 14, 98, 34, 36, 37, 38, 39, 40, 41, 42, 99, 340, 341, 342, 343, 344, 345, 346, 347, 348, 349] (by decide +kernel) (by decide +kernel)) (goodIn_app (goodIn_r _ [350, 351, 28, 27, 100, 101, 102, 26, 103, 60, 61, 104, 105, 106, 107, 108, 109, 110, 111, 112, 113, 114, 115, 116] (by decide +kernel) (by decide +kernel)) (goodIn_app (goodIn_r _ [117, 118, 119, 120, 121, 122, 123, 124, 125, 63, 126, 127, 69, 128, 129, 130, 131, 132, 133, 67, 134, 135, 136, 137] (by decide +kernel) (by decide +kernel)) (goodIn_r _ [138, 139, 140, 141, 142, 143, 144, 145, 146, 147, 148, 149, 150, 151, 152, 68, 352, 353, 354, 355, 356, 357, 358, 359] (by decide +kernel) (by decide +kernel)))))))) (goodIn_r _ [582, 583, 584, 585, 586] (by decide +kernel) (by decide +kernel))) (goodIn_r _ [587, 588, 589, 590, 591, 592, 593, 594, 595] (by decide +kernel) (by decide +kernel))) (goodIn_r _ [596, 597, 598] (by decide +kernel) (by decide +kernel))) (goodIn_r _ [605, 606] (by decide +kernel) (by decide +kernel))) (goodIn_r _ [607, 608, 609, 610] (by decide +kernel) (by decide +kernel)))) (goodIn_sub (fun _ h => List.mem_append_left _ (List.mem_append_left _ (List.mem_append_right _ h))) (by decide +kernel))) (goodIn_sub (fun _ h => List.mem_append_left _ (List.mem_append_right _ h)) (by decide +kernel))) (goodIn_sub (fun _ h => List.mem_append_right _ h) (by decide +kernel))
set_option maxRecDepth 20000 in
theorem gL_law_L_add : GoodIn wsL_law (va_wsS RL 111 yL_add wsL_add) := goodIn_app (goodIn_of _ (by decide +kernel)) ggL_law_L_add
set_option maxRecDepth 20000 in
theorem ggL_law_L_remove : GoodIn wsL_law wsL_remove := goodIn_ca (goodIn_ca (goodIn_ca ((goodIn_ca (goodIn_ca (goodIn_ca (goodIn_ca (goodIn_ca (goodIn_c1 (goodIn_r _ [369] (by decide +kernel) (by decide +kernel)) (goodIn_app (goodIn_r _ [228, 74, 156, 3, 370, 371, 372, 2, 373, 19, 15, 374, 375, 376, 377, 171, 329, 330, 331, 239, 240, 241, 80, 81] (by decide +kernel) (by decide +kernel)) (goodIn_app (goodIn_r _ [82, 83, 84, 85, 86, 87, 88, 335, 336, 337, 18, 338, 48, 93, 94, 339, 272, 176, 273, 95, 96, 97, 14, 98] (by decide +kernel) (by decide +kernel)) (goodIn_app (goodIn_r _ [34, 36, 37, 38, 39, 40, 41, 42, 99, 378, 379, 380, 381, 382, 383, 384, 385, 348, 349, 350, 351, 28, 27, 100] (by decide +kernel) (by decide +kernel)) (goodIn_app (goodIn_r _ [101, 102, 26, 103, 60, 61, 104, 105, 106, 107, 108, 109, 110, 111, 112, 113, 114, 115, 116, 117, 118, 119, 120, 121] (by decide +kernel) (by decide +kernel)) (goodIn_app (goodIn_r _ [122, 123, 124, 125, 63, 126, 127, 69, 128, 129, 130, 131, 132, 133, 67, 134, 135, 136, 137, 138, 139, 140, 141, 142] (by decide +kernel) (by decide +kernel)) (goodIn_r _ [143, 144, 145, 146, 147, 148, 149, 150, 151, 152, 68, 352, 353, 354, 355, 356, 357, 358, 359] (by decide +kernel) (by decide +kernel)))))))) (goodIn_r _ [582, 583, 584, 585, 586] (by decide +kernel) (by decide +kernel))) (goodIn_r _ [587, 588, 589, 590, 591, 592, 593, 594, 595] (by decide +kernel) (by decide +kernel))) (goodIn_r _ [596, 597, 598] (by decide +kernel) (by decide +kernel))) (goodIn_r _ [605, 606] (by decide +kernel) (by decide +kernel))) (goodIn_r _ [607, 608, 609, 610] (by decide +kernel) (by decide +kernel)))) (goodIn_sub (fun _ h => List.mem_append_left _ (List.mem_append_left _ (List.mem_append_right _ h))) (by decide +kernel))) (goodIn_sub (fun _ h => List.mem_append_left _ (List.mem_append_right _ h)) (by decide +kernel))) (goodIn_sub (fun _ h => List.mem_append_right _ h) (by decide +kernel))
set_option maxRecDepth 20000 in
theorem gL_law_L_remove : GoodIn wsL_law (va_wsS RL 116 yL_remove wsL_remove) := goodIn_app (goodIn_of _ (by decide +kernel)) ggL_law_L_remove
set_option maxRecDepth 20000 in
theorem ggL_law_L_setVelocity : GoodIn wsL_law wsL_setVelocity := goodIn_ca (goodIn_ca (goodIn_ca ((goodIn_ca (goodIn_ca (goodIn_ca (goodIn_c1 (goodIn_r _ [388] (by decide +kernel) (by decide +kernel)) (goodIn_app (goodIn_r _ [228, 229, 74, 156, 157, 3, 389, 390, 391, 2, 392, 19, 15, 234, 393, 394, 176, 395, 235, 396, 397, 398, 399, 171] (by decide +kernel) (by decide +kernel)) (goodIn_app (goodIn_r _ [329, 330, 331, 239, 240, 241, 80, 81, 82, 83, 84, 85, 86, 87, 88, 335, 336, 337, 18, 338, 48, 93, 94, 339] (by decide +kernel) (by decide +kernel)) (goodIn_r _ [272, 273, 95, 96, 97, 14, 98, 34, 36, 37, 38, 39, 40, 41, 42, 99, 400, 401, 402, 403] (by decide +kernel) (by decide +kernel))))) (goodIn_r _ [582, 583, 584, 585, 586] (by decide +kernel) (by decide +kernel))) (goodIn_r _ [587, 588, 589, 590, 591, 592, 593, 594, 595] (by decide +kernel) (by decide +kernel))) (goodIn_r _ [596, 597, 598] (by decide +kernel) (by decide +kernel)))) (goodIn_sub (fun _ h => List.mem_append_left _ (List.mem_append_left _ (List.mem_append_right _ h))) (by decide +kernel))) (goodIn_sub (fun _ h => List.mem_append_left _ (List.mem_append_right _ h)) (by decide +kernel))) (goodIn_sub (fun _ h => List.mem_append_right _ h) (by decide +kernel))
set_option maxRecDepth 20000 in
theorem gL_law_L_setVelocity : GoodIn wsL_law (va_wsS RL 118 yL_setVelocity wsL_setVelocity) := goodIn_app (goodIn_of _ (by decide +kernel)) ggL_law_L_setVelocity
set_option maxRecDepth 20000 in
theorem ggL_law_L_tick : GoodIn wsL_law wsL_tick := goodIn_ca (goodIn_ca (goodIn_ca ((goodIn_ca (goodIn_ca (goodIn_ca (goodIn_ca (goodIn_ca (goodIn_c1 (goodIn_r _ [406] (by decide +kernel) (by decide +kernel)) (goodIn_app (goodIn_r _ [229, 157, 407, 408, 409, 2, 410, 19, 15, 411, 412, 413, 239, 240, 241, 80, 81, 82, 83, 84, 85, 86, 87, 88] (by decide +kernel) (by decide +kernel)) (goodIn_app (goodIn_r _ [335, 336, 337, 18, 338, 48, 93, 94, 339, 272, 176, 273, 95, 96, 97, 14, 98, 34, 36, 37, 38, 39, 40, 41] (by decide +kernel) (by decide +kernel)) (goodIn_app (goodIn_r _ [42, 99, 414, 415, 416, 417, 418, 419, 420, 421, 422, 423, 424, 348, 349, 350, 351, 28, 27, 100, 101, 102, 26, 103] (by decide +kernel) (by decide +kernel)) (goodIn_app (goodIn_r _ [60, 61, 104, 105, 106, 107, 108, 109, 110, 111, 112, 113, 114, 115, 116, 117, 118, 119, 120, 121, 122, 123, 124, 125] (by decide +kernel) (by decide +kernel)) (goodIn_app (goodIn_r _ [63, 126, 127, 69, 128, 129, 130, 131, 132, 133, 67, 134, 135, 136, 137, 138, 139, 140, 141, 142, 143, 144, 145, 146] (by decide +kernel) (by decide +kernel)) (goodIn_r _ [147, 148, 149, 150, 151, 152, 68, 352, 353, 354, 355, 356, 357, 358, 359] (by decide +kernel) (by decide +kernel)))))))) (goodIn_r _ [582, 583, 584, 585, 586] (by decide +kernel) (by decide +kernel))) (goodIn_r _ [596, 597, 598] (by decide +kernel) (by decide +kernel))) (goodIn_r _ [587, 588, 589, 590, 591, 592, 593, 594, 595] (by decide +kernel) (by decide +kernel))) (goodIn_r _ [605, 606] (by decide +kernel) (by decide +kernel))) (goodIn_r _ [607, 608, 609, 610] (by decide +kernel) (by decide +kernel)))) (goodIn_sub (fun _ h => List.mem_append_left _ (List.mem_append_left _ (List.mem_append_right _ h))) (by decide +kernel))) (goodIn_sub (fun _ h => List.mem_append_left _ (List.mem_append_right _ h)) (by decide +kernel))) (goodIn_sub (fun _ h => List.mem_append_right _ h) (by decide +kernel))
set_option maxRecDepth 20000 in
theorem gL_law_L_tick : GoodIn wsL_law (va_wsS RL 120 yL_tick wsL_tick) := goodIn_app (goodIn_of _ (by decide +kernel)) ggL_law_L_tick
set_option maxRecDepth 20000 in
theorem ggL_law_L_open : GoodIn wsL_law wsL_open := goodIn_ca (goodIn_ca (goodIn_ca ((goodIn_ca (goodIn_ca (goodIn_ca (goodIn_c1 (goodIn_r _ [506] (by decide +kernel) (by decide +kernel)) (goodIn_app (goodIn_r _ [228, 229, 156, 157, 507, 508, 509, 2, 510, 19, 15, 250, 251, 252, 511, 512, 513, 239, 240, 241, 332, 333, 334, 80] (by decide +kernel) (by decide +kernel)) (goodIn_app (goodIn_r _ [81, 82, 83, 84, 85, 86, 87, 88, 335, 336, 337, 18, 338, 48, 93, 94, 339, 272, 176, 273, 95, 96, 97, 14] (by decide +kernel) (by decide +kernel)) (goodIn_r _ [98, 34, 36, 37, 38, 39, 40, 41, 42, 99, 446, 447, 448, 449] (by decide +kernel) (by decide +kernel))))) (goodIn_r _ [582, 583, 584, 585, 586] (by decide +kernel) (by decide +kernel))) (goodIn_r _ [587, 588, 589, 590, 591, 592, 593, 594, 595] (by decide +kernel) (by decide +kernel))) (goodIn_r _ [596, 597, 598] (by decide +kernel) (by decide +kernel)))) (goodIn_sub (fun _ h => List.mem_append_left _ (List.mem_append_left _ (List.mem_append_right _ h))) (by decide +kernel))) (goodIn_sub (fun _ h => List.mem_append_left _ (List.mem_append_right _ h)) (by decide +kernel))) (goodIn_sub (fun _ h => List.mem_append_right _ h) (by decide +kernel))
set_option maxRecDepth 20000 in
theorem gL_law_L_open : GoodIn wsL_law (va_wsS RL 134 yL_open wsL_open) := goodIn_app (goodIn_of _ (by decide +kernel)) ggL_law_L_open
set_option maxRecDepth 20000 in
theorem ggL_law_L_areNodes : GoodIn wsL_law wsL_areNodes := goodIn_ca (goodIn_ca (goodIn_ca ((goodIn_ca (goodIn_ca (goodIn_ca (goodIn_c1 (goodIn_r _ [566] (by decide +kernel) (by decide +kernel)) (goodIn_app (goodIn_r _ [280, 281, 72, 282, 228, 229, 156, 157, 283, 284, 285, 2, 286, 27, 253, 287, 288, 236, 237, 238, 239, 240, 241, 80] (by decide +kernel) (by decide +kernel)) (goodIn_app (goodIn_r _ [81, 82, 83, 84, 85, 86, 87, 88, 289, 290, 291, 63, 292, 69, 293, 175, 176, 177, 294, 295, 296, 297, 68, 298] (by decide +kernel) (by decide +kernel)) (goodIn_app (goodIn_r _ [206, 113, 207, 202, 203, 204, 205, 195, 196, 197, 299, 300, 301, 302, 198, 199, 200, 201, 127, 67, 192, 193, 194, 208] (by decide +kernel) (by decide +kernel)) (goodIn_app (goodIn_r _ [209, 210, 211, 212, 213, 214, 215, 216, 217, 218, 219, 220, 303, 304, 305, 306, 450, 451, 452, 453, 454, 455, 456, 457] (by decide +kernel) (by decide +kernel)) (goodIn_app (goodIn_r _ [458, 459, 460, 461, 462, 463, 464, 465, 278, 279, 466, 467, 468, 469, 470, 471, 472, 473, 474, 475, 476, 477, 478, 479] (by decide +kernel) (by decide +kernel)) (goodIn_r _ [480, 481, 567, 568, 569, 482, 483, 484, 485, 486, 487, 488, 489] (by decide +kernel) (by decide +kernel)))))))) (goodIn_r _ [582, 583, 584, 585, 586] (by decide +kernel) (by decide +kernel))) (goodIn_r _ [605, 606] (by decide +kernel) (by decide +kernel))) (goodIn_r _ [607, 608, 609, 610] (by decide +kernel) (by decide +kernel)))) (goodIn_sub (fun _ h => List.mem_append_left _ (List.mem_append_left _ (List.mem_append_right _ h))) (by decide +kernel))) (goodIn_sub (fun _ h => List.mem_append_left _ (List.mem_append_right _ h)) (by decide +kernel))) (goodIn_sub (fun _ h => List.mem_append_right _ h) (by decide +kernel))
set_option maxRecDepth 20000 in
theorem gL_law_L_areNodes : GoodIn wsL_law (va_wsS RL 164 yL_areNodes wsL_areNodes) := goodIn_app (goodIn_of _ (by decide +kernel)) ggL_law_L_areNodes
set_option maxRecDepth 20000 in
theorem ggL_law_L_areSearches : GoodIn wsL_law wsL_areSearches := goodIn_ca (goodIn_ca (goodIn_ca ((goodIn_ca (goodIn_ca (goodIn_ca (goodIn_ca (goodIn_c1 (goodIn_r _ [572] (by decide +kernel) (by decide +kernel)) (goodIn_app (goodIn_r _ [490, 491, 72, 492, 229, 157, 493, 494, 495, 2, 496, 27, 253, 457, 332, 333, 334, 239, 240, 241, 80, 81, 82, 83] (by decide +kernel) (by decide +kernel)) (goodIn_app (goodIn_r _ [84, 85, 86, 87, 88, 178, 179, 180, 26, 181, 60, 182, 111, 112, 113, 114, 115, 116, 117, 118, 183, 184, 185, 186] (by decide +kernel) (by decide +kernel)) (goodIn_app (goodIn_r _ [187, 188, 189, 190, 63, 191, 68, 192, 193, 194, 195, 196, 197, 198, 199, 200, 201, 127, 67, 202, 203, 204, 205, 206] (by decide +kernel) (by decide +kernel)) (goodIn_app (goodIn_r _ [207, 208, 209, 210, 211, 212, 213, 214, 215, 216, 217, 218, 219, 220, 69, 221, 222, 223, 224, 465, 278, 279, 450, 451] (by decide +kernel) (by decide +kernel)) (goodIn_app (goodIn_r _ [452, 228, 156, 453, 454, 455, 456, 458, 459, 460, 461, 288, 236, 237, 238, 462, 463, 464, 466, 295, 296, 297, 298, 467] (by decide +kernel) (by decide +kernel)) (goodIn_app (goodIn_r _ [468, 469, 470, 471, 472, 473, 474, 475, 476, 477, 478, 479, 480, 481, 225, 226, 227, 230, 231, 232, 233, 15, 171, 172] (by decide +kernel) (by decide +kernel)) (goodIn_app (goodIn_r _ [173, 234, 235, 242, 128, 129, 167, 168, 169, 170, 174, 175, 176, 177, 280, 281, 282, 283, 284, 285, 286, 287, 289, 290] (by decide +kernel) (by decide +kernel)) (goodIn_r _ [291, 292, 293, 294, 299, 300, 301, 302, 303, 304, 305, 306] (by decide +kernel) (by decide +kernel)))))))))) (goodIn_r _ [582, 583, 584, 585, 586] (by decide +kernel) (by decide +kernel))) (goodIn_r _ [605, 606] (by decide +kernel) (by decide +kernel))) (goodIn_r _ [607, 608, 609, 610] (by decide +kernel) (by decide +kernel))) (goodIn_r _ [587, 588, 589, 590, 591, 592, 593, 594, 595] (by decide +kernel) (by decide +kernel)))) (goodIn_sub (fun _ h => List.mem_append_left _ (List.mem_append_left _ (List.mem_append_right _ h))) (by decide +kernel))) (goodIn_sub (fun _ h => List.mem_append_left _ (List.mem_append_right _ h)) (by decide +kernel))) (goodIn_sub (fun _ h => List.mem_append_right _ h) (by decide +kernel))
set_option maxRecDepth 20000 in
theorem gL_law_L_areSearches : GoodIn wsL_law (va_wsS RL 168 yL_areSearches wsL_areSearches) := goodIn_app (goodIn_of _ (by decide +kernel)) ggL_law_L_areSearches
set_option maxRecDepth 20000 in
theorem ggL_law_L_isMoved : GoodIn wsL_law wsL_isMoved := goodIn_ca (goodIn_ca (goodIn_ca ((goodIn_ca (goodIn_ca (goodIn_ca (goodIn_ca (goodIn_ca (goodIn_c1 (goodIn_r _ [575] (by decide +kernel) (by decide +kernel)) (goodIn_app (goodIn_r _ [3, 158, 159, 72, 160, 161, 162, 163, 164, 2, 165, 15, 166, 167, 168, 169, 170, 171, 27, 172, 173, 174, 175, 176] (by decide +kernel) (by decide +kernel)) (goodIn_app (goodIn_r _ [177, 178, 179, 180, 26, 181, 60, 182, 111, 112, 113, 114, 115, 116, 117, 118, 183, 184, 185, 186, 187, 188, 189, 190] (by decide +kernel) (by decide +kernel)) (goodIn_app (goodIn_r _ [63, 191, 68, 192, 193, 194, 195, 196, 197, 198, 199, 200, 201, 127, 67, 202, 203, 204, 205, 206, 207, 208, 209, 210] (by decide +kernel) (by decide +kernel)) (goodIn_app (goodIn_r _ [211, 212, 213, 214, 215, 216, 217, 218, 219, 220, 69, 221, 222, 223, 224, 225, 226, 227, 228, 229, 156, 157, 230, 231] (by decide +kernel) (by decide +kernel)) (goodIn_app (goodIn_r _ [232, 233, 234, 235, 236, 237, 238, 239, 240, 241, 80, 81, 82, 83, 84, 85, 86, 87, 88, 242, 128, 129, 243, 244] (by decide +kernel) (by decide +kernel)) (goodIn_app (goodIn_r _ [245, 246, 247, 248, 249, 250, 251, 252, 253, 254, 255, 256, 14, 257, 34, 258, 259, 260, 261, 36, 37, 262, 263, 264] (by decide +kernel) (by decide +kernel)) (goodIn_app (goodIn_r _ [265, 266, 267, 268, 269, 270, 271, 272, 273, 274, 275, 276, 277, 278, 279, 280, 281, 282, 283, 284, 285, 286, 287, 288] (by decide +kernel) (by decide +kernel)) (goodIn_app (goodIn_r _ [289, 290, 291, 292, 293, 294, 295, 296, 297, 298, 299, 300, 301, 302, 303, 304, 305, 306, 307, 308, 309, 310, 311, 312] (by decide +kernel) (by decide +kernel)) (goodIn_app (goodIn_r _ [313, 314, 315, 316, 317, 497, 498, 499, 74, 500, 501, 502, 503, 28, 325, 326, 327, 328, 329, 330, 331, 332, 333, 334] (by decide +kernel) (by decide +kernel)) (goodIn_app (goodIn_r _ [344, 345, 346, 347, 100, 101, 102, 103, 61, 104, 105, 106, 107, 108, 109, 110, 119, 120, 121, 122, 123, 124, 125, 126] (by decide +kernel) (by decide +kernel)) (goodIn_app (goodIn_r _ [130, 131, 132, 133, 134, 135, 136, 137, 138, 139, 140, 141, 142, 143, 144, 145, 146, 147, 148, 149, 150, 151, 152, 352] (by decide +kernel) (by decide +kernel)) (goodIn_app (goodIn_r _ [353, 354, 355, 356, 357, 358, 359, 360, 361, 362, 363, 364, 365, 366, 19, 335, 336, 337, 18, 338, 48, 93, 94, 339] (by decide +kernel) (by decide +kernel)) (goodIn_app (goodIn_r _ [95, 96, 97, 98, 38, 39, 40, 41, 42, 99, 340, 341, 342, 343, 348, 349, 350, 351, 70, 71, 73, 75, 76, 77] (by decide +kernel) (by decide +kernel)) (goodIn_r _ [78, 79, 89, 90, 91, 92] (by decide +kernel) (by decide +kernel)))))))))))))))) (goodIn_r _ [582, 583, 584, 585, 586] (by decide +kernel) (by decide +kernel))) (goodIn_r _ [587, 588, 589, 590, 591, 592, 593, 594, 595] (by decide +kernel) (by decide +kernel))) (goodIn_r _ [605, 606] (by decide +kernel) (by decide +kernel))) (goodIn_r _ [607, 608, 609, 610] (by decide +kernel) (by decide +kernel))) (goodIn_r _ [596, 597, 598] (by decide +kernel) (by decide +kernel)))) (goodIn_sub (fun _ h => List.mem_append_left _ (List.mem_append_left _ (List.mem_append_right _ h))) (by decide +kernel))) (goodIn_sub (fun _ h => List.mem_append_left _ (List.mem_append_right _ h)) (by decide +kernel))) (goodIn_sub (fun _ h => List.mem_append_right _ h) (by decide +kernel))
set_option maxRecDepth 20000 in
theorem gL_law_L_isMoved : GoodIn wsL_law (va_wsS RL 172 yL_isMoved wsL_isMoved) := goodIn_app (goodIn_of _ (by decide +kernel)) ggL_law_L_isMoved
set_option maxRecDepth 20000 in
theorem ggL_law_L_isClosest : GoodIn wsL_law wsL_isClosest := goodIn_ca (goodIn_ca (goodIn_ca ((goodIn_ca (goodIn_ca (goodIn_ca (goodIn_ca (goodIn_c1 (goodIn_r _ [578] (by decide +kernel) (by decide +kernel)) (goodIn_app (goodIn_r _ [532, 533, 72, 534, 229, 157, 535, 536, 537, 2, 538, 15, 171, 172, 173, 332, 333, 334, 239, 240, 241, 80, 81, 82] (by decide +kernel) (by decide +kernel)) (goodIn_app (goodIn_r _ [83, 84, 85, 86, 87, 88, 307, 308, 309, 310, 311, 312, 313, 314, 315, 316, 14, 317, 34, 36, 37, 258, 259, 260] (by decide +kernel) (by decide +kernel)) (goodIn_app (goodIn_r _ [261, 262, 263, 225, 226, 227, 228, 156, 230, 231, 232, 233, 234, 235, 236, 237, 238, 242, 128, 129, 280, 281, 282, 283] (by decide +kernel) (by decide +kernel)) (goodIn_app (goodIn_r _ [284, 285, 286, 27, 253, 287, 288, 289, 290, 291, 63, 292, 69, 293, 175, 176, 177, 294, 295, 296, 297, 68, 298, 206] (by decide +kernel) (by decide +kernel)) (goodIn_app (goodIn_r _ [113, 207, 202, 203, 204, 205, 195, 196, 197, 299, 300, 301, 302, 198, 199, 200, 201, 127, 67, 192, 193, 194, 208, 209] (by decide +kernel) (by decide +kernel)) (goodIn_r _ [210, 211, 212, 213, 214, 215, 216, 217, 218, 219, 220, 303, 304, 305, 306] (by decide +kernel) (by decide +kernel)))))))) (goodIn_r _ [582, 583, 584, 585, 586] (by decide +kernel) (by decide +kernel))) (goodIn_r _ [587, 588, 589, 590, 591, 592, 593, 594, 595] (by decide +kernel) (by decide +kernel))) (goodIn_r _ [605, 606] (by decide +kernel) (by decide +kernel))) (goodIn_r _ [607, 608, 609, 610] (by decide +kernel) (by decide +kernel)))) (goodIn_sub (fun _ h => List.mem_append_left _ (List.mem_append_left _ (List.mem_append_right _ h))) (by decide +kernel))) (goodIn_sub (fun _ h => List.mem_append_left _ (List.mem_append_right _ h)) (by decide +kernel))) (goodIn_sub (fun _ h => List.mem_append_right _ h) (by decide +kernel))
set_option maxRecDepth 20000 in
theorem gL_law_L_isClosest : GoodIn wsL_law (va_wsS RL 176 yL_isClosest wsL_isClosest) := goodIn_app (goodIn_of _ (by decide +kernel)) ggL_law_L_isClosest
set_option maxRecDepth 20000 in
theorem ggL_law_L_isGone : GoodIn wsL_law wsL_isGone := goodIn_ca (goodIn_ca (goodIn_ca ((goodIn_ca (goodIn_ca (goodIn_ca (goodIn_ca (goodIn_ca (goodIn_c1 (goodIn_r _ [581] (by decide +kernel) (by decide +kernel)) (goodIn_app (goodIn_r _ [504, 505, 72, 506, 228, 229, 156, 157, 507, 508, 509, 2, 510, 19, 15, 250, 251, 252, 511, 512, 513, 239, 240, 241] (by decide +kernel) (by decide +kernel)) (goodIn_app (goodIn_r _ [332, 333, 334, 80, 81, 82, 83, 84, 85, 86, 87, 88, 335, 336, 337, 18, 338, 48, 93, 94, 339, 272, 176, 273] (by decide +kernel) (by decide +kernel)) (goodIn_app (goodIn_r _ [95, 96, 97, 14, 98, 34, 36, 37, 38, 39, 40, 41, 42, 99, 446, 447, 448, 449, 532, 533, 534, 535, 536, 537] (by decide +kernel) (by decide +kernel)) (goodIn_app (goodIn_r _ [538, 171, 172, 173, 243, 244, 245, 246, 247, 248, 249, 27, 253, 236, 237, 238, 254, 255, 256, 257, 258, 259, 260, 261] (by decide +kernel) (by decide +kernel)) (goodIn_app (goodIn_r _ [262, 263, 264, 265, 266, 63, 267, 69, 68, 268, 269, 113, 270, 271, 274, 175, 177, 205, 206, 207, 275, 215, 216, 211] (by decide +kernel) (by decide +kernel)) (goodIn_app (goodIn_r _ [212, 213, 276, 209, 210, 277, 278, 279, 195, 196, 197, 514, 515, 516, 517, 518, 519, 520, 521, 522, 523, 524, 525, 526] (by decide +kernel) (by decide +kernel)) (goodIn_app (goodIn_r _ [527, 528, 529, 530, 531, 70, 71, 73, 74, 3, 75, 76, 77, 78, 79, 89, 90, 91, 92, 100, 101, 102, 26, 103] (by decide +kernel) (by decide +kernel)) (goodIn_app (goodIn_r _ [60, 61, 104, 105, 106, 107, 108, 109, 110, 111, 112, 114, 115, 116, 117, 118, 119, 120, 121, 122, 123, 124, 125, 126] (by decide +kernel) (by decide +kernel)) (goodIn_app (goodIn_r _ [127, 128, 129, 130, 131, 132, 133, 67, 134, 135, 136, 137, 138, 139, 140, 141, 142, 143, 144, 145, 146, 147, 148, 149] (by decide +kernel) (by decide +kernel)) (goodIn_r _ [150, 151, 152] (by decide +kernel) (by decide +kernel)))))))))))) (goodIn_r _ [582, 583, 584, 585, 586] (by decide +kernel) (by decide +kernel))) (goodIn_r _ [587, 588, 589, 590, 591, 592, 593, 594, 595] (by decide +kernel) (by decide +kernel))) (goodIn_r _ [596, 597, 598] (by decide +kernel) (by decide +kernel))) (goodIn_r _ [605, 606] (by decide +kernel) (by decide +kernel))) (goodIn_r _ [607, 608, 609, 610] (by decide +kernel) (by decide +kernel)))) (goodIn_sub (fun _ h => List.mem_append_left _ (List.mem_append_left _ (List.mem_append_right _ h))) (by decide +kernel))) (goodIn_sub (fun _ h => List.mem_append_left _ (List.mem_append_right _ h)) (by decide +kernel))) (goodIn_sub (fun _ h => List.mem_append_right _ h) (by decide +kernel))
set_option maxRecDepth 20000 in
theorem gL_law_L_isGone : GoodIn wsL_law (va_wsS RL 179 yL_isGone wsL_isGone) := goodIn_app (goodIn_of _ (by decide +kernel)) ggL_law_L_isGone
theorem dL_law_0 : decode cL_law 0 = .ok (.new 10, 3) := by decide +kernel
theorem dL_law_3 : decode cL_law 3 = .ok (.dup, 1) := by decide +kernel
theorem dL_law_4 : decode cL_law 4 = .ok (.invokespecial 150, 3) := by decide +kernel
theorem dL_law_7 : decode cL_law 7 = .ok (.astore_n 1, 1) := by decide +kernel
theorem dL_law_8 : decode cL_law 8 = .ok (.aload_n 1, 1) := by decide +kernel
theorem dL_law_9 : decode cL_law 9 = .ok (.invokestatic 147, 3) := by decide +kernel
theorem dL_law_12 : decode cL_law 12 = .ok (.ldc 23, 2) := by decide +kernel
theorem dL_law_14 : decode cL_law 14 = .ok (.if_icmp .ne 14, 3) := by decide +kernel
theorem dL_law_17 : decode cL_law 17 = .ok (.aload_n 1, 1) := by decide +kernel
theorem dL_law_18 : decode cL_law 18 = .ok (.invokestatic 151, 3) := by decide +kernel
theorem dL_law_21 : decode cL_law 21 = .ok (.ifCond .eq 7, 3) := by decide +kernel
theorem dL_law_24 : decode cL_law 24 = .ok (.iconst 1, 1) := by decide +kernel
theorem dL_law_25 : decode cL_law 25 = .ok (.goto 4, 3) := by decide +kernel
theorem dL_law_28 : decode cL_law 28 = .ok (.iconst 0, 1) := by decide +kernel
theorem dL_law_29 : decode cL_law 29 = .ok (.istore_n 2, 1) := by decide +kernel
theorem dL_law_30 : decode cL_law 30 = .ok (.iconst 0, 1) := by decide +kernel
theorem dL_law_31 : decode cL_law 31 = .ok (.istore_n 3, 1) := by decide +kernel
theorem dL_law_32 : decode cL_law 32 = .ok (.iload_n 3, 1) := by decide +kernel
theorem dL_law_33 : decode cL_law 33 = .ok (.bipush 16, 2) := by decide +kernel
theorem dL_law_35 : decode cL_law 35 = .ok (.if_icmp .ge 456, 3) := by decide +kernel
theorem dL_law_38 : decode cL_law 38 = .ok (.iload_n 2, 1) := by decide +kernel
theorem dL_law_39 : decode cL_law 39 = .ok (.ifCond .eq 452, 3) := by decide +kernel
theorem dL_law_42 : decode cL_law 42 = .ok (.aload_n 0, 1) := by decide +kernel
theorem dL_law_43 : decode cL_law 43 = .ok (.iload_n 3, 1) := by decide +kernel
theorem dL_law_44 : decode cL_law 44 = .ok (.invokestatic 155, 3) := by decide +kernel
theorem dL_law_47 : decode cL_law 47 = .ok (.istore 4, 2) := by decide +kernel
theorem dL_law_49 : decode cL_law 49 = .ok (.iload 4, 2) := by decide +kernel
theorem dL_law_51 : decode cL_law 51 = .ok (.iconst 4, 1) := by decide +kernel
theorem dL_law_52 : decode cL_law 52 = .ok (.ishr, 1) := by decide +kernel
theorem dL_law_53 : decode cL_law 53 = .ok (.ldc 159, 2) := by decide +kernel
theorem dL_law_55 : decode cL_law 55 = .ok (.invokestatic 160, 3) := by decide +kernel
theorem dL_law_58 : decode cL_law 58 = .ok (.istore 5, 2) := by decide +kernel
theorem dL_law_60 : decode cL_law 60 = .ok (.iload 5, 2) := by decide +kernel
theorem dL_law_62 : decode cL_law 62 = .ok (.bipush 24, 2) := by decide +kernel
theorem dL_law_64 : decode cL_law 64 = .ok (.irem, 1) := by decide +kernel
theorem dL_law_65 : decode cL_law 65 = .ok (.istore 6, 2) := by decide +kernel
theorem dL_law_67 : decode cL_law 67 = .ok (.aload_n 1, 1) := by decide +kernel
theorem dL_law_68 : decode cL_law 68 = .ok (.invokestatic 107, 3) := by decide +kernel
theorem dL_law_71 : decode cL_law 71 = .ok (.lstore 7, 2) := by decide +kernel
theorem dL_law_73 : decode cL_law 73 = .ok (.iconst 0, 1) := by decide +kernel
theorem dL_law_74 : decode cL_law 74 = .ok (.istore 9, 2) := by decide +kernel
theorem dL_law_76 : decode cL_law 76 = .ok (.iload 4, 2) := by decide +kernel
theorem dL_law_78 : decode cL_law 78 = .ok (.bipush 8, 2) := by decide +kernel
theorem dL_law_80 : decode cL_law 80 = .ok (.invokestatic 160, 3) := by decide +kernel
theorem dL_law_83 : decode cL_law 83 = .ok (.tableswitch 170 0 6 #[41, 41, 81, 109, 120, 120, 154], 41) := by decide +kernel
theorem dL_law_124 : decode cL_law 124 = .ok (.aload_n 1, 1) := by decide +kernel
theorem dL_law_125 : decode cL_law 125 = .ok (.iload 6, 2) := by decide +kernel
theorem dL_law_127 : decode cL_law 127 = .ok (.iconst 1, 1) := by decide +kernel
theorem dL_law_128 : decode cL_law 128 = .ok (.iload 5, 2) := by decide +kernel
theorem dL_law_130 : decode cL_law 130 = .ok (.bipush 24, 2) := by decide +kernel
theorem dL_law_132 : decode cL_law 132 = .ok (.idiv, 1) := by decide +kernel
theorem dL_law_133 : decode cL_law 133 = .ok (.bipush 24, 2) := by decide +kernel
theorem dL_law_135 : decode cL_law 135 = .ok (.iload 6, 2) := by decide +kernel
theorem dL_law_137 : decode cL_law 137 = .ok (.isub, 1) := by decide +kernel
theorem dL_law_138 : decode cL_law 138 = .ok (.irem, 1) := by decide +kernel
theorem dL_law_139 : decode cL_law 139 = .ok (.iadd, 1) := by decide +kernel
theorem dL_law_140 : decode cL_law 140 = .ok (.iconst 1, 1) := by decide +kernel
theorem dL_law_141 : decode cL_law 141 = .ok (.iload 5, 2) := by decide +kernel
theorem dL_law_143 : decode cL_law 143 = .ok (.sipush 500, 3) := by decide +kernel
theorem dL_law_146 : decode cL_law 146 = .ok (.idiv, 1) := by decide +kernel
theorem dL_law_147 : decode cL_law 147 = .ok (.bipush 64, 2) := by decide +kernel
theorem dL_law_149 : decode cL_law 149 = .ok (.irem, 1) := by decide +kernel
theorem dL_law_150 : decode cL_law 150 = .ok (.iadd, 1) := by decide +kernel
theorem dL_law_151 : decode cL_law 151 = .ok (.iload 5, 2) := by decide +kernel
theorem dL_law_153 : decode cL_law 153 = .ok (.ldc 163, 2) := by decide +kernel
theorem dL_law_155 : decode cL_law 155 = .ok (.irem, 1) := by decide +kernel
theorem dL_law_156 : decode cL_law 156 = .ok (.invokestatic 122, 3) := by decide +kernel
theorem dL_law_159 : decode cL_law 159 = .ok (.istore 9, 2) := by decide +kernel
theorem dL_law_161 : decode cL_law 161 = .ok (.goto 118, 3) := by decide +kernel
theorem dL_law_164 : decode cL_law 164 = .ok (.aload_n 1, 1) := by decide +kernel
theorem dL_law_165 : decode cL_law 165 = .ok (.iload 6, 2) := by decide +kernel
theorem dL_law_167 : decode cL_law 167 = .ok (.iload 5, 2) := by decide +kernel
theorem dL_law_169 : decode cL_law 169 = .ok (.bipush 24, 2) := by decide +kernel
theorem dL_law_171 : decode cL_law 171 = .ok (.idiv, 1) := by decide +kernel
theorem dL_law_172 : decode cL_law 172 = .ok (.bipush 64, 2) := by decide +kernel
theorem dL_law_174 : decode cL_law 174 = .ok (.irem, 1) := by decide +kernel
theorem dL_law_175 : decode cL_law 175 = .ok (.iload 5, 2) := by decide +kernel
theorem dL_law_177 : decode cL_law 177 = .ok (.sipush 1536, 3) := by decide +kernel
theorem dL_law_180 : decode cL_law 180 = .ok (.idiv, 1) := by decide +kernel
theorem dL_law_181 : decode cL_law 181 = .ok (.bipush 64, 2) := by decide +kernel
theorem dL_law_183 : decode cL_law 183 = .ok (.irem, 1) := by decide +kernel
theorem dL_law_184 : decode cL_law 184 = .ok (.invokestatic 111, 3) := by decide +kernel
theorem dL_law_187 : decode cL_law 187 = .ok (.istore 9, 2) := by decide +kernel
theorem dL_law_189 : decode cL_law 189 = .ok (.goto 90, 3) := by decide +kernel
theorem dL_law_192 : decode cL_law 192 = .ok (.aload_n 1, 1) := by decide +kernel
theorem dL_law_193 : decode cL_law 193 = .ok (.iload 6, 2) := by decide +kernel
theorem dL_law_195 : decode cL_law 195 = .ok (.invokestatic 116, 3) := by decide +kernel
theorem dL_law_198 : decode cL_law 198 = .ok (.istore 9, 2) := by decide +kernel
theorem dL_law_200 : decode cL_law 200 = .ok (.goto 79, 3) := by decide +kernel
theorem dL_law_203 : decode cL_law 203 = .ok (.aload_n 1, 1) := by decide +kernel
theorem dL_law_204 : decode cL_law 204 = .ok (.iload 6, 2) := by decide +kernel
theorem dL_law_206 : decode cL_law 206 = .ok (.iload 5, 2) := by decide +kernel
theorem dL_law_208 : decode cL_law 208 = .ok (.bipush 24, 2) := by decide +kernel
theorem dL_law_210 : decode cL_law 210 = .ok (.idiv, 1) := by decide +kernel
theorem dL_law_211 : decode cL_law 211 = .ok (.bipush 19, 2) := by decide +kernel
theorem dL_law_213 : decode cL_law 213 = .ok (.irem, 1) := by decide +kernel
theorem dL_law_214 : decode cL_law 214 = .ok (.bipush 9, 2) := by decide +kernel
theorem dL_law_216 : decode cL_law 216 = .ok (.isub, 1) := by decide +kernel
theorem dL_law_217 : decode cL_law 217 = .ok (.iload 5, 2) := by decide +kernel
theorem dL_law_219 : decode cL_law 219 = .ok (.sipush 456, 3) := by decide +kernel
theorem dL_law_222 : decode cL_law 222 = .ok (.idiv, 1) := by decide +kernel
theorem dL_law_223 : decode cL_law 223 = .ok (.bipush 19, 2) := by decide +kernel
theorem dL_law_225 : decode cL_law 225 = .ok (.irem, 1) := by decide +kernel
theorem dL_law_226 : decode cL_law 226 = .ok (.bipush 9, 2) := by decide +kernel
theorem dL_law_228 : decode cL_law 228 = .ok (.isub, 1) := by decide +kernel
theorem dL_law_229 : decode cL_law 229 = .ok (.invokestatic 118, 3) := by decide +kernel
theorem dL_law_232 : decode cL_law 232 = .ok (.istore 9, 2) := by decide +kernel
theorem dL_law_234 : decode cL_law 234 = .ok (.goto 45, 3) := by decide +kernel
theorem dL_law_237 : decode cL_law 237 = .ok (.aload_n 1, 1) := by decide +kernel
theorem dL_law_238 : decode cL_law 238 = .ok (.iconst 1, 1) := by decide +kernel
theorem dL_law_239 : decode cL_law 239 = .ok (.iload 5, 2) := by decide +kernel
theorem dL_law_241 : decode cL_law 241 = .ok (.bipush 9, 2) := by decide +kernel
theorem dL_law_243 : decode cL_law 243 = .ok (.irem, 1) := by decide +kernel
theorem dL_law_244 : decode cL_law 244 = .ok (.iadd, 1) := by decide +kernel
theorem dL_law_245 : decode cL_law 245 = .ok (.invokestatic 120, 3) := by decide +kernel
theorem dL_law_248 : decode cL_law 248 = .ok (.istore 9, 2) := by decide +kernel
theorem dL_law_250 : decode cL_law 250 = .ok (.goto 29, 3) := by decide +kernel
theorem dL_law_253 : decode cL_law 253 = .ok (.aload_n 1, 1) := by decide +kernel
theorem dL_law_254 : decode cL_law 254 = .ok (.iload 5, 2) := by decide +kernel
theorem dL_law_256 : decode cL_law 256 = .ok (.iconst 4, 1) := by decide +kernel
theorem dL_law_257 : decode cL_law 257 = .ok (.irem, 1) := by decide +kernel
theorem dL_law_258 : decode cL_law 258 = .ok (.iload 5, 2) := by decide +kernel
theorem dL_law_260 : decode cL_law 260 = .ok (.iconst 4, 1) := by decide +kernel
theorem dL_law_261 : decode cL_law 261 = .ok (.idiv, 1) := by decide +kernel
theorem dL_law_262 : decode cL_law 262 = .ok (.bipush 64, 2) := by decide +kernel
theorem dL_law_264 : decode cL_law 264 = .ok (.irem, 1) := by decide +kernel
theorem dL_law_265 : decode cL_law 265 = .ok (.iload 5, 2) := by decide +kernel
theorem dL_law_267 : decode cL_law 267 = .ok (.sipush 256, 3) := by decide +kernel
theorem dL_law_270 : decode cL_law 270 = .ok (.idiv, 1) := by decide +kernel
theorem dL_law_271 : decode cL_law 271 = .ok (.bipush 64, 2) := by decide +kernel
theorem dL_law_273 : decode cL_law 273 = .ok (.irem, 1) := by decide +kernel
theorem dL_law_274 : decode cL_law 274 = .ok (.invokestatic 134, 3) := by decide +kernel
theorem dL_law_277 : decode cL_law 277 = .ok (.istore 9, 2) := by decide +kernel
theorem dL_law_279 : decode cL_law 279 = .ok (.iload 9, 2) := by decide +kernel
theorem dL_law_281 : decode cL_law 281 = .ok (.ifCond .ge 10, 3) := by decide +kernel
theorem dL_law_284 : decode cL_law 284 = .ok (.iload 9, 2) := by decide +kernel
theorem dL_law_286 : decode cL_law 286 = .ok (.ldc 23, 2) := by decide +kernel
theorem dL_law_288 : decode cL_law 288 = .ok (.if_icmp .ne 7, 3) := by decide +kernel
theorem dL_law_291 : decode cL_law 291 = .ok (.iconst 1, 1) := by decide +kernel
theorem dL_law_292 : decode cL_law 292 = .ok (.goto 4, 3) := by decide +kernel
theorem dL_law_295 : decode cL_law 295 = .ok (.iconst 0, 1) := by decide +kernel
theorem dL_law_296 : decode cL_law 296 = .ok (.istore_n 2, 1) := by decide +kernel
theorem dL_law_297 : decode cL_law 297 = .ok (.iload_n 2, 1) := by decide +kernel
theorem dL_law_298 : decode cL_law 298 = .ok (.ifCond .eq 41, 3) := by decide +kernel
theorem dL_law_301 : decode cL_law 301 = .ok (.iload 9, 2) := by decide +kernel
theorem dL_law_303 : decode cL_law 303 = .ok (.ifCond .lt 36, 3) := by decide +kernel
theorem dL_law_306 : decode cL_law 306 = .ok (.iload 4, 2) := by decide +kernel
theorem dL_law_308 : decode cL_law 308 = .ok (.bipush 25, 2) := by decide +kernel
theorem dL_law_310 : decode cL_law 310 = .ok (.ishr, 1) := by decide +kernel
theorem dL_law_311 : decode cL_law 311 = .ok (.iconst 3, 1) := by decide +kernel
theorem dL_law_312 : decode cL_law 312 = .ok (.iand, 1) := by decide +kernel
theorem dL_law_313 : decode cL_law 313 = .ok (.ifCond .ne 26, 3) := by decide +kernel
theorem dL_law_316 : decode cL_law 316 = .ok (.aload_n 1, 1) := by decide +kernel
theorem dL_law_317 : decode cL_law 317 = .ok (.invokestatic 147, 3) := by decide +kernel
theorem dL_law_320 : decode cL_law 320 = .ok (.ifCond .lt 17, 3) := by decide +kernel
theorem dL_law_323 : decode cL_law 323 = .ok (.aload_n 1, 1) := by decide +kernel
theorem dL_law_324 : decode cL_law 324 = .ok (.invokestatic 107, 3) := by decide +kernel
theorem dL_law_327 : decode cL_law 327 = .ok (.lload 7, 2) := by decide +kernel
theorem dL_law_329 : decode cL_law 329 = .ok (.lcmp, 1) := by decide +kernel
theorem dL_law_330 : decode cL_law 330 = .ok (.ifCond .ne 7, 3) := by decide +kernel
theorem dL_law_333 : decode cL_law 333 = .ok (.iconst 1, 1) := by decide +kernel
theorem dL_law_334 : decode cL_law 334 = .ok (.goto 4, 3) := by decide +kernel
theorem dL_law_337 : decode cL_law 337 = .ok (.iconst 0, 1) := by decide +kernel
theorem dL_law_338 : decode cL_law 338 = .ok (.istore_n 2, 1) := by decide +kernel
theorem dL_law_339 : decode cL_law 339 = .ok (.iconst 0, 1) := by decide +kernel
theorem dL_law_340 : decode cL_law 340 = .ok (.istore 10, 2) := by decide +kernel
theorem dL_law_342 : decode cL_law 342 = .ok (.iload 10, 2) := by decide +kernel
theorem dL_law_344 : decode cL_law 344 = .ok (.iconst 5, 1) := by decide +kernel
theorem dL_law_345 : decode cL_law 345 = .ok (.if_icmp .ge 20, 3) := by decide +kernel
theorem dL_law_348 : decode cL_law 348 = .ok (.iload_n 2, 1) := by decide +kernel
theorem dL_law_349 : decode cL_law 349 = .ok (.ifCond .eq 16, 3) := by decide +kernel
theorem dL_law_352 : decode cL_law 352 = .ok (.aload_n 1, 1) := by decide +kernel
theorem dL_law_353 : decode cL_law 353 = .ok (.iload 10, 2) := by decide +kernel
theorem dL_law_355 : decode cL_law 355 = .ok (.invokestatic 164, 3) := by decide +kernel
theorem dL_law_358 : decode cL_law 358 = .ok (.istore_n 2, 1) := by decide +kernel
theorem dL_law_359 : decode cL_law 359 = .ok (.iinc 10 1, 3) := by decide +kernel
theorem dL_law_362 : decode cL_law 362 = .ok (.goto (-20), 3) := by decide +kernel
theorem dL_law_365 : decode cL_law 365 = .ok (.iload_n 2, 1) := by decide +kernel
theorem dL_law_366 : decode cL_law 366 = .ok (.ifCond .eq 117, 3) := by decide +kernel
theorem dL_law_369 : decode cL_law 369 = .ok (.aload_n 1, 1) := by decide +kernel
theorem dL_law_370 : decode cL_law 370 = .ok (.iload 5, 2) := by decide +kernel
theorem dL_law_372 : decode cL_law 372 = .ok (.bipush 7, 2) := by decide +kernel
theorem dL_law_374 : decode cL_law 374 = .ok (.idiv, 1) := by decide +kernel
theorem dL_law_375 : decode cL_law 375 = .ok (.bipush 64, 2) := by decide +kernel
theorem dL_law_377 : decode cL_law 377 = .ok (.irem, 1) := by decide +kernel
theorem dL_law_378 : decode cL_law 378 = .ok (.iload 5, 2) := by decide +kernel
theorem dL_law_380 : decode cL_law 380 = .ok (.sipush 448, 3) := by decide +kernel
theorem dL_law_383 : decode cL_law 383 = .ok (.idiv, 1) := by decide +kernel
theorem dL_law_384 : decode cL_law 384 = .ok (.bipush 64, 2) := by decide +kernel
theorem dL_law_386 : decode cL_law 386 = .ok (.irem, 1) := by decide +kernel
theorem dL_law_387 : decode cL_law 387 = .ok (.invokestatic 168, 3) := by decide +kernel
theorem dL_law_390 : decode cL_law 390 = .ok (.ifCond .eq 93, 3) := by decide +kernel
theorem dL_law_393 : decode cL_law 393 = .ok (.aload_n 1, 1) := by decide +kernel
theorem dL_law_394 : decode cL_law 394 = .ok (.iload 5, 2) := by decide +kernel
theorem dL_law_396 : decode cL_law 396 = .ok (.iconst 3, 1) := by decide +kernel
theorem dL_law_397 : decode cL_law 397 = .ok (.idiv, 1) := by decide +kernel
theorem dL_law_398 : decode cL_law 398 = .ok (.bipush 24, 2) := by decide +kernel
theorem dL_law_400 : decode cL_law 400 = .ok (.irem, 1) := by decide +kernel
theorem dL_law_401 : decode cL_law 401 = .ok (.iload 5, 2) := by decide +kernel
theorem dL_law_403 : decode cL_law 403 = .ok (.bipush 72, 2) := by decide +kernel
theorem dL_law_405 : decode cL_law 405 = .ok (.idiv, 1) := by decide +kernel
theorem dL_law_406 : decode cL_law 406 = .ok (.bipush 64, 2) := by decide +kernel
theorem dL_law_408 : decode cL_law 408 = .ok (.irem, 1) := by decide +kernel
theorem dL_law_409 : decode cL_law 409 = .ok (.iload 5, 2) := by decide +kernel
theorem dL_law_411 : decode cL_law 411 = .ok (.sipush 4608, 3) := by decide +kernel
theorem dL_law_414 : decode cL_law 414 = .ok (.idiv, 1) := by decide +kernel
theorem dL_law_415 : decode cL_law 415 = .ok (.bipush 64, 2) := by decide +kernel
theorem dL_law_417 : decode cL_law 417 = .ok (.irem, 1) := by decide +kernel
theorem dL_law_418 : decode cL_law 418 = .ok (.invokestatic 172, 3) := by decide +kernel
theorem dL_law_421 : decode cL_law 421 = .ok (.ifCond .eq 62, 3) := by decide +kernel
theorem dL_law_424 : decode cL_law 424 = .ok (.aload_n 1, 1) := by decide +kernel
theorem dL_law_425 : decode cL_law 425 = .ok (.invokestatic 176, 3) := by decide +kernel
theorem dL_law_428 : decode cL_law 428 = .ok (.ifCond .eq 55, 3) := by decide +kernel
theorem dL_law_431 : decode cL_law 431 = .ok (.iload_n 3, 1) := by decide +kernel
theorem dL_law_432 : decode cL_law 432 = .ok (.iconst 4, 1) := by decide +kernel
theorem dL_law_433 : decode cL_law 433 = .ok (.irem, 1) := by decide +kernel
theorem dL_law_434 : decode cL_law 434 = .ok (.iconst 2, 1) := by decide +kernel
theorem dL_law_435 : decode cL_law 435 = .ok (.if_icmp .ne 30, 3) := by decide +kernel
theorem dL_law_438 : decode cL_law 438 = .ok (.aload_n 1, 1) := by decide +kernel
theorem dL_law_439 : decode cL_law 439 = .ok (.iload 5, 2) := by decide +kernel
theorem dL_law_441 : decode cL_law 441 = .ok (.iconst 4, 1) := by decide +kernel
theorem dL_law_442 : decode cL_law 442 = .ok (.irem, 1) := by decide +kernel
theorem dL_law_443 : decode cL_law 443 = .ok (.iload 5, 2) := by decide +kernel
theorem dL_law_445 : decode cL_law 445 = .ok (.iconst 5, 1) := by decide +kernel
theorem dL_law_446 : decode cL_law 446 = .ok (.idiv, 1) := by decide +kernel
theorem dL_law_447 : decode cL_law 447 = .ok (.bipush 64, 2) := by decide +kernel
theorem dL_law_449 : decode cL_law 449 = .ok (.irem, 1) := by decide +kernel
theorem dL_law_450 : decode cL_law 450 = .ok (.iload 5, 2) := by decide +kernel
theorem dL_law_452 : decode cL_law 452 = .ok (.sipush 320, 3) := by decide +kernel
theorem dL_law_455 : decode cL_law 455 = .ok (.idiv, 1) := by decide +kernel
theorem dL_law_456 : decode cL_law 456 = .ok (.bipush 64, 2) := by decide +kernel
theorem dL_law_458 : decode cL_law 458 = .ok (.irem, 1) := by decide +kernel
theorem dL_law_459 : decode cL_law 459 = .ok (.invokestatic 179, 3) := by decide +kernel
theorem dL_law_462 : decode cL_law 462 = .ok (.ifCond .eq 21, 3) := by decide +kernel
theorem dL_law_465 : decode cL_law 465 = .ok (.iload_n 3, 1) := by decide +kernel
theorem dL_law_466 : decode cL_law 466 = .ok (.iconst 5, 1) := by decide +kernel
theorem dL_law_467 : decode cL_law 467 = .ok (.irem, 1) := by decide +kernel
theorem dL_law_468 : decode cL_law 468 = .ok (.iconst 3, 1) := by decide +kernel
theorem dL_law_469 : decode cL_law 469 = .ok (.if_icmp .ne 10, 3) := by decide +kernel
theorem dL_law_472 : decode cL_law 472 = .ok (.aload_n 1, 1) := by decide +kernel
theorem dL_law_473 : decode cL_law 473 = .ok (.invokestatic 151, 3) := by decide +kernel
theorem dL_law_476 : decode cL_law 476 = .ok (.ifCond .eq 7, 3) := by decide +kernel
theorem dL_law_479 : decode cL_law 479 = .ok (.iconst 1, 1) := by decide +kernel
theorem dL_law_480 : decode cL_law 480 = .ok (.goto 4, 3) := by decide +kernel
theorem dL_law_483 : decode cL_law 483 = .ok (.iconst 0, 1) := by decide +kernel
theorem dL_law_484 : decode cL_law 484 = .ok (.istore_n 2, 1) := by decide +kernel
theorem dL_law_485 : decode cL_law 485 = .ok (.iinc 3 1, 3) := by decide +kernel
theorem dL_law_488 : decode cL_law 488 = .ok (.goto (-456), 3) := by decide +kernel
theorem dL_law_491 : decode cL_law 491 = .ok (.iload_n 2, 1) := by decide +kernel
theorem dL_law_492 : decode cL_law 492 = .ok (.ifCond .eq 14, 3) := by decide +kernel
theorem dL_law_495 : decode cL_law 495 = .ok (.aload_n 1, 1) := by decide +kernel
theorem dL_law_496 : decode cL_law 496 = .ok (.invokestatic 151, 3) := by decide +kernel
theorem dL_law_499 : decode cL_law 499 = .ok (.ifCond .eq 7, 3) := by decide +kernel
theorem dL_law_502 : decode cL_law 502 = .ok (.iconst 1, 1) := by decide +kernel
theorem dL_law_503 : decode cL_law 503 = .ok (.goto 4, 3) := by decide +kernel
theorem dL_law_506 : decode cL_law 506 = .ok (.iconst 0, 1) := by decide +kernel
theorem dL_law_507 : decode cL_law 507 = .ok (.ireturn, 1) := by decide +kernel
