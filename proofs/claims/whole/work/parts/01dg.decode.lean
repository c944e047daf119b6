set_option maxRecDepth 20000 in
theorem ggX7_does_X7_badAdd : GoodIn wsX7_does wsX7_badAdd := goodIn_r _ [7, 8, 9, 6, 10, 11, 12, 13, 14, 15, 16, 17, 18, 19, 20, 21, 109, 110, 111, 112, 113, 114, 115, 116, 117, 118, 119, 120, 121, 122, 123, 124, 125, 126, 127, 128] (by decide +kernel) (by decide +kernel)
set_option maxRecDepth 20000 in
theorem gX7_does_X7_badAdd : GoodIn wsX7_does (wsV RX7 112 RX7 yX7_badAdd wsX7_badAdd) := goodIn_app (goodIn_of _ (by decide +kernel)) ggX7_does_X7_badAdd
set_option maxRecDepth 20000 in
theorem ggX7_does_X7_badMove : GoodIn wsX7_does wsX7_badMove := goodIn_r _ [25, 8, 9, 6, 10, 11, 12, 13, 14, 15, 16, 17, 18, 19, 20, 21, 109, 110, 111, 112, 113, 114, 115, 116, 117, 118, 119, 120, 121, 122, 123, 124, 125, 126, 127, 128] (by decide +kernel) (by decide +kernel)
set_option maxRecDepth 20000 in
theorem gX7_does_X7_badMove : GoodIn wsX7_does (wsV RX7 122 RX7 yX7_badMove wsX7_badMove) := goodIn_app (goodIn_of _ (by decide +kernel)) ggX7_does_X7_badMove
set_option maxRecDepth 20000 in
theorem ggX7_does_X7_badRemove : GoodIn wsX7_does wsX7_badRemove := goodIn_r _ [29, 8, 9, 6, 10, 11, 12, 13, 17, 18, 19, 20, 21, 109, 110, 111, 112, 113, 114, 115, 116, 117, 118, 119, 120, 121, 122, 123, 124, 125, 126, 127, 128] (by decide +kernel) (by decide +kernel)
set_option maxRecDepth 20000 in
theorem gX7_does_X7_badRemove : GoodIn wsX7_does (wsV RX7 125 RX7 yX7_badRemove wsX7_badRemove) := goodIn_app (goodIn_of _ (by decide +kernel)) ggX7_does_X7_badRemove
set_option maxRecDepth 20000 in
theorem ggX7_does_X7_badSpeed : GoodIn wsX7_does wsX7_badSpeed := goodIn_r _ [33, 8, 9, 6, 10, 11, 12, 13, 17, 18, 19, 20, 21, 109, 110, 111, 112, 113, 114, 115, 116, 117, 118, 119, 120, 121, 122, 123, 124, 125, 126, 127, 128] (by decide +kernel) (by decide +kernel)
set_option maxRecDepth 20000 in
theorem gX7_does_X7_badSpeed : GoodIn wsX7_does (wsV RX7 134 RX7 yX7_badSpeed wsX7_badSpeed) := goodIn_app (goodIn_of _ (by decide +kernel)) ggX7_does_X7_badSpeed
set_option maxRecDepth 20000 in
theorem ggX7_does_X7_areTicks : GoodIn wsX7_does wsX7_areTicks := goodIn_r _ [36, 11, 12, 6, 13] (by decide +kernel) (by decide +kernel)
set_option maxRecDepth 20000 in
theorem gX7_does_X7_areTicks : GoodIn wsX7_does (va_wsS RX7 144 yX7_areTicks wsX7_areTicks) := goodIn_app (goodIn_of _ (by decide +kernel)) ggX7_does_X7_areTicks
set_option maxRecDepth 20000 in
theorem ggX7_does_X7_removes : GoodIn wsX7_does wsX7_removes := goodIn_r _ [40, 21, 41, 42, 43, 6, 44, 45, 46, 47, 48, 49, 50, 51, 52, 53, 54, 55, 56, 57, 58, 59, 60, 17, 18, 19, 20, 61, 62, 63, 64, 65, 66, 67, 68, 69, 70, 71, 72, 73, 74, 75, 76, 77, 78, 79, 80, 81, 82, 83, 84, 85, 109, 110, 111, 112, 113, 114, 115, 116, 117, 118, 119, 120, 121, 122, 123, 124, 125, 126, 127, 128] (by decide +kernel) (by decide +kernel)
set_option maxRecDepth 20000 in
theorem gX7_does_X7_removes : GoodIn wsX7_does (wsV RX7 128 RX7 yX7_removes wsX7_removes) := goodIn_app (goodIn_of _ (by decide +kernel)) ggX7_does_X7_removes
set_option maxRecDepth 20000 in
theorem ggX7_does_X7_speeds : GoodIn wsX7_does wsX7_speeds := goodIn_r _ [89, 21, 90, 91, 6, 92, 109, 110, 111, 112, 113, 114, 115, 116, 117, 118, 119, 120, 121, 122, 123, 124, 125, 126, 127, 128] (by decide +kernel) (by decide +kernel)
set_option maxRecDepth 20000 in
theorem gX7_does_X7_speeds : GoodIn wsX7_does (wsV RX7 137 RX7 yX7_speeds wsX7_speeds) := goodIn_app (goodIn_of _ (by decide +kernel)) ggX7_does_X7_speeds
set_option maxRecDepth 20000 in
theorem ggX7_does_X7_passes : GoodIn wsX7_does wsX7_passes := goodIn_r _ [96, 21, 41, 42, 43, 6, 44, 45, 46, 47, 48, 49, 50, 51, 52, 53, 54, 55, 56, 57, 58, 59, 60, 17, 18, 19, 20, 61, 62, 63, 64, 65, 66, 67, 68, 69, 70, 71, 72, 73, 97, 98, 99, 100, 74, 75, 76, 77, 78, 79, 80, 81, 82, 83, 84, 85, 109, 110, 111, 112, 113, 114, 115, 116, 117, 118, 119, 120, 121, 122, 123, 124, 125, 126, 127, 128] (by decide +kernel) (by decide +kernel)
set_option maxRecDepth 20000 in
theorem gX7_does_X7_passes : GoodIn wsX7_does (wsV RX7 147 RX7 yX7_passes wsX7_passes) := goodIn_app (goodIn_of _ (by decide +kernel)) ggX7_does_X7_passes
set_option maxRecDepth 20000 in
theorem ggX7_does_X7_adds : GoodIn wsX7_does wsX7_adds := goodIn_r _ [104, 41, 42, 43, 6, 44, 45, 46, 47, 48, 49, 50, 51, 52, 53, 54, 55, 56, 57, 58, 59, 60, 17, 18, 19, 20, 21, 61, 62, 63, 64, 65, 66, 67, 68, 69, 70, 71, 72, 73, 105, 106, 107, 108, 74, 75, 76, 77, 78, 79, 80, 81, 82, 83, 84, 85, 109, 110, 111, 112, 113, 114, 115, 116, 117, 118, 119, 120, 121, 122, 123, 124, 125, 126, 127, 128] (by decide +kernel) (by decide +kernel)
set_option maxRecDepth 20000 in
theorem gX7_does_X7_adds : GoodIn wsX7_does (wsV RX7 119 RX7 yX7_adds wsX7_adds) := goodIn_app (goodIn_of _ (by decide +kernel)) ggX7_does_X7_adds
theorem dX7_does_0 : decode cX7_does 0 = .ok (.aload_n 0, 1) := by decide +kernel
theorem dX7_does_1 : decode cX7_does 1 = .ok (.getfield 34, 3) := by decide +kernel
theorem dX7_does_4 : decode cX7_does 4 = .ok (.iconst 0, 1) := by decide +kernel
theorem dX7_does_5 : decode cX7_does 5 = .ok (.iaload, 1) := by decide +kernel
theorem dX7_does_6 : decode cX7_does 6 = .ok (.istore_n 1, 1) := by decide +kernel
theorem dX7_does_7 : decode cX7_does 7 = .ok (.aload_n 0, 1) := by decide +kernel
theorem dX7_does_8 : decode cX7_does 8 = .ok (.getfield 34, 3) := by decide +kernel
theorem dX7_does_11 : decode cX7_does 11 = .ok (.iconst 1, 1) := by decide +kernel
theorem dX7_does_12 : decode cX7_does 12 = .ok (.iaload, 1) := by decide +kernel
theorem dX7_does_13 : decode cX7_does 13 = .ok (.istore_n 2, 1) := by decide +kernel
theorem dX7_does_14 : decode cX7_does 14 = .ok (.aload_n 0, 1) := by decide +kernel
theorem dX7_does_15 : decode cX7_does 15 = .ok (.getfield 34, 3) := by decide +kernel
theorem dX7_does_18 : decode cX7_does 18 = .ok (.iconst 2, 1) := by decide +kernel
theorem dX7_does_19 : decode cX7_does 19 = .ok (.iaload, 1) := by decide +kernel
theorem dX7_does_20 : decode cX7_does 20 = .ok (.istore_n 3, 1) := by decide +kernel
theorem dX7_does_21 : decode cX7_does 21 = .ok (.aload_n 0, 1) := by decide +kernel
theorem dX7_does_22 : decode cX7_does 22 = .ok (.getfield 269, 3) := by decide +kernel
theorem dX7_does_25 : decode cX7_does 25 = .ok (.iconst 1, 1) := by decide +kernel
theorem dX7_does_26 : decode cX7_does 26 = .ok (.if_icmp .ne 13, 3) := by decide +kernel
theorem dX7_does_29 : decode cX7_does 29 = .ok (.aload_n 0, 1) := by decide +kernel
theorem dX7_does_30 : decode cX7_does 30 = .ok (.iload_n 1, 1) := by decide +kernel
theorem dX7_does_31 : decode cX7_does 31 = .ok (.iload_n 2, 1) := by decide +kernel
theorem dX7_does_32 : decode cX7_does 32 = .ok (.iload_n 3, 1) := by decide +kernel
theorem dX7_does_33 : decode cX7_does 33 = .ok (.invokevirtual 112, 3) := by decide +kernel
theorem dX7_does_36 : decode cX7_does 36 = .ok (.goto 67, 3) := by decide +kernel
theorem dX7_does_39 : decode cX7_does 39 = .ok (.aload_n 0, 1) := by decide +kernel
theorem dX7_does_40 : decode cX7_does 40 = .ok (.getfield 269, 3) := by decide +kernel
theorem dX7_does_43 : decode cX7_does 43 = .ok (.iconst 2, 1) := by decide +kernel
theorem dX7_does_44 : decode cX7_does 44 = .ok (.if_icmp .ne 13, 3) := by decide +kernel
theorem dX7_does_47 : decode cX7_does 47 = .ok (.aload_n 0, 1) := by decide +kernel
theorem dX7_does_48 : decode cX7_does 48 = .ok (.iload_n 1, 1) := by decide +kernel
theorem dX7_does_49 : decode cX7_does 49 = .ok (.iload_n 2, 1) := by decide +kernel
theorem dX7_does_50 : decode cX7_does 50 = .ok (.iload_n 3, 1) := by decide +kernel
theorem dX7_does_51 : decode cX7_does 51 = .ok (.invokevirtual 122, 3) := by decide +kernel
theorem dX7_does_54 : decode cX7_does 54 = .ok (.goto 49, 3) := by decide +kernel
theorem dX7_does_57 : decode cX7_does 57 = .ok (.aload_n 0, 1) := by decide +kernel
theorem dX7_does_58 : decode cX7_does 58 = .ok (.getfield 269, 3) := by decide +kernel
theorem dX7_does_61 : decode cX7_does 61 = .ok (.iconst 3, 1) := by decide +kernel
theorem dX7_does_62 : decode cX7_does 62 = .ok (.if_icmp .ne 11, 3) := by decide +kernel
theorem dX7_does_65 : decode cX7_does 65 = .ok (.aload_n 0, 1) := by decide +kernel
theorem dX7_does_66 : decode cX7_does 66 = .ok (.iload_n 1, 1) := by decide +kernel
theorem dX7_does_67 : decode cX7_does 67 = .ok (.invokevirtual 125, 3) := by decide +kernel
theorem dX7_does_70 : decode cX7_does 70 = .ok (.goto 33, 3) := by decide +kernel
theorem dX7_does_73 : decode cX7_does 73 = .ok (.aload_n 0, 1) := by decide +kernel
theorem dX7_does_74 : decode cX7_does 74 = .ok (.getfield 269, 3) := by decide +kernel
theorem dX7_does_77 : decode cX7_does 77 = .ok (.iconst 4, 1) := by decide +kernel
theorem dX7_does_78 : decode cX7_does 78 = .ok (.if_icmp .ne 13, 3) := by decide +kernel
theorem dX7_does_81 : decode cX7_does 81 = .ok (.aload_n 0, 1) := by decide +kernel
theorem dX7_does_82 : decode cX7_does 82 = .ok (.iload_n 1, 1) := by decide +kernel
theorem dX7_does_83 : decode cX7_does 83 = .ok (.iload_n 2, 1) := by decide +kernel
theorem dX7_does_84 : decode cX7_does 84 = .ok (.iload_n 3, 1) := by decide +kernel
theorem dX7_does_85 : decode cX7_does 85 = .ok (.invokevirtual 134, 3) := by decide +kernel
theorem dX7_does_88 : decode cX7_does 88 = .ok (.goto 15, 3) := by decide +kernel
theorem dX7_does_91 : decode cX7_does 91 = .ok (.iload_n 1, 1) := by decide +kernel
theorem dX7_does_92 : decode cX7_does 92 = .ok (.invokestatic 144, 3) := by decide +kernel
theorem dX7_does_95 : decode cX7_does 95 = .ok (.ifCond .eq 7, 3) := by decide +kernel
theorem dX7_does_98 : decode cX7_does 98 = .ok (.iconst 0, 1) := by decide +kernel
theorem dX7_does_99 : decode cX7_does 99 = .ok (.goto 4, 3) := by decide +kernel
theorem dX7_does_102 : decode cX7_does 102 = .ok (.iconst 1, 1) := by decide +kernel
theorem dX7_does_103 : decode cX7_does 103 = .ok (.istore 4, 2) := by decide +kernel
theorem dX7_does_105 : decode cX7_does 105 = .ok (.iload 4, 2) := by decide +kernel
theorem dX7_does_107 : decode cX7_does 107 = .ok (.ifCond .le 5, 3) := by decide +kernel
theorem dX7_does_110 : decode cX7_does 110 = .ok (.iconst 0, 1) := by decide +kernel
theorem dX7_does_111 : decode cX7_does 111 = .ok (.ireturn, 1) := by decide +kernel
theorem dX7_does_112 : decode cX7_does 112 = .ok (.aload_n 0, 1) := by decide +kernel
theorem dX7_does_113 : decode cX7_does 113 = .ok (.getfield 269, 3) := by decide +kernel
theorem dX7_does_116 : decode cX7_does 116 = .ok (.iconst 3, 1) := by decide +kernel
theorem dX7_does_117 : decode cX7_does 117 = .ok (.if_icmp .ne 11, 3) := by decide +kernel
theorem dX7_does_120 : decode cX7_does 120 = .ok (.aload_n 0, 1) := by decide +kernel
theorem dX7_does_121 : decode cX7_does 121 = .ok (.iload_n 1, 1) := by decide +kernel
theorem dX7_does_122 : decode cX7_does 122 = .ok (.invokevirtual 128, 3) := by decide +kernel
theorem dX7_does_125 : decode cX7_does 125 = .ok (.goto 44, 3) := by decide +kernel
theorem dX7_does_128 : decode cX7_does 128 = .ok (.aload_n 0, 1) := by decide +kernel
theorem dX7_does_129 : decode cX7_does 129 = .ok (.getfield 269, 3) := by decide +kernel
theorem dX7_does_132 : decode cX7_does 132 = .ok (.iconst 4, 1) := by decide +kernel
theorem dX7_does_133 : decode cX7_does 133 = .ok (.if_icmp .ne 13, 3) := by decide +kernel
theorem dX7_does_136 : decode cX7_does 136 = .ok (.aload_n 0, 1) := by decide +kernel
theorem dX7_does_137 : decode cX7_does 137 = .ok (.iload_n 1, 1) := by decide +kernel
theorem dX7_does_138 : decode cX7_does 138 = .ok (.iload_n 2, 1) := by decide +kernel
theorem dX7_does_139 : decode cX7_does 139 = .ok (.iload_n 3, 1) := by decide +kernel
theorem dX7_does_140 : decode cX7_does 140 = .ok (.invokevirtual 137, 3) := by decide +kernel
theorem dX7_does_143 : decode cX7_does 143 = .ok (.goto 26, 3) := by decide +kernel
theorem dX7_does_146 : decode cX7_does 146 = .ok (.aload_n 0, 1) := by decide +kernel
theorem dX7_does_147 : decode cX7_does 147 = .ok (.getfield 269, 3) := by decide +kernel
theorem dX7_does_150 : decode cX7_does 150 = .ok (.iconst 5, 1) := by decide +kernel
theorem dX7_does_151 : decode cX7_does 151 = .ok (.if_icmp .ne 11, 3) := by decide +kernel
theorem dX7_does_154 : decode cX7_does 154 = .ok (.aload_n 0, 1) := by decide +kernel
theorem dX7_does_155 : decode cX7_does 155 = .ok (.iload_n 1, 1) := by decide +kernel
theorem dX7_does_156 : decode cX7_does 156 = .ok (.invokevirtual 147, 3) := by decide +kernel
theorem dX7_does_159 : decode cX7_does 159 = .ok (.goto 10, 3) := by decide +kernel
theorem dX7_does_162 : decode cX7_does 162 = .ok (.aload_n 0, 1) := by decide +kernel
theorem dX7_does_163 : decode cX7_does 163 = .ok (.iload_n 1, 1) := by decide +kernel
theorem dX7_does_164 : decode cX7_does 164 = .ok (.iload_n 2, 1) := by decide +kernel
theorem dX7_does_165 : decode cX7_does 165 = .ok (.iload_n 3, 1) := by decide +kernel
theorem dX7_does_166 : decode cX7_does 166 = .ok (.invokevirtual 119, 3) := by decide +kernel
theorem dX7_does_169 : decode cX7_does 169 = .ok (.istore 4, 2) := by decide +kernel
theorem dX7_does_171 : decode cX7_does 171 = .ok (.iload 4, 2) := by decide +kernel
theorem dX7_does_173 : decode cX7_does 173 = .ok (.ifCond .lt 7, 3) := by decide +kernel
theorem dX7_does_176 : decode cX7_does 176 = .ok (.iconst 1, 1) := by decide +kernel
theorem dX7_does_177 : decode cX7_does 177 = .ok (.goto 4, 3) := by decide +kernel
theorem dX7_does_180 : decode cX7_does 180 = .ok (.iconst 0, 1) := by decide +kernel
theorem dX7_does_181 : decode cX7_does 181 = .ok (.ireturn, 1) := by decide +kernel
set_option maxRecDepth 20000 in
theorem ggX7_run_X7_skips : GoodIn wsX7_run wsX7_skips := goodIn_r _ [8, 2, 9, 10, 11, 7, 12, 3, 13, 14, 15, 16, 143, 144, 145, 146, 147, 148, 149, 150, 151, 152, 153, 154, 155, 156, 157, 158, 159, 160, 161, 162] (by decide +kernel) (by decide +kernel)
set_option maxRecDepth 20000 in
theorem gX7_run_X7_skips : GoodIn wsX7_run (wsV RX7 262 RX7 yX7_skips wsX7_skips) := goodIn_app (goodIn_of _ (by decide +kernel)) ggX7_run_X7_skips
set_option maxRecDepth 20000 in
theorem ggX7_run_X7_reads : GoodIn wsX7_run wsX7_reads := goodIn_r _ [20, 2, 21, 9, 10, 11, 7, 12, 3, 13, 14, 15, 16, 22, 23, 24, 25, 26, 27, 28, 29, 30, 4, 5, 6, 8, 143, 144, 145, 146, 147, 148, 149, 150, 151, 152, 153, 154, 155, 156, 157, 158, 159, 160, 161, 162] (by decide +kernel) (by decide +kernel)
set_option maxRecDepth 20000 in
theorem gX7_run_X7_reads : GoodIn wsX7_run (wsV RX7 275 RX7 yX7_reads wsX7_reads) := goodIn_app (goodIn_of _ (by decide +kernel)) ggX7_run_X7_reads
set_option maxRecDepth 20000 in
theorem ggX7_run_X7_saves : GoodIn wsX7_run wsX7_saves := goodIn_r _ [34, 35, 36, 37, 143, 144, 145, 146, 147, 148, 149, 150, 151, 152, 153, 154, 155, 156, 157, 158, 159, 160, 161, 162] (by decide +kernel) (by decide +kernel)
set_option maxRecDepth 20000 in
theorem gX7_run_X7_saves : GoodIn wsX7_run (wsV RX7 116 RX7 yX7_saves wsX7_saves) := goodIn_app (goodIn_of _ (by decide +kernel)) ggX7_run_X7_saves
set_option maxRecDepth 20000 in
theorem ggX7_run_X7_does : GoodIn wsX7_run wsX7_does := goodIn_r _ [41, 30, 21, 42, 43, 44, 7, 45, 46, 47, 48, 14, 15, 16, 49, 50, 51, 52, 53, 54, 55, 37, 56, 57, 58, 59, 60, 61, 62, 63, 64, 65, 66, 67, 68, 69, 70, 71, 72, 73, 74, 75, 76, 77, 78, 79, 80, 81, 82, 83, 84, 85, 86, 87, 88, 89, 90, 91, 92, 93, 94, 95, 96, 97, 98, 99, 100, 101, 102, 103, 104, 105, 106, 107, 108, 109, 110, 111, 112, 113, 114, 115, 116, 117, 118, 119, 120, 121, 122, 123, 124, 125, 126, 127, 128, 129, 130, 131, 132, 133, 134, 135, 136, 137, 138, 139, 140, 141, 142, 143, 144, 145, 146, 147, 148, 149, 150, 151, 152, 153, 154, 155, 156, 157, 158, 159, 160, 161, 162] (by decide +kernel) (by decide +kernel)
set_option maxRecDepth 20000 in
theorem gX7_run_X7_does : GoodIn wsX7_run (wsV RX7 278 RX7 yX7_does wsX7_does) := goodIn_app (goodIn_of _ (by decide +kernel)) ggX7_run_X7_does
theorem dX7_run_0 : decode cX7_run 0 = .ok (.aload_n 0, 1) := by decide +kernel
theorem dX7_run_1 : decode cX7_run 1 = .ok (.iconst 0, 1) := by decide +kernel
theorem dX7_run_2 : decode cX7_run 2 = .ok (.putfield 37, 3) := by decide +kernel
theorem dX7_run_5 : decode cX7_run 5 = .ok (.aload_n 0, 1) := by decide +kernel
theorem dX7_run_6 : decode cX7_run 6 = .ok (.iconst 0, 1) := by decide +kernel
theorem dX7_run_7 : decode cX7_run 7 = .ok (.putfield 256, 3) := by decide +kernel
theorem dX7_run_10 : decode cX7_run 10 = .ok (.aload_n 0, 1) := by decide +kernel
theorem dX7_run_11 : decode cX7_run 11 = .ok (.invokevirtual 262, 3) := by decide +kernel
theorem dX7_run_14 : decode cX7_run 14 = .ok (.istore_n 1, 1) := by decide +kernel
theorem dX7_run_15 : decode cX7_run 15 = .ok (.aload_n 0, 1) := by decide +kernel
theorem dX7_run_16 : decode cX7_run 16 = .ok (.getfield 256, 3) := by decide +kernel
theorem dX7_run_19 : decode cX7_run 19 = .ok (.aload_n 0, 1) := by decide +kernel
theorem dX7_run_20 : decode cX7_run 20 = .ok (.getfield 253, 3) := by decide +kernel
theorem dX7_run_23 : decode cX7_run 23 = .ok (.if_icmp .ge 26, 3) := by decide +kernel
theorem dX7_run_26 : decode cX7_run 26 = .ok (.aload_n 0, 1) := by decide +kernel
theorem dX7_run_27 : decode cX7_run 27 = .ok (.invokevirtual 275, 3) := by decide +kernel
theorem dX7_run_30 : decode cX7_run 30 = .ok (.ifCond .ne 11, 3) := by decide +kernel
theorem dX7_run_33 : decode cX7_run 33 = .ok (.bipush (-10), 2) := by decide +kernel
theorem dX7_run_35 : decode cX7_run 35 = .ok (.aload_n 0, 1) := by decide +kernel
theorem dX7_run_36 : decode cX7_run 36 = .ok (.getfield 256, 3) := by decide +kernel
theorem dX7_run_39 : decode cX7_run 39 = .ok (.isub, 1) := by decide +kernel
theorem dX7_run_40 : decode cX7_run 40 = .ok (.ireturn, 1) := by decide +kernel
theorem dX7_run_41 : decode cX7_run 41 = .ok (.aload_n 0, 1) := by decide +kernel
theorem dX7_run_42 : decode cX7_run 42 = .ok (.invokevirtual 262, 3) := by decide +kernel
theorem dX7_run_45 : decode cX7_run 45 = .ok (.istore_n 1, 1) := by decide +kernel
theorem dX7_run_46 : decode cX7_run 46 = .ok (.goto (-31), 3) := by decide +kernel
theorem dX7_run_49 : decode cX7_run 49 = .ok (.aload_n 0, 1) := by decide +kernel
theorem dX7_run_50 : decode cX7_run 50 = .ok (.invokevirtual 116, 3) := by decide +kernel
theorem dX7_run_53 : decode cX7_run 53 = .ok (.aload_n 0, 1) := by decide +kernel
theorem dX7_run_54 : decode cX7_run 54 = .ok (.iconst 0, 1) := by decide +kernel
theorem dX7_run_55 : decode cX7_run 55 = .ok (.putfield 256, 3) := by decide +kernel
theorem dX7_run_58 : decode cX7_run 58 = .ok (.iconst 0, 1) := by decide +kernel
theorem dX7_run_59 : decode cX7_run 59 = .ok (.istore_n 2, 1) := by decide +kernel
theorem dX7_run_60 : decode cX7_run 60 = .ok (.iconst 1, 1) := by decide +kernel
theorem dX7_run_61 : decode cX7_run 61 = .ok (.istore_n 3, 1) := by decide +kernel
theorem dX7_run_62 : decode cX7_run 62 = .ok (.aload_n 0, 1) := by decide +kernel
theorem dX7_run_63 : decode cX7_run 63 = .ok (.invokevirtual 262, 3) := by decide +kernel
theorem dX7_run_66 : decode cX7_run 66 = .ok (.istore_n 1, 1) := by decide +kernel
theorem dX7_run_67 : decode cX7_run 67 = .ok (.aload_n 0, 1) := by decide +kernel
theorem dX7_run_68 : decode cX7_run 68 = .ok (.getfield 256, 3) := by decide +kernel
theorem dX7_run_71 : decode cX7_run 71 = .ok (.aload_n 0, 1) := by decide +kernel
theorem dX7_run_72 : decode cX7_run 72 = .ok (.getfield 253, 3) := by decide +kernel
theorem dX7_run_75 : decode cX7_run 75 = .ok (.if_icmp .ge 47, 3) := by decide +kernel
theorem dX7_run_78 : decode cX7_run 78 = .ok (.iload_n 3, 1) := by decide +kernel
theorem dX7_run_79 : decode cX7_run 79 = .ok (.ifCond .eq 43, 3) := by decide +kernel
theorem dX7_run_82 : decode cX7_run 82 = .ok (.aload_n 0, 1) := by decide +kernel
theorem dX7_run_83 : decode cX7_run 83 = .ok (.invokevirtual 275, 3) := by decide +kernel
theorem dX7_run_86 : decode cX7_run 86 = .ok (.ifCond .eq 14, 3) := by decide +kernel
theorem dX7_run_89 : decode cX7_run 89 = .ok (.aload_n 0, 1) := by decide +kernel
theorem dX7_run_90 : decode cX7_run 90 = .ok (.invokevirtual 278, 3) := by decide +kernel
theorem dX7_run_93 : decode cX7_run 93 = .ok (.ifCond .eq 7, 3) := by decide +kernel
theorem dX7_run_96 : decode cX7_run 96 = .ok (.iconst 1, 1) := by decide +kernel
theorem dX7_run_97 : decode cX7_run 97 = .ok (.goto 4, 3) := by decide +kernel
theorem dX7_run_100 : decode cX7_run 100 = .ok (.iconst 0, 1) := by decide +kernel
theorem dX7_run_101 : decode cX7_run 101 = .ok (.istore_n 3, 1) := by decide +kernel
theorem dX7_run_102 : decode cX7_run 102 = .ok (.iload_n 2, 1) := by decide +kernel
theorem dX7_run_103 : decode cX7_run 103 = .ok (.iload_n 3, 1) := by decide +kernel
theorem dX7_run_104 : decode cX7_run 104 = .ok (.ifCond .eq 7, 3) := by decide +kernel
theorem dX7_run_107 : decode cX7_run 107 = .ok (.iconst 1, 1) := by decide +kernel
theorem dX7_run_108 : decode cX7_run 108 = .ok (.goto 4, 3) := by decide +kernel
theorem dX7_run_111 : decode cX7_run 111 = .ok (.iconst 0, 1) := by decide +kernel
theorem dX7_run_112 : decode cX7_run 112 = .ok (.iadd, 1) := by decide +kernel
theorem dX7_run_113 : decode cX7_run 113 = .ok (.istore_n 2, 1) := by decide +kernel
theorem dX7_run_114 : decode cX7_run 114 = .ok (.aload_n 0, 1) := by decide +kernel
theorem dX7_run_115 : decode cX7_run 115 = .ok (.invokevirtual 262, 3) := by decide +kernel
theorem dX7_run_118 : decode cX7_run 118 = .ok (.istore_n 1, 1) := by decide +kernel
theorem dX7_run_119 : decode cX7_run 119 = .ok (.goto (-52), 3) := by decide +kernel
theorem dX7_run_122 : decode cX7_run 122 = .ok (.iload_n 2, 1) := by decide +kernel
theorem dX7_run_123 : decode cX7_run 123 = .ok (.ireturn, 1) := by decide +kernel
theorem dX7_time_0 : decode cX7_time 0 = .ok (.aload_n 0, 1) := by decide +kernel
theorem dX7_time_1 : decode cX7_time 1 = .ok (.iconst 0, 1) := by decide +kernel
theorem dX7_time_2 : decode cX7_time 2 = .ok (.putfield 37, 3) := by decide +kernel
theorem dX7_time_5 : decode cX7_time 5 = .ok (.aload_n 0, 1) := by decide +kernel
theorem dX7_time_6 : decode cX7_time 6 = .ok (.getfield 7, 3) := by decide +kernel
theorem dX7_time_9 : decode cX7_time 9 = .ok (.sipush 140, 3) := by decide +kernel
theorem dX7_time_12 : decode cX7_time 12 = .ok (.iaload, 1) := by decide +kernel
theorem dX7_time_13 : decode cX7_time 13 = .ok (.ireturn, 1) := by decide +kernel
theorem dX7_mix_0 : decode cX7_mix 0 = .ok (.aload_n 0, 1) := by decide +kernel
theorem dX7_mix_1 : decode cX7_mix 1 = .ok (.ldc2_w 281, 3) := by decide +kernel
theorem dX7_mix_4 : decode cX7_mix 4 = .ok (.aload_n 0, 1) := by decide +kernel
theorem dX7_mix_5 : decode cX7_mix 5 = .ok (.getfield 283, 3) := by decide +kernel
theorem dX7_mix_8 : decode cX7_mix 8 = .ok (.lmul, 1) := by decide +kernel
theorem dX7_mix_9 : decode cX7_mix 9 = .ok (.iload_n 1, 1) := by decide +kernel
theorem dX7_mix_10 : decode cX7_mix 10 = .ok (.i2l, 1) := by decide +kernel
theorem dX7_mix_11 : decode cX7_mix 11 = .ok (.ladd, 1) := by decide +kernel
theorem dX7_mix_12 : decode cX7_mix 12 = .ok (.putfield 283, 3) := by decide +kernel
theorem dX7_mix_15 : decode cX7_mix 15 = .ok (.return_, 1) := by decide +kernel
set_option maxRecDepth 20000 in
theorem ggX7_mixNodes_X7_tellNode : GoodIn wsX7_mixNodes wsX7_tellNode := goodIn_r _ [6, 7, 8, 9, 10, 5, 11, 12, 13, 14, 15, 16, 17, 18, 19, 20, 21, 22, 23, 24, 25, 26, 27, 28, 29, 30, 31, 32, 33, 34, 35, 36, 37, 38, 39, 40, 41, 42, 43, 44, 45, 46, 47, 48, 49, 50, 51, 52, 53, 54, 55, 56, 57, 58, 59, 60, 61, 62, 63, 64, 79, 80, 81, 82, 83, 84, 85, 86, 87, 88, 89, 90, 91, 92, 93, 94, 95, 96, 97, 98] (by decide +kernel) (by decide +kernel)
set_option maxRecDepth 20000 in
theorem gX7_mixNodes_X7_tellNode : GoodIn wsX7_mixNodes (wsV RX7 215 RX7 yX7_tellNode wsX7_tellNode) := goodIn_app (goodIn_of _ (by decide +kernel)) ggX7_mixNodes_X7_tellNode
set_option maxRecDepth 20000 in
theorem ggX7_mixNodes_X7_mix : GoodIn wsX7_mixNodes wsX7_mix := goodIn_r _ [68, 69, 70, 79, 80, 81, 82, 83, 84, 85, 86, 87, 88, 89, 90, 91, 92, 93, 94, 95, 96, 97, 98] (by decide +kernel) (by decide +kernel)
set_option maxRecDepth 20000 in
theorem gX7_mixNodes_X7_mix : GoodIn wsX7_mixNodes (wsV RX7 286 RX7 yX7_mix wsX7_mix) := goodIn_app (goodIn_of _ (by decide +kernel)) ggX7_mixNodes_X7_mix
set_option maxRecDepth 20000 in
theorem ggX7_mixNodes_X7_tellChild : GoodIn wsX7_mixNodes wsX7_tellChild := goodIn_r _ [74, 61, 8, 9, 10, 5, 11, 12, 57, 58, 59, 60, 7, 36, 37, 22, 23, 24, 13, 14, 15, 32, 33, 34, 35, 38, 39, 40, 41, 42, 43, 44, 45, 46, 47, 48, 49, 50, 51, 52, 53, 54, 55, 56, 62, 63, 64, 75, 76, 77, 78, 19, 20, 21, 16, 17, 18, 79, 80, 81, 82, 83, 84, 85, 86, 87, 88, 89, 90, 91, 92, 93, 94, 95, 96, 97, 98] (by decide +kernel) (by decide +kernel)
set_option maxRecDepth 20000 in
theorem gX7_mixNodes_X7_tellChild : GoodIn wsX7_mixNodes (wsV RX7 218 RX7 yX7_tellChild wsX7_tellChild) := goodIn_app (goodIn_of _ (by decide +kernel)) ggX7_mixNodes_X7_tellChild
theorem dX7_mixNodes_0 : decode cX7_mixNodes 0 = .ok (.iconst 0, 1) := by decide +kernel
theorem dX7_mixNodes_1 : decode cX7_mixNodes 1 = .ok (.istore_n 2, 1) := by decide +kernel
theorem dX7_mixNodes_2 : decode cX7_mixNodes 2 = .ok (.iload_n 2, 1) := by decide +kernel
theorem dX7_mixNodes_3 : decode cX7_mixNodes 3 = .ok (.aload_n 0, 1) := by decide +kernel
theorem dX7_mixNodes_4 : decode cX7_mixNodes 4 = .ok (.getfield 25, 3) := by decide +kernel
theorem dX7_mixNodes_7 : decode cX7_mixNodes 7 = .ok (.iload_n 1, 1) := by decide +kernel
theorem dX7_mixNodes_8 : decode cX7_mixNodes 8 = .ok (.iaload, 1) := by decide +kernel
theorem dX7_mixNodes_9 : decode cX7_mixNodes 9 = .ok (.if_icmp .ge 58, 3) := by decide +kernel
theorem dX7_mixNodes_12 : decode cX7_mixNodes 12 = .ok (.iconst 0, 1) := by decide +kernel
theorem dX7_mixNodes_13 : decode cX7_mixNodes 13 = .ok (.istore_n 3, 1) := by decide +kernel
theorem dX7_mixNodes_14 : decode cX7_mixNodes 14 = .ok (.iload_n 3, 1) := by decide +kernel
theorem dX7_mixNodes_15 : decode cX7_mixNodes 15 = .ok (.bipush 6, 2) := by decide +kernel
theorem dX7_mixNodes_17 : decode cX7_mixNodes 17 = .ok (.if_icmp .ge 20, 3) := by decide +kernel
theorem dX7_mixNodes_20 : decode cX7_mixNodes 20 = .ok (.aload_n 0, 1) := by decide +kernel
theorem dX7_mixNodes_21 : decode cX7_mixNodes 21 = .ok (.aload_n 0, 1) := by decide +kernel
theorem dX7_mixNodes_22 : decode cX7_mixNodes 22 = .ok (.iload_n 1, 1) := by decide +kernel
theorem dX7_mixNodes_23 : decode cX7_mixNodes 23 = .ok (.iload_n 2, 1) := by decide +kernel
theorem dX7_mixNodes_24 : decode cX7_mixNodes 24 = .ok (.iload_n 3, 1) := by decide +kernel
theorem dX7_mixNodes_25 : decode cX7_mixNodes 25 = .ok (.invokevirtual 215, 3) := by decide +kernel
theorem dX7_mixNodes_28 : decode cX7_mixNodes 28 = .ok (.invokevirtual 286, 3) := by decide +kernel
theorem dX7_mixNodes_31 : decode cX7_mixNodes 31 = .ok (.iinc 3 1, 3) := by decide +kernel
theorem dX7_mixNodes_34 : decode cX7_mixNodes 34 = .ok (.goto (-20), 3) := by decide +kernel
theorem dX7_mixNodes_37 : decode cX7_mixNodes 37 = .ok (.iconst 0, 1) := by decide +kernel
theorem dX7_mixNodes_38 : decode cX7_mixNodes 38 = .ok (.istore_n 3, 1) := by decide +kernel
theorem dX7_mixNodes_39 : decode cX7_mixNodes 39 = .ok (.iload_n 3, 1) := by decide +kernel
theorem dX7_mixNodes_40 : decode cX7_mixNodes 40 = .ok (.iconst 4, 1) := by decide +kernel
theorem dX7_mixNodes_41 : decode cX7_mixNodes 41 = .ok (.if_icmp .ge 20, 3) := by decide +kernel
theorem dX7_mixNodes_44 : decode cX7_mixNodes 44 = .ok (.aload_n 0, 1) := by decide +kernel
theorem dX7_mixNodes_45 : decode cX7_mixNodes 45 = .ok (.aload_n 0, 1) := by decide +kernel
theorem dX7_mixNodes_46 : decode cX7_mixNodes 46 = .ok (.iload_n 1, 1) := by decide +kernel
theorem dX7_mixNodes_47 : decode cX7_mixNodes 47 = .ok (.iload_n 2, 1) := by decide +kernel
theorem dX7_mixNodes_48 : decode cX7_mixNodes 48 = .ok (.iload_n 3, 1) := by decide +kernel
theorem dX7_mixNodes_49 : decode cX7_mixNodes 49 = .ok (.invokevirtual 218, 3) := by decide +kernel
theorem dX7_mixNodes_52 : decode cX7_mixNodes 52 = .ok (.invokevirtual 286, 3) := by decide +kernel
theorem dX7_mixNodes_55 : decode cX7_mixNodes 55 = .ok (.iinc 3 1, 3) := by decide +kernel
theorem dX7_mixNodes_58 : decode cX7_mixNodes 58 = .ok (.goto (-19), 3) := by decide +kernel
theorem dX7_mixNodes_61 : decode cX7_mixNodes 61 = .ok (.iinc 2 1, 3) := by decide +kernel
theorem dX7_mixNodes_64 : decode cX7_mixNodes 64 = .ok (.goto (-62), 3) := by decide +kernel
theorem dX7_mixNodes_67 : decode cX7_mixNodes 67 = .ok (.return_, 1) := by decide +kernel
set_option maxRecDepth 20000 in
theorem ggX7_digest_X7_lays : GoodIn wsX7_digest wsX7_lays := goodIn_r _ [11, 12, 13, 14, 15, 10, 16, 17, 18, 19, 20, 21, 22, 23, 24, 25, 6, 26, 27, 28, 29, 30, 31, 32, 33, 34, 35, 36, 37, 38, 142, 143, 144, 145, 146, 147, 148, 149, 150, 151, 152, 153, 154, 155, 156, 157, 158, 159, 160, 161] (by decide +kernel) (by decide +kernel)
set_option maxRecDepth 20000 in
theorem gX7_digest_X7_lays : GoodIn wsX7_digest (wsV RX7 89 RX7 yX7_lays wsX7_lays) := goodIn_app (goodIn_of _ (by decide +kernel)) ggX7_digest_X7_lays
set_option maxRecDepth 20000 in
theorem ggX7_digest_X7_mix : GoodIn wsX7_digest wsX7_mix := goodIn_r _ [42, 43, 3, 142, 143, 144, 145, 146, 147, 148, 149, 150, 151, 152, 153, 154, 155, 156, 157, 158, 159, 160, 161] (by decide +kernel) (by decide +kernel)
set_option maxRecDepth 20000 in
theorem gX7_digest_X7_mix : GoodIn wsX7_digest (wsV RX7 286 RX7 yX7_mix wsX7_mix) := goodIn_app (goodIn_of _ (by decide +kernel)) ggX7_digest_X7_mix
set_option maxRecDepth 20000 in
theorem ggX7_digest_X7_tellPoint : GoodIn wsX7_digest wsX7_tellPoint := goodIn_r _ [47, 6, 26, 27, 10, 28, 142, 143, 144, 145, 146, 147, 148, 149, 150, 151, 152, 153, 154, 155, 156, 157, 158, 159, 160, 161] (by decide +kernel) (by decide +kernel)
set_option maxRecDepth 20000 in
theorem gX7_digest_X7_tellPoint : GoodIn wsX7_digest (wsV RX7 169 RX7 yX7_tellPoint wsX7_tellPoint) := goodIn_app (goodIn_of _ (by decide +kernel)) ggX7_digest_X7_tellPoint
set_option maxRecDepth 20000 in
theorem ggX7_digest_X7_tellLevel : GoodIn wsX7_digest wsX7_tellLevel := goodIn_r _ [51, 12, 52, 53, 54, 55, 10, 56, 18, 19, 20, 21, 22, 23, 24, 25, 6, 26, 27, 28, 57, 58, 59, 60, 61, 62, 63, 64, 17, 65, 66, 67, 68, 69, 70, 71, 72, 73, 74, 75, 76, 77, 78, 79, 80, 81, 82, 83, 84, 29, 30, 31, 32, 33, 34, 35, 36, 37, 38, 85, 86, 87, 88, 142, 143, 144, 145, 146, 147, 148, 149, 150, 151, 152, 153, 154, 155, 156, 157, 158, 159, 160, 161] (by decide +kernel) (by decide +kernel)
set_option maxRecDepth 20000 in
theorem gX7_digest_X7_tellLevel : GoodIn wsX7_digest (wsV RX7 209 RX7 yX7_tellLevel wsX7_tellLevel) := goodIn_app (goodIn_of _ (by decide +kernel)) ggX7_digest_X7_tellLevel
set_option maxRecDepth 20000 in
theorem ggX7_digest_X7_mixNodes : GoodIn wsX7_digest wsX7_mixNodes := goodIn_r _ [92, 12, 93, 94, 95, 10, 96, 78, 61, 62, 63, 64, 17, 65, 66, 67, 97, 98, 99, 100, 101, 102, 71, 72, 73, 57, 58, 59, 60, 68, 69, 70, 81, 82, 83, 84, 79, 80, 29, 30, 31, 32, 6, 33, 34, 35, 18, 19, 20, 21, 22, 23, 24, 25, 26, 27, 28, 74, 75, 76, 77, 52, 36, 37, 38, 39, 40, 41, 42, 43, 3, 103, 104, 105, 106, 107, 108, 109, 110, 142, 143, 144, 145, 146, 147, 148, 149, 150, 151, 152, 153, 154, 155, 156, 157, 158, 159, 160, 161] (by decide +kernel) (by decide +kernel)
set_option maxRecDepth 20000 in
theorem gX7_digest_X7_mixNodes : GoodIn wsX7_digest (wsV RX7 291 RX7 yX7_mixNodes wsX7_mixNodes) := goodIn_app (goodIn_of _ (by decide +kernel)) ggX7_digest_X7_mixNodes
set_option maxRecDepth 20000 in
theorem ggX7_digest_X7_most : GoodIn wsX7_digest wsX7_most := goodIn_r _ [114, 115, 22, 23, 24, 10, 25, 6, 29, 30, 31, 32, 33, 34, 35, 116, 117, 118, 119, 52, 53, 54, 55, 56, 18, 19, 20, 21, 26, 27, 28, 71, 72, 73, 74, 75, 76, 77, 78, 79, 80, 65, 66, 67, 81, 82, 83, 84, 36, 37, 38, 68, 69, 70, 142, 143, 144, 145, 146, 147, 148, 149, 150, 151, 152, 153, 154, 155, 156, 157, 158, 159, 160, 161] (by decide +kernel) (by decide +kernel)
set_option maxRecDepth 20000 in
theorem gX7_digest_X7_most : GoodIn wsX7_digest (wsV RX7 228 RX7 yX7_most wsX7_most) := goodIn_app (goodIn_of _ (by decide +kernel)) ggX7_digest_X7_most
set_option maxRecDepth 20000 in
theorem ggX7_digest_X7_tellCursor : GoodIn wsX7_digest wsX7_tellCursor := goodIn_r _ [123, 6, 12, 124, 125, 126, 10, 127, 128, 129, 130, 131, 22, 23, 24, 25, 61, 62, 63, 64, 17, 132, 133, 134, 71, 72, 73, 65, 66, 67, 97, 98, 99, 100, 101, 102, 135, 136, 137, 142, 143, 144, 145, 146, 147, 148, 149, 150, 151, 152, 153, 154, 155, 156, 157, 158, 159, 160, 161] (by decide +kernel) (by decide +kernel)
set_option maxRecDepth 20000 in
theorem gX7_digest_X7_tellCursor : GoodIn wsX7_digest (wsV RX7 247 RX7 yX7_tellCursor wsX7_tellCursor) := goodIn_app (goodIn_of _ (by decide +kernel)) ggX7_digest_X7_tellCursor
set_option maxRecDepth 20000 in
theorem ggX7_digest_X7_tellClosest : GoodIn wsX7_digest wsX7_tellClosest := goodIn_r _ [141, 6, 128, 129, 130, 10, 131, 22, 23, 24, 25, 142, 143, 144, 145, 146, 147, 148, 149, 150, 151, 152, 153, 154, 155, 156, 157, 158, 159, 160, 161] (by decide +kernel) (by decide +kernel)
set_option maxRecDepth 20000 in
theorem gX7_digest_X7_tellClosest : GoodIn wsX7_digest (wsV RX7 250 RX7 yX7_tellClosest wsX7_tellClosest) := goodIn_app (goodIn_of _ (by decide +kernel)) ggX7_digest_X7_tellClosest
theorem dX7_digest_0 : decode cX7_digest 0 = .ok (.aload_n 0, 1) := by decide +kernel
theorem dX7_digest_1 : decode cX7_digest 1 = .ok (.iconst 0, 1) := by decide +kernel
theorem dX7_digest_2 : decode cX7_digest 2 = .ok (.putfield 37, 3) := by decide +kernel
theorem dX7_digest_5 : decode cX7_digest 5 = .ok (.aload_n 0, 1) := by decide +kernel
theorem dX7_digest_6 : decode cX7_digest 6 = .ok (.invokevirtual 89, 3) := by decide +kernel
theorem dX7_digest_9 : decode cX7_digest 9 = .ok (.aload_n 0, 1) := by decide +kernel
theorem dX7_digest_10 : decode cX7_digest 10 = .ok (.ldc2_w 289, 3) := by decide +kernel
theorem dX7_digest_13 : decode cX7_digest 13 = .ok (.putfield 283, 3) := by decide +kernel
theorem dX7_digest_16 : decode cX7_digest 16 = .ok (.aload_n 0, 1) := by decide +kernel
theorem dX7_digest_17 : decode cX7_digest 17 = .ok (.aload_n 0, 1) := by decide +kernel
theorem dX7_digest_18 : decode cX7_digest 18 = .ok (.getfield 53, 3) := by decide +kernel
theorem dX7_digest_21 : decode cX7_digest 21 = .ok (.invokevirtual 286, 3) := by decide +kernel
theorem dX7_digest_24 : decode cX7_digest 24 = .ok (.aload_n 0, 1) := by decide +kernel
theorem dX7_digest_25 : decode cX7_digest 25 = .ok (.aload_n 0, 1) := by decide +kernel
theorem dX7_digest_26 : decode cX7_digest 26 = .ok (.getfield 253, 3) := by decide +kernel
theorem dX7_digest_29 : decode cX7_digest 29 = .ok (.invokevirtual 286, 3) := by decide +kernel
theorem dX7_digest_32 : decode cX7_digest 32 = .ok (.aload_n 0, 1) := by decide +kernel
theorem dX7_digest_33 : decode cX7_digest 33 = .ok (.aload_n 0, 1) := by decide +kernel
theorem dX7_digest_34 : decode cX7_digest 34 = .ok (.getfield 7, 3) := by decide +kernel
theorem dX7_digest_37 : decode cX7_digest 37 = .ok (.sipush 140, 3) := by decide +kernel
theorem dX7_digest_40 : decode cX7_digest 40 = .ok (.iaload, 1) := by decide +kernel
theorem dX7_digest_41 : decode cX7_digest 41 = .ok (.invokevirtual 286, 3) := by decide +kernel
theorem dX7_digest_44 : decode cX7_digest 44 = .ok (.iconst 0, 1) := by decide +kernel
theorem dX7_digest_45 : decode cX7_digest 45 = .ok (.istore_n 1, 1) := by decide +kernel
theorem dX7_digest_46 : decode cX7_digest 46 = .ok (.iload_n 1, 1) := by decide +kernel
theorem dX7_digest_47 : decode cX7_digest 47 = .ok (.bipush 24, 2) := by decide +kernel
theorem dX7_digest_49 : decode cX7_digest 49 = .ok (.if_icmp .ge 33, 3) := by decide +kernel
theorem dX7_digest_52 : decode cX7_digest 52 = .ok (.iconst 0, 1) := by decide +kernel
theorem dX7_digest_53 : decode cX7_digest 53 = .ok (.istore_n 2, 1) := by decide +kernel
theorem dX7_digest_54 : decode cX7_digest 54 = .ok (.iload_n 2, 1) := by decide +kernel
theorem dX7_digest_55 : decode cX7_digest 55 = .ok (.bipush 6, 2) := by decide +kernel
theorem dX7_digest_57 : decode cX7_digest 57 = .ok (.if_icmp .ge 19, 3) := by decide +kernel
theorem dX7_digest_60 : decode cX7_digest 60 = .ok (.aload_n 0, 1) := by decide +kernel
theorem dX7_digest_61 : decode cX7_digest 61 = .ok (.aload_n 0, 1) := by decide +kernel
theorem dX7_digest_62 : decode cX7_digest 62 = .ok (.iload_n 1, 1) := by decide +kernel
theorem dX7_digest_63 : decode cX7_digest 63 = .ok (.iload_n 2, 1) := by decide +kernel
theorem dX7_digest_64 : decode cX7_digest 64 = .ok (.invokevirtual 169, 3) := by decide +kernel
theorem dX7_digest_67 : decode cX7_digest 67 = .ok (.invokevirtual 286, 3) := by decide +kernel
theorem dX7_digest_70 : decode cX7_digest 70 = .ok (.iinc 2 1, 3) := by decide +kernel
theorem dX7_digest_73 : decode cX7_digest 73 = .ok (.goto (-19), 3) := by decide +kernel
theorem dX7_digest_76 : decode cX7_digest 76 = .ok (.iinc 1 1, 3) := by decide +kernel
theorem dX7_digest_79 : decode cX7_digest 79 = .ok (.goto (-33), 3) := by decide +kernel
theorem dX7_digest_82 : decode cX7_digest 82 = .ok (.iconst 0, 1) := by decide +kernel
theorem dX7_digest_83 : decode cX7_digest 83 = .ok (.istore_n 1, 1) := by decide +kernel
theorem dX7_digest_84 : decode cX7_digest 84 = .ok (.iload_n 1, 1) := by decide +kernel
theorem dX7_digest_85 : decode cX7_digest 85 = .ok (.iconst 5, 1) := by decide +kernel
theorem dX7_digest_86 : decode cX7_digest 86 = .ok (.if_icmp .ge 37, 3) := by decide +kernel
theorem dX7_digest_89 : decode cX7_digest 89 = .ok (.iconst 0, 1) := by decide +kernel
theorem dX7_digest_90 : decode cX7_digest 90 = .ok (.istore_n 2, 1) := by decide +kernel
theorem dX7_digest_91 : decode cX7_digest 91 = .ok (.iload_n 2, 1) := by decide +kernel
theorem dX7_digest_92 : decode cX7_digest 92 = .ok (.iconst 5, 1) := by decide +kernel
theorem dX7_digest_93 : decode cX7_digest 93 = .ok (.if_icmp .ge 19, 3) := by decide +kernel
theorem dX7_digest_96 : decode cX7_digest 96 = .ok (.aload_n 0, 1) := by decide +kernel
theorem dX7_digest_97 : decode cX7_digest 97 = .ok (.aload_n 0, 1) := by decide +kernel
theorem dX7_digest_98 : decode cX7_digest 98 = .ok (.iload_n 1, 1) := by decide +kernel
theorem dX7_digest_99 : decode cX7_digest 99 = .ok (.iload_n 2, 1) := by decide +kernel
theorem dX7_digest_100 : decode cX7_digest 100 = .ok (.invokevirtual 209, 3) := by decide +kernel
theorem dX7_digest_103 : decode cX7_digest 103 = .ok (.invokevirtual 286, 3) := by decide +kernel
theorem dX7_digest_106 : decode cX7_digest 106 = .ok (.iinc 2 1, 3) := by decide +kernel
theorem dX7_digest_109 : decode cX7_digest 109 = .ok (.goto (-18), 3) := by decide +kernel
theorem dX7_digest_112 : decode cX7_digest 112 = .ok (.aload_n 0, 1) := by decide +kernel
theorem dX7_digest_113 : decode cX7_digest 113 = .ok (.iload_n 1, 1) := by decide +kernel
theorem dX7_digest_114 : decode cX7_digest 114 = .ok (.invokevirtual 291, 3) := by decide +kernel
theorem dX7_digest_117 : decode cX7_digest 117 = .ok (.iinc 1 1, 3) := by decide +kernel
theorem dX7_digest_120 : decode cX7_digest 120 = .ok (.goto (-36), 3) := by decide +kernel
theorem dX7_digest_123 : decode cX7_digest 123 = .ok (.aload_n 0, 1) := by decide +kernel
theorem dX7_digest_124 : decode cX7_digest 124 = .ok (.aload_n 0, 1) := by decide +kernel
theorem dX7_digest_125 : decode cX7_digest 125 = .ok (.iconst 1, 1) := by decide +kernel
theorem dX7_digest_126 : decode cX7_digest 126 = .ok (.invokevirtual 228, 3) := by decide +kernel
theorem dX7_digest_129 : decode cX7_digest 129 = .ok (.invokevirtual 286, 3) := by decide +kernel
theorem dX7_digest_132 : decode cX7_digest 132 = .ok (.aload_n 0, 1) := by decide +kernel
theorem dX7_digest_133 : decode cX7_digest 133 = .ok (.aload_n 0, 1) := by decide +kernel
theorem dX7_digest_134 : decode cX7_digest 134 = .ok (.iconst 0, 1) := by decide +kernel
theorem dX7_digest_135 : decode cX7_digest 135 = .ok (.invokevirtual 228, 3) := by decide +kernel
theorem dX7_digest_138 : decode cX7_digest 138 = .ok (.invokevirtual 286, 3) := by decide +kernel
theorem dX7_digest_141 : decode cX7_digest 141 = .ok (.iconst 0, 1) := by decide +kernel
theorem dX7_digest_142 : decode cX7_digest 142 = .ok (.istore_n 1, 1) := by decide +kernel
theorem dX7_digest_143 : decode cX7_digest 143 = .ok (.iload_n 1, 1) := by decide +kernel
theorem dX7_digest_144 : decode cX7_digest 144 = .ok (.iconst 4, 1) := by decide +kernel
theorem dX7_digest_145 : decode cX7_digest 145 = .ok (.if_icmp .ge 33, 3) := by decide +kernel
theorem dX7_digest_148 : decode cX7_digest 148 = .ok (.iconst 0, 1) := by decide +kernel
theorem dX7_digest_149 : decode cX7_digest 149 = .ok (.istore_n 2, 1) := by decide +kernel
theorem dX7_digest_150 : decode cX7_digest 150 = .ok (.iload_n 2, 1) := by decide +kernel
theorem dX7_digest_151 : decode cX7_digest 151 = .ok (.bipush 6, 2) := by decide +kernel
theorem dX7_digest_153 : decode cX7_digest 153 = .ok (.if_icmp .ge 19, 3) := by decide +kernel
theorem dX7_digest_156 : decode cX7_digest 156 = .ok (.aload_n 0, 1) := by decide +kernel
theorem dX7_digest_157 : decode cX7_digest 157 = .ok (.aload_n 0, 1) := by decide +kernel
theorem dX7_digest_158 : decode cX7_digest 158 = .ok (.iload_n 1, 1) := by decide +kernel
theorem dX7_digest_159 : decode cX7_digest 159 = .ok (.iload_n 2, 1) := by decide +kernel
theorem dX7_digest_160 : decode cX7_digest 160 = .ok (.invokevirtual 247, 3) := by decide +kernel
theorem dX7_digest_163 : decode cX7_digest 163 = .ok (.invokevirtual 286, 3) := by decide +kernel
theorem dX7_digest_166 : decode cX7_digest 166 = .ok (.iinc 2 1, 3) := by decide +kernel
theorem dX7_digest_169 : decode cX7_digest 169 = .ok (.goto (-19), 3) := by decide +kernel
theorem dX7_digest_172 : decode cX7_digest 172 = .ok (.iinc 1 1, 3) := by decide +kernel
theorem dX7_digest_175 : decode cX7_digest 175 = .ok (.goto (-32), 3) := by decide +kernel
theorem dX7_digest_178 : decode cX7_digest 178 = .ok (.iconst 0, 1) := by decide +kernel
theorem dX7_digest_179 : decode cX7_digest 179 = .ok (.istore_n 1, 1) := by decide +kernel
theorem dX7_digest_180 : decode cX7_digest 180 = .ok (.iload_n 1, 1) := by decide +kernel
theorem dX7_digest_181 : decode cX7_digest 181 = .ok (.iconst 3, 1) := by decide +kernel
theorem dX7_digest_182 : decode cX7_digest 182 = .ok (.if_icmp .ge 18, 3) := by decide +kernel
theorem dX7_digest_185 : decode cX7_digest 185 = .ok (.aload_n 0, 1) := by decide +kernel
theorem dX7_digest_186 : decode cX7_digest 186 = .ok (.aload_n 0, 1) := by decide +kernel
theorem dX7_digest_187 : decode cX7_digest 187 = .ok (.iload_n 1, 1) := by decide +kernel
theorem dX7_digest_188 : decode cX7_digest 188 = .ok (.invokevirtual 250, 3) := by decide +kernel
theorem dX7_digest_191 : decode cX7_digest 191 = .ok (.invokevirtual 286, 3) := by decide +kernel
theorem dX7_digest_194 : decode cX7_digest 194 = .ok (.iinc 1 1, 3) := by decide +kernel
theorem dX7_digest_197 : decode cX7_digest 197 = .ok (.goto (-17), 3) := by decide +kernel
theorem dX7_digest_200 : decode cX7_digest 200 = .ok (.aload_n 0, 1) := by decide +kernel
theorem dX7_digest_201 : decode cX7_digest 201 = .ok (.getfield 283, 3) := by decide +kernel
theorem dX7_digest_204 : decode cX7_digest 204 = .ok (.lreturn, 1) := by decide +kernel
