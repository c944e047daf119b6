set_option maxRecDepth 20000 in
theorem ggX7_tellLevel_X7_pointsOn : GoodIn wsX7_tellLevel wsX7_pointsOn := goodIn_r _ [7, 8, 9, 10, 6, 11, 12, 13, 14, 15, 16, 17, 18, 19, 63, 64, 65, 66, 67, 68, 69, 70, 71, 72, 73, 74, 75, 76, 77, 78, 79, 80, 81, 82] (by decide +kernel) (by decide +kernel)
set_option maxRecDepth 20000 in
theorem gX7_tellLevel_X7_pointsOn : GoodIn wsX7_tellLevel (wsV RX7 197 RX7 yX7_pointsOn wsX7_pointsOn) := goodIn_app (goodIn_of _ (by decide +kernel)) ggX7_tellLevel_X7_pointsOn
set_option maxRecDepth 20000 in
theorem ggX7_tellLevel_X7_depthOf : GoodIn wsX7_tellLevel wsX7_depthOf := goodIn_r _ [23, 24, 25, 26, 6, 27, 28, 29, 30, 31, 32, 33, 34, 35, 36, 37, 63, 64, 65, 66, 67, 68, 69, 70, 71, 72, 73, 74, 75, 76, 77, 78, 79, 80, 81, 82] (by decide +kernel) (by decide +kernel)
set_option maxRecDepth 20000 in
theorem gX7_tellLevel_X7_depthOf : GoodIn wsX7_tellLevel (wsV RX7 200 RX7 yX7_depthOf wsX7_depthOf) := goodIn_app (goodIn_of _ (by decide +kernel)) ggX7_tellLevel_X7_depthOf
set_option maxRecDepth 20000 in
theorem ggX7_tellLevel_X7_nodeAt : GoodIn wsX7_tellLevel wsX7_nodeAt := goodIn_r _ [27, 28, 63, 64, 65, 66, 67, 68, 69, 70, 71, 72, 73, 74, 75, 76, 77, 78, 79, 80, 81, 82] (by decide +kernel) (by decide +kernel)
set_option maxRecDepth 20000 in
theorem gX7_tellLevel_X7_nodeAt : GoodIn wsX7_tellLevel (wsV RX7 86 RX7 yX7_nodeAt wsX7_nodeAt) := goodIn_app (goodIn_of _ (by decide +kernel)) ggX7_tellLevel_X7_nodeAt
set_option maxRecDepth 20000 in
theorem ggX7_tellLevel_X7_childOf : GoodIn wsX7_tellLevel wsX7_childOf := goodIn_r _ [41, 42, 43, 44, 2, 35, 36, 6, 37, 29, 30, 31, 45, 46, 47, 48, 49, 50, 51, 52, 16, 53, 54, 55, 8, 9, 10, 11, 12, 13, 14, 15, 17, 18, 19, 56, 57, 58, 63, 64, 65, 66, 67, 68, 69, 70, 71, 72, 73, 74, 75, 76, 77, 78, 79, 80, 81, 82] (by decide +kernel) (by decide +kernel)
set_option maxRecDepth 20000 in
theorem gX7_tellLevel_X7_childOf : GoodIn wsX7_tellLevel (wsV RX7 188 RX7 yX7_childOf wsX7_childOf) := goodIn_app (goodIn_of _ (by decide +kernel)) ggX7_tellLevel_X7_childOf
set_option maxRecDepth 20000 in
theorem ggX7_tellLevel_X7_different : GoodIn wsX7_tellLevel wsX7_different := goodIn_r _ [62, 8, 9, 10, 6, 11, 12, 13, 14, 15, 16, 17, 18, 19, 49, 50, 51, 52, 53, 54, 55, 63, 64, 65, 66, 67, 68, 69, 70, 71, 72, 73, 74, 75, 76, 77, 78, 79, 80, 81, 82] (by decide +kernel) (by decide +kernel)
set_option maxRecDepth 20000 in
theorem gX7_tellLevel_X7_different : GoodIn wsX7_tellLevel (wsV RX7 203 RX7 yX7_different wsX7_different) := goodIn_app (goodIn_of _ (by decide +kernel)) ggX7_tellLevel_X7_different
theorem dX7_tellLevel_0 : decode cX7_tellLevel 0 = .ok (.iconst 0, 1) := by decide +kernel
theorem dX7_tellLevel_1 : decode cX7_tellLevel 1 = .ok (.istore_n 3, 1) := by decide +kernel
theorem dX7_tellLevel_2 : decode cX7_tellLevel 2 = .ok (.iload_n 2, 1) := by decide +kernel
theorem dX7_tellLevel_3 : decode cX7_tellLevel 3 = .ok (.tableswitch 142 0 3 #[29, 35, 42, 87], 29) := by decide +kernel
theorem dX7_tellLevel_32 : decode cX7_tellLevel 32 = .ok (.aload_n 0, 1) := by decide +kernel
theorem dX7_tellLevel_33 : decode cX7_tellLevel 33 = .ok (.iload_n 1, 1) := by decide +kernel
theorem dX7_tellLevel_34 : decode cX7_tellLevel 34 = .ok (.invokevirtual 197, 3) := by decide +kernel
theorem dX7_tellLevel_37 : decode cX7_tellLevel 37 = .ok (.ireturn, 1) := by decide +kernel
theorem dX7_tellLevel_38 : decode cX7_tellLevel 38 = .ok (.aload_n 0, 1) := by decide +kernel
theorem dX7_tellLevel_39 : decode cX7_tellLevel 39 = .ok (.getfield 25, 3) := by decide +kernel
theorem dX7_tellLevel_42 : decode cX7_tellLevel 42 = .ok (.iload_n 1, 1) := by decide +kernel
theorem dX7_tellLevel_43 : decode cX7_tellLevel 43 = .ok (.iaload, 1) := by decide +kernel
theorem dX7_tellLevel_44 : decode cX7_tellLevel 44 = .ok (.ireturn, 1) := by decide +kernel
theorem dX7_tellLevel_45 : decode cX7_tellLevel 45 = .ok (.iconst 0, 1) := by decide +kernel
theorem dX7_tellLevel_46 : decode cX7_tellLevel 46 = .ok (.istore 4, 2) := by decide +kernel
theorem dX7_tellLevel_48 : decode cX7_tellLevel 48 = .ok (.iload 4, 2) := by decide +kernel
theorem dX7_tellLevel_50 : decode cX7_tellLevel 50 = .ok (.aload_n 0, 1) := by decide +kernel
theorem dX7_tellLevel_51 : decode cX7_tellLevel 51 = .ok (.getfield 25, 3) := by decide +kernel
theorem dX7_tellLevel_54 : decode cX7_tellLevel 54 = .ok (.iload_n 1, 1) := by decide +kernel
theorem dX7_tellLevel_55 : decode cX7_tellLevel 55 = .ok (.iaload, 1) := by decide +kernel
theorem dX7_tellLevel_56 : decode cX7_tellLevel 56 = .ok (.if_icmp .ge 32, 3) := by decide +kernel
theorem dX7_tellLevel_59 : decode cX7_tellLevel 59 = .ok (.aload_n 0, 1) := by decide +kernel
theorem dX7_tellLevel_60 : decode cX7_tellLevel 60 = .ok (.iload_n 1, 1) := by decide +kernel
theorem dX7_tellLevel_61 : decode cX7_tellLevel 61 = .ok (.iload 4, 2) := by decide +kernel
theorem dX7_tellLevel_63 : decode cX7_tellLevel 63 = .ok (.invokevirtual 200, 3) := by decide +kernel
theorem dX7_tellLevel_66 : decode cX7_tellLevel 66 = .ok (.iload_n 3, 1) := by decide +kernel
theorem dX7_tellLevel_67 : decode cX7_tellLevel 67 = .ok (.if_icmp .le 13, 3) := by decide +kernel
theorem dX7_tellLevel_70 : decode cX7_tellLevel 70 = .ok (.aload_n 0, 1) := by decide +kernel
theorem dX7_tellLevel_71 : decode cX7_tellLevel 71 = .ok (.iload_n 1, 1) := by decide +kernel
theorem dX7_tellLevel_72 : decode cX7_tellLevel 72 = .ok (.iload 4, 2) := by decide +kernel
theorem dX7_tellLevel_74 : decode cX7_tellLevel 74 = .ok (.invokevirtual 200, 3) := by decide +kernel
theorem dX7_tellLevel_77 : decode cX7_tellLevel 77 = .ok (.goto 4, 3) := by decide +kernel
theorem dX7_tellLevel_80 : decode cX7_tellLevel 80 = .ok (.iload_n 3, 1) := by decide +kernel
theorem dX7_tellLevel_81 : decode cX7_tellLevel 81 = .ok (.istore_n 3, 1) := by decide +kernel
theorem dX7_tellLevel_82 : decode cX7_tellLevel 82 = .ok (.iinc 4 1, 3) := by decide +kernel
theorem dX7_tellLevel_85 : decode cX7_tellLevel 85 = .ok (.goto (-37), 3) := by decide +kernel
theorem dX7_tellLevel_88 : decode cX7_tellLevel 88 = .ok (.iload_n 3, 1) := by decide +kernel
theorem dX7_tellLevel_89 : decode cX7_tellLevel 89 = .ok (.ireturn, 1) := by decide +kernel
theorem dX7_tellLevel_90 : decode cX7_tellLevel 90 = .ok (.iconst 0, 1) := by decide +kernel
theorem dX7_tellLevel_91 : decode cX7_tellLevel 91 = .ok (.istore 4, 2) := by decide +kernel
theorem dX7_tellLevel_93 : decode cX7_tellLevel 93 = .ok (.iload 4, 2) := by decide +kernel
theorem dX7_tellLevel_95 : decode cX7_tellLevel 95 = .ok (.iconst 4, 1) := by decide +kernel
theorem dX7_tellLevel_96 : decode cX7_tellLevel 96 = .ok (.aload_n 0, 1) := by decide +kernel
theorem dX7_tellLevel_97 : decode cX7_tellLevel 97 = .ok (.getfield 25, 3) := by decide +kernel
theorem dX7_tellLevel_100 : decode cX7_tellLevel 100 = .ok (.iload_n 1, 1) := by decide +kernel
theorem dX7_tellLevel_101 : decode cX7_tellLevel 101 = .ok (.iaload, 1) := by decide +kernel
theorem dX7_tellLevel_102 : decode cX7_tellLevel 102 = .ok (.imul, 1) := by decide +kernel
theorem dX7_tellLevel_103 : decode cX7_tellLevel 103 = .ok (.if_icmp .ge 40, 3) := by decide +kernel
theorem dX7_tellLevel_106 : decode cX7_tellLevel 106 = .ok (.iload_n 3, 1) := by decide +kernel
theorem dX7_tellLevel_107 : decode cX7_tellLevel 107 = .ok (.aload_n 0, 1) := by decide +kernel
theorem dX7_tellLevel_108 : decode cX7_tellLevel 108 = .ok (.iload_n 1, 1) := by decide +kernel
theorem dX7_tellLevel_109 : decode cX7_tellLevel 109 = .ok (.aload_n 0, 1) := by decide +kernel
theorem dX7_tellLevel_110 : decode cX7_tellLevel 110 = .ok (.iload_n 1, 1) := by decide +kernel
theorem dX7_tellLevel_111 : decode cX7_tellLevel 111 = .ok (.iload 4, 2) := by decide +kernel
theorem dX7_tellLevel_113 : decode cX7_tellLevel 113 = .ok (.iconst 4, 1) := by decide +kernel
theorem dX7_tellLevel_114 : decode cX7_tellLevel 114 = .ok (.idiv, 1) := by decide +kernel
theorem dX7_tellLevel_115 : decode cX7_tellLevel 115 = .ok (.invokevirtual 86, 3) := by decide +kernel
theorem dX7_tellLevel_118 : decode cX7_tellLevel 118 = .ok (.iload 4, 2) := by decide +kernel
theorem dX7_tellLevel_120 : decode cX7_tellLevel 120 = .ok (.iconst 4, 1) := by decide +kernel
theorem dX7_tellLevel_121 : decode cX7_tellLevel 121 = .ok (.irem, 1) := by decide +kernel
theorem dX7_tellLevel_122 : decode cX7_tellLevel 122 = .ok (.invokevirtual 188, 3) := by decide +kernel
theorem dX7_tellLevel_125 : decode cX7_tellLevel 125 = .ok (.ldc 187, 2) := by decide +kernel
theorem dX7_tellLevel_127 : decode cX7_tellLevel 127 = .ok (.if_icmp .lt 7, 3) := by decide +kernel
theorem dX7_tellLevel_130 : decode cX7_tellLevel 130 = .ok (.iconst 1, 1) := by decide +kernel
theorem dX7_tellLevel_131 : decode cX7_tellLevel 131 = .ok (.goto 4, 3) := by decide +kernel
theorem dX7_tellLevel_134 : decode cX7_tellLevel 134 = .ok (.iconst 0, 1) := by decide +kernel
theorem dX7_tellLevel_135 : decode cX7_tellLevel 135 = .ok (.iadd, 1) := by decide +kernel
theorem dX7_tellLevel_136 : decode cX7_tellLevel 136 = .ok (.istore_n 3, 1) := by decide +kernel
theorem dX7_tellLevel_137 : decode cX7_tellLevel 137 = .ok (.iinc 4 1, 3) := by decide +kernel
theorem dX7_tellLevel_140 : decode cX7_tellLevel 140 = .ok (.goto (-47), 3) := by decide +kernel
theorem dX7_tellLevel_143 : decode cX7_tellLevel 143 = .ok (.iload_n 3, 1) := by decide +kernel
theorem dX7_tellLevel_144 : decode cX7_tellLevel 144 = .ok (.ireturn, 1) := by decide +kernel
theorem dX7_tellLevel_145 : decode cX7_tellLevel 145 = .ok (.aload_n 0, 1) := by decide +kernel
theorem dX7_tellLevel_146 : decode cX7_tellLevel 146 = .ok (.iload_n 1, 1) := by decide +kernel
theorem dX7_tellLevel_147 : decode cX7_tellLevel 147 = .ok (.invokevirtual 203, 3) := by decide +kernel
theorem dX7_tellLevel_150 : decode cX7_tellLevel 150 = .ok (.ireturn, 1) := by decide +kernel
set_option maxRecDepth 20000 in
theorem ggX7_isLevel_X7_in : GoodIn wsX7_isLevel wsX7_in := goodIn_r _ [4] (by decide +kernel) (by decide +kernel)
set_option maxRecDepth 20000 in
theorem gX7_isLevel_X7_in : GoodIn wsX7_isLevel (va_wsS RX7 41 yX7_in wsX7_in) := goodIn_app (goodIn_of _ (by decide +kernel)) ggX7_isLevel_X7_in
theorem dX7_isLevel_0 : decode cX7_isLevel 0 = .ok (.iload_n 0, 1) := by decide +kernel
theorem dX7_isLevel_1 : decode cX7_isLevel 1 = .ok (.iconst 0, 1) := by decide +kernel
theorem dX7_isLevel_2 : decode cX7_isLevel 2 = .ok (.iconst 4, 1) := by decide +kernel
theorem dX7_isLevel_3 : decode cX7_isLevel 3 = .ok (.invokestatic 41, 3) := by decide +kernel
theorem dX7_isLevel_6 : decode cX7_isLevel 6 = .ok (.ireturn, 1) := by decide +kernel
set_option maxRecDepth 20000 in
theorem ggX7_level_X7_isLevel : GoodIn wsX7_level wsX7_isLevel := goodIn_r _ [4, 5, 6, 3, 7] (by decide +kernel) (by decide +kernel)
set_option maxRecDepth 20000 in
theorem gX7_level_X7_isLevel : GoodIn wsX7_level (va_wsS RX7 206 yX7_isLevel wsX7_isLevel) := goodIn_app (goodIn_of _ (by decide +kernel)) ggX7_level_X7_isLevel
set_option maxRecDepth 20000 in
theorem ggX7_level_X7_in : GoodIn wsX7_level wsX7_in := goodIn_r _ [7] (by decide +kernel) (by decide +kernel)
set_option maxRecDepth 20000 in
theorem gX7_level_X7_in : GoodIn wsX7_level (va_wsS RX7 41 yX7_in wsX7_in) := goodIn_app (goodIn_of _ (by decide +kernel)) ggX7_level_X7_in
set_option maxRecDepth 20000 in
theorem ggX7_level_X7_refused : GoodIn wsX7_level wsX7_refused := goodIn_r _ [11, 12, 86, 87, 88, 89, 90, 91, 92, 93, 94, 95, 96, 97, 98, 99, 100, 101, 102, 103, 104, 105] (by decide +kernel) (by decide +kernel)
set_option maxRecDepth 20000 in
theorem gX7_level_X7_refused : GoodIn wsX7_level (wsV RX7 56 RX7 yX7_refused wsX7_refused) := goodIn_app (goodIn_of _ (by decide +kernel)) ggX7_level_X7_refused
set_option maxRecDepth 20000 in
theorem ggX7_level_X7_lays : GoodIn wsX7_level wsX7_lays := goodIn_r _ [16, 17, 18, 19, 20, 3, 21, 22, 23, 24, 25, 26, 27, 28, 29, 30, 31, 32, 33, 34, 35, 36, 37, 38, 39, 40, 41, 42, 43, 44, 86, 87, 88, 89, 90, 91, 92, 93, 94, 95, 96, 97, 98, 99, 100, 101, 102, 103, 104, 105] (by decide +kernel) (by decide +kernel)
set_option maxRecDepth 20000 in
theorem gX7_level_X7_lays : GoodIn wsX7_level (wsV RX7 89 RX7 yX7_lays wsX7_lays) := goodIn_app (goodIn_of _ (by decide +kernel)) ggX7_level_X7_lays
set_option maxRecDepth 20000 in
theorem ggX7_level_X7_tellLevel : GoodIn wsX7_level wsX7_tellLevel := goodIn_r _ [48, 17, 49, 50, 51, 52, 3, 53, 23, 24, 25, 26, 27, 28, 29, 30, 31, 32, 33, 34, 54, 55, 56, 57, 58, 59, 60, 61, 22, 62, 63, 64, 65, 66, 67, 68, 69, 70, 71, 72, 73, 74, 75, 76, 77, 78, 79, 80, 81, 35, 36, 37, 38, 39, 40, 41, 42, 43, 44, 82, 83, 84, 85, 86, 87, 88, 89, 90, 91, 92, 93, 94, 95, 96, 97, 98, 99, 100, 101, 102, 103, 104, 105] (by decide +kernel) (by decide +kernel)
set_option maxRecDepth 20000 in
theorem gX7_level_X7_tellLevel : GoodIn wsX7_level (wsV RX7 209 RX7 yX7_tellLevel wsX7_tellLevel) := goodIn_app (goodIn_of _ (by decide +kernel)) ggX7_level_X7_tellLevel
theorem dX7_level_0 : decode cX7_level 0 = .ok (.aload_n 0, 1) := by decide +kernel
theorem dX7_level_1 : decode cX7_level 1 = .ok (.iload_n 1, 1) := by decide +kernel
theorem dX7_level_2 : decode cX7_level 2 = .ok (.invokestatic 206, 3) := by decide +kernel
theorem dX7_level_5 : decode cX7_level 5 = .ok (.ifCond .ne 7, 3) := by decide +kernel
theorem dX7_level_8 : decode cX7_level 8 = .ok (.iconst 1, 1) := by decide +kernel
theorem dX7_level_9 : decode cX7_level 9 = .ok (.goto 17, 3) := by decide +kernel
theorem dX7_level_12 : decode cX7_level 12 = .ok (.iload_n 2, 1) := by decide +kernel
theorem dX7_level_13 : decode cX7_level 13 = .ok (.iconst 0, 1) := by decide +kernel
theorem dX7_level_14 : decode cX7_level 14 = .ok (.iconst 4, 1) := by decide +kernel
theorem dX7_level_15 : decode cX7_level 15 = .ok (.invokestatic 41, 3) := by decide +kernel
theorem dX7_level_18 : decode cX7_level 18 = .ok (.ifCond .eq 7, 3) := by decide +kernel
theorem dX7_level_21 : decode cX7_level 21 = .ok (.iconst 0, 1) := by decide +kernel
theorem dX7_level_22 : decode cX7_level 22 = .ok (.goto 4, 3) := by decide +kernel
theorem dX7_level_25 : decode cX7_level 25 = .ok (.iconst 2, 1) := by decide +kernel
theorem dX7_level_26 : decode cX7_level 26 = .ok (.invokevirtual 56, 3) := by decide +kernel
theorem dX7_level_29 : decode cX7_level 29 = .ok (.ifCond .eq 5, 3) := by decide +kernel
theorem dX7_level_32 : decode cX7_level 32 = .ok (.iconst 0, 1) := by decide +kernel
theorem dX7_level_33 : decode cX7_level 33 = .ok (.ireturn, 1) := by decide +kernel
theorem dX7_level_34 : decode cX7_level 34 = .ok (.aload_n 0, 1) := by decide +kernel
theorem dX7_level_35 : decode cX7_level 35 = .ok (.invokevirtual 89, 3) := by decide +kernel
theorem dX7_level_38 : decode cX7_level 38 = .ok (.aload_n 0, 1) := by decide +kernel
theorem dX7_level_39 : decode cX7_level 39 = .ok (.iload_n 1, 1) := by decide +kernel
theorem dX7_level_40 : decode cX7_level 40 = .ok (.iload_n 2, 1) := by decide +kernel
theorem dX7_level_41 : decode cX7_level 41 = .ok (.invokevirtual 209, 3) := by decide +kernel
theorem dX7_level_44 : decode cX7_level 44 = .ok (.ireturn, 1) := by decide +kernel
set_option maxRecDepth 20000 in
theorem ggX7_tellNode_X7_nodeAt : GoodIn wsX7_tellNode wsX7_nodeAt := goodIn_r _ [6, 7, 60, 61, 62, 63, 64, 65, 66, 67, 68, 69, 70, 71, 72, 73, 74, 75, 76, 77, 78, 79] (by decide +kernel) (by decide +kernel)
set_option maxRecDepth 20000 in
theorem gX7_tellNode_X7_nodeAt : GoodIn wsX7_tellNode (wsV RX7 86 RX7 yX7_nodeAt wsX7_nodeAt) := goodIn_app (goodIn_of _ (by decide +kernel)) ggX7_tellNode_X7_nodeAt
set_option maxRecDepth 20000 in
theorem ggX7_tellNode_X7_firstOf : GoodIn wsX7_tellNode wsX7_firstOf := goodIn_r _ [10] (by decide +kernel) (by decide +kernel)
set_option maxRecDepth 20000 in
theorem gX7_tellNode_X7_firstOf : GoodIn wsX7_tellNode (va_wsS RX7 66 yX7_firstOf wsX7_firstOf) := goodIn_app (goodIn_of _ (by decide +kernel)) ggX7_tellNode_X7_firstOf
set_option maxRecDepth 20000 in
theorem ggX7_tellNode_X7_xOf : GoodIn wsX7_tellNode wsX7_xOf := goodIn_r _ [13] (by decide +kernel) (by decide +kernel)
set_option maxRecDepth 20000 in
theorem gX7_tellNode_X7_xOf : GoodIn wsX7_tellNode (va_wsS RX7 59 yX7_xOf wsX7_xOf) := goodIn_app (goodIn_of _ (by decide +kernel)) ggX7_tellNode_X7_xOf
set_option maxRecDepth 20000 in
theorem ggX7_tellNode_X7_yOf : GoodIn wsX7_tellNode wsX7_yOf := goodIn_r _ [16, 11, 12, 5, 13] (by decide +kernel) (by decide +kernel)
set_option maxRecDepth 20000 in
theorem gX7_tellNode_X7_yOf : GoodIn wsX7_tellNode (va_wsS RX7 194 yX7_yOf wsX7_yOf) := goodIn_app (goodIn_of _ (by decide +kernel)) ggX7_tellNode_X7_yOf
set_option maxRecDepth 20000 in
theorem ggX7_tellNode_X7_span : GoodIn wsX7_tellNode wsX7_span := goodIn_r _ [19] (by decide +kernel) (by decide +kernel)
set_option maxRecDepth 20000 in
theorem gX7_tellNode_X7_span : GoodIn wsX7_tellNode (va_wsS RX7 69 yX7_span wsX7_span) := goodIn_app (goodIn_of _ (by decide +kernel)) ggX7_tellNode_X7_span
set_option maxRecDepth 20000 in
theorem ggX7_tellNode_X7_depthOf : GoodIn wsX7_tellNode wsX7_depthOf := goodIn_r _ [23, 2, 3, 4, 5, 6, 7, 8, 9, 10, 24, 25, 26, 17, 18, 19, 60, 61, 62, 63, 64, 65, 66, 67, 68, 69, 70, 71, 72, 73, 74, 75, 76, 77, 78, 79] (by decide +kernel) (by decide +kernel)
set_option maxRecDepth 20000 in
theorem gX7_tellNode_X7_depthOf : GoodIn wsX7_tellNode (wsV RX7 200 RX7 yX7_depthOf wsX7_depthOf) := goodIn_app (goodIn_of _ (by decide +kernel)) ggX7_tellNode_X7_depthOf
set_option maxRecDepth 20000 in
theorem ggX7_tellNode_X7_looksAt : GoodIn wsX7_tellNode wsX7_looksAt := goodIn_r _ [30, 1, 31, 32, 33, 34, 35, 5, 36, 37, 38, 39, 40, 41, 42, 43, 44, 45, 46, 47, 48, 49, 50, 51, 60, 61, 62, 63, 64, 65, 66, 67, 68, 69, 70, 71, 72, 73, 74, 75, 76, 77, 78, 79] (by decide +kernel) (by decide +kernel)
set_option maxRecDepth 20000 in
theorem gX7_tellNode_X7_looksAt : GoodIn wsX7_tellNode (wsV RX7 184 RX7 yX7_looksAt wsX7_looksAt) := goodIn_app (goodIn_of _ (by decide +kernel)) ggX7_tellNode_X7_looksAt
set_option maxRecDepth 20000 in
theorem ggX7_tellNode_X7_childOf : GoodIn wsX7_tellNode wsX7_childOf := goodIn_r _ [55, 1, 31, 32, 56, 17, 18, 5, 19, 8, 9, 10, 27, 28, 29, 30, 33, 34, 35, 36, 37, 38, 39, 40, 41, 42, 43, 44, 45, 46, 47, 48, 49, 50, 51, 57, 58, 59, 60, 61, 62, 63, 64, 65, 66, 67, 68, 69, 70, 71, 72, 73, 74, 75, 76, 77, 78, 79] (by decide +kernel) (by decide +kernel)
set_option maxRecDepth 20000 in
theorem gX7_tellNode_X7_childOf : GoodIn wsX7_tellNode (wsV RX7 188 RX7 yX7_childOf wsX7_childOf) := goodIn_app (goodIn_of _ (by decide +kernel)) ggX7_tellNode_X7_childOf
theorem dX7_tellNode_0 : decode cX7_tellNode 0 = .ok (.aload_n 0, 1) := by decide +kernel
theorem dX7_tellNode_1 : decode cX7_tellNode 1 = .ok (.iload_n 1, 1) := by decide +kernel
theorem dX7_tellNode_2 : decode cX7_tellNode 2 = .ok (.iload_n 2, 1) := by decide +kernel
theorem dX7_tellNode_3 : decode cX7_tellNode 3 = .ok (.invokevirtual 86, 3) := by decide +kernel
theorem dX7_tellNode_6 : decode cX7_tellNode 6 = .ok (.istore 4, 2) := by decide +kernel
theorem dX7_tellNode_8 : decode cX7_tellNode 8 = .ok (.iconst 0, 1) := by decide +kernel
theorem dX7_tellNode_9 : decode cX7_tellNode 9 = .ok (.istore 5, 2) := by decide +kernel
theorem dX7_tellNode_11 : decode cX7_tellNode 11 = .ok (.iload_n 3, 1) := by decide +kernel
theorem dX7_tellNode_12 : decode cX7_tellNode 12 = .ok (.tableswitch 89 0 4 #[36, 45, 54, 62, 69], 36) := by decide +kernel
theorem dX7_tellNode_48 : decode cX7_tellNode 48 = .ok (.iload 4, 2) := by decide +kernel
theorem dX7_tellNode_50 : decode cX7_tellNode 50 = .ok (.invokestatic 66, 3) := by decide +kernel
theorem dX7_tellNode_53 : decode cX7_tellNode 53 = .ok (.invokestatic 59, 3) := by decide +kernel
theorem dX7_tellNode_56 : decode cX7_tellNode 56 = .ok (.ireturn, 1) := by decide +kernel
theorem dX7_tellNode_57 : decode cX7_tellNode 57 = .ok (.iload 4, 2) := by decide +kernel
theorem dX7_tellNode_59 : decode cX7_tellNode 59 = .ok (.invokestatic 66, 3) := by decide +kernel
theorem dX7_tellNode_62 : decode cX7_tellNode 62 = .ok (.invokestatic 194, 3) := by decide +kernel
theorem dX7_tellNode_65 : decode cX7_tellNode 65 = .ok (.ireturn, 1) := by decide +kernel
theorem dX7_tellNode_66 : decode cX7_tellNode 66 = .ok (.iconst 1, 1) := by decide +kernel
theorem dX7_tellNode_67 : decode cX7_tellNode 67 = .ok (.iload 4, 2) := by decide +kernel
theorem dX7_tellNode_69 : decode cX7_tellNode 69 = .ok (.invokestatic 69, 3) := by decide +kernel
theorem dX7_tellNode_72 : decode cX7_tellNode 72 = .ok (.ishl, 1) := by decide +kernel
theorem dX7_tellNode_73 : decode cX7_tellNode 73 = .ok (.ireturn, 1) := by decide +kernel
theorem dX7_tellNode_74 : decode cX7_tellNode 74 = .ok (.aload_n 0, 1) := by decide +kernel
theorem dX7_tellNode_75 : decode cX7_tellNode 75 = .ok (.iload_n 1, 1) := by decide +kernel
theorem dX7_tellNode_76 : decode cX7_tellNode 76 = .ok (.iload_n 2, 1) := by decide +kernel
theorem dX7_tellNode_77 : decode cX7_tellNode 77 = .ok (.invokevirtual 200, 3) := by decide +kernel
theorem dX7_tellNode_80 : decode cX7_tellNode 80 = .ok (.ireturn, 1) := by decide +kernel
theorem dX7_tellNode_81 : decode cX7_tellNode 81 = .ok (.aload_n 0, 1) := by decide +kernel
theorem dX7_tellNode_82 : decode cX7_tellNode 82 = .ok (.iload_n 1, 1) := by decide +kernel
theorem dX7_tellNode_83 : decode cX7_tellNode 83 = .ok (.iload 4, 2) := by decide +kernel
theorem dX7_tellNode_85 : decode cX7_tellNode 85 = .ok (.invokestatic 66, 3) := by decide +kernel
theorem dX7_tellNode_88 : decode cX7_tellNode 88 = .ok (.iload 4, 2) := by decide +kernel
theorem dX7_tellNode_90 : decode cX7_tellNode 90 = .ok (.invokestatic 69, 3) := by decide +kernel
theorem dX7_tellNode_93 : decode cX7_tellNode 93 = .ok (.invokevirtual 184, 3) := by decide +kernel
theorem dX7_tellNode_96 : decode cX7_tellNode 96 = .ok (.aload_n 0, 1) := by decide +kernel
theorem dX7_tellNode_97 : decode cX7_tellNode 97 = .ok (.getfield 175, 3) := by decide +kernel
theorem dX7_tellNode_100 : decode cX7_tellNode 100 = .ok (.ireturn, 1) := by decide +kernel
theorem dX7_tellNode_101 : decode cX7_tellNode 101 = .ok (.iconst 0, 1) := by decide +kernel
theorem dX7_tellNode_102 : decode cX7_tellNode 102 = .ok (.istore 6, 2) := by decide +kernel
theorem dX7_tellNode_104 : decode cX7_tellNode 104 = .ok (.iload 6, 2) := by decide +kernel
theorem dX7_tellNode_106 : decode cX7_tellNode 106 = .ok (.iconst 4, 1) := by decide +kernel
theorem dX7_tellNode_107 : decode cX7_tellNode 107 = .ok (.if_icmp .ge 32, 3) := by decide +kernel
theorem dX7_tellNode_110 : decode cX7_tellNode 110 = .ok (.iload 5, 2) := by decide +kernel
theorem dX7_tellNode_112 : decode cX7_tellNode 112 = .ok (.aload_n 0, 1) := by decide +kernel
theorem dX7_tellNode_113 : decode cX7_tellNode 113 = .ok (.iload_n 1, 1) := by decide +kernel
theorem dX7_tellNode_114 : decode cX7_tellNode 114 = .ok (.iload 4, 2) := by decide +kernel
theorem dX7_tellNode_116 : decode cX7_tellNode 116 = .ok (.iload 6, 2) := by decide +kernel
theorem dX7_tellNode_118 : decode cX7_tellNode 118 = .ok (.invokevirtual 188, 3) := by decide +kernel
theorem dX7_tellNode_121 : decode cX7_tellNode 121 = .ok (.iconst (-1), 1) := by decide +kernel
theorem dX7_tellNode_122 : decode cX7_tellNode 122 = .ok (.if_icmp .ne 7, 3) := by decide +kernel
theorem dX7_tellNode_125 : decode cX7_tellNode 125 = .ok (.iconst 0, 1) := by decide +kernel
theorem dX7_tellNode_126 : decode cX7_tellNode 126 = .ok (.goto 4, 3) := by decide +kernel
theorem dX7_tellNode_129 : decode cX7_tellNode 129 = .ok (.iconst 1, 1) := by decide +kernel
theorem dX7_tellNode_130 : decode cX7_tellNode 130 = .ok (.iadd, 1) := by decide +kernel
theorem dX7_tellNode_131 : decode cX7_tellNode 131 = .ok (.istore 5, 2) := by decide +kernel
theorem dX7_tellNode_133 : decode cX7_tellNode 133 = .ok (.iinc 6 1, 3) := by decide +kernel
theorem dX7_tellNode_136 : decode cX7_tellNode 136 = .ok (.goto (-32), 3) := by decide +kernel
theorem dX7_tellNode_139 : decode cX7_tellNode 139 = .ok (.iload 5, 2) := by decide +kernel
theorem dX7_tellNode_141 : decode cX7_tellNode 141 = .ok (.ireturn, 1) := by decide +kernel
set_option maxRecDepth 20000 in
theorem ggX7_isNodeOf_X7_lays : GoodIn wsX7_isNodeOf wsX7_lays := goodIn_r _ [6, 1, 7, 8, 9, 5, 10, 11, 12, 13, 14, 15, 16, 17, 18, 19, 20, 21, 22, 23, 24, 25, 26, 27, 28, 29, 30, 31, 32, 33, 40, 41, 42, 43, 44, 45, 46, 47, 48, 49, 50, 51, 52, 53, 54, 55, 56, 57, 58, 59] (by decide +kernel) (by decide +kernel)
set_option maxRecDepth 20000 in
theorem gX7_isNodeOf_X7_lays : GoodIn wsX7_isNodeOf (wsV RX7 89 RX7 yX7_lays wsX7_lays) := goodIn_app (goodIn_of _ (by decide +kernel)) ggX7_isNodeOf_X7_lays
set_option maxRecDepth 20000 in
theorem ggX7_isNodeOf_X7_isLevel : GoodIn wsX7_isNodeOf wsX7_isLevel := goodIn_r _ [36, 37, 38, 5, 39] (by decide +kernel) (by decide +kernel)
set_option maxRecDepth 20000 in
theorem gX7_isNodeOf_X7_isLevel : GoodIn wsX7_isNodeOf (va_wsS RX7 206 yX7_isLevel wsX7_isLevel) := goodIn_app (goodIn_of _ (by decide +kernel)) ggX7_isNodeOf_X7_isLevel
set_option maxRecDepth 20000 in
theorem ggX7_isNodeOf_X7_in : GoodIn wsX7_isNodeOf wsX7_in := goodIn_r _ [39] (by decide +kernel) (by decide +kernel)
set_option maxRecDepth 20000 in
theorem gX7_isNodeOf_X7_in : GoodIn wsX7_isNodeOf (va_wsS RX7 41 yX7_in wsX7_in) := goodIn_app (goodIn_of _ (by decide +kernel)) ggX7_isNodeOf_X7_in
theorem dX7_isNodeOf_0 : decode cX7_isNodeOf 0 = .ok (.aload_n 0, 1) := by decide +kernel
theorem dX7_isNodeOf_1 : decode cX7_isNodeOf 1 = .ok (.invokevirtual 89, 3) := by decide +kernel
theorem dX7_isNodeOf_4 : decode cX7_isNodeOf 4 = .ok (.iload_n 1, 1) := by decide +kernel
theorem dX7_isNodeOf_5 : decode cX7_isNodeOf 5 = .ok (.invokestatic 206, 3) := by decide +kernel
theorem dX7_isNodeOf_8 : decode cX7_isNodeOf 8 = .ok (.ifCond .eq 23, 3) := by decide +kernel
theorem dX7_isNodeOf_11 : decode cX7_isNodeOf 11 = .ok (.iload_n 2, 1) := by decide +kernel
theorem dX7_isNodeOf_12 : decode cX7_isNodeOf 12 = .ok (.iconst 0, 1) := by decide +kernel
theorem dX7_isNodeOf_13 : decode cX7_isNodeOf 13 = .ok (.aload_n 0, 1) := by decide +kernel
theorem dX7_isNodeOf_14 : decode cX7_isNodeOf 14 = .ok (.getfield 25, 3) := by decide +kernel
theorem dX7_isNodeOf_17 : decode cX7_isNodeOf 17 = .ok (.iload_n 1, 1) := by decide +kernel
theorem dX7_isNodeOf_18 : decode cX7_isNodeOf 18 = .ok (.iaload, 1) := by decide +kernel
theorem dX7_isNodeOf_19 : decode cX7_isNodeOf 19 = .ok (.iconst 1, 1) := by decide +kernel
theorem dX7_isNodeOf_20 : decode cX7_isNodeOf 20 = .ok (.isub, 1) := by decide +kernel
theorem dX7_isNodeOf_21 : decode cX7_isNodeOf 21 = .ok (.invokestatic 41, 3) := by decide +kernel
theorem dX7_isNodeOf_24 : decode cX7_isNodeOf 24 = .ok (.ifCond .eq 7, 3) := by decide +kernel
theorem dX7_isNodeOf_27 : decode cX7_isNodeOf 27 = .ok (.iconst 1, 1) := by decide +kernel
theorem dX7_isNodeOf_28 : decode cX7_isNodeOf 28 = .ok (.goto 4, 3) := by decide +kernel
theorem dX7_isNodeOf_31 : decode cX7_isNodeOf 31 = .ok (.iconst 0, 1) := by decide +kernel
theorem dX7_isNodeOf_32 : decode cX7_isNodeOf 32 = .ok (.ireturn, 1) := by decide +kernel
set_option maxRecDepth 20000 in
theorem ggX7_node_X7_isNodeOf : GoodIn wsX7_node wsX7_isNodeOf := goodIn_r _ [5, 6, 7, 8, 9, 4, 10, 11, 12, 13, 14, 15, 16, 17, 18, 19, 20, 21, 22, 23, 24, 25, 26, 27, 28, 29, 30, 31, 32, 33, 34, 35, 36, 37, 38, 39, 40, 41, 42, 43, 88, 89, 90, 91, 92, 93, 94, 95, 96, 97, 98, 99, 100, 101, 102, 103, 104, 105, 106, 107] (by decide +kernel) (by decide +kernel)
set_option maxRecDepth 20000 in
theorem gX7_node_X7_isNodeOf : GoodIn wsX7_node (wsV RX7 212 RX7 yX7_isNodeOf wsX7_isNodeOf) := goodIn_app (goodIn_of _ (by decide +kernel)) ggX7_node_X7_isNodeOf
set_option maxRecDepth 20000 in
theorem ggX7_node_X7_in : GoodIn wsX7_node wsX7_in := goodIn_r _ [43] (by decide +kernel) (by decide +kernel)
set_option maxRecDepth 20000 in
theorem gX7_node_X7_in : GoodIn wsX7_node (va_wsS RX7 41 yX7_in wsX7_in) := goodIn_app (goodIn_of _ (by decide +kernel)) ggX7_node_X7_in
set_option maxRecDepth 20000 in
theorem ggX7_node_X7_refused : GoodIn wsX7_node wsX7_refused := goodIn_r _ [47, 48, 88, 89, 90, 91, 92, 93, 94, 95, 96, 97, 98, 99, 100, 101, 102, 103, 104, 105, 106, 107] (by decide +kernel) (by decide +kernel)
set_option maxRecDepth 20000 in
theorem gX7_node_X7_refused : GoodIn wsX7_node (wsV RX7 56 RX7 yX7_refused wsX7_refused) := goodIn_app (goodIn_of _ (by decide +kernel)) ggX7_node_X7_refused
set_option maxRecDepth 20000 in
theorem ggX7_node_X7_tellNode : GoodIn wsX7_node wsX7_tellNode := goodIn_r _ [52, 53, 54, 55, 56, 4, 57, 15, 58, 59, 60, 61, 62, 63, 64, 65, 66, 67, 68, 69, 70, 71, 72, 73, 74, 75, 76, 77, 78, 79, 80, 81, 82, 28, 29, 30, 31, 24, 32, 33, 34, 16, 17, 18, 19, 20, 21, 22, 23, 25, 26, 27, 83, 84, 85, 86, 87, 35, 36, 37, 88, 89, 90, 91, 92, 93, 94, 95, 96, 97, 98, 99, 100, 101, 102, 103, 104, 105, 106, 107] (by decide +kernel) (by decide +kernel)
set_option maxRecDepth 20000 in
theorem gX7_node_X7_tellNode : GoodIn wsX7_node (wsV RX7 215 RX7 yX7_tellNode wsX7_tellNode) := goodIn_app (goodIn_of _ (by decide +kernel)) ggX7_node_X7_tellNode
theorem dX7_node_0 : decode cX7_node 0 = .ok (.aload_n 0, 1) := by decide +kernel
theorem dX7_node_1 : decode cX7_node 1 = .ok (.aload_n 0, 1) := by decide +kernel
theorem dX7_node_2 : decode cX7_node 2 = .ok (.iload_n 1, 1) := by decide +kernel
theorem dX7_node_3 : decode cX7_node 3 = .ok (.iload_n 2, 1) := by decide +kernel
theorem dX7_node_4 : decode cX7_node 4 = .ok (.invokevirtual 212, 3) := by decide +kernel
theorem dX7_node_7 : decode cX7_node 7 = .ok (.ifCond .ne 7, 3) := by decide +kernel
theorem dX7_node_10 : decode cX7_node 10 = .ok (.iconst 1, 1) := by decide +kernel
theorem dX7_node_11 : decode cX7_node 11 = .ok (.goto 17, 3) := by decide +kernel
theorem dX7_node_14 : decode cX7_node 14 = .ok (.iload_n 3, 1) := by decide +kernel
theorem dX7_node_15 : decode cX7_node 15 = .ok (.iconst 0, 1) := by decide +kernel
theorem dX7_node_16 : decode cX7_node 16 = .ok (.iconst 5, 1) := by decide +kernel
theorem dX7_node_17 : decode cX7_node 17 = .ok (.invokestatic 41, 3) := by decide +kernel
theorem dX7_node_20 : decode cX7_node 20 = .ok (.ifCond .eq 7, 3) := by decide +kernel
theorem dX7_node_23 : decode cX7_node 23 = .ok (.iconst 0, 1) := by decide +kernel
theorem dX7_node_24 : decode cX7_node 24 = .ok (.goto 4, 3) := by decide +kernel
theorem dX7_node_27 : decode cX7_node 27 = .ok (.iconst 2, 1) := by decide +kernel
theorem dX7_node_28 : decode cX7_node 28 = .ok (.invokevirtual 56, 3) := by decide +kernel
theorem dX7_node_31 : decode cX7_node 31 = .ok (.ifCond .eq 7, 3) := by decide +kernel
theorem dX7_node_34 : decode cX7_node 34 = .ok (.iconst 0, 1) := by decide +kernel
theorem dX7_node_35 : decode cX7_node 35 = .ok (.goto 10, 3) := by decide +kernel
theorem dX7_node_38 : decode cX7_node 38 = .ok (.aload_n 0, 1) := by decide +kernel
theorem dX7_node_39 : decode cX7_node 39 = .ok (.iload_n 1, 1) := by decide +kernel
theorem dX7_node_40 : decode cX7_node 40 = .ok (.iload_n 2, 1) := by decide +kernel
theorem dX7_node_41 : decode cX7_node 41 = .ok (.iload_n 3, 1) := by decide +kernel
theorem dX7_node_42 : decode cX7_node 42 = .ok (.invokevirtual 215, 3) := by decide +kernel
theorem dX7_node_45 : decode cX7_node 45 = .ok (.ireturn, 1) := by decide +kernel
set_option maxRecDepth 20000 in
theorem ggX7_child_X7_isNodeOf : GoodIn wsX7_child wsX7_isNodeOf := goodIn_r _ [5, 6, 7, 8, 9, 4, 10, 11, 12, 13, 14, 15, 16, 17, 18, 19, 20, 21, 22, 23, 24, 25, 26, 27, 28, 29, 30, 31, 32, 33, 34, 35, 36, 37, 38, 39, 40, 41, 42, 43, 85, 86, 87, 88, 89, 90, 91, 92, 93, 94, 95, 96, 97, 98, 99, 100, 101, 102, 103, 104] (by decide +kernel) (by decide +kernel)
set_option maxRecDepth 20000 in
theorem gX7_child_X7_isNodeOf : GoodIn wsX7_child (wsV RX7 212 RX7 yX7_isNodeOf wsX7_isNodeOf) := goodIn_app (goodIn_of _ (by decide +kernel)) ggX7_child_X7_isNodeOf
set_option maxRecDepth 20000 in
theorem ggX7_child_X7_in : GoodIn wsX7_child wsX7_in := goodIn_r _ [43] (by decide +kernel) (by decide +kernel)
set_option maxRecDepth 20000 in
theorem gX7_child_X7_in : GoodIn wsX7_child (va_wsS RX7 41 yX7_in wsX7_in) := goodIn_app (goodIn_of _ (by decide +kernel)) ggX7_child_X7_in
set_option maxRecDepth 20000 in
theorem ggX7_child_X7_refused : GoodIn wsX7_child wsX7_refused := goodIn_r _ [47, 48, 85, 86, 87, 88, 89, 90, 91, 92, 93, 94, 95, 96, 97, 98, 99, 100, 101, 102, 103, 104] (by decide +kernel) (by decide +kernel)
set_option maxRecDepth 20000 in
theorem gX7_child_X7_refused : GoodIn wsX7_child (wsV RX7 56 RX7 yX7_refused wsX7_refused) := goodIn_app (goodIn_of _ (by decide +kernel)) ggX7_child_X7_refused
set_option maxRecDepth 20000 in
theorem ggX7_child_X7_tellChild : GoodIn wsX7_child wsX7_tellChild := goodIn_r _ [52, 53, 54, 55, 56, 4, 57, 15, 58, 59, 60, 61, 62, 63, 64, 65, 66, 67, 68, 69, 70, 71, 72, 73, 74, 28, 29, 30, 31, 24, 32, 33, 34, 16, 17, 18, 19, 20, 21, 22, 23, 25, 26, 27, 35, 36, 37, 75, 76, 77, 78, 79, 80, 81, 82, 83, 84, 85, 86, 87, 88, 89, 90, 91, 92, 93, 94, 95, 96, 97, 98, 99, 100, 101, 102, 103, 104] (by decide +kernel) (by decide +kernel)
set_option maxRecDepth 20000 in
theorem gX7_child_X7_tellChild : GoodIn wsX7_child (wsV RX7 218 RX7 yX7_tellChild wsX7_tellChild) := goodIn_app (goodIn_of _ (by decide +kernel)) ggX7_child_X7_tellChild
theorem dX7_child_0 : decode cX7_child 0 = .ok (.aload_n 0, 1) := by decide +kernel
theorem dX7_child_1 : decode cX7_child 1 = .ok (.aload_n 0, 1) := by decide +kernel
theorem dX7_child_2 : decode cX7_child 2 = .ok (.iload_n 1, 1) := by decide +kernel
theorem dX7_child_3 : decode cX7_child 3 = .ok (.iload_n 2, 1) := by decide +kernel
theorem dX7_child_4 : decode cX7_child 4 = .ok (.invokevirtual 212, 3) := by decide +kernel
theorem dX7_child_7 : decode cX7_child 7 = .ok (.ifCond .ne 7, 3) := by decide +kernel
theorem dX7_child_10 : decode cX7_child 10 = .ok (.iconst 1, 1) := by decide +kernel
theorem dX7_child_11 : decode cX7_child 11 = .ok (.goto 17, 3) := by decide +kernel
theorem dX7_child_14 : decode cX7_child 14 = .ok (.iload_n 3, 1) := by decide +kernel
theorem dX7_child_15 : decode cX7_child 15 = .ok (.iconst 0, 1) := by decide +kernel
theorem dX7_child_16 : decode cX7_child 16 = .ok (.iconst 3, 1) := by decide +kernel
theorem dX7_child_17 : decode cX7_child 17 = .ok (.invokestatic 41, 3) := by decide +kernel
theorem dX7_child_20 : decode cX7_child 20 = .ok (.ifCond .eq 7, 3) := by decide +kernel
theorem dX7_child_23 : decode cX7_child 23 = .ok (.iconst 0, 1) := by decide +kernel
theorem dX7_child_24 : decode cX7_child 24 = .ok (.goto 4, 3) := by decide +kernel
theorem dX7_child_27 : decode cX7_child 27 = .ok (.iconst 2, 1) := by decide +kernel
theorem dX7_child_28 : decode cX7_child 28 = .ok (.invokevirtual 56, 3) := by decide +kernel
theorem dX7_child_31 : decode cX7_child 31 = .ok (.ifCond .eq 7, 3) := by decide +kernel
theorem dX7_child_34 : decode cX7_child 34 = .ok (.iconst 0, 1) := by decide +kernel
theorem dX7_child_35 : decode cX7_child 35 = .ok (.goto 10, 3) := by decide +kernel
theorem dX7_child_38 : decode cX7_child 38 = .ok (.aload_n 0, 1) := by decide +kernel
theorem dX7_child_39 : decode cX7_child 39 = .ok (.iload_n 1, 1) := by decide +kernel
theorem dX7_child_40 : decode cX7_child 40 = .ok (.iload_n 2, 1) := by decide +kernel
theorem dX7_child_41 : decode cX7_child 41 = .ok (.iload_n 3, 1) := by decide +kernel
theorem dX7_child_42 : decode cX7_child 42 = .ok (.invokevirtual 218, 3) := by decide +kernel
theorem dX7_child_45 : decode cX7_child 45 = .ok (.ireturn, 1) := by decide +kernel
set_option maxRecDepth 20000 in
theorem ggX7_finds_X7_pointsOn : GoodIn wsX7_finds wsX7_pointsOn := goodIn_r _ [7, 8, 9, 10, 6, 11, 12, 13, 14, 15, 16, 17, 18, 19, 50, 51, 52, 53, 54, 55, 56, 57, 58, 59, 60, 61, 62, 63, 64, 65, 66, 67, 68, 69] (by decide +kernel) (by decide +kernel)
set_option maxRecDepth 20000 in
theorem gX7_finds_X7_pointsOn : GoodIn wsX7_finds (wsV RX7 197 RX7 yX7_pointsOn wsX7_pointsOn) := goodIn_app (goodIn_of _ (by decide +kernel)) ggX7_finds_X7_pointsOn
set_option maxRecDepth 20000 in
theorem ggX7_finds_X7_span : GoodIn wsX7_finds wsX7_span := goodIn_r _ [22] (by decide +kernel) (by decide +kernel)
set_option maxRecDepth 20000 in
theorem gX7_finds_X7_span : GoodIn wsX7_finds (va_wsS RX7 69 yX7_span wsX7_span) := goodIn_app (goodIn_of _ (by decide +kernel)) ggX7_finds_X7_span
set_option maxRecDepth 20000 in
theorem ggX7_finds_X7_childOf : GoodIn wsX7_finds wsX7_childOf := goodIn_r _ [26, 27, 28, 29, 2, 20, 21, 6, 22, 30, 31, 32, 33, 34, 35, 36, 37, 38, 39, 40, 16, 41, 42, 43, 8, 9, 10, 11, 12, 13, 14, 15, 17, 18, 19, 44, 45, 46, 50, 51, 52, 53, 54, 55, 56, 57, 58, 59, 60, 61, 62, 63, 64, 65, 66, 67, 68, 69] (by decide +kernel) (by decide +kernel)
set_option maxRecDepth 20000 in
theorem gX7_finds_X7_childOf : GoodIn wsX7_finds (wsV RX7 188 RX7 yX7_childOf wsX7_childOf) := goodIn_app (goodIn_of _ (by decide +kernel)) ggX7_finds_X7_childOf
set_option maxRecDepth 20000 in
theorem ggX7_finds_X7_holds : GoodIn wsX7_finds wsX7_holds := goodIn_r _ [49, 30, 31, 6, 32, 20, 21, 22] (by decide +kernel) (by decide +kernel)
set_option maxRecDepth 20000 in
theorem gX7_finds_X7_holds : GoodIn wsX7_finds (va_wsS RX7 172 yX7_holds wsX7_holds) := goodIn_app (goodIn_of _ (by decide +kernel)) ggX7_finds_X7_holds
theorem dX7_finds_0 : decode cX7_finds 0 = .ok (.iconst 0, 1) := by decide +kernel
theorem dX7_finds_1 : decode cX7_finds 1 = .ok (.istore_n 3, 1) := by decide +kernel
theorem dX7_finds_2 : decode cX7_finds 2 = .ok (.iconst 1, 1) := by decide +kernel
theorem dX7_finds_3 : decode cX7_finds 3 = .ok (.istore 4, 2) := by decide +kernel
theorem dX7_finds_5 : decode cX7_finds 5 = .ok (.iload 4, 2) := by decide +kernel
theorem dX7_finds_7 : decode cX7_finds 7 = .ok (.iconst 5, 1) := by decide +kernel
theorem dX7_finds_8 : decode cX7_finds 8 = .ok (.if_icmp .ge 29, 3) := by decide +kernel
theorem dX7_finds_11 : decode cX7_finds 11 = .ok (.iload_n 2, 1) := by decide +kernel
theorem dX7_finds_12 : decode cX7_finds 12 = .ok (.ifCond .eq 25, 3) := by decide +kernel
theorem dX7_finds_15 : decode cX7_finds 15 = .ok (.aload_n 0, 1) := by decide +kernel
theorem dX7_finds_16 : decode cX7_finds 16 = .ok (.iload 4, 2) := by decide +kernel
theorem dX7_finds_18 : decode cX7_finds 18 = .ok (.invokevirtual 197, 3) := by decide +kernel
theorem dX7_finds_21 : decode cX7_finds 21 = .ok (.ifCond .le 8, 3) := by decide +kernel
theorem dX7_finds_24 : decode cX7_finds 24 = .ok (.iload 4, 2) := by decide +kernel
theorem dX7_finds_26 : decode cX7_finds 26 = .ok (.goto 4, 3) := by decide +kernel
theorem dX7_finds_29 : decode cX7_finds 29 = .ok (.iload_n 3, 1) := by decide +kernel
theorem dX7_finds_30 : decode cX7_finds 30 = .ok (.istore_n 3, 1) := by decide +kernel
theorem dX7_finds_31 : decode cX7_finds 31 = .ok (.iinc 4 1, 3) := by decide +kernel
theorem dX7_finds_34 : decode cX7_finds 34 = .ok (.goto (-29), 3) := by decide +kernel
theorem dX7_finds_37 : decode cX7_finds 37 = .ok (.iconst 0, 1) := by decide +kernel
theorem dX7_finds_38 : decode cX7_finds 38 = .ok (.istore 4, 2) := by decide +kernel
theorem dX7_finds_40 : decode cX7_finds 40 = .ok (.aload_n 0, 1) := by decide +kernel
theorem dX7_finds_41 : decode cX7_finds 41 = .ok (.iconst 0, 1) := by decide +kernel
theorem dX7_finds_42 : decode cX7_finds 42 = .ok (.putfield 221, 3) := by decide +kernel
theorem dX7_finds_45 : decode cX7_finds 45 = .ok (.iload_n 3, 1) := by decide +kernel
theorem dX7_finds_46 : decode cX7_finds 46 = .ok (.ifCond .lt 88, 3) := by decide +kernel
theorem dX7_finds_49 : decode cX7_finds 49 = .ok (.aload_n 0, 1) := by decide +kernel
theorem dX7_finds_50 : decode cX7_finds 50 = .ok (.iload_n 3, 1) := by decide +kernel
theorem dX7_finds_51 : decode cX7_finds 51 = .ok (.iload 4, 2) := by decide +kernel
theorem dX7_finds_53 : decode cX7_finds 53 = .ok (.iload_n 1, 1) := by decide +kernel
theorem dX7_finds_54 : decode cX7_finds 54 = .ok (.iconst 2, 1) := by decide +kernel
theorem dX7_finds_55 : decode cX7_finds 55 = .ok (.iload 4, 2) := by decide +kernel
theorem dX7_finds_57 : decode cX7_finds 57 = .ok (.invokestatic 69, 3) := by decide +kernel
theorem dX7_finds_60 : decode cX7_finds 60 = .ok (.imul, 1) := by decide +kernel
theorem dX7_finds_61 : decode cX7_finds 61 = .ok (.iconst 2, 1) := by decide +kernel
theorem dX7_finds_62 : decode cX7_finds 62 = .ok (.isub, 1) := by decide +kernel
theorem dX7_finds_63 : decode cX7_finds 63 = .ok (.ishr, 1) := by decide +kernel
theorem dX7_finds_64 : decode cX7_finds 64 = .ok (.iconst 3, 1) := by decide +kernel
theorem dX7_finds_65 : decode cX7_finds 65 = .ok (.iand, 1) := by decide +kernel
theorem dX7_finds_66 : decode cX7_finds 66 = .ok (.invokevirtual 188, 3) := by decide +kernel
theorem dX7_finds_69 : decode cX7_finds 69 = .ok (.istore 5, 2) := by decide +kernel
theorem dX7_finds_71 : decode cX7_finds 71 = .ok (.iload 5, 2) := by decide +kernel
theorem dX7_finds_73 : decode cX7_finds 73 = .ok (.iconst (-1), 1) := by decide +kernel
theorem dX7_finds_74 : decode cX7_finds 74 = .ok (.if_icmp .eq 36, 3) := by decide +kernel
theorem dX7_finds_77 : decode cX7_finds 77 = .ok (.iload 5, 2) := by decide +kernel
theorem dX7_finds_79 : decode cX7_finds 79 = .ok (.ldc 187, 2) := by decide +kernel
theorem dX7_finds_81 : decode cX7_finds 81 = .ok (.if_icmp .ge 29, 3) := by decide +kernel
theorem dX7_finds_84 : decode cX7_finds 84 = .ok (.iload 5, 2) := by decide +kernel
theorem dX7_finds_86 : decode cX7_finds 86 = .ok (.iload_n 1, 1) := by decide +kernel
theorem dX7_finds_87 : decode cX7_finds 87 = .ok (.invokestatic 172, 3) := by decide +kernel
theorem dX7_finds_90 : decode cX7_finds 90 = .ok (.ifCond .eq 20, 3) := by decide +kernel
theorem dX7_finds_93 : decode cX7_finds 93 = .ok (.iload 5, 2) := by decide +kernel
theorem dX7_finds_95 : decode cX7_finds 95 = .ok (.istore 4, 2) := by decide +kernel
theorem dX7_finds_97 : decode cX7_finds 97 = .ok (.aload_n 0, 1) := by decide +kernel
theorem dX7_finds_98 : decode cX7_finds 98 = .ok (.dup, 1) := by decide +kernel
theorem dX7_finds_99 : decode cX7_finds 99 = .ok (.getfield 221, 3) := by decide +kernel
theorem dX7_finds_102 : decode cX7_finds 102 = .ok (.iconst 1, 1) := by decide +kernel
theorem dX7_finds_103 : decode cX7_finds 103 = .ok (.iadd, 1) := by decide +kernel
theorem dX7_finds_104 : decode cX7_finds 104 = .ok (.putfield 221, 3) := by decide +kernel
theorem dX7_finds_107 : decode cX7_finds 107 = .ok (.goto 24, 3) := by decide +kernel
theorem dX7_finds_110 : decode cX7_finds 110 = .ok (.aload_n 0, 1) := by decide +kernel
theorem dX7_finds_111 : decode cX7_finds 111 = .ok (.dup, 1) := by decide +kernel
theorem dX7_finds_112 : decode cX7_finds 112 = .ok (.getfield 221, 3) := by decide +kernel
theorem dX7_finds_115 : decode cX7_finds 115 = .ok (.iload_n 3, 1) := by decide +kernel
theorem dX7_finds_116 : decode cX7_finds 116 = .ok (.ifCond .le 7, 3) := by decide +kernel
theorem dX7_finds_119 : decode cX7_finds 119 = .ok (.iconst 1, 1) := by decide +kernel
theorem dX7_finds_120 : decode cX7_finds 120 = .ok (.goto 4, 3) := by decide +kernel
theorem dX7_finds_123 : decode cX7_finds 123 = .ok (.iconst 0, 1) := by decide +kernel
theorem dX7_finds_124 : decode cX7_finds 124 = .ok (.iadd, 1) := by decide +kernel
theorem dX7_finds_125 : decode cX7_finds 125 = .ok (.putfield 221, 3) := by decide +kernel
theorem dX7_finds_128 : decode cX7_finds 128 = .ok (.iinc 3 (-1), 3) := by decide +kernel
theorem dX7_finds_131 : decode cX7_finds 131 = .ok (.goto (-86), 3) := by decide +kernel
theorem dX7_finds_134 : decode cX7_finds 134 = .ok (.iload 4, 2) := by decide +kernel
theorem dX7_finds_136 : decode cX7_finds 136 = .ok (.ireturn, 1) := by decide +kernel
set_option maxRecDepth 20000 in
theorem ggX7_search_X7_isPlace : GoodIn wsX7_search wsX7_isPlace := goodIn_r _ [5, 6, 7, 4, 8] (by decide +kernel) (by decide +kernel)
set_option maxRecDepth 20000 in
theorem gX7_search_X7_isPlace : GoodIn wsX7_search (va_wsS RX7 98 yX7_isPlace wsX7_isPlace) := goodIn_app (goodIn_of _ (by decide +kernel)) ggX7_search_X7_isPlace
set_option maxRecDepth 20000 in
theorem ggX7_search_X7_in : GoodIn wsX7_search wsX7_in := goodIn_r _ [8] (by decide +kernel) (by decide +kernel)
set_option maxRecDepth 20000 in
theorem gX7_search_X7_in : GoodIn wsX7_search (va_wsS RX7 41 yX7_in wsX7_in) := goodIn_app (goodIn_of _ (by decide +kernel)) ggX7_search_X7_in
set_option maxRecDepth 20000 in
theorem ggX7_search_X7_refused : GoodIn wsX7_search wsX7_refused := goodIn_r _ [12, 13, 83, 84, 85, 86, 87, 88, 89, 90, 91, 92, 93, 94, 95, 96, 97, 98, 99, 100, 101, 102] (by decide +kernel) (by decide +kernel)
set_option maxRecDepth 20000 in
theorem gX7_search_X7_refused : GoodIn wsX7_search (wsV RX7 56 RX7 yX7_refused wsX7_refused) := goodIn_app (goodIn_of _ (by decide +kernel)) ggX7_search_X7_refused
set_option maxRecDepth 20000 in
theorem ggX7_search_X7_lays : GoodIn wsX7_search wsX7_lays := goodIn_r _ [17, 18, 19, 20, 21, 4, 22, 23, 24, 25, 26, 27, 28, 29, 30, 31, 32, 33, 34, 35, 36, 37, 38, 39, 40, 41, 42, 43, 44, 45, 83, 84, 85, 86, 87, 88, 89, 90, 91, 92, 93, 94, 95, 96, 97, 98, 99, 100, 101, 102] (by decide +kernel) (by decide +kernel)
set_option maxRecDepth 20000 in
theorem gX7_search_X7_lays : GoodIn wsX7_search (wsV RX7 89 RX7 yX7_lays wsX7_lays) := goodIn_app (goodIn_of _ (by decide +kernel)) ggX7_search_X7_lays
set_option maxRecDepth 20000 in
theorem ggX7_search_X7_codeOf : GoodIn wsX7_search wsX7_codeOf := goodIn_r _ [42] (by decide +kernel) (by decide +kernel)
set_option maxRecDepth 20000 in
theorem gX7_search_X7_codeOf : GoodIn wsX7_search (va_wsS RX7 62 yX7_codeOf wsX7_codeOf) := goodIn_app (goodIn_of _ (by decide +kernel)) ggX7_search_X7_codeOf
set_option maxRecDepth 20000 in
theorem ggX7_search_X7_finds : GoodIn wsX7_search wsX7_finds := goodIn_r _ [49, 1, 50, 51, 52, 53, 4, 54, 24, 25, 26, 27, 28, 29, 30, 31, 32, 33, 34, 35, 55, 56, 57, 58, 59, 60, 61, 62, 63, 64, 65, 66, 67, 68, 69, 70, 71, 36, 37, 38, 39, 40, 41, 42, 43, 44, 45, 72, 73, 74, 83, 84, 85, 86, 87, 88, 89, 90, 91, 92, 93, 94, 95, 96, 97, 98, 99, 100, 101, 102] (by decide +kernel) (by decide +kernel)
set_option maxRecDepth 20000 in
theorem gX7_search_X7_finds : GoodIn wsX7_search (wsV RX7 224 RX7 yX7_finds wsX7_finds) := goodIn_app (goodIn_of _ (by decide +kernel)) ggX7_search_X7_finds
set_option maxRecDepth 20000 in
theorem ggX7_search_X7_indexOf : GoodIn wsX7_search wsX7_indexOf := goodIn_r _ [78, 79, 80, 81, 4, 82, 23, 83, 84, 85, 86, 87, 88, 89, 90, 91, 92, 93, 94, 95, 96, 97, 98, 99, 100, 101, 102] (by decide +kernel) (by decide +kernel)
set_option maxRecDepth 20000 in
theorem gX7_search_X7_indexOf : GoodIn wsX7_search (wsV RX7 191 RX7 yX7_indexOf wsX7_indexOf) := goodIn_app (goodIn_of _ (by decide +kernel)) ggX7_search_X7_indexOf
set_option maxRecDepth 20000 in
theorem ggX7_search_X7_span : GoodIn wsX7_search wsX7_span := goodIn_r _ [57] (by decide +kernel) (by decide +kernel)
set_option maxRecDepth 20000 in
theorem gX7_search_X7_span : GoodIn wsX7_search (va_wsS RX7 69 yX7_span wsX7_span) := goodIn_app (goodIn_of _ (by decide +kernel)) ggX7_search_X7_span
theorem dX7_search_0 : decode cX7_search 0 = .ok (.aload_n 0, 1) := by decide +kernel
theorem dX7_search_1 : decode cX7_search 1 = .ok (.iload_n 1, 1) := by decide +kernel
theorem dX7_search_2 : decode cX7_search 2 = .ok (.iload_n 2, 1) := by decide +kernel
theorem dX7_search_3 : decode cX7_search 3 = .ok (.invokestatic 98, 3) := by decide +kernel
theorem dX7_search_6 : decode cX7_search 6 = .ok (.ifCond .eq 17, 3) := by decide +kernel
theorem dX7_search_9 : decode cX7_search 9 = .ok (.iload 4, 2) := by decide +kernel
theorem dX7_search_11 : decode cX7_search 11 = .ok (.iconst 0, 1) := by decide +kernel
theorem dX7_search_12 : decode cX7_search 12 = .ok (.iconst 2, 1) := by decide +kernel
theorem dX7_search_13 : decode cX7_search 13 = .ok (.invokestatic 41, 3) := by decide +kernel
theorem dX7_search_16 : decode cX7_search 16 = .ok (.ifCond .eq 7, 3) := by decide +kernel
theorem dX7_search_19 : decode cX7_search 19 = .ok (.iconst 0, 1) := by decide +kernel
theorem dX7_search_20 : decode cX7_search 20 = .ok (.goto 4, 3) := by decide +kernel
theorem dX7_search_23 : decode cX7_search 23 = .ok (.iconst 1, 1) := by decide +kernel
theorem dX7_search_24 : decode cX7_search 24 = .ok (.invokevirtual 56, 3) := by decide +kernel
theorem dX7_search_27 : decode cX7_search 27 = .ok (.ifCond .eq 5, 3) := by decide +kernel
theorem dX7_search_30 : decode cX7_search 30 = .ok (.iconst 0, 1) := by decide +kernel
theorem dX7_search_31 : decode cX7_search 31 = .ok (.ireturn, 1) := by decide +kernel
theorem dX7_search_32 : decode cX7_search 32 = .ok (.aload_n 0, 1) := by decide +kernel
theorem dX7_search_33 : decode cX7_search 33 = .ok (.invokevirtual 89, 3) := by decide +kernel
theorem dX7_search_36 : decode cX7_search 36 = .ok (.aload_n 0, 1) := by decide +kernel
theorem dX7_search_37 : decode cX7_search 37 = .ok (.iload_n 1, 1) := by decide +kernel
theorem dX7_search_38 : decode cX7_search 38 = .ok (.iload_n 2, 1) := by decide +kernel
theorem dX7_search_39 : decode cX7_search 39 = .ok (.invokestatic 62, 3) := by decide +kernel
theorem dX7_search_42 : decode cX7_search 42 = .ok (.iload_n 3, 1) := by decide +kernel
theorem dX7_search_43 : decode cX7_search 43 = .ok (.invokevirtual 224, 3) := by decide +kernel
theorem dX7_search_46 : decode cX7_search 46 = .ok (.istore 5, 2) := by decide +kernel
theorem dX7_search_48 : decode cX7_search 48 = .ok (.iload 4, 2) := by decide +kernel
theorem dX7_search_50 : decode cX7_search 50 = .ok (.ifCond .ne 10, 3) := by decide +kernel
theorem dX7_search_53 : decode cX7_search 53 = .ok (.aload_n 0, 1) := by decide +kernel
theorem dX7_search_54 : decode cX7_search 54 = .ok (.getfield 221, 3) := by decide +kernel
theorem dX7_search_57 : decode cX7_search 57 = .ok (.goto 26, 3) := by decide +kernel
theorem dX7_search_60 : decode cX7_search 60 = .ok (.iload 4, 2) := by decide +kernel
theorem dX7_search_62 : decode cX7_search 62 = .ok (.iconst 1, 1) := by decide +kernel
theorem dX7_search_63 : decode cX7_search 63 = .ok (.if_icmp .ne 13, 3) := by decide +kernel
theorem dX7_search_66 : decode cX7_search 66 = .ok (.aload_n 0, 1) := by decide +kernel
theorem dX7_search_67 : decode cX7_search 67 = .ok (.iconst 0, 1) := by decide +kernel
theorem dX7_search_68 : decode cX7_search 68 = .ok (.iload 5, 2) := by decide +kernel
theorem dX7_search_70 : decode cX7_search 70 = .ok (.invokevirtual 191, 3) := by decide +kernel
theorem dX7_search_73 : decode cX7_search 73 = .ok (.goto 10, 3) := by decide +kernel
theorem dX7_search_76 : decode cX7_search 76 = .ok (.iconst 1, 1) := by decide +kernel
theorem dX7_search_77 : decode cX7_search 77 = .ok (.iload 5, 2) := by decide +kernel
theorem dX7_search_79 : decode cX7_search 79 = .ok (.invokestatic 69, 3) := by decide +kernel
theorem dX7_search_82 : decode cX7_search 82 = .ok (.ishl, 1) := by decide +kernel
theorem dX7_search_83 : decode cX7_search 83 = .ok (.ireturn, 1) := by decide +kernel
set_option maxRecDepth 20000 in
theorem ggX7_most_X7_isThere : GoodIn wsX7_most wsX7_isThere := goodIn_r _ [6, 7, 54, 55, 56, 57, 58, 59, 60, 61, 62, 63, 64, 65, 66, 67, 68, 69, 70, 71, 72, 73] (by decide +kernel) (by decide +kernel)
set_option maxRecDepth 20000 in
theorem gX7_most_X7_isThere : GoodIn wsX7_most (wsV RX7 45 RX7 yX7_isThere wsX7_isThere) := goodIn_app (goodIn_of _ (by decide +kernel)) ggX7_most_X7_isThere
set_option maxRecDepth 20000 in
theorem ggX7_most_X7_placeOf : GoodIn wsX7_most wsX7_placeOf := goodIn_r _ [11, 7, 12, 13, 5, 14, 54, 55, 56, 57, 58, 59, 60, 61, 62, 63, 64, 65, 66, 67, 68, 69, 70, 71, 72, 73] (by decide +kernel) (by decide +kernel)
set_option maxRecDepth 20000 in
theorem gX7_most_X7_placeOf : GoodIn wsX7_most (wsV RX7 80 RX7 yX7_placeOf wsX7_placeOf) := goodIn_app (goodIn_of _ (by decide +kernel)) ggX7_most_X7_placeOf
set_option maxRecDepth 20000 in
theorem ggX7_most_X7_finds : GoodIn wsX7_most wsX7_finds := goodIn_r _ [18, 1, 19, 20, 21, 22, 5, 23, 24, 25, 26, 27, 2, 3, 4, 6, 7, 28, 29, 30, 31, 32, 33, 34, 35, 36, 37, 38, 39, 40, 41, 42, 43, 44, 45, 46, 47, 8, 9, 10, 11, 12, 13, 14, 48, 49, 50, 51, 52, 53, 54, 55, 56, 57, 58, 59, 60, 61, 62, 63, 64, 65, 66, 67, 68, 69, 70, 71, 72, 73] (by decide +kernel) (by decide +kernel)
set_option maxRecDepth 20000 in
theorem gX7_most_X7_finds : GoodIn wsX7_most (wsV RX7 224 RX7 yX7_finds wsX7_finds) := goodIn_app (goodIn_of _ (by decide +kernel)) ggX7_most_X7_finds
theorem dX7_most_0 : decode cX7_most 0 = .ok (.iconst 0, 1) := by decide +kernel
theorem dX7_most_1 : decode cX7_most 1 = .ok (.istore_n 2, 1) := by decide +kernel
theorem dX7_most_2 : decode cX7_most 2 = .ok (.iconst 0, 1) := by decide +kernel
theorem dX7_most_3 : decode cX7_most 3 = .ok (.istore_n 3, 1) := by decide +kernel
theorem dX7_most_4 : decode cX7_most 4 = .ok (.iload_n 3, 1) := by decide +kernel
theorem dX7_most_5 : decode cX7_most 5 = .ok (.bipush 24, 2) := by decide +kernel
theorem dX7_most_7 : decode cX7_most 7 = .ok (.if_icmp .ge 46, 3) := by decide +kernel
theorem dX7_most_10 : decode cX7_most 10 = .ok (.aload_n 0, 1) := by decide +kernel
theorem dX7_most_11 : decode cX7_most 11 = .ok (.iload_n 3, 1) := by decide +kernel
theorem dX7_most_12 : decode cX7_most 12 = .ok (.invokevirtual 45, 3) := by decide +kernel
theorem dX7_most_15 : decode cX7_most 15 = .ok (.ifCond .eq 32, 3) := by decide +kernel
theorem dX7_most_18 : decode cX7_most 18 = .ok (.aload_n 0, 1) := by decide +kernel
theorem dX7_most_19 : decode cX7_most 19 = .ok (.aload_n 0, 1) := by decide +kernel
theorem dX7_most_20 : decode cX7_most 20 = .ok (.iload_n 3, 1) := by decide +kernel
theorem dX7_most_21 : decode cX7_most 21 = .ok (.invokevirtual 80, 3) := by decide +kernel
theorem dX7_most_24 : decode cX7_most 24 = .ok (.iload_n 1, 1) := by decide +kernel
theorem dX7_most_25 : decode cX7_most 25 = .ok (.invokevirtual 224, 3) := by decide +kernel
theorem dX7_most_28 : decode cX7_most 28 = .ok (.istore 4, 2) := by decide +kernel
theorem dX7_most_30 : decode cX7_most 30 = .ok (.aload_n 0, 1) := by decide +kernel
theorem dX7_most_31 : decode cX7_most 31 = .ok (.getfield 221, 3) := by decide +kernel
theorem dX7_most_34 : decode cX7_most 34 = .ok (.iload_n 2, 1) := by decide +kernel
theorem dX7_most_35 : decode cX7_most 35 = .ok (.if_icmp .le 10, 3) := by decide +kernel
theorem dX7_most_38 : decode cX7_most 38 = .ok (.aload_n 0, 1) := by decide +kernel
theorem dX7_most_39 : decode cX7_most 39 = .ok (.getfield 221, 3) := by decide +kernel
theorem dX7_most_42 : decode cX7_most 42 = .ok (.goto 4, 3) := by decide +kernel
theorem dX7_most_45 : decode cX7_most 45 = .ok (.iload_n 2, 1) := by decide +kernel
theorem dX7_most_46 : decode cX7_most 46 = .ok (.istore_n 2, 1) := by decide +kernel
theorem dX7_most_47 : decode cX7_most 47 = .ok (.iinc 3 1, 3) := by decide +kernel
theorem dX7_most_50 : decode cX7_most 50 = .ok (.goto (-46), 3) := by decide +kernel
theorem dX7_most_53 : decode cX7_most 53 = .ok (.iload_n 2, 1) := by decide +kernel
theorem dX7_most_54 : decode cX7_most 54 = .ok (.ireturn, 1) := by decide +kernel
set_option maxRecDepth 20000 in
theorem ggX7_worst_X7_most : GoodIn wsX7_worst wsX7_most := goodIn_r _ [6, 7, 8, 9, 10, 5, 11, 12, 13, 14, 15, 16, 17, 18, 19, 20, 21, 22, 23, 24, 25, 26, 27, 28, 29, 30, 31, 32, 33, 34, 35, 36, 37, 38, 39, 40, 41, 42, 43, 44, 45, 46, 47, 48, 49, 50, 51, 52, 53, 54, 55, 56, 57, 58, 59, 60, 61, 62, 63, 64, 65, 66, 67, 68, 69, 70, 71, 72, 73, 74, 75, 76, 77, 78] (by decide +kernel) (by decide +kernel)
set_option maxRecDepth 20000 in
theorem gX7_worst_X7_most : GoodIn wsX7_worst (wsV RX7 228 RX7 yX7_most wsX7_most) := goodIn_app (goodIn_of _ (by decide +kernel)) ggX7_worst_X7_most
theorem dX7_worst_0 : decode cX7_worst 0 = .ok (.aload_n 0, 1) := by decide +kernel
theorem dX7_worst_1 : decode cX7_worst 1 = .ok (.iconst 0, 1) := by decide +kernel
theorem dX7_worst_2 : decode cX7_worst 2 = .ok (.putfield 37, 3) := by decide +kernel
theorem dX7_worst_5 : decode cX7_worst 5 = .ok (.aload_n 0, 1) := by decide +kernel
theorem dX7_worst_6 : decode cX7_worst 6 = .ok (.iload_n 1, 1) := by decide +kernel
theorem dX7_worst_7 : decode cX7_worst 7 = .ok (.invokevirtual 228, 3) := by decide +kernel
theorem dX7_worst_10 : decode cX7_worst 10 = .ok (.ireturn, 1) := by decide +kernel
set_option maxRecDepth 20000 in
theorem ggX7_wouldTouch_X7_badMove : GoodIn wsX7_wouldTouch wsX7_badMove := goodIn_r _ [6, 7, 8, 5, 9, 10, 11, 12, 13, 14, 15, 16, 17, 18, 19, 1, 78, 79, 80, 81, 82, 83, 84, 85, 86, 87, 88, 89, 90, 91, 92, 93, 94, 95, 96, 97] (by decide +kernel) (by decide +kernel)
set_option maxRecDepth 20000 in
theorem gX7_wouldTouch_X7_badMove : GoodIn wsX7_wouldTouch (wsV RX7 122 RX7 yX7_badMove wsX7_badMove) := goodIn_app (goodIn_of _ (by decide +kernel)) ggX7_wouldTouch_X7_badMove
set_option maxRecDepth 20000 in
theorem ggX7_wouldTouch_X7_refused : GoodIn wsX7_wouldTouch wsX7_refused := goodIn_r _ [23, 24, 78, 79, 80, 81, 82, 83, 84, 85, 86, 87, 88, 89, 90, 91, 92, 93, 94, 95, 96, 97] (by decide +kernel) (by decide +kernel)
set_option maxRecDepth 20000 in
theorem gX7_wouldTouch_X7_refused : GoodIn wsX7_wouldTouch (wsV RX7 56 RX7 yX7_refused wsX7_refused) := goodIn_app (goodIn_of _ (by decide +kernel)) ggX7_wouldTouch_X7_refused
set_option maxRecDepth 20000 in
theorem ggX7_wouldTouch_X7_adds : GoodIn wsX7_wouldTouch wsX7_adds := goodIn_r _ [28, 29, 30, 31, 5, 32, 33, 34, 35, 36, 37, 38, 39, 40, 41, 42, 43, 44, 45, 46, 47, 48, 16, 17, 18, 19, 1, 49, 50, 51, 52, 53, 54, 55, 56, 57, 58, 59, 60, 61, 62, 63, 64, 65, 66, 67, 68, 69, 70, 71, 72, 73, 74, 75, 76, 77, 78, 79, 80, 81, 82, 83, 84, 85, 86, 87, 88, 89, 90, 91, 92, 93, 94, 95, 96, 97] (by decide +kernel) (by decide +kernel)
set_option maxRecDepth 20000 in
theorem gX7_wouldTouch_X7_adds : GoodIn wsX7_wouldTouch (wsV RX7 119 RX7 yX7_adds wsX7_adds) := goodIn_app (goodIn_of _ (by decide +kernel)) ggX7_wouldTouch_X7_adds
set_option maxRecDepth 20000 in
theorem ggX7_wouldTouch_X7_puts : GoodIn wsX7_wouldTouch wsX7_puts := goodIn_r _ [65, 1, 78, 79, 80, 81, 82, 83, 84, 85, 86, 87, 88, 89, 90, 91, 92, 93, 94, 95, 96, 97] (by decide +kernel) (by decide +kernel)
set_option maxRecDepth 20000 in
theorem gX7_wouldTouch_X7_puts : GoodIn wsX7_wouldTouch (wsV RX7 104 RX7 yX7_puts wsX7_puts) := goodIn_app (goodIn_of _ (by decide +kernel)) ggX7_wouldTouch_X7_puts
theorem dX7_wouldTouch_0 : decode cX7_wouldTouch 0 = .ok (.aload_n 0, 1) := by decide +kernel
theorem dX7_wouldTouch_1 : decode cX7_wouldTouch 1 = .ok (.aload_n 0, 1) := by decide +kernel
theorem dX7_wouldTouch_2 : decode cX7_wouldTouch 2 = .ok (.iload_n 1, 1) := by decide +kernel
theorem dX7_wouldTouch_3 : decode cX7_wouldTouch 3 = .ok (.iload_n 2, 1) := by decide +kernel
theorem dX7_wouldTouch_4 : decode cX7_wouldTouch 4 = .ok (.iload_n 3, 1) := by decide +kernel
theorem dX7_wouldTouch_5 : decode cX7_wouldTouch 5 = .ok (.invokevirtual 122, 3) := by decide +kernel
theorem dX7_wouldTouch_8 : decode cX7_wouldTouch 8 = .ok (.invokevirtual 56, 3) := by decide +kernel
theorem dX7_wouldTouch_11 : decode cX7_wouldTouch 11 = .ok (.ifCond .eq 5, 3) := by decide +kernel
theorem dX7_wouldTouch_14 : decode cX7_wouldTouch 14 = .ok (.iconst 0, 1) := by decide +kernel
theorem dX7_wouldTouch_15 : decode cX7_wouldTouch 15 = .ok (.ireturn, 1) := by decide +kernel
theorem dX7_wouldTouch_16 : decode cX7_wouldTouch 16 = .ok (.aload_n 0, 1) := by decide +kernel
theorem dX7_wouldTouch_17 : decode cX7_wouldTouch 17 = .ok (.getfield 7, 3) := by decide +kernel
theorem dX7_wouldTouch_20 : decode cX7_wouldTouch 20 = .ok (.iconst 5, 1) := by decide +kernel
theorem dX7_wouldTouch_21 : decode cX7_wouldTouch 21 = .ok (.iload_n 1, 1) := by decide +kernel
theorem dX7_wouldTouch_22 : decode cX7_wouldTouch 22 = .ok (.imul, 1) := by decide +kernel
theorem dX7_wouldTouch_23 : decode cX7_wouldTouch 23 = .ok (.iconst 1, 1) := by decide +kernel
theorem dX7_wouldTouch_24 : decode cX7_wouldTouch 24 = .ok (.iadd, 1) := by decide +kernel
theorem dX7_wouldTouch_25 : decode cX7_wouldTouch 25 = .ok (.iaload, 1) := by decide +kernel
theorem dX7_wouldTouch_26 : decode cX7_wouldTouch 26 = .ok (.istore 4, 2) := by decide +kernel
theorem dX7_wouldTouch_28 : decode cX7_wouldTouch 28 = .ok (.aload_n 0, 1) := by decide +kernel
theorem dX7_wouldTouch_29 : decode cX7_wouldTouch 29 = .ok (.getfield 7, 3) := by decide +kernel
theorem dX7_wouldTouch_32 : decode cX7_wouldTouch 32 = .ok (.iconst 5, 1) := by decide +kernel
theorem dX7_wouldTouch_33 : decode cX7_wouldTouch 33 = .ok (.iload_n 1, 1) := by decide +kernel
theorem dX7_wouldTouch_34 : decode cX7_wouldTouch 34 = .ok (.imul, 1) := by decide +kernel
theorem dX7_wouldTouch_35 : decode cX7_wouldTouch 35 = .ok (.iconst 2, 1) := by decide +kernel
theorem dX7_wouldTouch_36 : decode cX7_wouldTouch 36 = .ok (.iadd, 1) := by decide +kernel
theorem dX7_wouldTouch_37 : decode cX7_wouldTouch 37 = .ok (.iaload, 1) := by decide +kernel
theorem dX7_wouldTouch_38 : decode cX7_wouldTouch 38 = .ok (.istore 5, 2) := by decide +kernel
theorem dX7_wouldTouch_40 : decode cX7_wouldTouch 40 = .ok (.aload_n 0, 1) := by decide +kernel
theorem dX7_wouldTouch_41 : decode cX7_wouldTouch 41 = .ok (.iload_n 1, 1) := by decide +kernel
theorem dX7_wouldTouch_42 : decode cX7_wouldTouch 42 = .ok (.iload_n 2, 1) := by decide +kernel
theorem dX7_wouldTouch_43 : decode cX7_wouldTouch 43 = .ok (.iload_n 3, 1) := by decide +kernel
theorem dX7_wouldTouch_44 : decode cX7_wouldTouch 44 = .ok (.invokevirtual 119, 3) := by decide +kernel
theorem dX7_wouldTouch_47 : decode cX7_wouldTouch 47 = .ok (.istore 6, 2) := by decide +kernel
theorem dX7_wouldTouch_49 : decode cX7_wouldTouch 49 = .ok (.aload_n 0, 1) := by decide +kernel
theorem dX7_wouldTouch_50 : decode cX7_wouldTouch 50 = .ok (.iload_n 1, 1) := by decide +kernel
theorem dX7_wouldTouch_51 : decode cX7_wouldTouch 51 = .ok (.iload 4, 2) := by decide +kernel
theorem dX7_wouldTouch_53 : decode cX7_wouldTouch 53 = .ok (.iload 5, 2) := by decide +kernel
theorem dX7_wouldTouch_55 : decode cX7_wouldTouch 55 = .ok (.invokevirtual 104, 3) := by decide +kernel
theorem dX7_wouldTouch_58 : decode cX7_wouldTouch 58 = .ok (.iload 6, 2) := by decide +kernel
theorem dX7_wouldTouch_60 : decode cX7_wouldTouch 60 = .ok (.ireturn, 1) := by decide +kernel
theorem dX7_far_0 : decode cX7_far 0 = .ok (.aload_n 0, 1) := by decide +kernel
theorem dX7_far_1 : decode cX7_far 1 = .ok (.getfield 7, 3) := by decide +kernel
theorem dX7_far_4 : decode cX7_far 4 = .ok (.iconst 5, 1) := by decide +kernel
theorem dX7_far_5 : decode cX7_far 5 = .ok (.iload_n 1, 1) := by decide +kernel
theorem dX7_far_6 : decode cX7_far 6 = .ok (.imul, 1) := by decide +kernel
theorem dX7_far_7 : decode cX7_far 7 = .ok (.iconst 1, 1) := by decide +kernel
theorem dX7_far_8 : decode cX7_far 8 = .ok (.iadd, 1) := by decide +kernel
theorem dX7_far_9 : decode cX7_far 9 = .ok (.iaload, 1) := by decide +kernel
theorem dX7_far_10 : decode cX7_far 10 = .ok (.iload_n 2, 1) := by decide +kernel
theorem dX7_far_11 : decode cX7_far 11 = .ok (.isub, 1) := by decide +kernel
theorem dX7_far_12 : decode cX7_far 12 = .ok (.istore 4, 2) := by decide +kernel
theorem dX7_far_14 : decode cX7_far 14 = .ok (.aload_n 0, 1) := by decide +kernel
theorem dX7_far_15 : decode cX7_far 15 = .ok (.getfield 7, 3) := by decide +kernel
theorem dX7_far_18 : decode cX7_far 18 = .ok (.iconst 5, 1) := by decide +kernel
theorem dX7_far_19 : decode cX7_far 19 = .ok (.iload_n 1, 1) := by decide +kernel
theorem dX7_far_20 : decode cX7_far 20 = .ok (.imul, 1) := by decide +kernel
theorem dX7_far_21 : decode cX7_far 21 = .ok (.iconst 2, 1) := by decide +kernel
theorem dX7_far_22 : decode cX7_far 22 = .ok (.iadd, 1) := by decide +kernel
theorem dX7_far_23 : decode cX7_far 23 = .ok (.iaload, 1) := by decide +kernel
theorem dX7_far_24 : decode cX7_far 24 = .ok (.iload_n 3, 1) := by decide +kernel
theorem dX7_far_25 : decode cX7_far 25 = .ok (.isub, 1) := by decide +kernel
theorem dX7_far_26 : decode cX7_far 26 = .ok (.istore 5, 2) := by decide +kernel
theorem dX7_far_28 : decode cX7_far 28 = .ok (.iload 4, 2) := by decide +kernel
theorem dX7_far_30 : decode cX7_far 30 = .ok (.iload 4, 2) := by decide +kernel
theorem dX7_far_32 : decode cX7_far 32 = .ok (.imul, 1) := by decide +kernel
theorem dX7_far_33 : decode cX7_far 33 = .ok (.iload 5, 2) := by decide +kernel
theorem dX7_far_35 : decode cX7_far 35 = .ok (.iload 5, 2) := by decide +kernel
theorem dX7_far_37 : decode cX7_far 37 = .ok (.imul, 1) := by decide +kernel
theorem dX7_far_38 : decode cX7_far 38 = .ok (.iadd, 1) := by decide +kernel
theorem dX7_far_39 : decode cX7_far 39 = .ok (.ireturn, 1) := by decide +kernel
set_option maxRecDepth 20000 in
theorem ggX7_isCursor_X7_in : GoodIn wsX7_isCursor wsX7_in := goodIn_r _ [4] (by decide +kernel) (by decide +kernel)
set_option maxRecDepth 20000 in
theorem gX7_isCursor_X7_in : GoodIn wsX7_isCursor (va_wsS RX7 41 yX7_in wsX7_in) := goodIn_app (goodIn_of _ (by decide +kernel)) ggX7_isCursor_X7_in
theorem dX7_isCursor_0 : decode cX7_isCursor 0 = .ok (.iload_n 0, 1) := by decide +kernel
theorem dX7_isCursor_1 : decode cX7_isCursor 1 = .ok (.iconst 0, 1) := by decide +kernel
theorem dX7_isCursor_2 : decode cX7_isCursor 2 = .ok (.iconst 3, 1) := by decide +kernel
theorem dX7_isCursor_3 : decode cX7_isCursor 3 = .ok (.invokestatic 41, 3) := by decide +kernel
theorem dX7_isCursor_6 : decode cX7_isCursor 6 = .ok (.ireturn, 1) := by decide +kernel
set_option maxRecDepth 20000 in
theorem ggX7_open_X7_isCursor : GoodIn wsX7_open wsX7_isCursor := goodIn_r _ [5, 6, 7, 4, 8] (by decide +kernel) (by decide +kernel)
set_option maxRecDepth 20000 in
theorem gX7_open_X7_isCursor : GoodIn wsX7_open (va_wsS RX7 232 yX7_isCursor wsX7_isCursor) := goodIn_app (goodIn_of _ (by decide +kernel)) ggX7_open_X7_isCursor
set_option maxRecDepth 20000 in
theorem ggX7_open_X7_isPlace : GoodIn wsX7_open wsX7_isPlace := goodIn_r _ [11, 6, 7, 4, 8] (by decide +kernel) (by decide +kernel)
set_option maxRecDepth 20000 in
theorem gX7_open_X7_isPlace : GoodIn wsX7_open (va_wsS RX7 98 yX7_isPlace wsX7_isPlace) := goodIn_app (goodIn_of _ (by decide +kernel)) ggX7_open_X7_isPlace
set_option maxRecDepth 20000 in
theorem ggX7_open_X7_refused : GoodIn wsX7_open wsX7_refused := goodIn_r _ [15, 16, 27, 28, 29, 30, 31, 32, 33, 34, 35, 36, 37, 38, 39, 40, 41, 42, 43, 44, 45, 46] (by decide +kernel) (by decide +kernel)
set_option maxRecDepth 20000 in
theorem gX7_open_X7_refused : GoodIn wsX7_open (wsV RX7 56 RX7 yX7_refused wsX7_refused) := goodIn_app (goodIn_of _ (by decide +kernel)) ggX7_open_X7_refused
set_option maxRecDepth 20000 in
theorem ggX7_open_X7_saves : GoodIn wsX7_open wsX7_saves := goodIn_r _ [20, 21, 22, 1, 27, 28, 29, 30, 31, 32, 33, 34, 35, 36, 37, 38, 39, 40, 41, 42, 43, 44, 45, 46] (by decide +kernel) (by decide +kernel)
set_option maxRecDepth 20000 in
theorem gX7_open_X7_saves : GoodIn wsX7_open (wsV RX7 116 RX7 yX7_saves wsX7_saves) := goodIn_app (goodIn_of _ (by decide +kernel)) ggX7_open_X7_saves
set_option maxRecDepth 20000 in
theorem ggX7_open_X7_pointMany : GoodIn wsX7_open wsX7_pointMany := goodIn_r _ [26, 1, 27, 28, 29, 30, 31, 32, 33, 34, 35, 36, 37, 38, 39, 40, 41, 42, 43, 44, 45, 46] (by decide +kernel) (by decide +kernel)
set_option maxRecDepth 20000 in
theorem gX7_open_X7_pointMany : GoodIn wsX7_open (wsV RX7 166 RX7 yX7_pointMany wsX7_pointMany) := goodIn_app (goodIn_of _ (by decide +kernel)) ggX7_open_X7_pointMany
theorem dX7_open_0 : decode cX7_open 0 = .ok (.aload_n 0, 1) := by decide +kernel
theorem dX7_open_1 : decode cX7_open 1 = .ok (.iload_n 1, 1) := by decide +kernel
theorem dX7_open_2 : decode cX7_open 2 = .ok (.invokestatic 232, 3) := by decide +kernel
theorem dX7_open_5 : decode cX7_open 5 = .ok (.ifCond .ne 7, 3) := by decide +kernel
theorem dX7_open_8 : decode cX7_open 8 = .ok (.iconst 1, 1) := by decide +kernel
theorem dX7_open_9 : decode cX7_open 9 = .ok (.goto 16, 3) := by decide +kernel
theorem dX7_open_12 : decode cX7_open 12 = .ok (.iload_n 2, 1) := by decide +kernel
theorem dX7_open_13 : decode cX7_open 13 = .ok (.iload_n 3, 1) := by decide +kernel
theorem dX7_open_14 : decode cX7_open 14 = .ok (.invokestatic 98, 3) := by decide +kernel
theorem dX7_open_17 : decode cX7_open 17 = .ok (.ifCond .eq 7, 3) := by decide +kernel
theorem dX7_open_20 : decode cX7_open 20 = .ok (.iconst 0, 1) := by decide +kernel
theorem dX7_open_21 : decode cX7_open 21 = .ok (.goto 4, 3) := by decide +kernel
theorem dX7_open_24 : decode cX7_open 24 = .ok (.iconst 2, 1) := by decide +kernel
theorem dX7_open_25 : decode cX7_open 25 = .ok (.invokevirtual 56, 3) := by decide +kernel
theorem dX7_open_28 : decode cX7_open 28 = .ok (.ifCond .eq 5, 3) := by decide +kernel
theorem dX7_open_31 : decode cX7_open 31 = .ok (.iconst 0, 1) := by decide +kernel
theorem dX7_open_32 : decode cX7_open 32 = .ok (.ireturn, 1) := by decide +kernel
theorem dX7_open_33 : decode cX7_open 33 = .ok (.aload_n 0, 1) := by decide +kernel
theorem dX7_open_34 : decode cX7_open 34 = .ok (.invokevirtual 116, 3) := by decide +kernel
theorem dX7_open_37 : decode cX7_open 37 = .ok (.bipush 120, 2) := by decide +kernel
theorem dX7_open_39 : decode cX7_open 39 = .ok (.iconst 5, 1) := by decide +kernel
theorem dX7_open_40 : decode cX7_open 40 = .ok (.iload_n 1, 1) := by decide +kernel
theorem dX7_open_41 : decode cX7_open 41 = .ok (.imul, 1) := by decide +kernel
theorem dX7_open_42 : decode cX7_open 42 = .ok (.iadd, 1) := by decide +kernel
theorem dX7_open_43 : decode cX7_open 43 = .ok (.istore 4, 2) := by decide +kernel
theorem dX7_open_45 : decode cX7_open 45 = .ok (.aload_n 0, 1) := by decide +kernel
theorem dX7_open_46 : decode cX7_open 46 = .ok (.getfield 7, 3) := by decide +kernel
theorem dX7_open_49 : decode cX7_open 49 = .ok (.iload 4, 2) := by decide +kernel
theorem dX7_open_51 : decode cX7_open 51 = .ok (.iload_n 2, 1) := by decide +kernel
theorem dX7_open_52 : decode cX7_open 52 = .ok (.iastore, 1) := by decide +kernel
theorem dX7_open_53 : decode cX7_open 53 = .ok (.aload_n 0, 1) := by decide +kernel
theorem dX7_open_54 : decode cX7_open 54 = .ok (.getfield 7, 3) := by decide +kernel
theorem dX7_open_57 : decode cX7_open 57 = .ok (.iload 4, 2) := by decide +kernel
theorem dX7_open_59 : decode cX7_open 59 = .ok (.iconst 1, 1) := by decide +kernel
theorem dX7_open_60 : decode cX7_open 60 = .ok (.iadd, 1) := by decide +kernel
theorem dX7_open_61 : decode cX7_open 61 = .ok (.iload_n 3, 1) := by decide +kernel
theorem dX7_open_62 : decode cX7_open 62 = .ok (.iastore, 1) := by decide +kernel
theorem dX7_open_63 : decode cX7_open 63 = .ok (.aload_n 0, 1) := by decide +kernel
theorem dX7_open_64 : decode cX7_open 64 = .ok (.getfield 7, 3) := by decide +kernel
theorem dX7_open_67 : decode cX7_open 67 = .ok (.iload 4, 2) := by decide +kernel
theorem dX7_open_69 : decode cX7_open 69 = .ok (.iconst 2, 1) := by decide +kernel
theorem dX7_open_70 : decode cX7_open 70 = .ok (.iadd, 1) := by decide +kernel
theorem dX7_open_71 : decode cX7_open 71 = .ok (.iconst 0, 1) := by decide +kernel
theorem dX7_open_72 : decode cX7_open 72 = .ok (.iastore, 1) := by decide +kernel
theorem dX7_open_73 : decode cX7_open 73 = .ok (.aload_n 0, 1) := by decide +kernel
theorem dX7_open_74 : decode cX7_open 74 = .ok (.invokevirtual 166, 3) := by decide +kernel
theorem dX7_open_77 : decode cX7_open 77 = .ok (.ireturn, 1) := by decide +kernel
set_option maxRecDepth 20000 in
theorem ggX7_isBehind_X7_far : GoodIn wsX7_isBehind wsX7_far := goodIn_r _ [6, 1, 11, 12, 13, 14, 15, 16, 17, 18, 19, 20, 21, 22, 23, 24, 25, 26, 27, 28, 29, 30] (by decide +kernel) (by decide +kernel)
set_option maxRecDepth 20000 in
theorem gX7_isBehind_X7_far : GoodIn wsX7_isBehind (wsV RX7 235 RX7 yX7_far wsX7_far) := goodIn_app (goodIn_of _ (by decide +kernel)) ggX7_isBehind_X7_far
set_option maxRecDepth 20000 in
theorem ggX7_isBehind_X7_isThere : GoodIn wsX7_isBehind wsX7_isThere := goodIn_r _ [10, 1, 11, 12, 13, 14, 15, 16, 17, 18, 19, 20, 21, 22, 23, 24, 25, 26, 27, 28, 29, 30] (by decide +kernel) (by decide +kernel)
set_option maxRecDepth 20000 in
theorem gX7_isBehind_X7_isThere : GoodIn wsX7_isBehind (wsV RX7 45 RX7 yX7_isThere wsX7_isThere) := goodIn_app (goodIn_of _ (by decide +kernel)) ggX7_isBehind_X7_isThere
theorem dX7_isBehind_0 : decode cX7_isBehind 0 = .ok (.bipush 120, 2) := by decide +kernel
theorem dX7_isBehind_2 : decode cX7_isBehind 2 = .ok (.iconst 5, 1) := by decide +kernel
theorem dX7_isBehind_3 : decode cX7_isBehind 3 = .ok (.iload_n 1, 1) := by decide +kernel
theorem dX7_isBehind_4 : decode cX7_isBehind 4 = .ok (.imul, 1) := by decide +kernel
theorem dX7_isBehind_5 : decode cX7_isBehind 5 = .ok (.iadd, 1) := by decide +kernel
theorem dX7_isBehind_6 : decode cX7_isBehind 6 = .ok (.istore_n 3, 1) := by decide +kernel
theorem dX7_isBehind_7 : decode cX7_isBehind 7 = .ok (.aload_n 0, 1) := by decide +kernel
theorem dX7_isBehind_8 : decode cX7_isBehind 8 = .ok (.iload_n 2, 1) := by decide +kernel
theorem dX7_isBehind_9 : decode cX7_isBehind 9 = .ok (.aload_n 0, 1) := by decide +kernel
theorem dX7_isBehind_10 : decode cX7_isBehind 10 = .ok (.getfield 7, 3) := by decide +kernel
theorem dX7_isBehind_13 : decode cX7_isBehind 13 = .ok (.iload_n 3, 1) := by decide +kernel
theorem dX7_isBehind_14 : decode cX7_isBehind 14 = .ok (.iaload, 1) := by decide +kernel
theorem dX7_isBehind_15 : decode cX7_isBehind 15 = .ok (.aload_n 0, 1) := by decide +kernel
theorem dX7_isBehind_16 : decode cX7_isBehind 16 = .ok (.getfield 7, 3) := by decide +kernel
theorem dX7_isBehind_19 : decode cX7_isBehind 19 = .ok (.iload_n 3, 1) := by decide +kernel
theorem dX7_isBehind_20 : decode cX7_isBehind 20 = .ok (.iconst 1, 1) := by decide +kernel
theorem dX7_isBehind_21 : decode cX7_isBehind 21 = .ok (.iadd, 1) := by decide +kernel
theorem dX7_isBehind_22 : decode cX7_isBehind 22 = .ok (.iaload, 1) := by decide +kernel
theorem dX7_isBehind_23 : decode cX7_isBehind 23 = .ok (.invokevirtual 235, 3) := by decide +kernel
theorem dX7_isBehind_26 : decode cX7_isBehind 26 = .ok (.istore 4, 2) := by decide +kernel
theorem dX7_isBehind_28 : decode cX7_isBehind 28 = .ok (.aload_n 0, 1) := by decide +kernel
theorem dX7_isBehind_29 : decode cX7_isBehind 29 = .ok (.iload_n 2, 1) := by decide +kernel
theorem dX7_isBehind_30 : decode cX7_isBehind 30 = .ok (.invokevirtual 45, 3) := by decide +kernel
theorem dX7_isBehind_33 : decode cX7_isBehind 33 = .ok (.ifCond .eq 56, 3) := by decide +kernel
theorem dX7_isBehind_36 : decode cX7_isBehind 36 = .ok (.aload_n 0, 1) := by decide +kernel
theorem dX7_isBehind_37 : decode cX7_isBehind 37 = .ok (.getfield 7, 3) := by decide +kernel
theorem dX7_isBehind_40 : decode cX7_isBehind 40 = .ok (.iload_n 3, 1) := by decide +kernel
theorem dX7_isBehind_41 : decode cX7_isBehind 41 = .ok (.iconst 2, 1) := by decide +kernel
theorem dX7_isBehind_42 : decode cX7_isBehind 42 = .ok (.iadd, 1) := by decide +kernel
theorem dX7_isBehind_43 : decode cX7_isBehind 43 = .ok (.iaload, 1) := by decide +kernel
theorem dX7_isBehind_44 : decode cX7_isBehind 44 = .ok (.ifCond .eq 41, 3) := by decide +kernel
theorem dX7_isBehind_47 : decode cX7_isBehind 47 = .ok (.iload 4, 2) := by decide +kernel
theorem dX7_isBehind_49 : decode cX7_isBehind 49 = .ok (.aload_n 0, 1) := by decide +kernel
theorem dX7_isBehind_50 : decode cX7_isBehind 50 = .ok (.getfield 7, 3) := by decide +kernel
theorem dX7_isBehind_53 : decode cX7_isBehind 53 = .ok (.iload_n 3, 1) := by decide +kernel
theorem dX7_isBehind_54 : decode cX7_isBehind 54 = .ok (.iconst 3, 1) := by decide +kernel
theorem dX7_isBehind_55 : decode cX7_isBehind 55 = .ok (.iadd, 1) := by decide +kernel
theorem dX7_isBehind_56 : decode cX7_isBehind 56 = .ok (.iaload, 1) := by decide +kernel
theorem dX7_isBehind_57 : decode cX7_isBehind 57 = .ok (.if_icmp .gt 28, 3) := by decide +kernel
theorem dX7_isBehind_60 : decode cX7_isBehind 60 = .ok (.iload 4, 2) := by decide +kernel
theorem dX7_isBehind_62 : decode cX7_isBehind 62 = .ok (.aload_n 0, 1) := by decide +kernel
theorem dX7_isBehind_63 : decode cX7_isBehind 63 = .ok (.getfield 7, 3) := by decide +kernel
theorem dX7_isBehind_66 : decode cX7_isBehind 66 = .ok (.iload_n 3, 1) := by decide +kernel
theorem dX7_isBehind_67 : decode cX7_isBehind 67 = .ok (.iconst 3, 1) := by decide +kernel
theorem dX7_isBehind_68 : decode cX7_isBehind 68 = .ok (.iadd, 1) := by decide +kernel
theorem dX7_isBehind_69 : decode cX7_isBehind 69 = .ok (.iaload, 1) := by decide +kernel
theorem dX7_isBehind_70 : decode cX7_isBehind 70 = .ok (.if_icmp .ne 19, 3) := by decide +kernel
theorem dX7_isBehind_73 : decode cX7_isBehind 73 = .ok (.iload_n 2, 1) := by decide +kernel
theorem dX7_isBehind_74 : decode cX7_isBehind 74 = .ok (.aload_n 0, 1) := by decide +kernel
theorem dX7_isBehind_75 : decode cX7_isBehind 75 = .ok (.getfield 7, 3) := by decide +kernel
theorem dX7_isBehind_78 : decode cX7_isBehind 78 = .ok (.iload_n 3, 1) := by decide +kernel
theorem dX7_isBehind_79 : decode cX7_isBehind 79 = .ok (.iconst 4, 1) := by decide +kernel
theorem dX7_isBehind_80 : decode cX7_isBehind 80 = .ok (.iadd, 1) := by decide +kernel
theorem dX7_isBehind_81 : decode cX7_isBehind 81 = .ok (.iaload, 1) := by decide +kernel
theorem dX7_isBehind_82 : decode cX7_isBehind 82 = .ok (.if_icmp .le 7, 3) := by decide +kernel
theorem dX7_isBehind_85 : decode cX7_isBehind 85 = .ok (.iconst 1, 1) := by decide +kernel
theorem dX7_isBehind_86 : decode cX7_isBehind 86 = .ok (.goto 4, 3) := by decide +kernel
theorem dX7_isBehind_89 : decode cX7_isBehind 89 = .ok (.iconst 0, 1) := by decide +kernel
theorem dX7_isBehind_90 : decode cX7_isBehind 90 = .ok (.ireturn, 1) := by decide +kernel
set_option maxRecDepth 20000 in
theorem ggX7_next_X7_isCursor : GoodIn wsX7_next wsX7_isCursor := goodIn_r _ [5, 6, 7, 4, 8] (by decide +kernel) (by decide +kernel)
set_option maxRecDepth 20000 in
theorem gX7_next_X7_isCursor : GoodIn wsX7_next (va_wsS RX7 232 yX7_isCursor wsX7_isCursor) := goodIn_app (goodIn_of _ (by decide +kernel)) ggX7_next_X7_isCursor
set_option maxRecDepth 20000 in
theorem ggX7_next_X7_refused : GoodIn wsX7_next wsX7_refused := goodIn_r _ [12, 13, 32, 33, 34, 35, 36, 37, 38, 39, 40, 41, 42, 43, 44, 45, 46, 47, 48, 49, 50, 51] (by decide +kernel) (by decide +kernel)
set_option maxRecDepth 20000 in
theorem gX7_next_X7_refused : GoodIn wsX7_next (wsV RX7 56 RX7 yX7_refused wsX7_refused) := goodIn_app (goodIn_of _ (by decide +kernel)) ggX7_next_X7_refused
set_option maxRecDepth 20000 in
theorem ggX7_next_X7_saves : GoodIn wsX7_next wsX7_saves := goodIn_r _ [17, 18, 19, 1, 32, 33, 34, 35, 36, 37, 38, 39, 40, 41, 42, 43, 44, 45, 46, 47, 48, 49, 50, 51] (by decide +kernel) (by decide +kernel)
set_option maxRecDepth 20000 in
theorem gX7_next_X7_saves : GoodIn wsX7_next (wsV RX7 116 RX7 yX7_saves wsX7_saves) := goodIn_app (goodIn_of _ (by decide +kernel)) ggX7_next_X7_saves
set_option maxRecDepth 20000 in
theorem ggX7_next_X7_isBehind : GoodIn wsX7_next wsX7_isBehind := goodIn_r _ [23, 1, 24, 25, 26, 4, 27, 28, 29, 30, 31, 32, 33, 34, 35, 36, 37, 38, 39, 40, 41, 42, 43, 44, 45, 46, 47, 48, 49, 50, 51] (by decide +kernel) (by decide +kernel)
set_option maxRecDepth 20000 in
theorem gX7_next_X7_isBehind : GoodIn wsX7_next (wsV RX7 238 RX7 yX7_isBehind wsX7_isBehind) := goodIn_app (goodIn_of _ (by decide +kernel)) ggX7_next_X7_isBehind
set_option maxRecDepth 20000 in
theorem ggX7_next_X7_far : GoodIn wsX7_next wsX7_far := goodIn_r _ [27, 1, 32, 33, 34, 35, 36, 37, 38, 39, 40, 41, 42, 43, 44, 45, 46, 47, 48, 49, 50, 51] (by decide +kernel) (by decide +kernel)
set_option maxRecDepth 20000 in
theorem gX7_next_X7_far : GoodIn wsX7_next (wsV RX7 235 RX7 yX7_far wsX7_far) := goodIn_app (goodIn_of _ (by decide +kernel)) ggX7_next_X7_far
theorem dX7_next_0 : decode cX7_next 0 = .ok (.aload_n 0, 1) := by decide +kernel
theorem dX7_next_1 : decode cX7_next 1 = .ok (.iload_n 1, 1) := by decide +kernel
theorem dX7_next_2 : decode cX7_next 2 = .ok (.invokestatic 232, 3) := by decide +kernel
theorem dX7_next_5 : decode cX7_next 5 = .ok (.ifCond .eq 7, 3) := by decide +kernel
theorem dX7_next_8 : decode cX7_next 8 = .ok (.iconst 0, 1) := by decide +kernel
theorem dX7_next_9 : decode cX7_next 9 = .ok (.goto 4, 3) := by decide +kernel
theorem dX7_next_12 : decode cX7_next 12 = .ok (.iconst 1, 1) := by decide +kernel
theorem dX7_next_13 : decode cX7_next 13 = .ok (.invokevirtual 56, 3) := by decide +kernel
theorem dX7_next_16 : decode cX7_next 16 = .ok (.ifCond .eq 5, 3) := by decide +kernel
theorem dX7_next_19 : decode cX7_next 19 = .ok (.iconst 0, 1) := by decide +kernel
theorem dX7_next_20 : decode cX7_next 20 = .ok (.ireturn, 1) := by decide +kernel
theorem dX7_next_21 : decode cX7_next 21 = .ok (.aload_n 0, 1) := by decide +kernel
theorem dX7_next_22 : decode cX7_next 22 = .ok (.invokevirtual 116, 3) := by decide +kernel
theorem dX7_next_25 : decode cX7_next 25 = .ok (.bipush 120, 2) := by decide +kernel
theorem dX7_next_27 : decode cX7_next 27 = .ok (.iconst 5, 1) := by decide +kernel
theorem dX7_next_28 : decode cX7_next 28 = .ok (.iload_n 1, 1) := by decide +kernel
theorem dX7_next_29 : decode cX7_next 29 = .ok (.imul, 1) := by decide +kernel
theorem dX7_next_30 : decode cX7_next 30 = .ok (.iadd, 1) := by decide +kernel
theorem dX7_next_31 : decode cX7_next 31 = .ok (.istore_n 2, 1) := by decide +kernel
theorem dX7_next_32 : decode cX7_next 32 = .ok (.iconst (-1), 1) := by decide +kernel
theorem dX7_next_33 : decode cX7_next 33 = .ok (.istore_n 3, 1) := by decide +kernel
theorem dX7_next_34 : decode cX7_next 34 = .ok (.iconst 0, 1) := by decide +kernel
theorem dX7_next_35 : decode cX7_next 35 = .ok (.istore 4, 2) := by decide +kernel
theorem dX7_next_37 : decode cX7_next 37 = .ok (.iload 4, 2) := by decide +kernel
theorem dX7_next_39 : decode cX7_next 39 = .ok (.bipush 24, 2) := by decide +kernel
theorem dX7_next_41 : decode cX7_next 41 = .ok (.if_icmp .ge 85, 3) := by decide +kernel
theorem dX7_next_44 : decode cX7_next 44 = .ok (.aload_n 0, 1) := by decide +kernel
theorem dX7_next_45 : decode cX7_next 45 = .ok (.iload_n 1, 1) := by decide +kernel
theorem dX7_next_46 : decode cX7_next 46 = .ok (.iload 4, 2) := by decide +kernel
theorem dX7_next_48 : decode cX7_next 48 = .ok (.invokevirtual 238, 3) := by decide +kernel
theorem dX7_next_51 : decode cX7_next 51 = .ok (.ifCond .eq 54, 3) := by decide +kernel
theorem dX7_next_54 : decode cX7_next 54 = .ok (.iload_n 3, 1) := by decide +kernel
theorem dX7_next_55 : decode cX7_next 55 = .ok (.iconst (-1), 1) := by decide +kernel
theorem dX7_next_56 : decode cX7_next 56 = .ok (.if_icmp .eq 45, 3) := by decide +kernel
theorem dX7_next_59 : decode cX7_next 59 = .ok (.aload_n 0, 1) := by decide +kernel
theorem dX7_next_60 : decode cX7_next 60 = .ok (.iload 4, 2) := by decide +kernel
theorem dX7_next_62 : decode cX7_next 62 = .ok (.aload_n 0, 1) := by decide +kernel
theorem dX7_next_63 : decode cX7_next 63 = .ok (.getfield 7, 3) := by decide +kernel
theorem dX7_next_66 : decode cX7_next 66 = .ok (.iload_n 2, 1) := by decide +kernel
theorem dX7_next_67 : decode cX7_next 67 = .ok (.iaload, 1) := by decide +kernel
theorem dX7_next_68 : decode cX7_next 68 = .ok (.aload_n 0, 1) := by decide +kernel
theorem dX7_next_69 : decode cX7_next 69 = .ok (.getfield 7, 3) := by decide +kernel
theorem dX7_next_72 : decode cX7_next 72 = .ok (.iload_n 2, 1) := by decide +kernel
theorem dX7_next_73 : decode cX7_next 73 = .ok (.iconst 1, 1) := by decide +kernel
theorem dX7_next_74 : decode cX7_next 74 = .ok (.iadd, 1) := by decide +kernel
theorem dX7_next_75 : decode cX7_next 75 = .ok (.iaload, 1) := by decide +kernel
theorem dX7_next_76 : decode cX7_next 76 = .ok (.invokevirtual 235, 3) := by decide +kernel
theorem dX7_next_79 : decode cX7_next 79 = .ok (.aload_n 0, 1) := by decide +kernel
theorem dX7_next_80 : decode cX7_next 80 = .ok (.iload_n 3, 1) := by decide +kernel
theorem dX7_next_81 : decode cX7_next 81 = .ok (.aload_n 0, 1) := by decide +kernel
theorem dX7_next_82 : decode cX7_next 82 = .ok (.getfield 7, 3) := by decide +kernel
theorem dX7_next_85 : decode cX7_next 85 = .ok (.iload_n 2, 1) := by decide +kernel
theorem dX7_next_86 : decode cX7_next 86 = .ok (.iaload, 1) := by decide +kernel
theorem dX7_next_87 : decode cX7_next 87 = .ok (.aload_n 0, 1) := by decide +kernel
theorem dX7_next_88 : decode cX7_next 88 = .ok (.getfield 7, 3) := by decide +kernel
theorem dX7_next_91 : decode cX7_next 91 = .ok (.iload_n 2, 1) := by decide +kernel
theorem dX7_next_92 : decode cX7_next 92 = .ok (.iconst 1, 1) := by decide +kernel
theorem dX7_next_93 : decode cX7_next 93 = .ok (.iadd, 1) := by decide +kernel
theorem dX7_next_94 : decode cX7_next 94 = .ok (.iaload, 1) := by decide +kernel
theorem dX7_next_95 : decode cX7_next 95 = .ok (.invokevirtual 235, 3) := by decide +kernel
theorem dX7_next_98 : decode cX7_next 98 = .ok (.if_icmp .ge 7, 3) := by decide +kernel
theorem dX7_next_101 : decode cX7_next 101 = .ok (.iconst 1, 1) := by decide +kernel
theorem dX7_next_102 : decode cX7_next 102 = .ok (.goto 4, 3) := by decide +kernel
theorem dX7_next_105 : decode cX7_next 105 = .ok (.iconst 0, 1) := by decide +kernel
theorem dX7_next_106 : decode cX7_next 106 = .ok (.istore 5, 2) := by decide +kernel
theorem dX7_next_108 : decode cX7_next 108 = .ok (.iload 5, 2) := by decide +kernel
theorem dX7_next_110 : decode cX7_next 110 = .ok (.ifCond .eq 8, 3) := by decide +kernel
theorem dX7_next_113 : decode cX7_next 113 = .ok (.iload 4, 2) := by decide +kernel
theorem dX7_next_115 : decode cX7_next 115 = .ok (.goto 4, 3) := by decide +kernel
theorem dX7_next_118 : decode cX7_next 118 = .ok (.iload_n 3, 1) := by decide +kernel
theorem dX7_next_119 : decode cX7_next 119 = .ok (.istore_n 3, 1) := by decide +kernel
theorem dX7_next_120 : decode cX7_next 120 = .ok (.iinc 4 1, 3) := by decide +kernel
theorem dX7_next_123 : decode cX7_next 123 = .ok (.goto (-86), 3) := by decide +kernel
theorem dX7_next_126 : decode cX7_next 126 = .ok (.iload_n 3, 1) := by decide +kernel
theorem dX7_next_127 : decode cX7_next 127 = .ok (.iconst (-1), 1) := by decide +kernel
theorem dX7_next_128 : decode cX7_next 128 = .ok (.if_icmp .eq 48, 3) := by decide +kernel
theorem dX7_next_131 : decode cX7_next 131 = .ok (.aload_n 0, 1) := by decide +kernel
theorem dX7_next_132 : decode cX7_next 132 = .ok (.getfield 7, 3) := by decide +kernel
theorem dX7_next_135 : decode cX7_next 135 = .ok (.iload_n 2, 1) := by decide +kernel
theorem dX7_next_136 : decode cX7_next 136 = .ok (.iconst 2, 1) := by decide +kernel
theorem dX7_next_137 : decode cX7_next 137 = .ok (.iadd, 1) := by decide +kernel
theorem dX7_next_138 : decode cX7_next 138 = .ok (.iconst 1, 1) := by decide +kernel
theorem dX7_next_139 : decode cX7_next 139 = .ok (.iastore, 1) := by decide +kernel
theorem dX7_next_140 : decode cX7_next 140 = .ok (.aload_n 0, 1) := by decide +kernel
theorem dX7_next_141 : decode cX7_next 141 = .ok (.getfield 7, 3) := by decide +kernel
theorem dX7_next_144 : decode cX7_next 144 = .ok (.iload_n 2, 1) := by decide +kernel
theorem dX7_next_145 : decode cX7_next 145 = .ok (.iconst 3, 1) := by decide +kernel
theorem dX7_next_146 : decode cX7_next 146 = .ok (.iadd, 1) := by decide +kernel
theorem dX7_next_147 : decode cX7_next 147 = .ok (.aload_n 0, 1) := by decide +kernel
theorem dX7_next_148 : decode cX7_next 148 = .ok (.iload_n 3, 1) := by decide +kernel
theorem dX7_next_149 : decode cX7_next 149 = .ok (.aload_n 0, 1) := by decide +kernel
theorem dX7_next_150 : decode cX7_next 150 = .ok (.getfield 7, 3) := by decide +kernel
theorem dX7_next_153 : decode cX7_next 153 = .ok (.iload_n 2, 1) := by decide +kernel
theorem dX7_next_154 : decode cX7_next 154 = .ok (.iaload, 1) := by decide +kernel
theorem dX7_next_155 : decode cX7_next 155 = .ok (.aload_n 0, 1) := by decide +kernel
theorem dX7_next_156 : decode cX7_next 156 = .ok (.getfield 7, 3) := by decide +kernel
theorem dX7_next_159 : decode cX7_next 159 = .ok (.iload_n 2, 1) := by decide +kernel
theorem dX7_next_160 : decode cX7_next 160 = .ok (.iconst 1, 1) := by decide +kernel
theorem dX7_next_161 : decode cX7_next 161 = .ok (.iadd, 1) := by decide +kernel
theorem dX7_next_162 : decode cX7_next 162 = .ok (.iaload, 1) := by decide +kernel
theorem dX7_next_163 : decode cX7_next 163 = .ok (.invokevirtual 235, 3) := by decide +kernel
theorem dX7_next_166 : decode cX7_next 166 = .ok (.iastore, 1) := by decide +kernel
theorem dX7_next_167 : decode cX7_next 167 = .ok (.aload_n 0, 1) := by decide +kernel
theorem dX7_next_168 : decode cX7_next 168 = .ok (.getfield 7, 3) := by decide +kernel
theorem dX7_next_171 : decode cX7_next 171 = .ok (.iload_n 2, 1) := by decide +kernel
theorem dX7_next_172 : decode cX7_next 172 = .ok (.iconst 4, 1) := by decide +kernel
theorem dX7_next_173 : decode cX7_next 173 = .ok (.iadd, 1) := by decide +kernel
theorem dX7_next_174 : decode cX7_next 174 = .ok (.iload_n 3, 1) := by decide +kernel
theorem dX7_next_175 : decode cX7_next 175 = .ok (.iastore, 1) := by decide +kernel
theorem dX7_next_176 : decode cX7_next 176 = .ok (.iload_n 3, 1) := by decide +kernel
theorem dX7_next_177 : decode cX7_next 177 = .ok (.ireturn, 1) := by decide +kernel
theorem dX7_beyond_0 : decode cX7_beyond 0 = .ok (.iload_n 0, 1) := by decide +kernel
theorem dX7_beyond_1 : decode cX7_beyond 1 = .ok (.iload_n 1, 1) := by decide +kernel
theorem dX7_beyond_2 : decode cX7_beyond 2 = .ok (.if_icmp .ge 9, 3) := by decide +kernel
theorem dX7_beyond_5 : decode cX7_beyond 5 = .ok (.iload_n 1, 1) := by decide +kernel
theorem dX7_beyond_6 : decode cX7_beyond 6 = .ok (.iload_n 0, 1) := by decide +kernel
theorem dX7_beyond_7 : decode cX7_beyond 7 = .ok (.isub, 1) := by decide +kernel
theorem dX7_beyond_8 : decode cX7_beyond 8 = .ok (.goto 15, 3) := by decide +kernel
theorem dX7_beyond_11 : decode cX7_beyond 11 = .ok (.iload_n 0, 1) := by decide +kernel
theorem dX7_beyond_12 : decode cX7_beyond 12 = .ok (.iload_n 2, 1) := by decide +kernel
theorem dX7_beyond_13 : decode cX7_beyond 13 = .ok (.if_icmp .le 9, 3) := by decide +kernel
theorem dX7_beyond_16 : decode cX7_beyond 16 = .ok (.iload_n 0, 1) := by decide +kernel
theorem dX7_beyond_17 : decode cX7_beyond 17 = .ok (.iload_n 2, 1) := by decide +kernel
theorem dX7_beyond_18 : decode cX7_beyond 18 = .ok (.isub, 1) := by decide +kernel
theorem dX7_beyond_19 : decode cX7_beyond 19 = .ok (.goto 4, 3) := by decide +kernel
theorem dX7_beyond_22 : decode cX7_beyond 22 = .ok (.iconst 0, 1) := by decide +kernel
theorem dX7_beyond_23 : decode cX7_beyond 23 = .ok (.ireturn, 1) := by decide +kernel
set_option maxRecDepth 20000 in
theorem ggX7_farFrom_X7_span : GoodIn wsX7_farFrom wsX7_span := goodIn_r _ [4] (by decide +kernel) (by decide +kernel)
set_option maxRecDepth 20000 in
theorem gX7_farFrom_X7_span : GoodIn wsX7_farFrom (va_wsS RX7 69 yX7_span wsX7_span) := goodIn_app (goodIn_of _ (by decide +kernel)) ggX7_farFrom_X7_span
set_option maxRecDepth 20000 in
theorem ggX7_farFrom_X7_firstOf : GoodIn wsX7_farFrom wsX7_firstOf := goodIn_r _ [7] (by decide +kernel) (by decide +kernel)
set_option maxRecDepth 20000 in
theorem gX7_farFrom_X7_firstOf : GoodIn wsX7_farFrom (va_wsS RX7 66 yX7_firstOf wsX7_firstOf) := goodIn_app (goodIn_of _ (by decide +kernel)) ggX7_farFrom_X7_firstOf
set_option maxRecDepth 20000 in
theorem ggX7_farFrom_X7_xOf : GoodIn wsX7_farFrom wsX7_xOf := goodIn_r _ [10] (by decide +kernel) (by decide +kernel)
set_option maxRecDepth 20000 in
theorem gX7_farFrom_X7_xOf : GoodIn wsX7_farFrom (va_wsS RX7 59 yX7_xOf wsX7_xOf) := goodIn_app (goodIn_of _ (by decide +kernel)) ggX7_farFrom_X7_xOf
set_option maxRecDepth 20000 in
theorem ggX7_farFrom_X7_yOf : GoodIn wsX7_farFrom wsX7_yOf := goodIn_r _ [13, 8, 9, 3, 10] (by decide +kernel) (by decide +kernel)
set_option maxRecDepth 20000 in
theorem gX7_farFrom_X7_yOf : GoodIn wsX7_farFrom (va_wsS RX7 194 yX7_yOf wsX7_yOf) := goodIn_app (goodIn_of _ (by decide +kernel)) ggX7_farFrom_X7_yOf
set_option maxRecDepth 20000 in
theorem ggX7_farFrom_X7_beyond : GoodIn wsX7_farFrom wsX7_beyond := goodIn_r _ [16] (by decide +kernel) (by decide +kernel)
set_option maxRecDepth 20000 in
theorem gX7_farFrom_X7_beyond : GoodIn wsX7_farFrom (va_wsS RX7 241 yX7_beyond wsX7_beyond) := goodIn_app (goodIn_of _ (by decide +kernel)) ggX7_farFrom_X7_beyond
theorem dX7_farFrom_0 : decode cX7_farFrom 0 = .ok (.iconst 1, 1) := by decide +kernel
theorem dX7_farFrom_1 : decode cX7_farFrom 1 = .ok (.iload_n 0, 1) := by decide +kernel
theorem dX7_farFrom_2 : decode cX7_farFrom 2 = .ok (.invokestatic 69, 3) := by decide +kernel
theorem dX7_farFrom_5 : decode cX7_farFrom 5 = .ok (.ishl, 1) := by decide +kernel
theorem dX7_farFrom_6 : decode cX7_farFrom 6 = .ok (.iconst 1, 1) := by decide +kernel
theorem dX7_farFrom_7 : decode cX7_farFrom 7 = .ok (.isub, 1) := by decide +kernel
theorem dX7_farFrom_8 : decode cX7_farFrom 8 = .ok (.istore_n 3, 1) := by decide +kernel
theorem dX7_farFrom_9 : decode cX7_farFrom 9 = .ok (.iload_n 0, 1) := by decide +kernel
theorem dX7_farFrom_10 : decode cX7_farFrom 10 = .ok (.invokestatic 66, 3) := by decide +kernel
theorem dX7_farFrom_13 : decode cX7_farFrom 13 = .ok (.invokestatic 59, 3) := by decide +kernel
theorem dX7_farFrom_16 : decode cX7_farFrom 16 = .ok (.istore 4, 2) := by decide +kernel
theorem dX7_farFrom_18 : decode cX7_farFrom 18 = .ok (.iload_n 0, 1) := by decide +kernel
theorem dX7_farFrom_19 : decode cX7_farFrom 19 = .ok (.invokestatic 66, 3) := by decide +kernel
theorem dX7_farFrom_22 : decode cX7_farFrom 22 = .ok (.invokestatic 194, 3) := by decide +kernel
theorem dX7_farFrom_25 : decode cX7_farFrom 25 = .ok (.istore 5, 2) := by decide +kernel
theorem dX7_farFrom_27 : decode cX7_farFrom 27 = .ok (.iload_n 1, 1) := by decide +kernel
theorem dX7_farFrom_28 : decode cX7_farFrom 28 = .ok (.iload 4, 2) := by decide +kernel
theorem dX7_farFrom_30 : decode cX7_farFrom 30 = .ok (.iload 4, 2) := by decide +kernel
theorem dX7_farFrom_32 : decode cX7_farFrom 32 = .ok (.iload_n 3, 1) := by decide +kernel
theorem dX7_farFrom_33 : decode cX7_farFrom 33 = .ok (.iadd, 1) := by decide +kernel
theorem dX7_farFrom_34 : decode cX7_farFrom 34 = .ok (.invokestatic 241, 3) := by decide +kernel
theorem dX7_farFrom_37 : decode cX7_farFrom 37 = .ok (.istore 6, 2) := by decide +kernel
theorem dX7_farFrom_39 : decode cX7_farFrom 39 = .ok (.iload_n 2, 1) := by decide +kernel
theorem dX7_farFrom_40 : decode cX7_farFrom 40 = .ok (.iload 5, 2) := by decide +kernel
theorem dX7_farFrom_42 : decode cX7_farFrom 42 = .ok (.iload 5, 2) := by decide +kernel
theorem dX7_farFrom_44 : decode cX7_farFrom 44 = .ok (.iload_n 3, 1) := by decide +kernel
theorem dX7_farFrom_45 : decode cX7_farFrom 45 = .ok (.iadd, 1) := by decide +kernel
theorem dX7_farFrom_46 : decode cX7_farFrom 46 = .ok (.invokestatic 241, 3) := by decide +kernel
theorem dX7_farFrom_49 : decode cX7_farFrom 49 = .ok (.istore 7, 2) := by decide +kernel
theorem dX7_farFrom_51 : decode cX7_farFrom 51 = .ok (.iload 6, 2) := by decide +kernel
theorem dX7_farFrom_53 : decode cX7_farFrom 53 = .ok (.iload 6, 2) := by decide +kernel
theorem dX7_farFrom_55 : decode cX7_farFrom 55 = .ok (.imul, 1) := by decide +kernel
theorem dX7_farFrom_56 : decode cX7_farFrom 56 = .ok (.iload 7, 2) := by decide +kernel
theorem dX7_farFrom_58 : decode cX7_farFrom 58 = .ok (.iload 7, 2) := by decide +kernel
theorem dX7_farFrom_60 : decode cX7_farFrom 60 = .ok (.imul, 1) := by decide +kernel
theorem dX7_farFrom_61 : decode cX7_farFrom 61 = .ok (.iadd, 1) := by decide +kernel
theorem dX7_farFrom_62 : decode cX7_farFrom 62 = .ok (.ireturn, 1) := by decide +kernel
set_option maxRecDepth 20000 in
theorem ggX7_tellCursor_X7_isBehind : GoodIn wsX7_tellCursor wsX7_isBehind := goodIn_r _ [7, 1, 8, 9, 10, 6, 11, 12, 13, 14, 15, 39, 40, 41, 42, 43, 44, 45, 46, 47, 48, 49, 50, 51, 52, 53, 54, 55, 56, 57, 58] (by decide +kernel) (by decide +kernel)
set_option maxRecDepth 20000 in
theorem gX7_tellCursor_X7_isBehind : GoodIn wsX7_tellCursor (wsV RX7 238 RX7 yX7_isBehind wsX7_isBehind) := goodIn_app (goodIn_of _ (by decide +kernel)) ggX7_tellCursor_X7_isBehind
set_option maxRecDepth 20000 in
theorem ggX7_tellCursor_X7_nodeAt : GoodIn wsX7_tellCursor wsX7_nodeAt := goodIn_r _ [19, 20, 39, 40, 41, 42, 43, 44, 45, 46, 47, 48, 49, 50, 51, 52, 53, 54, 55, 56, 57, 58] (by decide +kernel) (by decide +kernel)
set_option maxRecDepth 20000 in
theorem gX7_tellCursor_X7_nodeAt : GoodIn wsX7_tellCursor (wsV RX7 86 RX7 yX7_nodeAt wsX7_nodeAt) := goodIn_app (goodIn_of _ (by decide +kernel)) ggX7_tellCursor_X7_nodeAt
set_option maxRecDepth 20000 in
theorem ggX7_tellCursor_X7_farFrom : GoodIn wsX7_tellCursor wsX7_farFrom := goodIn_r _ [23, 24, 25, 6, 26, 27, 28, 29, 30, 31, 32, 33, 34, 35, 36, 37, 38] (by decide +kernel) (by decide +kernel)
set_option maxRecDepth 20000 in
theorem gX7_tellCursor_X7_farFrom : GoodIn wsX7_tellCursor (va_wsS RX7 244 yX7_farFrom wsX7_farFrom) := goodIn_app (goodIn_of _ (by decide +kernel)) ggX7_tellCursor_X7_farFrom
theorem dX7_tellCursor_0 : decode cX7_tellCursor 0 = .ok (.bipush 120, 2) := by decide +kernel
theorem dX7_tellCursor_2 : decode cX7_tellCursor 2 = .ok (.iconst 5, 1) := by decide +kernel
theorem dX7_tellCursor_3 : decode cX7_tellCursor 3 = .ok (.iload_n 1, 1) := by decide +kernel
theorem dX7_tellCursor_4 : decode cX7_tellCursor 4 = .ok (.imul, 1) := by decide +kernel
theorem dX7_tellCursor_5 : decode cX7_tellCursor 5 = .ok (.iadd, 1) := by decide +kernel
theorem dX7_tellCursor_6 : decode cX7_tellCursor 6 = .ok (.istore_n 3, 1) := by decide +kernel
theorem dX7_tellCursor_7 : decode cX7_tellCursor 7 = .ok (.iconst 0, 1) := by decide +kernel
theorem dX7_tellCursor_8 : decode cX7_tellCursor 8 = .ok (.istore 4, 2) := by decide +kernel
theorem dX7_tellCursor_10 : decode cX7_tellCursor 10 = .ok (.iload_n 2, 1) := by decide +kernel
theorem dX7_tellCursor_11 : decode cX7_tellCursor 11 = .ok (.tableswitch 107 0 4 #[33, 33, 42, 42, 68], 33) := by decide +kernel
theorem dX7_tellCursor_44 : decode cX7_tellCursor 44 = .ok (.aload_n 0, 1) := by decide +kernel
theorem dX7_tellCursor_45 : decode cX7_tellCursor 45 = .ok (.getfield 7, 3) := by decide +kernel
theorem dX7_tellCursor_48 : decode cX7_tellCursor 48 = .ok (.iload_n 3, 1) := by decide +kernel
theorem dX7_tellCursor_49 : decode cX7_tellCursor 49 = .ok (.iload_n 2, 1) := by decide +kernel
theorem dX7_tellCursor_50 : decode cX7_tellCursor 50 = .ok (.iadd, 1) := by decide +kernel
theorem dX7_tellCursor_51 : decode cX7_tellCursor 51 = .ok (.iaload, 1) := by decide +kernel
theorem dX7_tellCursor_52 : decode cX7_tellCursor 52 = .ok (.ireturn, 1) := by decide +kernel
theorem dX7_tellCursor_53 : decode cX7_tellCursor 53 = .ok (.aload_n 0, 1) := by decide +kernel
theorem dX7_tellCursor_54 : decode cX7_tellCursor 54 = .ok (.getfield 7, 3) := by decide +kernel
theorem dX7_tellCursor_57 : decode cX7_tellCursor 57 = .ok (.iload_n 3, 1) := by decide +kernel
theorem dX7_tellCursor_58 : decode cX7_tellCursor 58 = .ok (.iconst 2, 1) := by decide +kernel
theorem dX7_tellCursor_59 : decode cX7_tellCursor 59 = .ok (.iadd, 1) := by decide +kernel
theorem dX7_tellCursor_60 : decode cX7_tellCursor 60 = .ok (.iaload, 1) := by decide +kernel
theorem dX7_tellCursor_61 : decode cX7_tellCursor 61 = .ok (.ifCond .ne 7, 3) := by decide +kernel
theorem dX7_tellCursor_64 : decode cX7_tellCursor 64 = .ok (.iconst (-1), 1) := by decide +kernel
theorem dX7_tellCursor_65 : decode cX7_tellCursor 65 = .ok (.goto 13, 3) := by decide +kernel
theorem dX7_tellCursor_68 : decode cX7_tellCursor 68 = .ok (.aload_n 0, 1) := by decide +kernel
theorem dX7_tellCursor_69 : decode cX7_tellCursor 69 = .ok (.getfield 7, 3) := by decide +kernel
theorem dX7_tellCursor_72 : decode cX7_tellCursor 72 = .ok (.iload_n 3, 1) := by decide +kernel
theorem dX7_tellCursor_73 : decode cX7_tellCursor 73 = .ok (.iconst 1, 1) := by decide +kernel
theorem dX7_tellCursor_74 : decode cX7_tellCursor 74 = .ok (.iadd, 1) := by decide +kernel
theorem dX7_tellCursor_75 : decode cX7_tellCursor 75 = .ok (.iload_n 2, 1) := by decide +kernel
theorem dX7_tellCursor_76 : decode cX7_tellCursor 76 = .ok (.iadd, 1) := by decide +kernel
theorem dX7_tellCursor_77 : decode cX7_tellCursor 77 = .ok (.iaload, 1) := by decide +kernel
theorem dX7_tellCursor_78 : decode cX7_tellCursor 78 = .ok (.ireturn, 1) := by decide +kernel
theorem dX7_tellCursor_79 : decode cX7_tellCursor 79 = .ok (.iconst 0, 1) := by decide +kernel
theorem dX7_tellCursor_80 : decode cX7_tellCursor 80 = .ok (.istore 5, 2) := by decide +kernel
theorem dX7_tellCursor_82 : decode cX7_tellCursor 82 = .ok (.iload 5, 2) := by decide +kernel
theorem dX7_tellCursor_84 : decode cX7_tellCursor 84 = .ok (.bipush 24, 2) := by decide +kernel
theorem dX7_tellCursor_86 : decode cX7_tellCursor 86 = .ok (.if_icmp .ge 29, 3) := by decide +kernel
theorem dX7_tellCursor_89 : decode cX7_tellCursor 89 = .ok (.iload 4, 2) := by decide +kernel
theorem dX7_tellCursor_91 : decode cX7_tellCursor 91 = .ok (.aload_n 0, 1) := by decide +kernel
theorem dX7_tellCursor_92 : decode cX7_tellCursor 92 = .ok (.iload_n 1, 1) := by decide +kernel
theorem dX7_tellCursor_93 : decode cX7_tellCursor 93 = .ok (.iload 5, 2) := by decide +kernel
theorem dX7_tellCursor_95 : decode cX7_tellCursor 95 = .ok (.invokevirtual 238, 3) := by decide +kernel
theorem dX7_tellCursor_98 : decode cX7_tellCursor 98 = .ok (.ifCond .eq 7, 3) := by decide +kernel
theorem dX7_tellCursor_101 : decode cX7_tellCursor 101 = .ok (.iconst 1, 1) := by decide +kernel
theorem dX7_tellCursor_102 : decode cX7_tellCursor 102 = .ok (.goto 4, 3) := by decide +kernel
theorem dX7_tellCursor_105 : decode cX7_tellCursor 105 = .ok (.iconst 0, 1) := by decide +kernel
theorem dX7_tellCursor_106 : decode cX7_tellCursor 106 = .ok (.iadd, 1) := by decide +kernel
theorem dX7_tellCursor_107 : decode cX7_tellCursor 107 = .ok (.istore 4, 2) := by decide +kernel
theorem dX7_tellCursor_109 : decode cX7_tellCursor 109 = .ok (.iinc 5 1, 3) := by decide +kernel
theorem dX7_tellCursor_112 : decode cX7_tellCursor 112 = .ok (.goto (-30), 3) := by decide +kernel
theorem dX7_tellCursor_115 : decode cX7_tellCursor 115 = .ok (.iload 4, 2) := by decide +kernel
theorem dX7_tellCursor_117 : decode cX7_tellCursor 117 = .ok (.ireturn, 1) := by decide +kernel
theorem dX7_tellCursor_118 : decode cX7_tellCursor 118 = .ok (.iconst 0, 1) := by decide +kernel
theorem dX7_tellCursor_119 : decode cX7_tellCursor 119 = .ok (.istore 5, 2) := by decide +kernel
theorem dX7_tellCursor_121 : decode cX7_tellCursor 121 = .ok (.iload 5, 2) := by decide +kernel
theorem dX7_tellCursor_123 : decode cX7_tellCursor 123 = .ok (.aload_n 0, 1) := by decide +kernel
theorem dX7_tellCursor_124 : decode cX7_tellCursor 124 = .ok (.getfield 25, 3) := by decide +kernel
theorem dX7_tellCursor_127 : decode cX7_tellCursor 127 = .ok (.iconst 0, 1) := by decide +kernel
theorem dX7_tellCursor_128 : decode cX7_tellCursor 128 = .ok (.iaload, 1) := by decide +kernel
theorem dX7_tellCursor_129 : decode cX7_tellCursor 129 = .ok (.if_icmp .ge 66, 3) := by decide +kernel
theorem dX7_tellCursor_132 : decode cX7_tellCursor 132 = .ok (.aload_n 0, 1) := by decide +kernel
theorem dX7_tellCursor_133 : decode cX7_tellCursor 133 = .ok (.getfield 7, 3) := by decide +kernel
theorem dX7_tellCursor_136 : decode cX7_tellCursor 136 = .ok (.iload_n 3, 1) := by decide +kernel
theorem dX7_tellCursor_137 : decode cX7_tellCursor 137 = .ok (.iconst 2, 1) := by decide +kernel
theorem dX7_tellCursor_138 : decode cX7_tellCursor 138 = .ok (.iadd, 1) := by decide +kernel
theorem dX7_tellCursor_139 : decode cX7_tellCursor 139 = .ok (.iaload, 1) := by decide +kernel
theorem dX7_tellCursor_140 : decode cX7_tellCursor 140 = .ok (.iconst 1, 1) := by decide +kernel
theorem dX7_tellCursor_141 : decode cX7_tellCursor 141 = .ok (.if_icmp .ne 54, 3) := by decide +kernel
theorem dX7_tellCursor_144 : decode cX7_tellCursor 144 = .ok (.iload 4, 2) := by decide +kernel
theorem dX7_tellCursor_146 : decode cX7_tellCursor 146 = .ok (.aload_n 0, 1) := by decide +kernel
theorem dX7_tellCursor_147 : decode cX7_tellCursor 147 = .ok (.iconst 0, 1) := by decide +kernel
theorem dX7_tellCursor_148 : decode cX7_tellCursor 148 = .ok (.iload 5, 2) := by decide +kernel
theorem dX7_tellCursor_150 : decode cX7_tellCursor 150 = .ok (.invokevirtual 86, 3) := by decide +kernel
theorem dX7_tellCursor_153 : decode cX7_tellCursor 153 = .ok (.aload_n 0, 1) := by decide +kernel
theorem dX7_tellCursor_154 : decode cX7_tellCursor 154 = .ok (.getfield 7, 3) := by decide +kernel
theorem dX7_tellCursor_157 : decode cX7_tellCursor 157 = .ok (.iload_n 3, 1) := by decide +kernel
theorem dX7_tellCursor_158 : decode cX7_tellCursor 158 = .ok (.iaload, 1) := by decide +kernel
theorem dX7_tellCursor_159 : decode cX7_tellCursor 159 = .ok (.aload_n 0, 1) := by decide +kernel
theorem dX7_tellCursor_160 : decode cX7_tellCursor 160 = .ok (.getfield 7, 3) := by decide +kernel
theorem dX7_tellCursor_163 : decode cX7_tellCursor 163 = .ok (.iload_n 3, 1) := by decide +kernel
theorem dX7_tellCursor_164 : decode cX7_tellCursor 164 = .ok (.iconst 1, 1) := by decide +kernel
theorem dX7_tellCursor_165 : decode cX7_tellCursor 165 = .ok (.iadd, 1) := by decide +kernel
theorem dX7_tellCursor_166 : decode cX7_tellCursor 166 = .ok (.iaload, 1) := by decide +kernel
theorem dX7_tellCursor_167 : decode cX7_tellCursor 167 = .ok (.invokestatic 244, 3) := by decide +kernel
theorem dX7_tellCursor_170 : decode cX7_tellCursor 170 = .ok (.aload_n 0, 1) := by decide +kernel
theorem dX7_tellCursor_171 : decode cX7_tellCursor 171 = .ok (.getfield 7, 3) := by decide +kernel
theorem dX7_tellCursor_174 : decode cX7_tellCursor 174 = .ok (.iload_n 3, 1) := by decide +kernel
theorem dX7_tellCursor_175 : decode cX7_tellCursor 175 = .ok (.iconst 3, 1) := by decide +kernel
theorem dX7_tellCursor_176 : decode cX7_tellCursor 176 = .ok (.iadd, 1) := by decide +kernel
theorem dX7_tellCursor_177 : decode cX7_tellCursor 177 = .ok (.iaload, 1) := by decide +kernel
theorem dX7_tellCursor_178 : decode cX7_tellCursor 178 = .ok (.if_icmp .gt 7, 3) := by decide +kernel
theorem dX7_tellCursor_181 : decode cX7_tellCursor 181 = .ok (.iconst 1, 1) := by decide +kernel
theorem dX7_tellCursor_182 : decode cX7_tellCursor 182 = .ok (.goto 4, 3) := by decide +kernel
theorem dX7_tellCursor_185 : decode cX7_tellCursor 185 = .ok (.iconst 0, 1) := by decide +kernel
theorem dX7_tellCursor_186 : decode cX7_tellCursor 186 = .ok (.iadd, 1) := by decide +kernel
theorem dX7_tellCursor_187 : decode cX7_tellCursor 187 = .ok (.istore 4, 2) := by decide +kernel
theorem dX7_tellCursor_189 : decode cX7_tellCursor 189 = .ok (.iinc 5 1, 3) := by decide +kernel
theorem dX7_tellCursor_192 : decode cX7_tellCursor 192 = .ok (.goto (-71), 3) := by decide +kernel
theorem dX7_tellCursor_195 : decode cX7_tellCursor 195 = .ok (.iload 4, 2) := by decide +kernel
theorem dX7_tellCursor_197 : decode cX7_tellCursor 197 = .ok (.ireturn, 1) := by decide +kernel
set_option maxRecDepth 20000 in
theorem ggX7_cursor_X7_isCursor : GoodIn wsX7_cursor wsX7_isCursor := goodIn_r _ [4, 5, 6, 3, 7] (by decide +kernel) (by decide +kernel)
set_option maxRecDepth 20000 in
theorem gX7_cursor_X7_isCursor : GoodIn wsX7_cursor (va_wsS RX7 232 yX7_isCursor wsX7_isCursor) := goodIn_app (goodIn_of _ (by decide +kernel)) ggX7_cursor_X7_isCursor
set_option maxRecDepth 20000 in
theorem ggX7_cursor_X7_in : GoodIn wsX7_cursor wsX7_in := goodIn_r _ [7] (by decide +kernel) (by decide +kernel)
set_option maxRecDepth 20000 in
theorem gX7_cursor_X7_in : GoodIn wsX7_cursor (va_wsS RX7 41 yX7_in wsX7_in) := goodIn_app (goodIn_of _ (by decide +kernel)) ggX7_cursor_X7_in
set_option maxRecDepth 20000 in
theorem ggX7_cursor_X7_refused : GoodIn wsX7_cursor wsX7_refused := goodIn_r _ [11, 12, 79, 80, 81, 82, 83, 84, 85, 86, 87, 88, 89, 90, 91, 92, 93, 94, 95, 96, 97, 98] (by decide +kernel) (by decide +kernel)
set_option maxRecDepth 20000 in
theorem gX7_cursor_X7_refused : GoodIn wsX7_cursor (wsV RX7 56 RX7 yX7_refused wsX7_refused) := goodIn_app (goodIn_of _ (by decide +kernel)) ggX7_cursor_X7_refused
set_option maxRecDepth 20000 in
theorem ggX7_cursor_X7_lays : GoodIn wsX7_cursor wsX7_lays := goodIn_r _ [16, 17, 18, 19, 20, 3, 21, 22, 23, 24, 25, 26, 27, 28, 29, 30, 31, 32, 33, 34, 35, 36, 37, 38, 39, 40, 41, 42, 43, 44, 79, 80, 81, 82, 83, 84, 85, 86, 87, 88, 89, 90, 91, 92, 93, 94, 95, 96, 97, 98] (by decide +kernel) (by decide +kernel)
set_option maxRecDepth 20000 in
theorem gX7_cursor_X7_lays : GoodIn wsX7_cursor (wsV RX7 89 RX7 yX7_lays wsX7_lays) := goodIn_app (goodIn_of _ (by decide +kernel)) ggX7_cursor_X7_lays
set_option maxRecDepth 20000 in
theorem ggX7_cursor_X7_tellCursor : GoodIn wsX7_cursor wsX7_tellCursor := goodIn_r _ [48, 31, 17, 49, 50, 51, 3, 52, 53, 54, 55, 56, 27, 28, 29, 30, 57, 58, 59, 60, 22, 61, 62, 63, 64, 65, 66, 67, 68, 69, 70, 71, 72, 73, 74, 75, 76, 77, 78, 79, 80, 81, 82, 83, 84, 85, 86, 87, 88, 89, 90, 91, 92, 93, 94, 95, 96, 97, 98] (by decide +kernel) (by decide +kernel)
set_option maxRecDepth 20000 in
theorem gX7_cursor_X7_tellCursor : GoodIn wsX7_cursor (wsV RX7 247 RX7 yX7_tellCursor wsX7_tellCursor) := goodIn_app (goodIn_of _ (by decide +kernel)) ggX7_cursor_X7_tellCursor
theorem dX7_cursor_0 : decode cX7_cursor 0 = .ok (.aload_n 0, 1) := by decide +kernel
theorem dX7_cursor_1 : decode cX7_cursor 1 = .ok (.iload_n 1, 1) := by decide +kernel
theorem dX7_cursor_2 : decode cX7_cursor 2 = .ok (.invokestatic 232, 3) := by decide +kernel
theorem dX7_cursor_5 : decode cX7_cursor 5 = .ok (.ifCond .ne 7, 3) := by decide +kernel
theorem dX7_cursor_8 : decode cX7_cursor 8 = .ok (.iconst 1, 1) := by decide +kernel
theorem dX7_cursor_9 : decode cX7_cursor 9 = .ok (.goto 17, 3) := by decide +kernel
theorem dX7_cursor_12 : decode cX7_cursor 12 = .ok (.iload_n 2, 1) := by decide +kernel
theorem dX7_cursor_13 : decode cX7_cursor 13 = .ok (.iconst 0, 1) := by decide +kernel
theorem dX7_cursor_14 : decode cX7_cursor 14 = .ok (.iconst 5, 1) := by decide +kernel
theorem dX7_cursor_15 : decode cX7_cursor 15 = .ok (.invokestatic 41, 3) := by decide +kernel
theorem dX7_cursor_18 : decode cX7_cursor 18 = .ok (.ifCond .eq 7, 3) := by decide +kernel
theorem dX7_cursor_21 : decode cX7_cursor 21 = .ok (.iconst 0, 1) := by decide +kernel
theorem dX7_cursor_22 : decode cX7_cursor 22 = .ok (.goto 4, 3) := by decide +kernel
theorem dX7_cursor_25 : decode cX7_cursor 25 = .ok (.iconst 2, 1) := by decide +kernel
theorem dX7_cursor_26 : decode cX7_cursor 26 = .ok (.invokevirtual 56, 3) := by decide +kernel
theorem dX7_cursor_29 : decode cX7_cursor 29 = .ok (.ifCond .eq 5, 3) := by decide +kernel
theorem dX7_cursor_32 : decode cX7_cursor 32 = .ok (.iconst 0, 1) := by decide +kernel
theorem dX7_cursor_33 : decode cX7_cursor 33 = .ok (.ireturn, 1) := by decide +kernel
theorem dX7_cursor_34 : decode cX7_cursor 34 = .ok (.aload_n 0, 1) := by decide +kernel
theorem dX7_cursor_35 : decode cX7_cursor 35 = .ok (.invokevirtual 89, 3) := by decide +kernel
theorem dX7_cursor_38 : decode cX7_cursor 38 = .ok (.aload_n 0, 1) := by decide +kernel
theorem dX7_cursor_39 : decode cX7_cursor 39 = .ok (.iload_n 1, 1) := by decide +kernel
theorem dX7_cursor_40 : decode cX7_cursor 40 = .ok (.iload_n 2, 1) := by decide +kernel
theorem dX7_cursor_41 : decode cX7_cursor 41 = .ok (.invokevirtual 247, 3) := by decide +kernel
theorem dX7_cursor_44 : decode cX7_cursor 44 = .ok (.ireturn, 1) := by decide +kernel
set_option maxRecDepth 20000 in
theorem ggX7_nearest_X7_isPlace : GoodIn wsX7_nearest wsX7_isPlace := goodIn_r _ [4, 5, 6, 3, 7] (by decide +kernel) (by decide +kernel)
set_option maxRecDepth 20000 in
theorem gX7_nearest_X7_isPlace : GoodIn wsX7_nearest (va_wsS RX7 98 yX7_isPlace wsX7_isPlace) := goodIn_app (goodIn_of _ (by decide +kernel)) ggX7_nearest_X7_isPlace
set_option maxRecDepth 20000 in
theorem ggX7_nearest_X7_refused : GoodIn wsX7_nearest wsX7_refused := goodIn_r _ [11, 12, 22, 23, 24, 25, 26, 27, 28, 29, 30, 31, 32, 33, 34, 35, 36, 37, 38, 39, 40, 41] (by decide +kernel) (by decide +kernel)
set_option maxRecDepth 20000 in
theorem gX7_nearest_X7_refused : GoodIn wsX7_nearest (wsV RX7 56 RX7 yX7_refused wsX7_refused) := goodIn_app (goodIn_of _ (by decide +kernel)) ggX7_nearest_X7_refused
set_option maxRecDepth 20000 in
theorem ggX7_nearest_X7_far : GoodIn wsX7_nearest wsX7_far := goodIn_r _ [16, 17, 22, 23, 24, 25, 26, 27, 28, 29, 30, 31, 32, 33, 34, 35, 36, 37, 38, 39, 40, 41] (by decide +kernel) (by decide +kernel)
set_option maxRecDepth 20000 in
theorem gX7_nearest_X7_far : GoodIn wsX7_nearest (wsV RX7 235 RX7 yX7_far wsX7_far) := goodIn_app (goodIn_of _ (by decide +kernel)) ggX7_nearest_X7_far
set_option maxRecDepth 20000 in
theorem ggX7_nearest_X7_isThere : GoodIn wsX7_nearest wsX7_isThere := goodIn_r _ [21, 17, 22, 23, 24, 25, 26, 27, 28, 29, 30, 31, 32, 33, 34, 35, 36, 37, 38, 39, 40, 41] (by decide +kernel) (by decide +kernel)
set_option maxRecDepth 20000 in
theorem gX7_nearest_X7_isThere : GoodIn wsX7_nearest (wsV RX7 45 RX7 yX7_isThere wsX7_isThere) := goodIn_app (goodIn_of _ (by decide +kernel)) ggX7_nearest_X7_isThere
theorem dX7_nearest_0 : decode cX7_nearest 0 = .ok (.aload_n 0, 1) := by decide +kernel
theorem dX7_nearest_1 : decode cX7_nearest 1 = .ok (.iload_n 1, 1) := by decide +kernel
theorem dX7_nearest_2 : decode cX7_nearest 2 = .ok (.iload_n 2, 1) := by decide +kernel
theorem dX7_nearest_3 : decode cX7_nearest 3 = .ok (.invokestatic 98, 3) := by decide +kernel
theorem dX7_nearest_6 : decode cX7_nearest 6 = .ok (.ifCond .eq 11, 3) := by decide +kernel
theorem dX7_nearest_9 : decode cX7_nearest 9 = .ok (.iload_n 3, 1) := by decide +kernel
theorem dX7_nearest_10 : decode cX7_nearest 10 = .ok (.ifCond .lt 7, 3) := by decide +kernel
theorem dX7_nearest_13 : decode cX7_nearest 13 = .ok (.iconst 0, 1) := by decide +kernel
theorem dX7_nearest_14 : decode cX7_nearest 14 = .ok (.goto 4, 3) := by decide +kernel
theorem dX7_nearest_17 : decode cX7_nearest 17 = .ok (.iconst 1, 1) := by decide +kernel
theorem dX7_nearest_18 : decode cX7_nearest 18 = .ok (.invokevirtual 56, 3) := by decide +kernel
theorem dX7_nearest_21 : decode cX7_nearest 21 = .ok (.ifCond .eq 5, 3) := by decide +kernel
theorem dX7_nearest_24 : decode cX7_nearest 24 = .ok (.iconst 0, 1) := by decide +kernel
theorem dX7_nearest_25 : decode cX7_nearest 25 = .ok (.ireturn, 1) := by decide +kernel
theorem dX7_nearest_26 : decode cX7_nearest 26 = .ok (.iconst (-1), 1) := by decide +kernel
theorem dX7_nearest_27 : decode cX7_nearest 27 = .ok (.istore 4, 2) := by decide +kernel
theorem dX7_nearest_29 : decode cX7_nearest 29 = .ok (.iconst 0, 1) := by decide +kernel
theorem dX7_nearest_30 : decode cX7_nearest 30 = .ok (.istore 5, 2) := by decide +kernel
theorem dX7_nearest_32 : decode cX7_nearest 32 = .ok (.iload 5, 2) := by decide +kernel
theorem dX7_nearest_34 : decode cX7_nearest 34 = .ok (.bipush 24, 2) := by decide +kernel
theorem dX7_nearest_36 : decode cX7_nearest 36 = .ok (.if_icmp .ge 107, 3) := by decide +kernel
theorem dX7_nearest_39 : decode cX7_nearest 39 = .ok (.iconst 0, 1) := by decide +kernel
theorem dX7_nearest_40 : decode cX7_nearest 40 = .ok (.istore 6, 2) := by decide +kernel
theorem dX7_nearest_42 : decode cX7_nearest 42 = .ok (.iconst 0, 1) := by decide +kernel
theorem dX7_nearest_43 : decode cX7_nearest 43 = .ok (.istore 7, 2) := by decide +kernel
theorem dX7_nearest_45 : decode cX7_nearest 45 = .ok (.iload 7, 2) := by decide +kernel
theorem dX7_nearest_47 : decode cX7_nearest 47 = .ok (.bipush 24, 2) := by decide +kernel
theorem dX7_nearest_49 : decode cX7_nearest 49 = .ok (.if_icmp .ge 64, 3) := by decide +kernel
theorem dX7_nearest_52 : decode cX7_nearest 52 = .ok (.aload_n 0, 1) := by decide +kernel
theorem dX7_nearest_53 : decode cX7_nearest 53 = .ok (.iload 5, 2) := by decide +kernel
theorem dX7_nearest_55 : decode cX7_nearest 55 = .ok (.iload_n 1, 1) := by decide +kernel
theorem dX7_nearest_56 : decode cX7_nearest 56 = .ok (.iload_n 2, 1) := by decide +kernel
theorem dX7_nearest_57 : decode cX7_nearest 57 = .ok (.invokevirtual 235, 3) := by decide +kernel
theorem dX7_nearest_60 : decode cX7_nearest 60 = .ok (.aload_n 0, 1) := by decide +kernel
theorem dX7_nearest_61 : decode cX7_nearest 61 = .ok (.iload 7, 2) := by decide +kernel
theorem dX7_nearest_63 : decode cX7_nearest 63 = .ok (.iload_n 1, 1) := by decide +kernel
theorem dX7_nearest_64 : decode cX7_nearest 64 = .ok (.iload_n 2, 1) := by decide +kernel
theorem dX7_nearest_65 : decode cX7_nearest 65 = .ok (.invokevirtual 235, 3) := by decide +kernel
theorem dX7_nearest_68 : decode cX7_nearest 68 = .ok (.isub, 1) := by decide +kernel
theorem dX7_nearest_69 : decode cX7_nearest 69 = .ok (.istore 8, 2) := by decide +kernel
theorem dX7_nearest_71 : decode cX7_nearest 71 = .ok (.iload 6, 2) := by decide +kernel
theorem dX7_nearest_73 : decode cX7_nearest 73 = .ok (.aload_n 0, 1) := by decide +kernel
theorem dX7_nearest_74 : decode cX7_nearest 74 = .ok (.iload 7, 2) := by decide +kernel
theorem dX7_nearest_76 : decode cX7_nearest 76 = .ok (.invokevirtual 45, 3) := by decide +kernel
theorem dX7_nearest_79 : decode cX7_nearest 79 = .ok (.ifCond .eq 24, 3) := by decide +kernel
theorem dX7_nearest_82 : decode cX7_nearest 82 = .ok (.iload 8, 2) := by decide +kernel
theorem dX7_nearest_84 : decode cX7_nearest 84 = .ok (.ifCond .gt 15, 3) := by decide +kernel
theorem dX7_nearest_87 : decode cX7_nearest 87 = .ok (.iload 8, 2) := by decide +kernel
theorem dX7_nearest_89 : decode cX7_nearest 89 = .ok (.ifCond .ne 14, 3) := by decide +kernel
theorem dX7_nearest_92 : decode cX7_nearest 92 = .ok (.iload 7, 2) := by decide +kernel
theorem dX7_nearest_94 : decode cX7_nearest 94 = .ok (.iload 5, 2) := by decide +kernel
theorem dX7_nearest_96 : decode cX7_nearest 96 = .ok (.if_icmp .ge 7, 3) := by decide +kernel
theorem dX7_nearest_99 : decode cX7_nearest 99 = .ok (.iconst 1, 1) := by decide +kernel
theorem dX7_nearest_100 : decode cX7_nearest 100 = .ok (.goto 4, 3) := by decide +kernel
theorem dX7_nearest_103 : decode cX7_nearest 103 = .ok (.iconst 0, 1) := by decide +kernel
theorem dX7_nearest_104 : decode cX7_nearest 104 = .ok (.iadd, 1) := by decide +kernel
theorem dX7_nearest_105 : decode cX7_nearest 105 = .ok (.istore 6, 2) := by decide +kernel
theorem dX7_nearest_107 : decode cX7_nearest 107 = .ok (.iinc 7 1, 3) := by decide +kernel
theorem dX7_nearest_110 : decode cX7_nearest 110 = .ok (.goto (-65), 3) := by decide +kernel
theorem dX7_nearest_113 : decode cX7_nearest 113 = .ok (.aload_n 0, 1) := by decide +kernel
theorem dX7_nearest_114 : decode cX7_nearest 114 = .ok (.iload 5, 2) := by decide +kernel
theorem dX7_nearest_116 : decode cX7_nearest 116 = .ok (.invokevirtual 45, 3) := by decide +kernel
theorem dX7_nearest_119 : decode cX7_nearest 119 = .ok (.ifCond .eq 14, 3) := by decide +kernel
theorem dX7_nearest_122 : decode cX7_nearest 122 = .ok (.iload 6, 2) := by decide +kernel
theorem dX7_nearest_124 : decode cX7_nearest 124 = .ok (.iload_n 3, 1) := by decide +kernel
theorem dX7_nearest_125 : decode cX7_nearest 125 = .ok (.if_icmp .ne 8, 3) := by decide +kernel
theorem dX7_nearest_128 : decode cX7_nearest 128 = .ok (.iload 5, 2) := by decide +kernel
theorem dX7_nearest_130 : decode cX7_nearest 130 = .ok (.goto 5, 3) := by decide +kernel
theorem dX7_nearest_133 : decode cX7_nearest 133 = .ok (.iload 4, 2) := by decide +kernel
theorem dX7_nearest_135 : decode cX7_nearest 135 = .ok (.istore 4, 2) := by decide +kernel
theorem dX7_nearest_137 : decode cX7_nearest 137 = .ok (.iinc 5 1, 3) := by decide +kernel
theorem dX7_nearest_140 : decode cX7_nearest 140 = .ok (.goto (-108), 3) := by decide +kernel
theorem dX7_nearest_143 : decode cX7_nearest 143 = .ok (.iload 4, 2) := by decide +kernel
theorem dX7_nearest_145 : decode cX7_nearest 145 = .ok (.ireturn, 1) := by decide +kernel
set_option maxRecDepth 20000 in
theorem ggX7_within_X7_isPlace : GoodIn wsX7_within wsX7_isPlace := goodIn_r _ [5, 6, 7, 4, 8] (by decide +kernel) (by decide +kernel)
set_option maxRecDepth 20000 in
theorem gX7_within_X7_isPlace : GoodIn wsX7_within (va_wsS RX7 98 yX7_isPlace wsX7_isPlace) := goodIn_app (goodIn_of _ (by decide +kernel)) ggX7_within_X7_isPlace
set_option maxRecDepth 20000 in
theorem ggX7_within_X7_refused : GoodIn wsX7_within wsX7_refused := goodIn_r _ [12, 13, 18, 19, 20, 21, 22, 23, 24, 25, 26, 27, 28, 29, 30, 31, 32, 33, 34, 35, 36, 37] (by decide +kernel) (by decide +kernel)
set_option maxRecDepth 20000 in
theorem gX7_within_X7_refused : GoodIn wsX7_within (wsV RX7 56 RX7 yX7_refused wsX7_refused) := goodIn_app (goodIn_of _ (by decide +kernel)) ggX7_within_X7_refused
set_option maxRecDepth 20000 in
theorem ggX7_within_X7_isThere : GoodIn wsX7_within wsX7_isThere := goodIn_r _ [17, 1, 18, 19, 20, 21, 22, 23, 24, 25, 26, 27, 28, 29, 30, 31, 32, 33, 34, 35, 36, 37] (by decide +kernel) (by decide +kernel)
set_option maxRecDepth 20000 in
theorem gX7_within_X7_isThere : GoodIn wsX7_within (wsV RX7 45 RX7 yX7_isThere wsX7_isThere) := goodIn_app (goodIn_of _ (by decide +kernel)) ggX7_within_X7_isThere
set_option maxRecDepth 20000 in
theorem ggX7_within_X7_in : GoodIn wsX7_within wsX7_in := goodIn_r _ [8] (by decide +kernel) (by decide +kernel)
set_option maxRecDepth 20000 in
theorem gX7_within_X7_in : GoodIn wsX7_within (va_wsS RX7 41 yX7_in wsX7_in) := goodIn_app (goodIn_of _ (by decide +kernel)) ggX7_within_X7_in
theorem dX7_within_0 : decode cX7_within 0 = .ok (.aload_n 0, 1) := by decide +kernel
theorem dX7_within_1 : decode cX7_within 1 = .ok (.iload_n 1, 1) := by decide +kernel
theorem dX7_within_2 : decode cX7_within 2 = .ok (.iload_n 2, 1) := by decide +kernel
theorem dX7_within_3 : decode cX7_within 3 = .ok (.invokestatic 98, 3) := by decide +kernel
theorem dX7_within_6 : decode cX7_within 6 = .ok (.ifCond .eq 16, 3) := by decide +kernel
theorem dX7_within_9 : decode cX7_within 9 = .ok (.iload_n 3, 1) := by decide +kernel
theorem dX7_within_10 : decode cX7_within 10 = .ok (.iload 4, 2) := by decide +kernel
theorem dX7_within_12 : decode cX7_within 12 = .ok (.invokestatic 98, 3) := by decide +kernel
theorem dX7_within_15 : decode cX7_within 15 = .ok (.ifCond .eq 7, 3) := by decide +kernel
theorem dX7_within_18 : decode cX7_within 18 = .ok (.iconst 0, 1) := by decide +kernel
theorem dX7_within_19 : decode cX7_within 19 = .ok (.goto 4, 3) := by decide +kernel
theorem dX7_within_22 : decode cX7_within 22 = .ok (.iconst 1, 1) := by decide +kernel
theorem dX7_within_23 : decode cX7_within 23 = .ok (.invokevirtual 56, 3) := by decide +kernel
theorem dX7_within_26 : decode cX7_within 26 = .ok (.ifCond .eq 5, 3) := by decide +kernel
theorem dX7_within_29 : decode cX7_within 29 = .ok (.iconst 0, 1) := by decide +kernel
theorem dX7_within_30 : decode cX7_within 30 = .ok (.ireturn, 1) := by decide +kernel
theorem dX7_within_31 : decode cX7_within 31 = .ok (.iconst 0, 1) := by decide +kernel
theorem dX7_within_32 : decode cX7_within 32 = .ok (.istore 5, 2) := by decide +kernel
theorem dX7_within_34 : decode cX7_within 34 = .ok (.iconst 0, 1) := by decide +kernel
theorem dX7_within_35 : decode cX7_within 35 = .ok (.istore 6, 2) := by decide +kernel
theorem dX7_within_37 : decode cX7_within 37 = .ok (.iload 6, 2) := by decide +kernel
theorem dX7_within_39 : decode cX7_within 39 = .ok (.bipush 24, 2) := by decide +kernel
theorem dX7_within_41 : decode cX7_within 41 = .ok (.if_icmp .ge 67, 3) := by decide +kernel
theorem dX7_within_44 : decode cX7_within 44 = .ok (.iload 5, 2) := by decide +kernel
theorem dX7_within_46 : decode cX7_within 46 = .ok (.aload_n 0, 1) := by decide +kernel
theorem dX7_within_47 : decode cX7_within 47 = .ok (.iload 6, 2) := by decide +kernel
theorem dX7_within_49 : decode cX7_within 49 = .ok (.invokevirtual 45, 3) := by decide +kernel
theorem dX7_within_52 : decode cX7_within 52 = .ok (.ifCond .eq 46, 3) := by decide +kernel
theorem dX7_within_55 : decode cX7_within 55 = .ok (.aload_n 0, 1) := by decide +kernel
theorem dX7_within_56 : decode cX7_within 56 = .ok (.getfield 7, 3) := by decide +kernel
theorem dX7_within_59 : decode cX7_within 59 = .ok (.iconst 5, 1) := by decide +kernel
theorem dX7_within_60 : decode cX7_within 60 = .ok (.iload 6, 2) := by decide +kernel
theorem dX7_within_62 : decode cX7_within 62 = .ok (.imul, 1) := by decide +kernel
theorem dX7_within_63 : decode cX7_within 63 = .ok (.iconst 1, 1) := by decide +kernel
theorem dX7_within_64 : decode cX7_within 64 = .ok (.iadd, 1) := by decide +kernel
theorem dX7_within_65 : decode cX7_within 65 = .ok (.iaload, 1) := by decide +kernel
theorem dX7_within_66 : decode cX7_within 66 = .ok (.iload_n 1, 1) := by decide +kernel
theorem dX7_within_67 : decode cX7_within 67 = .ok (.iload_n 3, 1) := by decide +kernel
theorem dX7_within_68 : decode cX7_within 68 = .ok (.invokestatic 41, 3) := by decide +kernel
theorem dX7_within_71 : decode cX7_within 71 = .ok (.ifCond .eq 27, 3) := by decide +kernel
theorem dX7_within_74 : decode cX7_within 74 = .ok (.aload_n 0, 1) := by decide +kernel
theorem dX7_within_75 : decode cX7_within 75 = .ok (.getfield 7, 3) := by decide +kernel
theorem dX7_within_78 : decode cX7_within 78 = .ok (.iconst 5, 1) := by decide +kernel
theorem dX7_within_79 : decode cX7_within 79 = .ok (.iload 6, 2) := by decide +kernel
theorem dX7_within_81 : decode cX7_within 81 = .ok (.imul, 1) := by decide +kernel
theorem dX7_within_82 : decode cX7_within 82 = .ok (.iconst 2, 1) := by decide +kernel
theorem dX7_within_83 : decode cX7_within 83 = .ok (.iadd, 1) := by decide +kernel
theorem dX7_within_84 : decode cX7_within 84 = .ok (.iaload, 1) := by decide +kernel
theorem dX7_within_85 : decode cX7_within 85 = .ok (.iload_n 2, 1) := by decide +kernel
theorem dX7_within_86 : decode cX7_within 86 = .ok (.iload 4, 2) := by decide +kernel
theorem dX7_within_88 : decode cX7_within 88 = .ok (.invokestatic 41, 3) := by decide +kernel
theorem dX7_within_91 : decode cX7_within 91 = .ok (.ifCond .eq 7, 3) := by decide +kernel
theorem dX7_within_94 : decode cX7_within 94 = .ok (.iconst 1, 1) := by decide +kernel
theorem dX7_within_95 : decode cX7_within 95 = .ok (.goto 4, 3) := by decide +kernel
theorem dX7_within_98 : decode cX7_within 98 = .ok (.iconst 0, 1) := by decide +kernel
theorem dX7_within_99 : decode cX7_within 99 = .ok (.iadd, 1) := by decide +kernel
theorem dX7_within_100 : decode cX7_within 100 = .ok (.istore 5, 2) := by decide +kernel
theorem dX7_within_102 : decode cX7_within 102 = .ok (.iinc 6 1, 3) := by decide +kernel
theorem dX7_within_105 : decode cX7_within 105 = .ok (.goto (-68), 3) := by decide +kernel
theorem dX7_within_108 : decode cX7_within 108 = .ok (.iload 5, 2) := by decide +kernel
theorem dX7_within_110 : decode cX7_within 110 = .ok (.ireturn, 1) := by decide +kernel
set_option maxRecDepth 20000 in
theorem ggX7_tellClosest_X7_far : GoodIn wsX7_tellClosest wsX7_far := goodIn_r _ [6, 1, 11, 12, 13, 14, 15, 16, 17, 18, 19, 20, 21, 22, 23, 24, 25, 26, 27, 28, 29, 30] (by decide +kernel) (by decide +kernel)
set_option maxRecDepth 20000 in
theorem gX7_tellClosest_X7_far : GoodIn wsX7_tellClosest (wsV RX7 235 RX7 yX7_far wsX7_far) := goodIn_app (goodIn_of _ (by decide +kernel)) ggX7_tellClosest_X7_far
set_option maxRecDepth 20000 in
theorem ggX7_tellClosest_X7_isThere : GoodIn wsX7_tellClosest wsX7_isThere := goodIn_r _ [10, 1, 11, 12, 13, 14, 15, 16, 17, 18, 19, 20, 21, 22, 23, 24, 25, 26, 27, 28, 29, 30] (by decide +kernel) (by decide +kernel)
set_option maxRecDepth 20000 in
theorem gX7_tellClosest_X7_isThere : GoodIn wsX7_tellClosest (wsV RX7 45 RX7 yX7_isThere wsX7_isThere) := goodIn_app (goodIn_of _ (by decide +kernel)) ggX7_tellClosest_X7_isThere
theorem dX7_tellClosest_0 : decode cX7_tellClosest 0 = .ok (.iconst (-1), 1) := by decide +kernel
theorem dX7_tellClosest_1 : decode cX7_tellClosest 1 = .ok (.istore_n 2, 1) := by decide +kernel
theorem dX7_tellClosest_2 : decode cX7_tellClosest 2 = .ok (.iconst (-1), 1) := by decide +kernel
theorem dX7_tellClosest_3 : decode cX7_tellClosest 3 = .ok (.istore_n 3, 1) := by decide +kernel
theorem dX7_tellClosest_4 : decode cX7_tellClosest 4 = .ok (.iconst (-1), 1) := by decide +kernel
theorem dX7_tellClosest_5 : decode cX7_tellClosest 5 = .ok (.istore 4, 2) := by decide +kernel
theorem dX7_tellClosest_7 : decode cX7_tellClosest 7 = .ok (.iconst 0, 1) := by decide +kernel
theorem dX7_tellClosest_8 : decode cX7_tellClosest 8 = .ok (.istore 5, 2) := by decide +kernel
theorem dX7_tellClosest_10 : decode cX7_tellClosest 10 = .ok (.iload 5, 2) := by decide +kernel
theorem dX7_tellClosest_12 : decode cX7_tellClosest 12 = .ok (.bipush 24, 2) := by decide +kernel
theorem dX7_tellClosest_14 : decode cX7_tellClosest 14 = .ok (.if_icmp .ge 97, 3) := by decide +kernel
theorem dX7_tellClosest_17 : decode cX7_tellClosest 17 = .ok (.iload 5, 2) := by decide +kernel
theorem dX7_tellClosest_19 : decode cX7_tellClosest 19 = .ok (.iconst 1, 1) := by decide +kernel
theorem dX7_tellClosest_20 : decode cX7_tellClosest 20 = .ok (.iadd, 1) := by decide +kernel
theorem dX7_tellClosest_21 : decode cX7_tellClosest 21 = .ok (.istore 6, 2) := by decide +kernel
theorem dX7_tellClosest_23 : decode cX7_tellClosest 23 = .ok (.iload 6, 2) := by decide +kernel
theorem dX7_tellClosest_25 : decode cX7_tellClosest 25 = .ok (.bipush 24, 2) := by decide +kernel
theorem dX7_tellClosest_27 : decode cX7_tellClosest 27 = .ok (.if_icmp .ge 78, 3) := by decide +kernel
theorem dX7_tellClosest_30 : decode cX7_tellClosest 30 = .ok (.aload_n 0, 1) := by decide +kernel
theorem dX7_tellClosest_31 : decode cX7_tellClosest 31 = .ok (.iload 5, 2) := by decide +kernel
theorem dX7_tellClosest_33 : decode cX7_tellClosest 33 = .ok (.aload_n 0, 1) := by decide +kernel
theorem dX7_tellClosest_34 : decode cX7_tellClosest 34 = .ok (.getfield 7, 3) := by decide +kernel
theorem dX7_tellClosest_37 : decode cX7_tellClosest 37 = .ok (.iconst 5, 1) := by decide +kernel
theorem dX7_tellClosest_38 : decode cX7_tellClosest 38 = .ok (.iload 6, 2) := by decide +kernel
theorem dX7_tellClosest_40 : decode cX7_tellClosest 40 = .ok (.imul, 1) := by decide +kernel
theorem dX7_tellClosest_41 : decode cX7_tellClosest 41 = .ok (.iconst 1, 1) := by decide +kernel
theorem dX7_tellClosest_42 : decode cX7_tellClosest 42 = .ok (.iadd, 1) := by decide +kernel
theorem dX7_tellClosest_43 : decode cX7_tellClosest 43 = .ok (.iaload, 1) := by decide +kernel
theorem dX7_tellClosest_44 : decode cX7_tellClosest 44 = .ok (.aload_n 0, 1) := by decide +kernel
theorem dX7_tellClosest_45 : decode cX7_tellClosest 45 = .ok (.getfield 7, 3) := by decide +kernel
theorem dX7_tellClosest_48 : decode cX7_tellClosest 48 = .ok (.iconst 5, 1) := by decide +kernel
theorem dX7_tellClosest_49 : decode cX7_tellClosest 49 = .ok (.iload 6, 2) := by decide +kernel
theorem dX7_tellClosest_51 : decode cX7_tellClosest 51 = .ok (.imul, 1) := by decide +kernel
theorem dX7_tellClosest_52 : decode cX7_tellClosest 52 = .ok (.iconst 2, 1) := by decide +kernel
theorem dX7_tellClosest_53 : decode cX7_tellClosest 53 = .ok (.iadd, 1) := by decide +kernel
theorem dX7_tellClosest_54 : decode cX7_tellClosest 54 = .ok (.iaload, 1) := by decide +kernel
theorem dX7_tellClosest_55 : decode cX7_tellClosest 55 = .ok (.invokevirtual 235, 3) := by decide +kernel
theorem dX7_tellClosest_58 : decode cX7_tellClosest 58 = .ok (.istore 7, 2) := by decide +kernel
theorem dX7_tellClosest_60 : decode cX7_tellClosest 60 = .ok (.aload_n 0, 1) := by decide +kernel
theorem dX7_tellClosest_61 : decode cX7_tellClosest 61 = .ok (.iload 5, 2) := by decide +kernel
theorem dX7_tellClosest_63 : decode cX7_tellClosest 63 = .ok (.invokevirtual 45, 3) := by decide +kernel
theorem dX7_tellClosest_66 : decode cX7_tellClosest 66 = .ok (.ifCond .eq 33, 3) := by decide +kernel
theorem dX7_tellClosest_69 : decode cX7_tellClosest 69 = .ok (.aload_n 0, 1) := by decide +kernel
theorem dX7_tellClosest_70 : decode cX7_tellClosest 70 = .ok (.iload 6, 2) := by decide +kernel
theorem dX7_tellClosest_72 : decode cX7_tellClosest 72 = .ok (.invokevirtual 45, 3) := by decide +kernel
theorem dX7_tellClosest_75 : decode cX7_tellClosest 75 = .ok (.ifCond .eq 24, 3) := by decide +kernel
theorem dX7_tellClosest_78 : decode cX7_tellClosest 78 = .ok (.iload_n 2, 1) := by decide +kernel
theorem dX7_tellClosest_79 : decode cX7_tellClosest 79 = .ok (.iconst (-1), 1) := by decide +kernel
theorem dX7_tellClosest_80 : decode cX7_tellClosest 80 = .ok (.if_icmp .eq 9, 3) := by decide +kernel
theorem dX7_tellClosest_83 : decode cX7_tellClosest 83 = .ok (.iload 7, 2) := by decide +kernel
theorem dX7_tellClosest_85 : decode cX7_tellClosest 85 = .ok (.iload_n 2, 1) := by decide +kernel
theorem dX7_tellClosest_86 : decode cX7_tellClosest 86 = .ok (.if_icmp .ge 13, 3) := by decide +kernel
theorem dX7_tellClosest_89 : decode cX7_tellClosest 89 = .ok (.iload 7, 2) := by decide +kernel
theorem dX7_tellClosest_91 : decode cX7_tellClosest 91 = .ok (.istore_n 2, 1) := by decide +kernel
theorem dX7_tellClosest_92 : decode cX7_tellClosest 92 = .ok (.iload 5, 2) := by decide +kernel
theorem dX7_tellClosest_94 : decode cX7_tellClosest 94 = .ok (.istore_n 3, 1) := by decide +kernel
theorem dX7_tellClosest_95 : decode cX7_tellClosest 95 = .ok (.iload 6, 2) := by decide +kernel
theorem dX7_tellClosest_97 : decode cX7_tellClosest 97 = .ok (.istore 4, 2) := by decide +kernel
theorem dX7_tellClosest_99 : decode cX7_tellClosest 99 = .ok (.iinc 6 1, 3) := by decide +kernel
theorem dX7_tellClosest_102 : decode cX7_tellClosest 102 = .ok (.goto (-79), 3) := by decide +kernel
theorem dX7_tellClosest_105 : decode cX7_tellClosest 105 = .ok (.iinc 5 1, 3) := by decide +kernel
theorem dX7_tellClosest_108 : decode cX7_tellClosest 108 = .ok (.goto (-98), 3) := by decide +kernel
theorem dX7_tellClosest_111 : decode cX7_tellClosest 111 = .ok (.iload_n 1, 1) := by decide +kernel
theorem dX7_tellClosest_112 : decode cX7_tellClosest 112 = .ok (.ifCond .ne 7, 3) := by decide +kernel
theorem dX7_tellClosest_115 : decode cX7_tellClosest 115 = .ok (.iload_n 2, 1) := by decide +kernel
theorem dX7_tellClosest_116 : decode cX7_tellClosest 116 = .ok (.goto 14, 3) := by decide +kernel
theorem dX7_tellClosest_119 : decode cX7_tellClosest 119 = .ok (.iload_n 1, 1) := by decide +kernel
theorem dX7_tellClosest_120 : decode cX7_tellClosest 120 = .ok (.iconst 1, 1) := by decide +kernel
theorem dX7_tellClosest_121 : decode cX7_tellClosest 121 = .ok (.if_icmp .ne 7, 3) := by decide +kernel
theorem dX7_tellClosest_124 : decode cX7_tellClosest 124 = .ok (.iload_n 3, 1) := by decide +kernel
theorem dX7_tellClosest_125 : decode cX7_tellClosest 125 = .ok (.goto 5, 3) := by decide +kernel
theorem dX7_tellClosest_128 : decode cX7_tellClosest 128 = .ok (.iload 4, 2) := by decide +kernel
theorem dX7_tellClosest_130 : decode cX7_tellClosest 130 = .ok (.ireturn, 1) := by decide +kernel
set_option maxRecDepth 20000 in
theorem ggX7_closest_X7_in : GoodIn wsX7_closest wsX7_in := goodIn_r _ [4] (by decide +kernel) (by decide +kernel)
set_option maxRecDepth 20000 in
theorem gX7_closest_X7_in : GoodIn wsX7_closest (va_wsS RX7 41 yX7_in wsX7_in) := goodIn_app (goodIn_of _ (by decide +kernel)) ggX7_closest_X7_in
set_option maxRecDepth 20000 in
theorem ggX7_closest_X7_refused : GoodIn wsX7_closest wsX7_refused := goodIn_r _ [8, 9, 23, 24, 25, 26, 27, 28, 29, 30, 31, 32, 33, 34, 35, 36, 37, 38, 39, 40, 41, 42] (by decide +kernel) (by decide +kernel)
set_option maxRecDepth 20000 in
theorem gX7_closest_X7_refused : GoodIn wsX7_closest (wsV RX7 56 RX7 yX7_refused wsX7_refused) := goodIn_app (goodIn_of _ (by decide +kernel)) ggX7_closest_X7_refused
set_option maxRecDepth 20000 in
theorem ggX7_closest_X7_tellClosest : GoodIn wsX7_closest wsX7_tellClosest := goodIn_r _ [13, 14, 15, 16, 17, 3, 18, 19, 20, 21, 22, 23, 24, 25, 26, 27, 28, 29, 30, 31, 32, 33, 34, 35, 36, 37, 38, 39, 40, 41, 42] (by decide +kernel) (by decide +kernel)
set_option maxRecDepth 20000 in
theorem gX7_closest_X7_tellClosest : GoodIn wsX7_closest (wsV RX7 250 RX7 yX7_tellClosest wsX7_tellClosest) := goodIn_app (goodIn_of _ (by decide +kernel)) ggX7_closest_X7_tellClosest
theorem dX7_closest_0 : decode cX7_closest 0 = .ok (.aload_n 0, 1) := by decide +kernel
theorem dX7_closest_1 : decode cX7_closest 1 = .ok (.iload_n 1, 1) := by decide +kernel
theorem dX7_closest_2 : decode cX7_closest 2 = .ok (.iconst 0, 1) := by decide +kernel
theorem dX7_closest_3 : decode cX7_closest 3 = .ok (.iconst 2, 1) := by decide +kernel
theorem dX7_closest_4 : decode cX7_closest 4 = .ok (.invokestatic 41, 3) := by decide +kernel
theorem dX7_closest_7 : decode cX7_closest 7 = .ok (.ifCond .eq 7, 3) := by decide +kernel
theorem dX7_closest_10 : decode cX7_closest 10 = .ok (.iconst 0, 1) := by decide +kernel
theorem dX7_closest_11 : decode cX7_closest 11 = .ok (.goto 4, 3) := by decide +kernel
theorem dX7_closest_14 : decode cX7_closest 14 = .ok (.iconst 1, 1) := by decide +kernel
theorem dX7_closest_15 : decode cX7_closest 15 = .ok (.invokevirtual 56, 3) := by decide +kernel
theorem dX7_closest_18 : decode cX7_closest 18 = .ok (.ifCond .eq 7, 3) := by decide +kernel
theorem dX7_closest_21 : decode cX7_closest 21 = .ok (.iconst 0, 1) := by decide +kernel
theorem dX7_closest_22 : decode cX7_closest 22 = .ok (.goto 8, 3) := by decide +kernel
theorem dX7_closest_25 : decode cX7_closest 25 = .ok (.aload_n 0, 1) := by decide +kernel
theorem dX7_closest_26 : decode cX7_closest 26 = .ok (.iload_n 1, 1) := by decide +kernel
theorem dX7_closest_27 : decode cX7_closest 27 = .ok (.invokevirtual 250, 3) := by decide +kernel
theorem dX7_closest_30 : decode cX7_closest 30 = .ok (.ireturn, 1) := by decide +kernel
set_option maxRecDepth 20000 in
theorem ggX7_type_X7_in : GoodIn wsX7_type wsX7_in := goodIn_r _ [6] (by decide +kernel) (by decide +kernel)
set_option maxRecDepth 20000 in
theorem gX7_type_X7_in : GoodIn wsX7_type (va_wsS RX7 41 yX7_in wsX7_in) := goodIn_app (goodIn_of _ (by decide +kernel)) ggX7_type_X7_in
set_option maxRecDepth 20000 in
theorem ggX7_type_X7_refused : GoodIn wsX7_type wsX7_refused := goodIn_r _ [10, 11, 12, 13, 14, 15, 16, 17, 18, 19, 20, 21, 22, 23, 24, 25, 26, 27, 28, 29, 30, 31] (by decide +kernel) (by decide +kernel)
set_option maxRecDepth 20000 in
theorem gX7_type_X7_refused : GoodIn wsX7_type (wsV RX7 56 RX7 yX7_refused wsX7_refused) := goodIn_app (goodIn_of _ (by decide +kernel)) ggX7_type_X7_refused
theorem dX7_type_0 : decode cX7_type 0 = .ok (.aload_n 0, 1) := by decide +kernel
theorem dX7_type_1 : decode cX7_type 1 = .ok (.iload_n 1, 1) := by decide +kernel
theorem dX7_type_2 : decode cX7_type 2 = .ok (.iconst 0, 1) := by decide +kernel
theorem dX7_type_3 : decode cX7_type 3 = .ok (.bipush 127, 2) := by decide +kernel
theorem dX7_type_5 : decode cX7_type 5 = .ok (.invokestatic 41, 3) := by decide +kernel
theorem dX7_type_8 : decode cX7_type 8 = .ok (.ifCond .ne 7, 3) := by decide +kernel
theorem dX7_type_11 : decode cX7_type 11 = .ok (.iconst 1, 1) := by decide +kernel
theorem dX7_type_12 : decode cX7_type 12 = .ok (.goto 17, 3) := by decide +kernel
theorem dX7_type_15 : decode cX7_type 15 = .ok (.aload_n 0, 1) := by decide +kernel
theorem dX7_type_16 : decode cX7_type 16 = .ok (.getfield 253, 3) := by decide +kernel
theorem dX7_type_19 : decode cX7_type 19 = .ok (.bipush 120, 2) := by decide +kernel
theorem dX7_type_21 : decode cX7_type 21 = .ok (.if_icmp .ne 7, 3) := by decide +kernel
theorem dX7_type_24 : decode cX7_type 24 = .ok (.iconst 2, 1) := by decide +kernel
theorem dX7_type_25 : decode cX7_type 25 = .ok (.goto 4, 3) := by decide +kernel
theorem dX7_type_28 : decode cX7_type 28 = .ok (.iconst 0, 1) := by decide +kernel
theorem dX7_type_29 : decode cX7_type 29 = .ok (.invokevirtual 56, 3) := by decide +kernel
theorem dX7_type_32 : decode cX7_type 32 = .ok (.ifCond .eq 5, 3) := by decide +kernel
theorem dX7_type_35 : decode cX7_type 35 = .ok (.iconst 0, 1) := by decide +kernel
theorem dX7_type_36 : decode cX7_type 36 = .ok (.ireturn, 1) := by decide +kernel
theorem dX7_type_37 : decode cX7_type 37 = .ok (.aload_n 0, 1) := by decide +kernel
theorem dX7_type_38 : decode cX7_type 38 = .ok (.getfield 19, 3) := by decide +kernel
theorem dX7_type_41 : decode cX7_type 41 = .ok (.aload_n 0, 1) := by decide +kernel
theorem dX7_type_42 : decode cX7_type 42 = .ok (.getfield 253, 3) := by decide +kernel
theorem dX7_type_45 : decode cX7_type 45 = .ok (.iload_n 1, 1) := by decide +kernel
theorem dX7_type_46 : decode cX7_type 46 = .ok (.iastore, 1) := by decide +kernel
theorem dX7_type_47 : decode cX7_type 47 = .ok (.aload_n 0, 1) := by decide +kernel
theorem dX7_type_48 : decode cX7_type 48 = .ok (.dup, 1) := by decide +kernel
theorem dX7_type_49 : decode cX7_type 49 = .ok (.getfield 253, 3) := by decide +kernel
theorem dX7_type_52 : decode cX7_type 52 = .ok (.iconst 1, 1) := by decide +kernel
theorem dX7_type_53 : decode cX7_type 53 = .ok (.iadd, 1) := by decide +kernel
theorem dX7_type_54 : decode cX7_type 54 = .ok (.putfield 253, 3) := by decide +kernel
theorem dX7_type_57 : decode cX7_type 57 = .ok (.aload_n 0, 1) := by decide +kernel
theorem dX7_type_58 : decode cX7_type 58 = .ok (.getfield 253, 3) := by decide +kernel
theorem dX7_type_61 : decode cX7_type 61 = .ok (.ireturn, 1) := by decide +kernel
theorem dX7_clearScript_0 : decode cX7_clearScript 0 = .ok (.aload_n 0, 1) := by decide +kernel
theorem dX7_clearScript_1 : decode cX7_clearScript 1 = .ok (.iconst 0, 1) := by decide +kernel
theorem dX7_clearScript_2 : decode cX7_clearScript 2 = .ok (.putfield 37, 3) := by decide +kernel
theorem dX7_clearScript_5 : decode cX7_clearScript 5 = .ok (.aload_n 0, 1) := by decide +kernel
theorem dX7_clearScript_6 : decode cX7_clearScript 6 = .ok (.getfield 253, 3) := by decide +kernel
theorem dX7_clearScript_9 : decode cX7_clearScript 9 = .ok (.istore_n 1, 1) := by decide +kernel
theorem dX7_clearScript_10 : decode cX7_clearScript 10 = .ok (.aload_n 0, 1) := by decide +kernel
theorem dX7_clearScript_11 : decode cX7_clearScript 11 = .ok (.iconst 0, 1) := by decide +kernel
theorem dX7_clearScript_12 : decode cX7_clearScript 12 = .ok (.putfield 253, 3) := by decide +kernel
theorem dX7_clearScript_15 : decode cX7_clearScript 15 = .ok (.iload_n 1, 1) := by decide +kernel
theorem dX7_clearScript_16 : decode cX7_clearScript 16 = .ok (.ireturn, 1) := by decide +kernel
set_option maxRecDepth 20000 in
theorem ggX7_isAt_X7_in : GoodIn wsX7_isAt wsX7_in := goodIn_r _ [7] (by decide +kernel) (by decide +kernel)
set_option maxRecDepth 20000 in
theorem gX7_isAt_X7_in : GoodIn wsX7_isAt (va_wsS RX7 41 yX7_in wsX7_in) := goodIn_app (goodIn_of _ (by decide +kernel)) ggX7_isAt_X7_in
theorem dX7_isAt_0 : decode cX7_isAt 0 = .ok (.aload_n 0, 1) := by decide +kernel
theorem dX7_isAt_1 : decode cX7_isAt 1 = .ok (.getfield 256, 3) := by decide +kernel
theorem dX7_isAt_4 : decode cX7_isAt 4 = .ok (.aload_n 0, 1) := by decide +kernel
theorem dX7_isAt_5 : decode cX7_isAt 5 = .ok (.getfield 253, 3) := by decide +kernel
theorem dX7_isAt_8 : decode cX7_isAt 8 = .ok (.if_icmp .ge 24, 3) := by decide +kernel
theorem dX7_isAt_11 : decode cX7_isAt 11 = .ok (.aload_n 0, 1) := by decide +kernel
theorem dX7_isAt_12 : decode cX7_isAt 12 = .ok (.getfield 19, 3) := by decide +kernel
theorem dX7_isAt_15 : decode cX7_isAt 15 = .ok (.aload_n 0, 1) := by decide +kernel
theorem dX7_isAt_16 : decode cX7_isAt 16 = .ok (.getfield 256, 3) := by decide +kernel
theorem dX7_isAt_19 : decode cX7_isAt 19 = .ok (.iaload, 1) := by decide +kernel
theorem dX7_isAt_20 : decode cX7_isAt 20 = .ok (.iload_n 1, 1) := by decide +kernel
theorem dX7_isAt_21 : decode cX7_isAt 21 = .ok (.iload_n 2, 1) := by decide +kernel
theorem dX7_isAt_22 : decode cX7_isAt 22 = .ok (.invokestatic 41, 3) := by decide +kernel
theorem dX7_isAt_25 : decode cX7_isAt 25 = .ok (.ifCond .eq 7, 3) := by decide +kernel
theorem dX7_isAt_28 : decode cX7_isAt 28 = .ok (.iconst 1, 1) := by decide +kernel
theorem dX7_isAt_29 : decode cX7_isAt 29 = .ok (.goto 4, 3) := by decide +kernel
theorem dX7_isAt_32 : decode cX7_isAt 32 = .ok (.iconst 0, 1) := by decide +kernel
theorem dX7_isAt_33 : decode cX7_isAt 33 = .ok (.ireturn, 1) := by decide +kernel
set_option maxRecDepth 20000 in
theorem ggX7_skips_X7_isAt : GoodIn wsX7_skips wsX7_isAt := goodIn_r _ [6, 1, 7, 8, 9, 10, 5, 11, 12, 13, 14, 15, 16, 17, 18, 19, 20, 21, 22, 23, 24, 25, 26, 27, 28, 29, 30, 31] (by decide +kernel) (by decide +kernel)
set_option maxRecDepth 20000 in
theorem gX7_skips_X7_isAt : GoodIn wsX7_skips (wsV RX7 259 RX7 yX7_isAt wsX7_isAt) := goodIn_app (goodIn_of _ (by decide +kernel)) ggX7_skips_X7_isAt
theorem dX7_skips_0 : decode cX7_skips 0 = .ok (.aload_n 0, 1) := by decide +kernel
theorem dX7_skips_1 : decode cX7_skips 1 = .ok (.bipush 32, 2) := by decide +kernel
theorem dX7_skips_3 : decode cX7_skips 3 = .ok (.bipush 32, 2) := by decide +kernel
theorem dX7_skips_5 : decode cX7_skips 5 = .ok (.invokevirtual 259, 3) := by decide +kernel
theorem dX7_skips_8 : decode cX7_skips 8 = .ok (.istore_n 1, 1) := by decide +kernel
theorem dX7_skips_9 : decode cX7_skips 9 = .ok (.aload_n 0, 1) := by decide +kernel
theorem dX7_skips_10 : decode cX7_skips 10 = .ok (.bipush 32, 2) := by decide +kernel
theorem dX7_skips_12 : decode cX7_skips 12 = .ok (.bipush 32, 2) := by decide +kernel
theorem dX7_skips_14 : decode cX7_skips 14 = .ok (.invokevirtual 259, 3) := by decide +kernel
theorem dX7_skips_17 : decode cX7_skips 17 = .ok (.ifCond .eq 16, 3) := by decide +kernel
theorem dX7_skips_20 : decode cX7_skips 20 = .ok (.aload_n 0, 1) := by decide +kernel
theorem dX7_skips_21 : decode cX7_skips 21 = .ok (.dup, 1) := by decide +kernel
theorem dX7_skips_22 : decode cX7_skips 22 = .ok (.getfield 256, 3) := by decide +kernel
theorem dX7_skips_25 : decode cX7_skips 25 = .ok (.iconst 1, 1) := by decide +kernel
theorem dX7_skips_26 : decode cX7_skips 26 = .ok (.iadd, 1) := by decide +kernel
theorem dX7_skips_27 : decode cX7_skips 27 = .ok (.putfield 256, 3) := by decide +kernel
theorem dX7_skips_30 : decode cX7_skips 30 = .ok (.goto (-21), 3) := by decide +kernel
theorem dX7_skips_33 : decode cX7_skips 33 = .ok (.iload_n 1, 1) := by decide +kernel
theorem dX7_skips_34 : decode cX7_skips 34 = .ok (.ireturn, 1) := by decide +kernel
theorem dX7_wordFrom_0 : decode cX7_wordFrom 0 = .ok (.iconst 0, 1) := by decide +kernel
theorem dX7_wordFrom_1 : decode cX7_wordFrom 1 = .ok (.istore_n 2, 1) := by decide +kernel
theorem dX7_wordFrom_2 : decode cX7_wordFrom 2 = .ok (.iload_n 1, 1) := by decide +kernel
theorem dX7_wordFrom_3 : decode cX7_wordFrom 3 = .ok (.istore_n 3, 1) := by decide +kernel
theorem dX7_wordFrom_4 : decode cX7_wordFrom 4 = .ok (.iload_n 3, 1) := by decide +kernel
theorem dX7_wordFrom_5 : decode cX7_wordFrom 5 = .ok (.aload_n 0, 1) := by decide +kernel
theorem dX7_wordFrom_6 : decode cX7_wordFrom 6 = .ok (.getfield 256, 3) := by decide +kernel
theorem dX7_wordFrom_9 : decode cX7_wordFrom 9 = .ok (.if_icmp .ge 40, 3) := by decide +kernel
theorem dX7_wordFrom_12 : decode cX7_wordFrom 12 = .ok (.aload_n 0, 1) := by decide +kernel
theorem dX7_wordFrom_13 : decode cX7_wordFrom 13 = .ok (.getfield 256, 3) := by decide +kernel
theorem dX7_wordFrom_16 : decode cX7_wordFrom 16 = .ok (.iload_n 1, 1) := by decide +kernel
theorem dX7_wordFrom_17 : decode cX7_wordFrom 17 = .ok (.isub, 1) := by decide +kernel
theorem dX7_wordFrom_18 : decode cX7_wordFrom 18 = .ok (.iconst 5, 1) := by decide +kernel
theorem dX7_wordFrom_19 : decode cX7_wordFrom 19 = .ok (.if_icmp .le 7, 3) := by decide +kernel
theorem dX7_wordFrom_22 : decode cX7_wordFrom 22 = .ok (.iconst 0, 1) := by decide +kernel
theorem dX7_wordFrom_23 : decode cX7_wordFrom 23 = .ok (.goto 19, 3) := by decide +kernel
theorem dX7_wordFrom_26 : decode cX7_wordFrom 26 = .ok (.bipush 27, 2) := by decide +kernel
theorem dX7_wordFrom_28 : decode cX7_wordFrom 28 = .ok (.iload_n 2, 1) := by decide +kernel
theorem dX7_wordFrom_29 : decode cX7_wordFrom 29 = .ok (.imul, 1) := by decide +kernel
theorem dX7_wordFrom_30 : decode cX7_wordFrom 30 = .ok (.aload_n 0, 1) := by decide +kernel
theorem dX7_wordFrom_31 : decode cX7_wordFrom 31 = .ok (.getfield 19, 3) := by decide +kernel
theorem dX7_wordFrom_34 : decode cX7_wordFrom 34 = .ok (.iload_n 3, 1) := by decide +kernel
theorem dX7_wordFrom_35 : decode cX7_wordFrom 35 = .ok (.iaload, 1) := by decide +kernel
theorem dX7_wordFrom_36 : decode cX7_wordFrom 36 = .ok (.iadd, 1) := by decide +kernel
theorem dX7_wordFrom_37 : decode cX7_wordFrom 37 = .ok (.bipush 97, 2) := by decide +kernel
theorem dX7_wordFrom_39 : decode cX7_wordFrom 39 = .ok (.isub, 1) := by decide +kernel
theorem dX7_wordFrom_40 : decode cX7_wordFrom 40 = .ok (.iconst 1, 1) := by decide +kernel
theorem dX7_wordFrom_41 : decode cX7_wordFrom 41 = .ok (.iadd, 1) := by decide +kernel
theorem dX7_wordFrom_42 : decode cX7_wordFrom 42 = .ok (.istore_n 2, 1) := by decide +kernel
theorem dX7_wordFrom_43 : decode cX7_wordFrom 43 = .ok (.iinc 3 1, 3) := by decide +kernel
theorem dX7_wordFrom_46 : decode cX7_wordFrom 46 = .ok (.goto (-42), 3) := by decide +kernel
theorem dX7_wordFrom_49 : decode cX7_wordFrom 49 = .ok (.iload_n 2, 1) := by decide +kernel
theorem dX7_wordFrom_50 : decode cX7_wordFrom 50 = .ok (.lookupswitch 60 #[(841, 50), (92275, 54), (267413, 52), (400313, 58), (10416091, 56)], 50) := by decide +kernel
theorem dX7_wordFrom_100 : decode cX7_wordFrom 100 = .ok (.iconst 1, 1) := by decide +kernel
theorem dX7_wordFrom_101 : decode cX7_wordFrom 101 = .ok (.ireturn, 1) := by decide +kernel
theorem dX7_wordFrom_102 : decode cX7_wordFrom 102 = .ok (.iconst 2, 1) := by decide +kernel
theorem dX7_wordFrom_103 : decode cX7_wordFrom 103 = .ok (.ireturn, 1) := by decide +kernel
theorem dX7_wordFrom_104 : decode cX7_wordFrom 104 = .ok (.iconst 3, 1) := by decide +kernel
theorem dX7_wordFrom_105 : decode cX7_wordFrom 105 = .ok (.ireturn, 1) := by decide +kernel
theorem dX7_wordFrom_106 : decode cX7_wordFrom 106 = .ok (.iconst 4, 1) := by decide +kernel
theorem dX7_wordFrom_107 : decode cX7_wordFrom 107 = .ok (.ireturn, 1) := by decide +kernel
theorem dX7_wordFrom_108 : decode cX7_wordFrom 108 = .ok (.iconst 5, 1) := by decide +kernel
theorem dX7_wordFrom_109 : decode cX7_wordFrom 109 = .ok (.ireturn, 1) := by decide +kernel
theorem dX7_wordFrom_110 : decode cX7_wordFrom 110 = .ok (.iconst 0, 1) := by decide +kernel
theorem dX7_wordFrom_111 : decode cX7_wordFrom 111 = .ok (.ireturn, 1) := by decide +kernel
set_option maxRecDepth 20000 in
theorem ggX7_readsNumber_X7_skips : GoodIn wsX7_readsNumber wsX7_skips := goodIn_r _ [8, 1, 9, 10, 11, 7, 12, 13, 2, 14, 15, 16, 17, 18, 19, 20, 21, 22, 23, 24, 25, 26, 27, 28, 29, 30, 31, 32, 33, 34, 35, 36] (by decide +kernel) (by decide +kernel)
set_option maxRecDepth 20000 in
theorem gX7_readsNumber_X7_skips : GoodIn wsX7_readsNumber (wsV RX7 262 RX7 yX7_skips wsX7_skips) := goodIn_app (goodIn_of _ (by decide +kernel)) ggX7_readsNumber_X7_skips
set_option maxRecDepth 20000 in
theorem ggX7_readsNumber_X7_isAt : GoodIn wsX7_readsNumber wsX7_isAt := goodIn_r _ [12, 1, 13, 2, 14, 15, 7, 16, 17, 18, 19, 20, 21, 22, 23, 24, 25, 26, 27, 28, 29, 30, 31, 32, 33, 34, 35, 36] (by decide +kernel) (by decide +kernel)
set_option maxRecDepth 20000 in
theorem gX7_readsNumber_X7_isAt : GoodIn wsX7_readsNumber (wsV RX7 259 RX7 yX7_isAt wsX7_isAt) := goodIn_app (goodIn_of _ (by decide +kernel)) ggX7_readsNumber_X7_isAt
theorem dX7_readsNumber_0 : decode cX7_readsNumber 0 = .ok (.aload_n 0, 1) := by decide +kernel
theorem dX7_readsNumber_1 : decode cX7_readsNumber 1 = .ok (.invokevirtual 262, 3) := by decide +kernel
theorem dX7_readsNumber_4 : decode cX7_readsNumber 4 = .ok (.ifCond .ne 5, 3) := by decide +kernel
theorem dX7_readsNumber_7 : decode cX7_readsNumber 7 = .ok (.iconst 0, 1) := by decide +kernel
theorem dX7_readsNumber_8 : decode cX7_readsNumber 8 = .ok (.ireturn, 1) := by decide +kernel
theorem dX7_readsNumber_9 : decode cX7_readsNumber 9 = .ok (.aload_n 0, 1) := by decide +kernel
theorem dX7_readsNumber_10 : decode cX7_readsNumber 10 = .ok (.bipush 45, 2) := by decide +kernel
theorem dX7_readsNumber_12 : decode cX7_readsNumber 12 = .ok (.bipush 45, 2) := by decide +kernel
theorem dX7_readsNumber_14 : decode cX7_readsNumber 14 = .ok (.invokevirtual 259, 3) := by decide +kernel
theorem dX7_readsNumber_17 : decode cX7_readsNumber 17 = .ok (.istore_n 2, 1) := by decide +kernel
theorem dX7_readsNumber_18 : decode cX7_readsNumber 18 = .ok (.aload_n 0, 1) := by decide +kernel
theorem dX7_readsNumber_19 : decode cX7_readsNumber 19 = .ok (.dup, 1) := by decide +kernel
theorem dX7_readsNumber_20 : decode cX7_readsNumber 20 = .ok (.getfield 256, 3) := by decide +kernel
theorem dX7_readsNumber_23 : decode cX7_readsNumber 23 = .ok (.iload_n 2, 1) := by decide +kernel
theorem dX7_readsNumber_24 : decode cX7_readsNumber 24 = .ok (.ifCond .eq 7, 3) := by decide +kernel
theorem dX7_readsNumber_27 : decode cX7_readsNumber 27 = .ok (.iconst 1, 1) := by decide +kernel
theorem dX7_readsNumber_28 : decode cX7_readsNumber 28 = .ok (.goto 4, 3) := by decide +kernel
theorem dX7_readsNumber_31 : decode cX7_readsNumber 31 = .ok (.iconst 0, 1) := by decide +kernel
theorem dX7_readsNumber_32 : decode cX7_readsNumber 32 = .ok (.iadd, 1) := by decide +kernel
theorem dX7_readsNumber_33 : decode cX7_readsNumber 33 = .ok (.putfield 256, 3) := by decide +kernel
theorem dX7_readsNumber_36 : decode cX7_readsNumber 36 = .ok (.aload_n 0, 1) := by decide +kernel
theorem dX7_readsNumber_37 : decode cX7_readsNumber 37 = .ok (.bipush 48, 2) := by decide +kernel
theorem dX7_readsNumber_39 : decode cX7_readsNumber 39 = .ok (.bipush 57, 2) := by decide +kernel
theorem dX7_readsNumber_41 : decode cX7_readsNumber 41 = .ok (.invokevirtual 259, 3) := by decide +kernel
theorem dX7_readsNumber_44 : decode cX7_readsNumber 44 = .ok (.ifCond .ne 5, 3) := by decide +kernel
theorem dX7_readsNumber_47 : decode cX7_readsNumber 47 = .ok (.iconst 0, 1) := by decide +kernel
theorem dX7_readsNumber_48 : decode cX7_readsNumber 48 = .ok (.ireturn, 1) := by decide +kernel
theorem dX7_readsNumber_49 : decode cX7_readsNumber 49 = .ok (.aload_n 0, 1) := by decide +kernel
theorem dX7_readsNumber_50 : decode cX7_readsNumber 50 = .ok (.getfield 19, 3) := by decide +kernel
theorem dX7_readsNumber_53 : decode cX7_readsNumber 53 = .ok (.aload_n 0, 1) := by decide +kernel
theorem dX7_readsNumber_54 : decode cX7_readsNumber 54 = .ok (.getfield 256, 3) := by decide +kernel
theorem dX7_readsNumber_57 : decode cX7_readsNumber 57 = .ok (.iaload, 1) := by decide +kernel
theorem dX7_readsNumber_58 : decode cX7_readsNumber 58 = .ok (.bipush 48, 2) := by decide +kernel
theorem dX7_readsNumber_60 : decode cX7_readsNumber 60 = .ok (.isub, 1) := by decide +kernel
theorem dX7_readsNumber_61 : decode cX7_readsNumber 61 = .ok (.istore_n 3, 1) := by decide +kernel
theorem dX7_readsNumber_62 : decode cX7_readsNumber 62 = .ok (.aload_n 0, 1) := by decide +kernel
theorem dX7_readsNumber_63 : decode cX7_readsNumber 63 = .ok (.dup, 1) := by decide +kernel
theorem dX7_readsNumber_64 : decode cX7_readsNumber 64 = .ok (.getfield 256, 3) := by decide +kernel
theorem dX7_readsNumber_67 : decode cX7_readsNumber 67 = .ok (.iconst 1, 1) := by decide +kernel
theorem dX7_readsNumber_68 : decode cX7_readsNumber 68 = .ok (.iadd, 1) := by decide +kernel
theorem dX7_readsNumber_69 : decode cX7_readsNumber 69 = .ok (.putfield 256, 3) := by decide +kernel
theorem dX7_readsNumber_72 : decode cX7_readsNumber 72 = .ok (.aload_n 0, 1) := by decide +kernel
theorem dX7_readsNumber_73 : decode cX7_readsNumber 73 = .ok (.bipush 48, 2) := by decide +kernel
theorem dX7_readsNumber_75 : decode cX7_readsNumber 75 = .ok (.bipush 57, 2) := by decide +kernel
theorem dX7_readsNumber_77 : decode cX7_readsNumber 77 = .ok (.invokevirtual 259, 3) := by decide +kernel
theorem dX7_readsNumber_80 : decode cX7_readsNumber 80 = .ok (.ifCond .eq 31, 3) := by decide +kernel
theorem dX7_readsNumber_83 : decode cX7_readsNumber 83 = .ok (.bipush 10, 2) := by decide +kernel
theorem dX7_readsNumber_85 : decode cX7_readsNumber 85 = .ok (.iload_n 3, 1) := by decide +kernel
theorem dX7_readsNumber_86 : decode cX7_readsNumber 86 = .ok (.imul, 1) := by decide +kernel
theorem dX7_readsNumber_87 : decode cX7_readsNumber 87 = .ok (.aload_n 0, 1) := by decide +kernel
theorem dX7_readsNumber_88 : decode cX7_readsNumber 88 = .ok (.getfield 19, 3) := by decide +kernel
theorem dX7_readsNumber_91 : decode cX7_readsNumber 91 = .ok (.aload_n 0, 1) := by decide +kernel
theorem dX7_readsNumber_92 : decode cX7_readsNumber 92 = .ok (.getfield 256, 3) := by decide +kernel
theorem dX7_readsNumber_95 : decode cX7_readsNumber 95 = .ok (.iaload, 1) := by decide +kernel
theorem dX7_readsNumber_96 : decode cX7_readsNumber 96 = .ok (.iadd, 1) := by decide +kernel
theorem dX7_readsNumber_97 : decode cX7_readsNumber 97 = .ok (.bipush 48, 2) := by decide +kernel
theorem dX7_readsNumber_99 : decode cX7_readsNumber 99 = .ok (.isub, 1) := by decide +kernel
theorem dX7_readsNumber_100 : decode cX7_readsNumber 100 = .ok (.istore_n 3, 1) := by decide +kernel
theorem dX7_readsNumber_101 : decode cX7_readsNumber 101 = .ok (.aload_n 0, 1) := by decide +kernel
theorem dX7_readsNumber_102 : decode cX7_readsNumber 102 = .ok (.dup, 1) := by decide +kernel
theorem dX7_readsNumber_103 : decode cX7_readsNumber 103 = .ok (.getfield 256, 3) := by decide +kernel
theorem dX7_readsNumber_106 : decode cX7_readsNumber 106 = .ok (.iconst 1, 1) := by decide +kernel
theorem dX7_readsNumber_107 : decode cX7_readsNumber 107 = .ok (.iadd, 1) := by decide +kernel
theorem dX7_readsNumber_108 : decode cX7_readsNumber 108 = .ok (.putfield 256, 3) := by decide +kernel
theorem dX7_readsNumber_111 : decode cX7_readsNumber 111 = .ok (.aload_n 0, 1) := by decide +kernel
theorem dX7_readsNumber_112 : decode cX7_readsNumber 112 = .ok (.getfield 34, 3) := by decide +kernel
theorem dX7_readsNumber_115 : decode cX7_readsNumber 115 = .ok (.iload_n 1, 1) := by decide +kernel
theorem dX7_readsNumber_116 : decode cX7_readsNumber 116 = .ok (.iload_n 2, 1) := by decide +kernel
theorem dX7_readsNumber_117 : decode cX7_readsNumber 117 = .ok (.ifCond .eq 8, 3) := by decide +kernel
theorem dX7_readsNumber_120 : decode cX7_readsNumber 120 = .ok (.iload_n 3, 1) := by decide +kernel
theorem dX7_readsNumber_121 : decode cX7_readsNumber 121 = .ok (.ineg, 1) := by decide +kernel
theorem dX7_readsNumber_122 : decode cX7_readsNumber 122 = .ok (.goto 4, 3) := by decide +kernel
theorem dX7_readsNumber_125 : decode cX7_readsNumber 125 = .ok (.iload_n 3, 1) := by decide +kernel
theorem dX7_readsNumber_126 : decode cX7_readsNumber 126 = .ok (.iastore, 1) := by decide +kernel
theorem dX7_readsNumber_127 : decode cX7_readsNumber 127 = .ok (.iconst 1, 1) := by decide +kernel
theorem dX7_readsNumber_128 : decode cX7_readsNumber 128 = .ok (.ireturn, 1) := by decide +kernel
set_option maxRecDepth 20000 in
theorem ggX7_reads_X7_isAt : GoodIn wsX7_reads wsX7_isAt := goodIn_r _ [7, 1, 8, 9, 10, 11, 6, 12, 26, 27, 28, 29, 30, 31, 32, 33, 34, 35, 36, 37, 38, 39, 40, 41, 42, 43, 44, 45] (by decide +kernel) (by decide +kernel)
set_option maxRecDepth 20000 in
theorem gX7_reads_X7_isAt : GoodIn wsX7_reads (wsV RX7 259 RX7 yX7_isAt wsX7_isAt) := goodIn_app (goodIn_of _ (by decide +kernel)) ggX7_reads_X7_isAt
set_option maxRecDepth 20000 in
theorem ggX7_reads_X7_wordFrom : GoodIn wsX7_reads wsX7_wordFrom := goodIn_r _ [16, 1, 9, 26, 27, 28, 29, 30, 31, 32, 33, 34, 35, 36, 37, 38, 39, 40, 41, 42, 43, 44, 45] (by decide +kernel) (by decide +kernel)
set_option maxRecDepth 20000 in
theorem gX7_reads_X7_wordFrom : GoodIn wsX7_reads (wsV RX7 266 RX7 yX7_wordFrom wsX7_wordFrom) := goodIn_app (goodIn_of _ (by decide +kernel)) ggX7_reads_X7_wordFrom
set_option maxRecDepth 20000 in
theorem ggX7_reads_X7_readsNumber : GoodIn wsX7_reads wsX7_readsNumber := goodIn_r _ [20, 1, 9, 21, 22, 23, 24, 6, 25, 3, 4, 5, 7, 8, 10, 11, 12, 26, 27, 28, 29, 30, 31, 32, 33, 34, 35, 36, 37, 38, 39, 40, 41, 42, 43, 44, 45] (by decide +kernel) (by decide +kernel)
set_option maxRecDepth 20000 in
theorem gX7_reads_X7_readsNumber : GoodIn wsX7_reads (wsV RX7 272 RX7 yX7_readsNumber wsX7_readsNumber) := goodIn_app (goodIn_of _ (by decide +kernel)) ggX7_reads_X7_readsNumber
set_option maxRecDepth 20000 in
theorem ggX7_reads_X7_skips : GoodIn wsX7_reads wsX7_skips := goodIn_r _ [25, 1, 3, 4, 5, 6, 7, 8, 9, 10, 11, 12, 26, 27, 28, 29, 30, 31, 32, 33, 34, 35, 36, 37, 38, 39, 40, 41, 42, 43, 44, 45] (by decide +kernel) (by decide +kernel)
set_option maxRecDepth 20000 in
theorem gX7_reads_X7_skips : GoodIn wsX7_reads (wsV RX7 262 RX7 yX7_skips wsX7_skips) := goodIn_app (goodIn_of _ (by decide +kernel)) ggX7_reads_X7_skips
theorem dX7_reads_0 : decode cX7_reads 0 = .ok (.aload_n 0, 1) := by decide +kernel
theorem dX7_reads_1 : decode cX7_reads 1 = .ok (.getfield 256, 3) := by decide +kernel
theorem dX7_reads_4 : decode cX7_reads 4 = .ok (.istore_n 1, 1) := by decide +kernel
theorem dX7_reads_5 : decode cX7_reads 5 = .ok (.aload_n 0, 1) := by decide +kernel
theorem dX7_reads_6 : decode cX7_reads 6 = .ok (.bipush 97, 2) := by decide +kernel
theorem dX7_reads_8 : decode cX7_reads 8 = .ok (.bipush 122, 2) := by decide +kernel
theorem dX7_reads_10 : decode cX7_reads 10 = .ok (.invokevirtual 259, 3) := by decide +kernel
theorem dX7_reads_13 : decode cX7_reads 13 = .ok (.ifCond .eq 16, 3) := by decide +kernel
theorem dX7_reads_16 : decode cX7_reads 16 = .ok (.aload_n 0, 1) := by decide +kernel
theorem dX7_reads_17 : decode cX7_reads 17 = .ok (.dup, 1) := by decide +kernel
theorem dX7_reads_18 : decode cX7_reads 18 = .ok (.getfield 256, 3) := by decide +kernel
theorem dX7_reads_21 : decode cX7_reads 21 = .ok (.iconst 1, 1) := by decide +kernel
theorem dX7_reads_22 : decode cX7_reads 22 = .ok (.iadd, 1) := by decide +kernel
theorem dX7_reads_23 : decode cX7_reads 23 = .ok (.putfield 256, 3) := by decide +kernel
theorem dX7_reads_26 : decode cX7_reads 26 = .ok (.goto (-21), 3) := by decide +kernel
theorem dX7_reads_29 : decode cX7_reads 29 = .ok (.aload_n 0, 1) := by decide +kernel
theorem dX7_reads_30 : decode cX7_reads 30 = .ok (.aload_n 0, 1) := by decide +kernel
theorem dX7_reads_31 : decode cX7_reads 31 = .ok (.iload_n 1, 1) := by decide +kernel
theorem dX7_reads_32 : decode cX7_reads 32 = .ok (.invokevirtual 266, 3) := by decide +kernel
theorem dX7_reads_35 : decode cX7_reads 35 = .ok (.putfield 269, 3) := by decide +kernel
theorem dX7_reads_38 : decode cX7_reads 38 = .ok (.aload_n 0, 1) := by decide +kernel
theorem dX7_reads_39 : decode cX7_reads 39 = .ok (.getfield 269, 3) := by decide +kernel
theorem dX7_reads_42 : decode cX7_reads 42 = .ok (.ifCond .ne 10, 3) := by decide +kernel
theorem dX7_reads_45 : decode cX7_reads 45 = .ok (.aload_n 0, 1) := by decide +kernel
theorem dX7_reads_46 : decode cX7_reads 46 = .ok (.iload_n 1, 1) := by decide +kernel
theorem dX7_reads_47 : decode cX7_reads 47 = .ok (.putfield 256, 3) := by decide +kernel
theorem dX7_reads_50 : decode cX7_reads 50 = .ok (.iconst 0, 1) := by decide +kernel
theorem dX7_reads_51 : decode cX7_reads 51 = .ok (.ireturn, 1) := by decide +kernel
theorem dX7_reads_52 : decode cX7_reads 52 = .ok (.aload_n 0, 1) := by decide +kernel
theorem dX7_reads_53 : decode cX7_reads 53 = .ok (.getfield 269, 3) := by decide +kernel
theorem dX7_reads_56 : decode cX7_reads 56 = .ok (.iconst 3, 1) := by decide +kernel
theorem dX7_reads_57 : decode cX7_reads 57 = .ok (.if_icmp .eq 11, 3) := by decide +kernel
theorem dX7_reads_60 : decode cX7_reads 60 = .ok (.aload_n 0, 1) := by decide +kernel
theorem dX7_reads_61 : decode cX7_reads 61 = .ok (.getfield 269, 3) := by decide +kernel
theorem dX7_reads_64 : decode cX7_reads 64 = .ok (.iconst 5, 1) := by decide +kernel
theorem dX7_reads_65 : decode cX7_reads 65 = .ok (.if_icmp .ne 7, 3) := by decide +kernel
theorem dX7_reads_68 : decode cX7_reads 68 = .ok (.iconst 1, 1) := by decide +kernel
theorem dX7_reads_69 : decode cX7_reads 69 = .ok (.goto 4, 3) := by decide +kernel
theorem dX7_reads_72 : decode cX7_reads 72 = .ok (.iconst 3, 1) := by decide +kernel
theorem dX7_reads_73 : decode cX7_reads 73 = .ok (.istore_n 2, 1) := by decide +kernel
theorem dX7_reads_74 : decode cX7_reads 74 = .ok (.iconst 1, 1) := by decide +kernel
theorem dX7_reads_75 : decode cX7_reads 75 = .ok (.istore_n 3, 1) := by decide +kernel
theorem dX7_reads_76 : decode cX7_reads 76 = .ok (.iconst 0, 1) := by decide +kernel
theorem dX7_reads_77 : decode cX7_reads 77 = .ok (.istore 4, 2) := by decide +kernel
theorem dX7_reads_79 : decode cX7_reads 79 = .ok (.iload 4, 2) := by decide +kernel
theorem dX7_reads_81 : decode cX7_reads 81 = .ok (.iload_n 2, 1) := by decide +kernel
theorem dX7_reads_82 : decode cX7_reads 82 = .ok (.if_icmp .ge 20, 3) := by decide +kernel
theorem dX7_reads_85 : decode cX7_reads 85 = .ok (.iload_n 3, 1) := by decide +kernel
theorem dX7_reads_86 : decode cX7_reads 86 = .ok (.ifCond .eq 16, 3) := by decide +kernel
theorem dX7_reads_89 : decode cX7_reads 89 = .ok (.aload_n 0, 1) := by decide +kernel
theorem dX7_reads_90 : decode cX7_reads 90 = .ok (.iload 4, 2) := by decide +kernel
theorem dX7_reads_92 : decode cX7_reads 92 = .ok (.invokevirtual 272, 3) := by decide +kernel
theorem dX7_reads_95 : decode cX7_reads 95 = .ok (.istore_n 3, 1) := by decide +kernel
theorem dX7_reads_96 : decode cX7_reads 96 = .ok (.iinc 4 1, 3) := by decide +kernel
theorem dX7_reads_99 : decode cX7_reads 99 = .ok (.goto (-20), 3) := by decide +kernel
theorem dX7_reads_102 : decode cX7_reads 102 = .ok (.iload_n 3, 1) := by decide +kernel
theorem dX7_reads_103 : decode cX7_reads 103 = .ok (.ifCond .eq 36, 3) := by decide +kernel
theorem dX7_reads_106 : decode cX7_reads 106 = .ok (.aload_n 0, 1) := by decide +kernel
theorem dX7_reads_107 : decode cX7_reads 107 = .ok (.invokevirtual 262, 3) := by decide +kernel
theorem dX7_reads_110 : decode cX7_reads 110 = .ok (.istore 4, 2) := by decide +kernel
theorem dX7_reads_112 : decode cX7_reads 112 = .ok (.aload_n 0, 1) := by decide +kernel
theorem dX7_reads_113 : decode cX7_reads 113 = .ok (.bipush 59, 2) := by decide +kernel
theorem dX7_reads_115 : decode cX7_reads 115 = .ok (.bipush 59, 2) := by decide +kernel
theorem dX7_reads_117 : decode cX7_reads 117 = .ok (.invokevirtual 259, 3) := by decide +kernel
theorem dX7_reads_120 : decode cX7_reads 120 = .ok (.istore_n 3, 1) := by decide +kernel
theorem dX7_reads_121 : decode cX7_reads 121 = .ok (.aload_n 0, 1) := by decide +kernel
theorem dX7_reads_122 : decode cX7_reads 122 = .ok (.dup, 1) := by decide +kernel
theorem dX7_reads_123 : decode cX7_reads 123 = .ok (.getfield 256, 3) := by decide +kernel
theorem dX7_reads_126 : decode cX7_reads 126 = .ok (.iload_n 3, 1) := by decide +kernel
theorem dX7_reads_127 : decode cX7_reads 127 = .ok (.ifCond .eq 7, 3) := by decide +kernel
theorem dX7_reads_130 : decode cX7_reads 130 = .ok (.iconst 1, 1) := by decide +kernel
theorem dX7_reads_131 : decode cX7_reads 131 = .ok (.goto 4, 3) := by decide +kernel
theorem dX7_reads_134 : decode cX7_reads 134 = .ok (.iconst 0, 1) := by decide +kernel
theorem dX7_reads_135 : decode cX7_reads 135 = .ok (.iadd, 1) := by decide +kernel
theorem dX7_reads_136 : decode cX7_reads 136 = .ok (.putfield 256, 3) := by decide +kernel
theorem dX7_reads_139 : decode cX7_reads 139 = .ok (.iload_n 3, 1) := by decide +kernel
theorem dX7_reads_140 : decode cX7_reads 140 = .ok (.ireturn, 1) := by decide +kernel
