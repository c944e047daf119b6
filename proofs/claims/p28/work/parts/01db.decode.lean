theorem dX1_childOf_14 : decode cX1_childOf 14 = .ok (.istore 6, 2) := by decide +kernel
theorem dX1_childOf_16 : decode cX1_childOf 16 = .ok (.iload 6, 2) := by decide +kernel
theorem dX1_childOf_18 : decode cX1_childOf 18 = .ok (.aload_n 0, 1) := by decide +kernel
theorem dX1_childOf_19 : decode cX1_childOf 19 = .ok (.getfield 22, 3) := by decide +kernel
theorem dX1_childOf_22 : decode cX1_childOf 22 = .ok (.if_icmp .ge 67, 3) := by decide +kernel
theorem dX1_childOf_25 : decode cX1_childOf 25 = .ok (.iload_n 3, 1) := by decide +kernel
theorem dX1_childOf_26 : decode cX1_childOf 26 = .ok (.aload_n 0, 1) := by decide +kernel
theorem dX1_childOf_27 : decode cX1_childOf 27 = .ok (.getfield 9, 3) := by decide +kernel
theorem dX1_childOf_30 : decode cX1_childOf 30 = .ok (.iload 6, 2) := by decide +kernel
theorem dX1_childOf_32 : decode cX1_childOf 32 = .ok (.iaload, 1) := by decide +kernel
theorem dX1_childOf_33 : decode cX1_childOf 33 = .ok (.invokestatic 46, 3) := by decide +kernel
theorem dX1_childOf_36 : decode cX1_childOf 36 = .ok (.ifCond .eq 47, 3) := by decide +kernel
theorem dX1_childOf_39 : decode cX1_childOf 39 = .ok (.iload_n 3, 1) := by decide +kernel
theorem dX1_childOf_40 : decode cX1_childOf 40 = .ok (.aload_n 0, 1) := by decide +kernel
theorem dX1_childOf_41 : decode cX1_childOf 41 = .ok (.getfield 9, 3) := by decide +kernel
theorem dX1_childOf_44 : decode cX1_childOf 44 = .ok (.iload 6, 2) := by decide +kernel
theorem dX1_childOf_46 : decode cX1_childOf 46 = .ok (.iaload, 1) := by decide +kernel
theorem dX1_childOf_47 : decode cX1_childOf 47 = .ok (.invokestatic 57, 3) := by decide +kernel
theorem dX1_childOf_50 : decode cX1_childOf 50 = .ok (.iload_n 2, 1) := by decide +kernel
theorem dX1_childOf_51 : decode cX1_childOf 51 = .ok (.if_icmp .ne 32, 3) := by decide +kernel
theorem dX1_childOf_54 : decode cX1_childOf 54 = .ok (.iload 4, 2) := by decide +kernel
theorem dX1_childOf_56 : decode cX1_childOf 56 = .ok (.iconst (-1), 1) := by decide +kernel
theorem dX1_childOf_57 : decode cX1_childOf 57 = .ok (.if_icmp .ne 13, 3) := by decide +kernel
theorem dX1_childOf_60 : decode cX1_childOf 60 = .ok (.aload_n 0, 1) := by decide +kernel
theorem dX1_childOf_61 : decode cX1_childOf 61 = .ok (.getfield 9, 3) := by decide +kernel
theorem dX1_childOf_64 : decode cX1_childOf 64 = .ok (.iload 6, 2) := by decide +kernel
theorem dX1_childOf_66 : decode cX1_childOf 66 = .ok (.iaload, 1) := by decide +kernel
theorem dX1_childOf_67 : decode cX1_childOf 67 = .ok (.goto 5, 3) := by decide +kernel
theorem dX1_childOf_70 : decode cX1_childOf 70 = .ok (.iload 4, 2) := by decide +kernel
theorem dX1_childOf_72 : decode cX1_childOf 72 = .ok (.istore 4, 2) := by decide +kernel
theorem dX1_childOf_74 : decode cX1_childOf 74 = .ok (.aload_n 0, 1) := by decide +kernel
theorem dX1_childOf_75 : decode cX1_childOf 75 = .ok (.getfield 9, 3) := by decide +kernel
theorem dX1_childOf_78 : decode cX1_childOf 78 = .ok (.iload 6, 2) := by decide +kernel
theorem dX1_childOf_80 : decode cX1_childOf 80 = .ok (.iaload, 1) := by decide +kernel
theorem dX1_childOf_81 : decode cX1_childOf 81 = .ok (.istore 5, 2) := by decide +kernel
theorem dX1_childOf_83 : decode cX1_childOf 83 = .ok (.iinc 6 1, 3) := by decide +kernel
theorem dX1_childOf_86 : decode cX1_childOf 86 = .ok (.goto (-70), 3) := by decide +kernel
theorem dX1_childOf_89 : decode cX1_childOf 89 = .ok (.iload 4, 2) := by decide +kernel
theorem dX1_childOf_91 : decode cX1_childOf 91 = .ok (.iload 5, 2) := by decide +kernel
theorem dX1_childOf_93 : decode cX1_childOf 93 = .ok (.if_icmp .ne 32, 3) := by decide +kernel
theorem dX1_childOf_96 : decode cX1_childOf 96 = .ok (.iload 4, 2) := by decide +kernel
theorem dX1_childOf_98 : decode cX1_childOf 98 = .ok (.iconst (-1), 1) := by decide +kernel
theorem dX1_childOf_99 : decode cX1_childOf 99 = .ok (.if_icmp .ne 7, 3) := by decide +kernel
theorem dX1_childOf_102 : decode cX1_childOf 102 = .ok (.iconst (-1), 1) := by decide +kernel
theorem dX1_childOf_103 : decode cX1_childOf 103 = .ok (.goto 21, 3) := by decide +kernel
theorem dX1_childOf_106 : decode cX1_childOf 106 = .ok (.sipush 1000, 3) := by decide +kernel
theorem dX1_childOf_109 : decode cX1_childOf 109 = .ok (.bipush 64, 2) := by decide +kernel
theorem dX1_childOf_111 : decode cX1_childOf 111 = .ok (.iload 4, 2) := by decide +kernel
theorem dX1_childOf_113 : decode cX1_childOf 113 = .ok (.invokestatic 65, 3) := by decide +kernel
theorem dX1_childOf_116 : decode cX1_childOf 116 = .ok (.imul, 1) := by decide +kernel
theorem dX1_childOf_117 : decode cX1_childOf 117 = .ok (.iadd, 1) := by decide +kernel
theorem dX1_childOf_118 : decode cX1_childOf 118 = .ok (.iload 4, 2) := by decide +kernel
theorem dX1_childOf_120 : decode cX1_childOf 120 = .ok (.invokestatic 68, 3) := by decide +kernel
theorem dX1_childOf_123 : decode cX1_childOf 123 = .ok (.iadd, 1) := by decide +kernel
theorem dX1_childOf_124 : decode cX1_childOf 124 = .ok (.ireturn, 1) := by decide +kernel
theorem dX1_childOf_125 : decode cX1_childOf 125 = .ok (.aload_n 0, 1) := by decide +kernel
theorem dX1_childOf_126 : decode cX1_childOf 126 = .ok (.iload 4, 2) := by decide +kernel
theorem dX1_childOf_128 : decode cX1_childOf 128 = .ok (.iload_n 1, 1) := by decide +kernel
theorem dX1_childOf_129 : decode cX1_childOf 129 = .ok (.invokevirtual 71, 3) := by decide +kernel
theorem dX1_childOf_132 : decode cX1_childOf 132 = .ok (.ireturn, 1) := by decide +kernel
set_option maxRecDepth 20000 in
theorem ggX1_greatestNodeAround_X3_holds : GoodIn wsX1_greatestNodeAround wsX3_holds := goodIn_r _ [6, 7, 8, 5, 9, 10, 11, 12] (by decide +kernel) (by decide +kernel)
set_option maxRecDepth 20000 in
theorem gX1_greatestNodeAround_X3_holds : GoodIn wsX1_greatestNodeAround (va_wsS RX1 46 yX3_holds wsX3_holds) := goodIn_app (goodIn_of _ (by decide +kernel)) ggX1_greatestNodeAround_X3_holds
theorem dX1_greatestNodeAround_0 : decode cX1_greatestNodeAround 0 = .ok (.iload_n 2, 1) := by decide +kernel
theorem dX1_greatestNodeAround_1 : decode cX1_greatestNodeAround 1 = .ok (.iconst 1, 1) := by decide +kernel
theorem dX1_greatestNodeAround_2 : decode cX1_greatestNodeAround 2 = .ok (.iadd, 1) := by decide +kernel
theorem dX1_greatestNodeAround_3 : decode cX1_greatestNodeAround 3 = .ok (.istore_n 3, 1) := by decide +kernel
theorem dX1_greatestNodeAround_4 : decode cX1_greatestNodeAround 4 = .ok (.iload_n 3, 1) := by decide +kernel
theorem dX1_greatestNodeAround_5 : decode cX1_greatestNodeAround 5 = .ok (.aload_n 0, 1) := by decide +kernel
theorem dX1_greatestNodeAround_6 : decode cX1_greatestNodeAround 6 = .ok (.getfield 18, 3) := by decide +kernel
theorem dX1_greatestNodeAround_9 : decode cX1_greatestNodeAround 9 = .ok (.if_icmp .ge 24, 3) := by decide +kernel
theorem dX1_greatestNodeAround_12 : decode cX1_greatestNodeAround 12 = .ok (.aload_n 0, 1) := by decide +kernel
theorem dX1_greatestNodeAround_13 : decode cX1_greatestNodeAround 13 = .ok (.getfield 15, 3) := by decide +kernel
theorem dX1_greatestNodeAround_16 : decode cX1_greatestNodeAround 16 = .ok (.iload_n 3, 1) := by decide +kernel
theorem dX1_greatestNodeAround_17 : decode cX1_greatestNodeAround 17 = .ok (.iaload, 1) := by decide +kernel
theorem dX1_greatestNodeAround_18 : decode cX1_greatestNodeAround 18 = .ok (.iload_n 1, 1) := by decide +kernel
theorem dX1_greatestNodeAround_19 : decode cX1_greatestNodeAround 19 = .ok (.invokestatic 46, 3) := by decide +kernel
theorem dX1_greatestNodeAround_22 : decode cX1_greatestNodeAround 22 = .ok (.ifCond .eq 5, 3) := by decide +kernel
theorem dX1_greatestNodeAround_25 : decode cX1_greatestNodeAround 25 = .ok (.iload_n 3, 1) := by decide +kernel
theorem dX1_greatestNodeAround_26 : decode cX1_greatestNodeAround 26 = .ok (.ireturn, 1) := by decide +kernel
theorem dX1_greatestNodeAround_27 : decode cX1_greatestNodeAround 27 = .ok (.iinc 3 1, 3) := by decide +kernel
theorem dX1_greatestNodeAround_30 : decode cX1_greatestNodeAround 30 = .ok (.goto (-26), 3) := by decide +kernel
theorem dX1_greatestNodeAround_33 : decode cX1_greatestNodeAround 33 = .ok (.iconst (-1), 1) := by decide +kernel
theorem dX1_greatestNodeAround_34 : decode cX1_greatestNodeAround 34 = .ok (.ireturn, 1) := by decide +kernel
set_option maxRecDepth 20000 in
theorem ggX1_positionChildren_X1_childOf : GoodIn wsX1_positionChildren wsX1_childOf := goodIn_r _ [6, 7, 8, 9, 10, 11, 12, 13, 14, 15, 16, 17, 18, 19, 20, 21, 22, 23, 24, 25, 26, 27, 28, 29, 30, 31, 32, 33, 34, 5, 35, 1, 36, 37, 38, 39] (by decide +kernel) (by decide +kernel)
set_option maxRecDepth 20000 in
theorem gX1_positionChildren_X1_childOf : GoodIn wsX1_positionChildren (wsV RX1 74 RX1 yX1_childOf wsX1_childOf) := goodIn_app (goodIn_of _ (by decide +kernel)) ggX1_positionChildren_X1_childOf
theorem dX1_positionChildren_0 : decode cX1_positionChildren 0 = .ok (.iconst 0, 1) := by decide +kernel
theorem dX1_positionChildren_1 : decode cX1_positionChildren 1 = .ok (.istore_n 1, 1) := by decide +kernel
theorem dX1_positionChildren_2 : decode cX1_positionChildren 2 = .ok (.iconst 0, 1) := by decide +kernel
theorem dX1_positionChildren_3 : decode cX1_positionChildren 3 = .ok (.istore_n 2, 1) := by decide +kernel
theorem dX1_positionChildren_4 : decode cX1_positionChildren 4 = .ok (.iload_n 2, 1) := by decide +kernel
theorem dX1_positionChildren_5 : decode cX1_positionChildren 5 = .ok (.aload_n 0, 1) := by decide +kernel
theorem dX1_positionChildren_6 : decode cX1_positionChildren 6 = .ok (.getfield 18, 3) := by decide +kernel
theorem dX1_positionChildren_9 : decode cX1_positionChildren 9 = .ok (.if_icmp .ge 37, 3) := by decide +kernel
theorem dX1_positionChildren_12 : decode cX1_positionChildren 12 = .ok (.iconst 0, 1) := by decide +kernel
theorem dX1_positionChildren_13 : decode cX1_positionChildren 13 = .ok (.istore_n 3, 1) := by decide +kernel
theorem dX1_positionChildren_14 : decode cX1_positionChildren 14 = .ok (.iload_n 3, 1) := by decide +kernel
theorem dX1_positionChildren_15 : decode cX1_positionChildren 15 = .ok (.iconst 4, 1) := by decide +kernel
theorem dX1_positionChildren_16 : decode cX1_positionChildren 16 = .ok (.if_icmp .ge 24, 3) := by decide +kernel
theorem dX1_positionChildren_19 : decode cX1_positionChildren 19 = .ok (.aload_n 0, 1) := by decide +kernel
theorem dX1_positionChildren_20 : decode cX1_positionChildren 20 = .ok (.iload_n 2, 1) := by decide +kernel
theorem dX1_positionChildren_21 : decode cX1_positionChildren 21 = .ok (.iload_n 3, 1) := by decide +kernel
theorem dX1_positionChildren_22 : decode cX1_positionChildren 22 = .ok (.invokevirtual 74, 3) := by decide +kernel
theorem dX1_positionChildren_25 : decode cX1_positionChildren 25 = .ok (.sipush 1000, 3) := by decide +kernel
theorem dX1_positionChildren_28 : decode cX1_positionChildren 28 = .ok (.if_icmp .lt 6, 3) := by decide +kernel
theorem dX1_positionChildren_31 : decode cX1_positionChildren 31 = .ok (.iinc 1 1, 3) := by decide +kernel
theorem dX1_positionChildren_34 : decode cX1_positionChildren 34 = .ok (.iinc 3 1, 3) := by decide +kernel
theorem dX1_positionChildren_37 : decode cX1_positionChildren 37 = .ok (.goto (-23), 3) := by decide +kernel
theorem dX1_positionChildren_40 : decode cX1_positionChildren 40 = .ok (.iinc 2 1, 3) := by decide +kernel
theorem dX1_positionChildren_43 : decode cX1_positionChildren 43 = .ok (.goto (-39), 3) := by decide +kernel
theorem dX1_positionChildren_46 : decode cX1_positionChildren 46 = .ok (.iload_n 1, 1) := by decide +kernel
theorem dX1_positionChildren_47 : decode cX1_positionChildren 47 = .ok (.ireturn, 1) := by decide +kernel
theorem dX1_differentPositions_0 : decode cX1_differentPositions 0 = .ok (.iconst 0, 1) := by decide +kernel
theorem dX1_differentPositions_1 : decode cX1_differentPositions 1 = .ok (.istore_n 1, 1) := by decide +kernel
theorem dX1_differentPositions_2 : decode cX1_differentPositions 2 = .ok (.iconst 0, 1) := by decide +kernel
theorem dX1_differentPositions_3 : decode cX1_differentPositions 3 = .ok (.istore_n 2, 1) := by decide +kernel
theorem dX1_differentPositions_4 : decode cX1_differentPositions 4 = .ok (.iload_n 2, 1) := by decide +kernel
theorem dX1_differentPositions_5 : decode cX1_differentPositions 5 = .ok (.aload_n 0, 1) := by decide +kernel
theorem dX1_differentPositions_6 : decode cX1_differentPositions 6 = .ok (.getfield 22, 3) := by decide +kernel
theorem dX1_differentPositions_9 : decode cX1_differentPositions 9 = .ok (.if_icmp .ge 33, 3) := by decide +kernel
theorem dX1_differentPositions_12 : decode cX1_differentPositions 12 = .ok (.iload_n 2, 1) := by decide +kernel
theorem dX1_differentPositions_13 : decode cX1_differentPositions 13 = .ok (.ifCond .eq 20, 3) := by decide +kernel
theorem dX1_differentPositions_16 : decode cX1_differentPositions 16 = .ok (.aload_n 0, 1) := by decide +kernel
theorem dX1_differentPositions_17 : decode cX1_differentPositions 17 = .ok (.getfield 9, 3) := by decide +kernel
theorem dX1_differentPositions_20 : decode cX1_differentPositions 20 = .ok (.iload_n 2, 1) := by decide +kernel
theorem dX1_differentPositions_21 : decode cX1_differentPositions 21 = .ok (.iaload, 1) := by decide +kernel
theorem dX1_differentPositions_22 : decode cX1_differentPositions 22 = .ok (.aload_n 0, 1) := by decide +kernel
theorem dX1_differentPositions_23 : decode cX1_differentPositions 23 = .ok (.getfield 9, 3) := by decide +kernel
theorem dX1_differentPositions_26 : decode cX1_differentPositions 26 = .ok (.iload_n 2, 1) := by decide +kernel
theorem dX1_differentPositions_27 : decode cX1_differentPositions 27 = .ok (.iconst 1, 1) := by decide +kernel
theorem dX1_differentPositions_28 : decode cX1_differentPositions 28 = .ok (.isub, 1) := by decide +kernel
theorem dX1_differentPositions_29 : decode cX1_differentPositions 29 = .ok (.iaload, 1) := by decide +kernel
theorem dX1_differentPositions_30 : decode cX1_differentPositions 30 = .ok (.if_icmp .eq 6, 3) := by decide +kernel
theorem dX1_differentPositions_33 : decode cX1_differentPositions 33 = .ok (.iinc 1 1, 3) := by decide +kernel
theorem dX1_differentPositions_36 : decode cX1_differentPositions 36 = .ok (.iinc 2 1, 3) := by decide +kernel
theorem dX1_differentPositions_39 : decode cX1_differentPositions 39 = .ok (.goto (-35), 3) := by decide +kernel
theorem dX1_differentPositions_42 : decode cX1_differentPositions 42 = .ok (.iload_n 1, 1) := by decide +kernel
theorem dX1_differentPositions_43 : decode cX1_differentPositions 43 = .ok (.ireturn, 1) := by decide +kernel
set_option maxRecDepth 20000 in
theorem ggX1_stepTowards_X3_quadrant : GoodIn wsX1_stepTowards wsX3_quadrant := goodIn_r _ [5, 6, 7, 4, 8] (by decide +kernel) (by decide +kernel)
set_option maxRecDepth 20000 in
theorem gX1_stepTowards_X3_quadrant : GoodIn wsX1_stepTowards (va_wsS RX1 57 yX3_quadrant wsX3_quadrant) := goodIn_app (goodIn_of _ (by decide +kernel)) ggX1_stepTowards_X3_quadrant
set_option maxRecDepth 20000 in
theorem ggX1_stepTowards_X1_childOf : GoodIn wsX1_stepTowards wsX1_childOf := goodIn_r _ [13, 1, 14, 15, 16, 17, 4, 18, 19, 20, 21, 6, 7, 8, 2, 3, 5, 22, 23, 24, 25, 26, 27, 28, 29, 30, 31, 32, 33, 12, 34, 35, 36, 37, 38, 39] (by decide +kernel) (by decide +kernel)
set_option maxRecDepth 20000 in
theorem gX1_stepTowards_X1_childOf : GoodIn wsX1_stepTowards (wsV RX1 74 RX1 yX1_childOf wsX1_childOf) := goodIn_app (goodIn_of _ (by decide +kernel)) ggX1_stepTowards_X1_childOf
set_option maxRecDepth 20000 in
theorem ggX1_stepTowards_X3_holds : GoodIn wsX1_stepTowards wsX3_holds := goodIn_r _ [18, 19, 20, 4, 21, 6, 7, 8] (by decide +kernel) (by decide +kernel)
set_option maxRecDepth 20000 in
theorem gX1_stepTowards_X3_holds : GoodIn wsX1_stepTowards (va_wsS RX1 46 yX3_holds wsX3_holds) := goodIn_app (goodIn_of _ (by decide +kernel)) ggX1_stepTowards_X3_holds
theorem dX1_stepTowards_0 : decode cX1_stepTowards 0 = .ok (.aload_n 0, 1) := by decide +kernel
theorem dX1_stepTowards_1 : decode cX1_stepTowards 1 = .ok (.iload_n 1, 1) := by decide +kernel
theorem dX1_stepTowards_2 : decode cX1_stepTowards 2 = .ok (.aload_n 0, 1) := by decide +kernel
theorem dX1_stepTowards_3 : decode cX1_stepTowards 3 = .ok (.getfield 15, 3) := by decide +kernel
theorem dX1_stepTowards_6 : decode cX1_stepTowards 6 = .ok (.iload_n 1, 1) := by decide +kernel
theorem dX1_stepTowards_7 : decode cX1_stepTowards 7 = .ok (.iaload, 1) := by decide +kernel
theorem dX1_stepTowards_8 : decode cX1_stepTowards 8 = .ok (.iload_n 2, 1) := by decide +kernel
theorem dX1_stepTowards_9 : decode cX1_stepTowards 9 = .ok (.invokestatic 57, 3) := by decide +kernel
theorem dX1_stepTowards_12 : decode cX1_stepTowards 12 = .ok (.invokevirtual 74, 3) := by decide +kernel
theorem dX1_stepTowards_15 : decode cX1_stepTowards 15 = .ok (.istore_n 3, 1) := by decide +kernel
theorem dX1_stepTowards_16 : decode cX1_stepTowards 16 = .ok (.iload_n 3, 1) := by decide +kernel
theorem dX1_stepTowards_17 : decode cX1_stepTowards 17 = .ok (.iconst (-1), 1) := by decide +kernel
theorem dX1_stepTowards_18 : decode cX1_stepTowards 18 = .ok (.if_icmp .eq 10, 3) := by decide +kernel
theorem dX1_stepTowards_21 : decode cX1_stepTowards 21 = .ok (.iload_n 3, 1) := by decide +kernel
theorem dX1_stepTowards_22 : decode cX1_stepTowards 22 = .ok (.sipush 1000, 3) := by decide +kernel
theorem dX1_stepTowards_25 : decode cX1_stepTowards 25 = .ok (.if_icmp .lt 5, 3) := by decide +kernel
theorem dX1_stepTowards_28 : decode cX1_stepTowards 28 = .ok (.iconst (-1), 1) := by decide +kernel
theorem dX1_stepTowards_29 : decode cX1_stepTowards 29 = .ok (.ireturn, 1) := by decide +kernel
theorem dX1_stepTowards_30 : decode cX1_stepTowards 30 = .ok (.aload_n 0, 1) := by decide +kernel
theorem dX1_stepTowards_31 : decode cX1_stepTowards 31 = .ok (.getfield 15, 3) := by decide +kernel
theorem dX1_stepTowards_34 : decode cX1_stepTowards 34 = .ok (.iload_n 3, 1) := by decide +kernel
theorem dX1_stepTowards_35 : decode cX1_stepTowards 35 = .ok (.iaload, 1) := by decide +kernel
theorem dX1_stepTowards_36 : decode cX1_stepTowards 36 = .ok (.iload_n 2, 1) := by decide +kernel
theorem dX1_stepTowards_37 : decode cX1_stepTowards 37 = .ok (.invokestatic 46, 3) := by decide +kernel
theorem dX1_stepTowards_40 : decode cX1_stepTowards 40 = .ok (.ifCond .eq 7, 3) := by decide +kernel
theorem dX1_stepTowards_43 : decode cX1_stepTowards 43 = .ok (.iload_n 3, 1) := by decide +kernel
theorem dX1_stepTowards_44 : decode cX1_stepTowards 44 = .ok (.goto 4, 3) := by decide +kernel
theorem dX1_stepTowards_47 : decode cX1_stepTowards 47 = .ok (.iconst (-1), 1) := by decide +kernel
theorem dX1_stepTowards_48 : decode cX1_stepTowards 48 = .ok (.ireturn, 1) := by decide +kernel
set_option maxRecDepth 20000 in
theorem ggX1_nodesWithin_X3_distanceTo : GoodIn wsX1_nodesWithin wsX3_distanceTo := goodIn_r _ [6, 7, 8, 9, 10, 11, 12, 13, 14, 15, 5, 16, 17, 18, 19, 20, 21, 22, 23, 24, 25, 26, 27, 28, 29, 30, 31, 32, 33, 34] (by decide +kernel) (by decide +kernel)
set_option maxRecDepth 20000 in
theorem gX1_nodesWithin_X3_distanceTo : GoodIn wsX1_nodesWithin (va_wsS RX1 77 yX3_distanceTo wsX3_distanceTo) := goodIn_app (goodIn_of _ (by decide +kernel)) ggX1_nodesWithin_X3_distanceTo
theorem dX1_nodesWithin_0 : decode cX1_nodesWithin 0 = .ok (.iconst 0, 1) := by decide +kernel
theorem dX1_nodesWithin_1 : decode cX1_nodesWithin 1 = .ok (.istore 4, 2) := by decide +kernel
theorem dX1_nodesWithin_3 : decode cX1_nodesWithin 3 = .ok (.iconst 0, 1) := by decide +kernel
theorem dX1_nodesWithin_4 : decode cX1_nodesWithin 4 = .ok (.istore 5, 2) := by decide +kernel
theorem dX1_nodesWithin_6 : decode cX1_nodesWithin 6 = .ok (.iload 5, 2) := by decide +kernel
theorem dX1_nodesWithin_8 : decode cX1_nodesWithin 8 = .ok (.aload_n 0, 1) := by decide +kernel
theorem dX1_nodesWithin_9 : decode cX1_nodesWithin 9 = .ok (.getfield 18, 3) := by decide +kernel
theorem dX1_nodesWithin_12 : decode cX1_nodesWithin 12 = .ok (.if_icmp .ge 28, 3) := by decide +kernel
theorem dX1_nodesWithin_15 : decode cX1_nodesWithin 15 = .ok (.aload_n 0, 1) := by decide +kernel
theorem dX1_nodesWithin_16 : decode cX1_nodesWithin 16 = .ok (.getfield 15, 3) := by decide +kernel
theorem dX1_nodesWithin_19 : decode cX1_nodesWithin 19 = .ok (.iload 5, 2) := by decide +kernel
theorem dX1_nodesWithin_21 : decode cX1_nodesWithin 21 = .ok (.iaload, 1) := by decide +kernel
theorem dX1_nodesWithin_22 : decode cX1_nodesWithin 22 = .ok (.iload_n 2, 1) := by decide +kernel
theorem dX1_nodesWithin_23 : decode cX1_nodesWithin 23 = .ok (.iload_n 3, 1) := by decide +kernel
theorem dX1_nodesWithin_24 : decode cX1_nodesWithin 24 = .ok (.invokestatic 77, 3) := by decide +kernel
theorem dX1_nodesWithin_27 : decode cX1_nodesWithin 27 = .ok (.iload_n 1, 1) := by decide +kernel
theorem dX1_nodesWithin_28 : decode cX1_nodesWithin 28 = .ok (.if_icmp .gt 6, 3) := by decide +kernel
theorem dX1_nodesWithin_31 : decode cX1_nodesWithin 31 = .ok (.iinc 4 1, 3) := by decide +kernel
theorem dX1_nodesWithin_34 : decode cX1_nodesWithin 34 = .ok (.iinc 5 1, 3) := by decide +kernel
theorem dX1_nodesWithin_37 : decode cX1_nodesWithin 37 = .ok (.goto (-31), 3) := by decide +kernel
theorem dX1_nodesWithin_40 : decode cX1_nodesWithin 40 = .ok (.iload 4, 2) := by decide +kernel
theorem dX1_nodesWithin_42 : decode cX1_nodesWithin 42 = .ok (.ireturn, 1) := by decide +kernel
theorem dX2_init_0 : decode cX2_init 0 = .ok (.aload_n 0, 1) := by decide +kernel
theorem dX2_init_1 : decode cX2_init 1 = .ok (.invokespecial 3, 3) := by decide +kernel
theorem dX2_init_4 : decode cX2_init 4 = .ok (.aload_n 0, 1) := by decide +kernel
theorem dX2_init_5 : decode cX2_init 5 = .ok (.bipush 120, 2) := by decide +kernel
theorem dX2_init_7 : decode cX2_init 7 = .ok (.newarray .int, 2) := by decide +kernel
theorem dX2_init_9 : decode cX2_init 9 = .ok (.putfield 9, 3) := by decide +kernel
theorem dX2_init_12 : decode cX2_init 12 = .ok (.aload_n 0, 1) := by decide +kernel
theorem dX2_init_13 : decode cX2_init 13 = .ok (.iconst 3, 1) := by decide +kernel
theorem dX2_init_14 : decode cX2_init 14 = .ok (.newarray .int, 2) := by decide +kernel
theorem dX2_init_16 : decode cX2_init 16 = .ok (.putfield 15, 3) := by decide +kernel
theorem dX2_init_19 : decode cX2_init 19 = .ok (.return_, 1) := by decide +kernel
theorem dX2_append_0 : decode cX2_append 0 = .ok (.aload_n 0, 1) := by decide +kernel
theorem dX2_append_1 : decode cX2_append 1 = .ok (.getfield 18, 3) := by decide +kernel
theorem dX2_append_4 : decode cX2_append 4 = .ok (.bipush 120, 2) := by decide +kernel
theorem dX2_append_6 : decode cX2_append 6 = .ok (.if_icmp .ge 23, 3) := by decide +kernel
theorem dX2_append_9 : decode cX2_append 9 = .ok (.aload_n 0, 1) := by decide +kernel
theorem dX2_append_10 : decode cX2_append 10 = .ok (.getfield 9, 3) := by decide +kernel
theorem dX2_append_13 : decode cX2_append 13 = .ok (.aload_n 0, 1) := by decide +kernel
theorem dX2_append_14 : decode cX2_append 14 = .ok (.getfield 18, 3) := by decide +kernel
theorem dX2_append_17 : decode cX2_append 17 = .ok (.iload_n 1, 1) := by decide +kernel
theorem dX2_append_18 : decode cX2_append 18 = .ok (.iastore, 1) := by decide +kernel
theorem dX2_append_19 : decode cX2_append 19 = .ok (.aload_n 0, 1) := by decide +kernel
theorem dX2_append_20 : decode cX2_append 20 = .ok (.dup, 1) := by decide +kernel
theorem dX2_append_21 : decode cX2_append 21 = .ok (.getfield 18, 3) := by decide +kernel
theorem dX2_append_24 : decode cX2_append 24 = .ok (.iconst 1, 1) := by decide +kernel
theorem dX2_append_25 : decode cX2_append 25 = .ok (.iadd, 1) := by decide +kernel
theorem dX2_append_26 : decode cX2_append 26 = .ok (.putfield 18, 3) := by decide +kernel
theorem dX2_append_29 : decode cX2_append 29 = .ok (.return_, 1) := by decide +kernel
theorem dX3_code_0 : decode cX3_code 0 = .ok (.iload_n 1, 1) := by decide +kernel
theorem dX3_code_1 : decode cX3_code 1 = .ok (.bipush 16, 2) := by decide +kernel
theorem dX3_code_3 : decode cX3_code 3 = .ok (.ishl, 1) := by decide +kernel
theorem dX3_code_4 : decode cX3_code 4 = .ok (.iload_n 0, 1) := by decide +kernel
theorem dX3_code_5 : decode cX3_code 5 = .ok (.ior, 1) := by decide +kernel
theorem dX3_code_6 : decode cX3_code 6 = .ok (.istore_n 2, 1) := by decide +kernel
theorem dX3_code_7 : decode cX3_code 7 = .ok (.iload_n 2, 1) := by decide +kernel
theorem dX3_code_8 : decode cX3_code 8 = .ok (.iload_n 2, 1) := by decide +kernel
theorem dX3_code_9 : decode cX3_code 9 = .ok (.iconst 4, 1) := by decide +kernel
theorem dX3_code_10 : decode cX3_code 10 = .ok (.ishl, 1) := by decide +kernel
theorem dX3_code_11 : decode cX3_code 11 = .ok (.ior, 1) := by decide +kernel
theorem dX3_code_12 : decode cX3_code 12 = .ok (.ldc 7, 2) := by decide +kernel
theorem dX3_code_14 : decode cX3_code 14 = .ok (.iand, 1) := by decide +kernel
theorem dX3_code_15 : decode cX3_code 15 = .ok (.istore_n 2, 1) := by decide +kernel
theorem dX3_code_16 : decode cX3_code 16 = .ok (.iload_n 2, 1) := by decide +kernel
theorem dX3_code_17 : decode cX3_code 17 = .ok (.iload_n 2, 1) := by decide +kernel
theorem dX3_code_18 : decode cX3_code 18 = .ok (.iconst 2, 1) := by decide +kernel
theorem dX3_code_19 : decode cX3_code 19 = .ok (.ishl, 1) := by decide +kernel
theorem dX3_code_20 : decode cX3_code 20 = .ok (.ior, 1) := by decide +kernel
theorem dX3_code_21 : decode cX3_code 21 = .ok (.ldc 8, 2) := by decide +kernel
theorem dX3_code_23 : decode cX3_code 23 = .ok (.iand, 1) := by decide +kernel
theorem dX3_code_24 : decode cX3_code 24 = .ok (.istore_n 2, 1) := by decide +kernel
theorem dX3_code_25 : decode cX3_code 25 = .ok (.iload_n 2, 1) := by decide +kernel
theorem dX3_code_26 : decode cX3_code 26 = .ok (.iload_n 2, 1) := by decide +kernel
theorem dX3_code_27 : decode cX3_code 27 = .ok (.iconst 1, 1) := by decide +kernel
theorem dX3_code_28 : decode cX3_code 28 = .ok (.ishl, 1) := by decide +kernel
theorem dX3_code_29 : decode cX3_code 29 = .ok (.ior, 1) := by decide +kernel
theorem dX3_code_30 : decode cX3_code 30 = .ok (.ldc 9, 2) := by decide +kernel
theorem dX3_code_32 : decode cX3_code 32 = .ok (.iand, 1) := by decide +kernel
theorem dX3_code_33 : decode cX3_code 33 = .ok (.istore_n 2, 1) := by decide +kernel
theorem dX3_code_34 : decode cX3_code 34 = .ok (.iload_n 2, 1) := by decide +kernel
theorem dX3_code_35 : decode cX3_code 35 = .ok (.iload_n 2, 1) := by decide +kernel
theorem dX3_code_36 : decode cX3_code 36 = .ok (.bipush 15, 2) := by decide +kernel
theorem dX3_code_38 : decode cX3_code 38 = .ok (.ishr, 1) := by decide +kernel
theorem dX3_code_39 : decode cX3_code 39 = .ok (.ior, 1) := by decide +kernel
theorem dX3_code_40 : decode cX3_code 40 = .ok (.ldc 10, 2) := by decide +kernel
theorem dX3_code_42 : decode cX3_code 42 = .ok (.iand, 1) := by decide +kernel
theorem dX3_code_43 : decode cX3_code 43 = .ok (.ireturn, 1) := by decide +kernel
set_option maxRecDepth 20000 in
theorem ggX3_xOf_X3_gather : GoodIn wsX3_xOf wsX3_gather := goodIn_r _ [4] (by decide +kernel) (by decide +kernel)
set_option maxRecDepth 20000 in
theorem gX3_xOf_X3_gather : GoodIn wsX3_xOf (va_wsS RX3 11 yX3_gather wsX3_gather) := goodIn_app (goodIn_of _ (by decide +kernel)) ggX3_xOf_X3_gather
theorem dX3_xOf_0 : decode cX3_xOf 0 = .ok (.iload_n 0, 1) := by decide +kernel
theorem dX3_xOf_1 : decode cX3_xOf 1 = .ok (.invokestatic 11, 3) := by decide +kernel
theorem dX3_xOf_4 : decode cX3_xOf 4 = .ok (.ireturn, 1) := by decide +kernel
set_option maxRecDepth 20000 in
theorem ggX3_yOf_X3_gather : GoodIn wsX3_yOf wsX3_gather := goodIn_r _ [4] (by decide +kernel) (by decide +kernel)
set_option maxRecDepth 20000 in
theorem gX3_yOf_X3_gather : GoodIn wsX3_yOf (va_wsS RX3 11 yX3_gather wsX3_gather) := goodIn_app (goodIn_of _ (by decide +kernel)) ggX3_yOf_X3_gather
theorem dX3_yOf_0 : decode cX3_yOf 0 = .ok (.iload_n 0, 1) := by decide +kernel
theorem dX3_yOf_1 : decode cX3_yOf 1 = .ok (.iconst 1, 1) := by decide +kernel
theorem dX3_yOf_2 : decode cX3_yOf 2 = .ok (.ishr, 1) := by decide +kernel
theorem dX3_yOf_3 : decode cX3_yOf 3 = .ok (.invokestatic 11, 3) := by decide +kernel
theorem dX3_yOf_6 : decode cX3_yOf 6 = .ok (.ireturn, 1) := by decide +kernel
theorem dX3_gather_0 : decode cX3_gather 0 = .ok (.iload_n 0, 1) := by decide +kernel
theorem dX3_gather_1 : decode cX3_gather 1 = .ok (.sipush 21845, 3) := by decide +kernel
theorem dX3_gather_4 : decode cX3_gather 4 = .ok (.iand, 1) := by decide +kernel
theorem dX3_gather_5 : decode cX3_gather 5 = .ok (.istore_n 1, 1) := by decide +kernel
theorem dX3_gather_6 : decode cX3_gather 6 = .ok (.iload_n 1, 1) := by decide +kernel
theorem dX3_gather_7 : decode cX3_gather 7 = .ok (.iload_n 1, 1) := by decide +kernel
theorem dX3_gather_8 : decode cX3_gather 8 = .ok (.iconst 1, 1) := by decide +kernel
theorem dX3_gather_9 : decode cX3_gather 9 = .ok (.ishr, 1) := by decide +kernel
theorem dX3_gather_10 : decode cX3_gather 10 = .ok (.ior, 1) := by decide +kernel
theorem dX3_gather_11 : decode cX3_gather 11 = .ok (.sipush 13107, 3) := by decide +kernel
theorem dX3_gather_14 : decode cX3_gather 14 = .ok (.iand, 1) := by decide +kernel
theorem dX3_gather_15 : decode cX3_gather 15 = .ok (.istore_n 1, 1) := by decide +kernel
theorem dX3_gather_16 : decode cX3_gather 16 = .ok (.iload_n 1, 1) := by decide +kernel
theorem dX3_gather_17 : decode cX3_gather 17 = .ok (.iload_n 1, 1) := by decide +kernel
theorem dX3_gather_18 : decode cX3_gather 18 = .ok (.iconst 2, 1) := by decide +kernel
theorem dX3_gather_19 : decode cX3_gather 19 = .ok (.ishr, 1) := by decide +kernel
theorem dX3_gather_20 : decode cX3_gather 20 = .ok (.ior, 1) := by decide +kernel
theorem dX3_gather_21 : decode cX3_gather 21 = .ok (.sipush 3855, 3) := by decide +kernel
theorem dX3_gather_24 : decode cX3_gather 24 = .ok (.iand, 1) := by decide +kernel
theorem dX3_gather_25 : decode cX3_gather 25 = .ok (.istore_n 1, 1) := by decide +kernel
theorem dX3_gather_26 : decode cX3_gather 26 = .ok (.iload_n 1, 1) := by decide +kernel
theorem dX3_gather_27 : decode cX3_gather 27 = .ok (.iload_n 1, 1) := by decide +kernel
theorem dX3_gather_28 : decode cX3_gather 28 = .ok (.iconst 4, 1) := by decide +kernel
theorem dX3_gather_29 : decode cX3_gather 29 = .ok (.ishr, 1) := by decide +kernel
theorem dX3_gather_30 : decode cX3_gather 30 = .ok (.ior, 1) := by decide +kernel
theorem dX3_gather_31 : decode cX3_gather 31 = .ok (.sipush 255, 3) := by decide +kernel
theorem dX3_gather_34 : decode cX3_gather 34 = .ok (.iand, 1) := by decide +kernel
theorem dX3_gather_35 : decode cX3_gather 35 = .ok (.ireturn, 1) := by decide +kernel
theorem dX3_around_0 : decode cX3_around 0 = .ok (.iload_n 0, 1) := by decide +kernel
theorem dX3_around_1 : decode cX3_around 1 = .ok (.iconst 2, 1) := by decide +kernel
theorem dX3_around_2 : decode cX3_around 2 = .ok (.iload_n 1, 1) := by decide +kernel
theorem dX3_around_3 : decode cX3_around 3 = .ok (.imul, 1) := by decide +kernel
theorem dX3_around_4 : decode cX3_around 4 = .ok (.ishr, 1) := by decide +kernel
theorem dX3_around_5 : decode cX3_around 5 = .ok (.iconst 2, 1) := by decide +kernel
theorem dX3_around_6 : decode cX3_around 6 = .ok (.iload_n 1, 1) := by decide +kernel
theorem dX3_around_7 : decode cX3_around 7 = .ok (.imul, 1) := by decide +kernel
theorem dX3_around_8 : decode cX3_around 8 = .ok (.ishl, 1) := by decide +kernel
theorem dX3_around_9 : decode cX3_around 9 = .ok (.istore_n 2, 1) := by decide +kernel
theorem dX3_around_10 : decode cX3_around 10 = .ok (.iload_n 2, 1) := by decide +kernel
theorem dX3_around_11 : decode cX3_around 11 = .ok (.bipush 8, 2) := by decide +kernel
theorem dX3_around_13 : decode cX3_around 13 = .ok (.imul, 1) := by decide +kernel
theorem dX3_around_14 : decode cX3_around 14 = .ok (.bipush 6, 2) := by decide +kernel
theorem dX3_around_16 : decode cX3_around 16 = .ok (.iadd, 1) := by decide +kernel
theorem dX3_around_17 : decode cX3_around 17 = .ok (.iload_n 1, 1) := by decide +kernel
theorem dX3_around_18 : decode cX3_around 18 = .ok (.isub, 1) := by decide +kernel
theorem dX3_around_19 : decode cX3_around 19 = .ok (.ireturn, 1) := by decide +kernel
theorem dX3_corner_0 : decode cX3_corner 0 = .ok (.iload_n 0, 1) := by decide +kernel
theorem dX3_corner_1 : decode cX3_corner 1 = .ok (.bipush 8, 2) := by decide +kernel
theorem dX3_corner_3 : decode cX3_corner 3 = .ok (.idiv, 1) := by decide +kernel
theorem dX3_corner_4 : decode cX3_corner 4 = .ok (.ireturn, 1) := by decide +kernel
theorem dX3_exponent_0 : decode cX3_exponent 0 = .ok (.bipush 6, 2) := by decide +kernel
theorem dX3_exponent_2 : decode cX3_exponent 2 = .ok (.iload_n 0, 1) := by decide +kernel
theorem dX3_exponent_3 : decode cX3_exponent 3 = .ok (.bipush 8, 2) := by decide +kernel
theorem dX3_exponent_5 : decode cX3_exponent 5 = .ok (.irem, 1) := by decide +kernel
theorem dX3_exponent_6 : decode cX3_exponent 6 = .ok (.isub, 1) := by decide +kernel
theorem dX3_exponent_7 : decode cX3_exponent 7 = .ok (.ireturn, 1) := by decide +kernel
set_option maxRecDepth 20000 in
theorem ggX3_size_X3_exponent : GoodIn wsX3_size wsX3_exponent := goodIn_r _ [4] (by decide +kernel) (by decide +kernel)
set_option maxRecDepth 20000 in
theorem gX3_size_X3_exponent : GoodIn wsX3_size (va_wsS RX3 17 yX3_exponent wsX3_exponent) := goodIn_app (goodIn_of _ (by decide +kernel)) ggX3_size_X3_exponent
theorem dX3_size_0 : decode cX3_size 0 = .ok (.iconst 1, 1) := by decide +kernel
theorem dX3_size_1 : decode cX3_size 1 = .ok (.iload_n 0, 1) := by decide +kernel
theorem dX3_size_2 : decode cX3_size 2 = .ok (.invokestatic 17, 3) := by decide +kernel
theorem dX3_size_5 : decode cX3_size 5 = .ok (.ishl, 1) := by decide +kernel
theorem dX3_size_6 : decode cX3_size 6 = .ok (.ireturn, 1) := by decide +kernel
set_option maxRecDepth 20000 in
theorem ggX3_holds_X3_corner : GoodIn wsX3_holds wsX3_corner := goodIn_r _ [4] (by decide +kernel) (by decide +kernel)
set_option maxRecDepth 20000 in
theorem gX3_holds_X3_corner : GoodIn wsX3_holds (va_wsS RX3 20 yX3_corner wsX3_corner) := goodIn_app (goodIn_of _ (by decide +kernel)) ggX3_holds_X3_corner
set_option maxRecDepth 20000 in
theorem ggX3_holds_X3_exponent : GoodIn wsX3_holds wsX3_exponent := goodIn_r _ [7] (by decide +kernel) (by decide +kernel)
set_option maxRecDepth 20000 in
theorem gX3_holds_X3_exponent : GoodIn wsX3_holds (va_wsS RX3 17 yX3_exponent wsX3_exponent) := goodIn_app (goodIn_of _ (by decide +kernel)) ggX3_holds_X3_exponent
theorem dX3_holds_0 : decode cX3_holds 0 = .ok (.iload_n 1, 1) := by decide +kernel
theorem dX3_holds_1 : decode cX3_holds 1 = .ok (.iload_n 0, 1) := by decide +kernel
theorem dX3_holds_2 : decode cX3_holds 2 = .ok (.invokestatic 20, 3) := by decide +kernel
theorem dX3_holds_5 : decode cX3_holds 5 = .ok (.ixor, 1) := by decide +kernel
theorem dX3_holds_6 : decode cX3_holds 6 = .ok (.iconst 2, 1) := by decide +kernel
theorem dX3_holds_7 : decode cX3_holds 7 = .ok (.iload_n 0, 1) := by decide +kernel
theorem dX3_holds_8 : decode cX3_holds 8 = .ok (.invokestatic 17, 3) := by decide +kernel
theorem dX3_holds_11 : decode cX3_holds 11 = .ok (.imul, 1) := by decide +kernel
theorem dX3_holds_12 : decode cX3_holds 12 = .ok (.ishr, 1) := by decide +kernel
theorem dX3_holds_13 : decode cX3_holds 13 = .ok (.ifCond .ne 7, 3) := by decide +kernel
theorem dX3_holds_16 : decode cX3_holds 16 = .ok (.iconst 1, 1) := by decide +kernel
theorem dX3_holds_17 : decode cX3_holds 17 = .ok (.goto 4, 3) := by decide +kernel
theorem dX3_holds_20 : decode cX3_holds 20 = .ok (.iconst 0, 1) := by decide +kernel
theorem dX3_holds_21 : decode cX3_holds 21 = .ok (.ireturn, 1) := by decide +kernel
set_option maxRecDepth 20000 in
theorem ggX3_quadrant_X3_exponent : GoodIn wsX3_quadrant wsX3_exponent := goodIn_r _ [4] (by decide +kernel) (by decide +kernel)
set_option maxRecDepth 20000 in
theorem gX3_quadrant_X3_exponent : GoodIn wsX3_quadrant (va_wsS RX3 17 yX3_exponent wsX3_exponent) := goodIn_app (goodIn_of _ (by decide +kernel)) ggX3_quadrant_X3_exponent
theorem dX3_quadrant_0 : decode cX3_quadrant 0 = .ok (.iload_n 1, 1) := by decide +kernel
theorem dX3_quadrant_1 : decode cX3_quadrant 1 = .ok (.iconst 2, 1) := by decide +kernel
theorem dX3_quadrant_2 : decode cX3_quadrant 2 = .ok (.iload_n 0, 1) := by decide +kernel
theorem dX3_quadrant_3 : decode cX3_quadrant 3 = .ok (.invokestatic 17, 3) := by decide +kernel
theorem dX3_quadrant_6 : decode cX3_quadrant 6 = .ok (.imul, 1) := by decide +kernel
theorem dX3_quadrant_7 : decode cX3_quadrant 7 = .ok (.iconst 2, 1) := by decide +kernel
theorem dX3_quadrant_8 : decode cX3_quadrant 8 = .ok (.isub, 1) := by decide +kernel
theorem dX3_quadrant_9 : decode cX3_quadrant 9 = .ok (.ishr, 1) := by decide +kernel
theorem dX3_quadrant_10 : decode cX3_quadrant 10 = .ok (.iconst 3, 1) := by decide +kernel
theorem dX3_quadrant_11 : decode cX3_quadrant 11 = .ok (.iand, 1) := by decide +kernel
theorem dX3_quadrant_12 : decode cX3_quadrant 12 = .ok (.ireturn, 1) := by decide +kernel
set_option maxRecDepth 20000 in
theorem ggX3_distanceTo_X3_corner : GoodIn wsX3_distanceTo wsX3_corner := goodIn_r _ [11] (by decide +kernel) (by decide +kernel)
set_option maxRecDepth 20000 in
theorem gX3_distanceTo_X3_corner : GoodIn wsX3_distanceTo (va_wsS RX3 20 yX3_corner wsX3_corner) := goodIn_app (goodIn_of _ (by decide +kernel)) ggX3_distanceTo_X3_corner
set_option maxRecDepth 20000 in
theorem ggX3_distanceTo_X3_xOf : GoodIn wsX3_distanceTo wsX3_xOf := goodIn_r _ [14, 15, 16, 10, 17] (by decide +kernel) (by decide +kernel)
set_option maxRecDepth 20000 in
theorem gX3_distanceTo_X3_xOf : GoodIn wsX3_distanceTo (va_wsS RX3 23 yX3_xOf wsX3_xOf) := goodIn_app (goodIn_of _ (by decide +kernel)) ggX3_distanceTo_X3_xOf
set_option maxRecDepth 20000 in
theorem ggX3_distanceTo_X3_yOf : GoodIn wsX3_distanceTo wsX3_yOf := goodIn_r _ [20, 15, 16, 10, 17] (by decide +kernel) (by decide +kernel)
set_option maxRecDepth 20000 in
theorem gX3_distanceTo_X3_yOf : GoodIn wsX3_distanceTo (va_wsS RX3 26 yX3_yOf wsX3_yOf) := goodIn_app (goodIn_of _ (by decide +kernel)) ggX3_distanceTo_X3_yOf
set_option maxRecDepth 20000 in
theorem ggX3_distanceTo_X3_size : GoodIn wsX3_distanceTo wsX3_size := goodIn_r _ [23, 24, 25, 10, 26] (by decide +kernel) (by decide +kernel)
set_option maxRecDepth 20000 in
theorem gX3_distanceTo_X3_size : GoodIn wsX3_distanceTo (va_wsS RX3 29 yX3_size wsX3_size) := goodIn_app (goodIn_of _ (by decide +kernel)) ggX3_distanceTo_X3_size
set_option maxRecDepth 20000 in
theorem ggX3_distanceTo_X6_distance : GoodIn wsX3_distanceTo wsX6_distance := goodIn_r _ [29] (by decide +kernel) (by decide +kernel)
set_option maxRecDepth 20000 in
theorem gX3_distanceTo_X6_distance_n41 : GoodIn wsX3_distanceTo (wsX6_distance) := ggX3_distanceTo_X6_distance
theorem dX3_distanceTo_0 : decode cX3_distanceTo 0 = .ok (.iload_n 0, 1) := by decide +kernel
theorem dX3_distanceTo_1 : decode cX3_distanceTo 1 = .ok (.invokestatic 20, 3) := by decide +kernel
theorem dX3_distanceTo_4 : decode cX3_distanceTo 4 = .ok (.invokestatic 23, 3) := by decide +kernel
theorem dX3_distanceTo_7 : decode cX3_distanceTo 7 = .ok (.istore_n 3, 1) := by decide +kernel
theorem dX3_distanceTo_8 : decode cX3_distanceTo 8 = .ok (.iload_n 0, 1) := by decide +kernel
theorem dX3_distanceTo_9 : decode cX3_distanceTo 9 = .ok (.invokestatic 20, 3) := by decide +kernel
theorem dX3_distanceTo_12 : decode cX3_distanceTo 12 = .ok (.invokestatic 26, 3) := by decide +kernel
theorem dX3_distanceTo_15 : decode cX3_distanceTo 15 = .ok (.istore 4, 2) := by decide +kernel
theorem dX3_distanceTo_17 : decode cX3_distanceTo 17 = .ok (.iload_n 0, 1) := by decide +kernel
theorem dX3_distanceTo_18 : decode cX3_distanceTo 18 = .ok (.invokestatic 29, 3) := by decide +kernel
theorem dX3_distanceTo_21 : decode cX3_distanceTo 21 = .ok (.iconst 1, 1) := by decide +kernel
theorem dX3_distanceTo_22 : decode cX3_distanceTo 22 = .ok (.isub, 1) := by decide +kernel
theorem dX3_distanceTo_23 : decode cX3_distanceTo 23 = .ok (.istore 5, 2) := by decide +kernel
theorem dX3_distanceTo_25 : decode cX3_distanceTo 25 = .ok (.iload_n 3, 1) := by decide +kernel
theorem dX3_distanceTo_26 : decode cX3_distanceTo 26 = .ok (.iload_n 1, 1) := by decide +kernel
theorem dX3_distanceTo_27 : decode cX3_distanceTo 27 = .ok (.iload_n 3, 1) := by decide +kernel
theorem dX3_distanceTo_28 : decode cX3_distanceTo 28 = .ok (.iload 5, 2) := by decide +kernel
theorem dX3_distanceTo_30 : decode cX3_distanceTo 30 = .ok (.iadd, 1) := by decide +kernel
theorem dX3_distanceTo_31 : decode cX3_distanceTo 31 = .ok (.invokestatic 32, 3) := by decide +kernel
theorem dX3_distanceTo_34 : decode cX3_distanceTo 34 = .ok (.invokestatic 38, 3) := by decide +kernel
theorem dX3_distanceTo_37 : decode cX3_distanceTo 37 = .ok (.istore 6, 2) := by decide +kernel
theorem dX3_distanceTo_39 : decode cX3_distanceTo 39 = .ok (.iload 4, 2) := by decide +kernel
theorem dX3_distanceTo_41 : decode cX3_distanceTo 41 = .ok (.iload_n 2, 1) := by decide +kernel
theorem dX3_distanceTo_42 : decode cX3_distanceTo 42 = .ok (.iload 4, 2) := by decide +kernel
theorem dX3_distanceTo_44 : decode cX3_distanceTo 44 = .ok (.iload 5, 2) := by decide +kernel
theorem dX3_distanceTo_46 : decode cX3_distanceTo 46 = .ok (.iadd, 1) := by decide +kernel
theorem dX3_distanceTo_47 : decode cX3_distanceTo 47 = .ok (.invokestatic 32, 3) := by decide +kernel
theorem dX3_distanceTo_50 : decode cX3_distanceTo 50 = .ok (.invokestatic 38, 3) := by decide +kernel
theorem dX3_distanceTo_53 : decode cX3_distanceTo 53 = .ok (.istore 7, 2) := by decide +kernel
theorem dX3_distanceTo_55 : decode cX3_distanceTo 55 = .ok (.iload_n 1, 1) := by decide +kernel
theorem dX3_distanceTo_56 : decode cX3_distanceTo 56 = .ok (.iload_n 2, 1) := by decide +kernel
theorem dX3_distanceTo_57 : decode cX3_distanceTo 57 = .ok (.iload 6, 2) := by decide +kernel
theorem dX3_distanceTo_59 : decode cX3_distanceTo 59 = .ok (.iload 7, 2) := by decide +kernel
theorem dX3_distanceTo_61 : decode cX3_distanceTo 61 = .ok (.invokestatic 41, 3) := by decide +kernel
theorem dX3_distanceTo_64 : decode cX3_distanceTo 64 = .ok (.ireturn, 1) := by decide +kernel
theorem dX4_init_0 : decode cX4_init 0 = .ok (.aload_n 0, 1) := by decide +kernel
theorem dX4_init_1 : decode cX4_init 1 = .ok (.invokespecial 3, 3) := by decide +kernel
theorem dX4_init_4 : decode cX4_init 4 = .ok (.aload_n 0, 1) := by decide +kernel
theorem dX4_init_5 : decode cX4_init 5 = .ok (.bipush 24, 2) := by decide +kernel
theorem dX4_init_7 : decode cX4_init 7 = .ok (.newarray .boolean, 2) := by decide +kernel
theorem dX4_init_9 : decode cX4_init 9 = .ok (.putfield 9, 3) := by decide +kernel
theorem dX4_init_12 : decode cX4_init 12 = .ok (.aload_n 0, 1) := by decide +kernel
theorem dX4_init_13 : decode cX4_init 13 = .ok (.bipush 24, 2) := by decide +kernel
theorem dX4_init_15 : decode cX4_init 15 = .ok (.newarray .int, 2) := by decide +kernel
theorem dX4_init_17 : decode cX4_init 17 = .ok (.putfield 15, 3) := by decide +kernel
theorem dX4_init_20 : decode cX4_init 20 = .ok (.aload_n 0, 1) := by decide +kernel
theorem dX4_init_21 : decode cX4_init 21 = .ok (.bipush 24, 2) := by decide +kernel
theorem dX4_init_23 : decode cX4_init 23 = .ok (.newarray .int, 2) := by decide +kernel
theorem dX4_init_25 : decode cX4_init 25 = .ok (.putfield 19, 3) := by decide +kernel
theorem dX4_init_28 : decode cX4_init 28 = .ok (.aload_n 0, 1) := by decide +kernel
theorem dX4_init_29 : decode cX4_init 29 = .ok (.bipush 24, 2) := by decide +kernel
theorem dX4_init_31 : decode cX4_init 31 = .ok (.newarray .int, 2) := by decide +kernel
theorem dX4_init_33 : decode cX4_init 33 = .ok (.putfield 22, 3) := by decide +kernel
theorem dX4_init_36 : decode cX4_init 36 = .ok (.aload_n 0, 1) := by decide +kernel
theorem dX4_init_37 : decode cX4_init 37 = .ok (.bipush 24, 2) := by decide +kernel
theorem dX4_init_39 : decode cX4_init 39 = .ok (.newarray .int, 2) := by decide +kernel
theorem dX4_init_41 : decode cX4_init 41 = .ok (.putfield 25, 3) := by decide +kernel
theorem dX4_init_44 : decode cX4_init 44 = .ok (.aload_n 0, 1) := by decide +kernel
theorem dX4_init_45 : decode cX4_init 45 = .ok (.iconst 4, 1) := by decide +kernel
theorem dX4_init_46 : decode cX4_init 46 = .ok (.newarray .int, 2) := by decide +kernel
theorem dX4_init_48 : decode cX4_init 48 = .ok (.putfield 28, 3) := by decide +kernel
theorem dX4_init_51 : decode cX4_init 51 = .ok (.aload_n 0, 1) := by decide +kernel
theorem dX4_init_52 : decode cX4_init 52 = .ok (.iconst 4, 1) := by decide +kernel
theorem dX4_init_53 : decode cX4_init 53 = .ok (.newarray .int, 2) := by decide +kernel
theorem dX4_init_55 : decode cX4_init 55 = .ok (.putfield 31, 3) := by decide +kernel
theorem dX4_init_58 : decode cX4_init 58 = .ok (.aload_n 0, 1) := by decide +kernel
theorem dX4_init_59 : decode cX4_init 59 = .ok (.iconst 4, 1) := by decide +kernel
theorem dX4_init_60 : decode cX4_init 60 = .ok (.newarray .int, 2) := by decide +kernel
theorem dX4_init_62 : decode cX4_init 62 = .ok (.putfield 34, 3) := by decide +kernel
theorem dX4_init_65 : decode cX4_init 65 = .ok (.iconst 0, 1) := by decide +kernel
theorem dX4_init_66 : decode cX4_init 66 = .ok (.istore_n 1, 1) := by decide +kernel
theorem dX4_init_67 : decode cX4_init 67 = .ok (.iload_n 1, 1) := by decide +kernel
theorem dX4_init_68 : decode cX4_init 68 = .ok (.iconst 4, 1) := by decide +kernel
theorem dX4_init_69 : decode cX4_init 69 = .ok (.if_icmp .ge 16, 3) := by decide +kernel
theorem dX4_init_72 : decode cX4_init 72 = .ok (.aload_n 0, 1) := by decide +kernel
theorem dX4_init_73 : decode cX4_init 73 = .ok (.getfield 34, 3) := by decide +kernel
theorem dX4_init_76 : decode cX4_init 76 = .ok (.iload_n 1, 1) := by decide +kernel
theorem dX4_init_77 : decode cX4_init 77 = .ok (.iconst (-1), 1) := by decide +kernel
theorem dX4_init_78 : decode cX4_init 78 = .ok (.iastore, 1) := by decide +kernel
theorem dX4_init_79 : decode cX4_init 79 = .ok (.iinc 1 1, 3) := by decide +kernel
theorem dX4_init_82 : decode cX4_init 82 = .ok (.goto (-15), 3) := by decide +kernel
theorem dX4_init_85 : decode cX4_init 85 = .ok (.return_, 1) := by decide +kernel
theorem dX4_copy_0 : decode cX4_copy 0 = .ok (.iconst 0, 1) := by decide +kernel
theorem dX4_copy_1 : decode cX4_copy 1 = .ok (.istore_n 2, 1) := by decide +kernel
theorem dX4_copy_2 : decode cX4_copy 2 = .ok (.iload_n 2, 1) := by decide +kernel
theorem dX4_copy_3 : decode cX4_copy 3 = .ok (.bipush 24, 2) := by decide +kernel
theorem dX4_copy_5 : decode cX4_copy 5 = .ok (.if_icmp .ge 69, 3) := by decide +kernel
theorem dX4_copy_8 : decode cX4_copy 8 = .ok (.aload_n 0, 1) := by decide +kernel
theorem dX4_copy_9 : decode cX4_copy 9 = .ok (.getfield 9, 3) := by decide +kernel
theorem dX4_copy_12 : decode cX4_copy 12 = .ok (.iload_n 2, 1) := by decide +kernel
theorem dX4_copy_13 : decode cX4_copy 13 = .ok (.aload_n 1, 1) := by decide +kernel
theorem dX4_copy_14 : decode cX4_copy 14 = .ok (.getfield 9, 3) := by decide +kernel
theorem dX4_copy_17 : decode cX4_copy 17 = .ok (.iload_n 2, 1) := by decide +kernel
theorem dX4_copy_18 : decode cX4_copy 18 = .ok (.baload, 1) := by decide +kernel
theorem dX4_copy_19 : decode cX4_copy 19 = .ok (.bastore, 1) := by decide +kernel
theorem dX4_copy_20 : decode cX4_copy 20 = .ok (.aload_n 0, 1) := by decide +kernel
theorem dX4_copy_21 : decode cX4_copy 21 = .ok (.getfield 15, 3) := by decide +kernel
theorem dX4_copy_24 : decode cX4_copy 24 = .ok (.iload_n 2, 1) := by decide +kernel
theorem dX4_copy_25 : decode cX4_copy 25 = .ok (.aload_n 1, 1) := by decide +kernel
theorem dX4_copy_26 : decode cX4_copy 26 = .ok (.getfield 15, 3) := by decide +kernel
theorem dX4_copy_29 : decode cX4_copy 29 = .ok (.iload_n 2, 1) := by decide +kernel
theorem dX4_copy_30 : decode cX4_copy 30 = .ok (.iaload, 1) := by decide +kernel
theorem dX4_copy_31 : decode cX4_copy 31 = .ok (.iastore, 1) := by decide +kernel
theorem dX4_copy_32 : decode cX4_copy 32 = .ok (.aload_n 0, 1) := by decide +kernel
theorem dX4_copy_33 : decode cX4_copy 33 = .ok (.getfield 19, 3) := by decide +kernel
theorem dX4_copy_36 : decode cX4_copy 36 = .ok (.iload_n 2, 1) := by decide +kernel
theorem dX4_copy_37 : decode cX4_copy 37 = .ok (.aload_n 1, 1) := by decide +kernel
theorem dX4_copy_38 : decode cX4_copy 38 = .ok (.getfield 19, 3) := by decide +kernel
theorem dX4_copy_41 : decode cX4_copy 41 = .ok (.iload_n 2, 1) := by decide +kernel
theorem dX4_copy_42 : decode cX4_copy 42 = .ok (.iaload, 1) := by decide +kernel
theorem dX4_copy_43 : decode cX4_copy 43 = .ok (.iastore, 1) := by decide +kernel
theorem dX4_copy_44 : decode cX4_copy 44 = .ok (.aload_n 0, 1) := by decide +kernel
theorem dX4_copy_45 : decode cX4_copy 45 = .ok (.getfield 22, 3) := by decide +kernel
theorem dX4_copy_48 : decode cX4_copy 48 = .ok (.iload_n 2, 1) := by decide +kernel
theorem dX4_copy_49 : decode cX4_copy 49 = .ok (.aload_n 1, 1) := by decide +kernel
theorem dX4_copy_50 : decode cX4_copy 50 = .ok (.getfield 22, 3) := by decide +kernel
theorem dX4_copy_53 : decode cX4_copy 53 = .ok (.iload_n 2, 1) := by decide +kernel
theorem dX4_copy_54 : decode cX4_copy 54 = .ok (.iaload, 1) := by decide +kernel
theorem dX4_copy_55 : decode cX4_copy 55 = .ok (.iastore, 1) := by decide +kernel
theorem dX4_copy_56 : decode cX4_copy 56 = .ok (.aload_n 0, 1) := by decide +kernel
theorem dX4_copy_57 : decode cX4_copy 57 = .ok (.getfield 25, 3) := by decide +kernel
theorem dX4_copy_60 : decode cX4_copy 60 = .ok (.iload_n 2, 1) := by decide +kernel
theorem dX4_copy_61 : decode cX4_copy 61 = .ok (.aload_n 1, 1) := by decide +kernel
theorem dX4_copy_62 : decode cX4_copy 62 = .ok (.getfield 25, 3) := by decide +kernel
theorem dX4_copy_65 : decode cX4_copy 65 = .ok (.iload_n 2, 1) := by decide +kernel
theorem dX4_copy_66 : decode cX4_copy 66 = .ok (.iaload, 1) := by decide +kernel
theorem dX4_copy_67 : decode cX4_copy 67 = .ok (.iastore, 1) := by decide +kernel
theorem dX4_copy_68 : decode cX4_copy 68 = .ok (.iinc 2 1, 3) := by decide +kernel
theorem dX4_copy_71 : decode cX4_copy 71 = .ok (.goto (-69), 3) := by decide +kernel
theorem dX4_copy_74 : decode cX4_copy 74 = .ok (.iconst 0, 1) := by decide +kernel
theorem dX4_copy_75 : decode cX4_copy 75 = .ok (.istore_n 2, 1) := by decide +kernel
theorem dX4_copy_76 : decode cX4_copy 76 = .ok (.iload_n 2, 1) := by decide +kernel
theorem dX4_copy_77 : decode cX4_copy 77 = .ok (.iconst 4, 1) := by decide +kernel
theorem dX4_copy_78 : decode cX4_copy 78 = .ok (.if_icmp .ge 45, 3) := by decide +kernel
theorem dX4_copy_81 : decode cX4_copy 81 = .ok (.aload_n 0, 1) := by decide +kernel
theorem dX4_copy_82 : decode cX4_copy 82 = .ok (.getfield 28, 3) := by decide +kernel
theorem dX4_copy_85 : decode cX4_copy 85 = .ok (.iload_n 2, 1) := by decide +kernel
theorem dX4_copy_86 : decode cX4_copy 86 = .ok (.aload_n 1, 1) := by decide +kernel
theorem dX4_copy_87 : decode cX4_copy 87 = .ok (.getfield 28, 3) := by decide +kernel
theorem dX4_copy_90 : decode cX4_copy 90 = .ok (.iload_n 2, 1) := by decide +kernel
theorem dX4_copy_91 : decode cX4_copy 91 = .ok (.iaload, 1) := by decide +kernel
theorem dX4_copy_92 : decode cX4_copy 92 = .ok (.iastore, 1) := by decide +kernel
theorem dX4_copy_93 : decode cX4_copy 93 = .ok (.aload_n 0, 1) := by decide +kernel
theorem dX4_copy_94 : decode cX4_copy 94 = .ok (.getfield 31, 3) := by decide +kernel
theorem dX4_copy_97 : decode cX4_copy 97 = .ok (.iload_n 2, 1) := by decide +kernel
theorem dX4_copy_98 : decode cX4_copy 98 = .ok (.aload_n 1, 1) := by decide +kernel
theorem dX4_copy_99 : decode cX4_copy 99 = .ok (.getfield 31, 3) := by decide +kernel
theorem dX4_copy_102 : decode cX4_copy 102 = .ok (.iload_n 2, 1) := by decide +kernel
theorem dX4_copy_103 : decode cX4_copy 103 = .ok (.iaload, 1) := by decide +kernel
theorem dX4_copy_104 : decode cX4_copy 104 = .ok (.iastore, 1) := by decide +kernel
theorem dX4_copy_105 : decode cX4_copy 105 = .ok (.aload_n 0, 1) := by decide +kernel
theorem dX4_copy_106 : decode cX4_copy 106 = .ok (.getfield 34, 3) := by decide +kernel
theorem dX4_copy_109 : decode cX4_copy 109 = .ok (.iload_n 2, 1) := by decide +kernel
theorem dX4_copy_110 : decode cX4_copy 110 = .ok (.aload_n 1, 1) := by decide +kernel
theorem dX4_copy_111 : decode cX4_copy 111 = .ok (.getfield 34, 3) := by decide +kernel
theorem dX4_copy_114 : decode cX4_copy 114 = .ok (.iload_n 2, 1) := by decide +kernel
theorem dX4_copy_115 : decode cX4_copy 115 = .ok (.iaload, 1) := by decide +kernel
theorem dX4_copy_116 : decode cX4_copy 116 = .ok (.iastore, 1) := by decide +kernel
theorem dX4_copy_117 : decode cX4_copy 117 = .ok (.iinc 2 1, 3) := by decide +kernel
theorem dX4_copy_120 : decode cX4_copy 120 = .ok (.goto (-44), 3) := by decide +kernel
theorem dX4_copy_123 : decode cX4_copy 123 = .ok (.aload_n 0, 1) := by decide +kernel
theorem dX4_copy_124 : decode cX4_copy 124 = .ok (.aload_n 1, 1) := by decide +kernel
theorem dX4_copy_125 : decode cX4_copy 125 = .ok (.getfield 37, 3) := by decide +kernel
theorem dX4_copy_128 : decode cX4_copy 128 = .ok (.putfield 37, 3) := by decide +kernel
theorem dX4_copy_131 : decode cX4_copy 131 = .ok (.return_, 1) := by decide +kernel
theorem dX4_put_0 : decode cX4_put 0 = .ok (.aload_n 0, 1) := by decide +kernel
theorem dX4_put_1 : decode cX4_put 1 = .ok (.getfield 9, 3) := by decide +kernel
theorem dX4_put_4 : decode cX4_put 4 = .ok (.iload_n 1, 1) := by decide +kernel
theorem dX4_put_5 : decode cX4_put 5 = .ok (.iconst 1, 1) := by decide +kernel
theorem dX4_put_6 : decode cX4_put 6 = .ok (.bastore, 1) := by decide +kernel
theorem dX4_put_7 : decode cX4_put 7 = .ok (.aload_n 0, 1) := by decide +kernel
theorem dX4_put_8 : decode cX4_put 8 = .ok (.getfield 15, 3) := by decide +kernel
theorem dX4_put_11 : decode cX4_put 11 = .ok (.iload_n 1, 1) := by decide +kernel
theorem dX4_put_12 : decode cX4_put 12 = .ok (.iload_n 2, 1) := by decide +kernel
theorem dX4_put_13 : decode cX4_put 13 = .ok (.iastore, 1) := by decide +kernel
theorem dX4_put_14 : decode cX4_put 14 = .ok (.aload_n 0, 1) := by decide +kernel
theorem dX4_put_15 : decode cX4_put 15 = .ok (.getfield 19, 3) := by decide +kernel
theorem dX4_put_18 : decode cX4_put 18 = .ok (.iload_n 1, 1) := by decide +kernel
theorem dX4_put_19 : decode cX4_put 19 = .ok (.iload_n 3, 1) := by decide +kernel
theorem dX4_put_20 : decode cX4_put 20 = .ok (.iastore, 1) := by decide +kernel
theorem dX4_put_21 : decode cX4_put 21 = .ok (.return_, 1) := by decide +kernel
theorem dX4_clear_0 : decode cX4_clear 0 = .ok (.aload_n 0, 1) := by decide +kernel
theorem dX4_clear_1 : decode cX4_clear 1 = .ok (.getfield 9, 3) := by decide +kernel
theorem dX4_clear_4 : decode cX4_clear 4 = .ok (.iload_n 1, 1) := by decide +kernel
theorem dX4_clear_5 : decode cX4_clear 5 = .ok (.iconst 0, 1) := by decide +kernel
theorem dX4_clear_6 : decode cX4_clear 6 = .ok (.bastore, 1) := by decide +kernel
theorem dX4_clear_7 : decode cX4_clear 7 = .ok (.aload_n 0, 1) := by decide +kernel
theorem dX4_clear_8 : decode cX4_clear 8 = .ok (.getfield 15, 3) := by decide +kernel
theorem dX4_clear_11 : decode cX4_clear 11 = .ok (.iload_n 1, 1) := by decide +kernel
theorem dX4_clear_12 : decode cX4_clear 12 = .ok (.iconst 0, 1) := by decide +kernel
theorem dX4_clear_13 : decode cX4_clear 13 = .ok (.iastore, 1) := by decide +kernel
theorem dX4_clear_14 : decode cX4_clear 14 = .ok (.aload_n 0, 1) := by decide +kernel
theorem dX4_clear_15 : decode cX4_clear 15 = .ok (.getfield 19, 3) := by decide +kernel
theorem dX4_clear_18 : decode cX4_clear 18 = .ok (.iload_n 1, 1) := by decide +kernel
theorem dX4_clear_19 : decode cX4_clear 19 = .ok (.iconst 0, 1) := by decide +kernel
theorem dX4_clear_20 : decode cX4_clear 20 = .ok (.iastore, 1) := by decide +kernel
theorem dX4_clear_21 : decode cX4_clear 21 = .ok (.aload_n 0, 1) := by decide +kernel
theorem dX4_clear_22 : decode cX4_clear 22 = .ok (.getfield 22, 3) := by decide +kernel
theorem dX4_clear_25 : decode cX4_clear 25 = .ok (.iload_n 1, 1) := by decide +kernel
theorem dX4_clear_26 : decode cX4_clear 26 = .ok (.iconst 0, 1) := by decide +kernel
theorem dX4_clear_27 : decode cX4_clear 27 = .ok (.iastore, 1) := by decide +kernel
theorem dX4_clear_28 : decode cX4_clear 28 = .ok (.aload_n 0, 1) := by decide +kernel
theorem dX4_clear_29 : decode cX4_clear 29 = .ok (.getfield 25, 3) := by decide +kernel
theorem dX4_clear_32 : decode cX4_clear 32 = .ok (.iload_n 1, 1) := by decide +kernel
theorem dX4_clear_33 : decode cX4_clear 33 = .ok (.iconst 0, 1) := by decide +kernel
theorem dX4_clear_34 : decode cX4_clear 34 = .ok (.iastore, 1) := by decide +kernel
theorem dX4_clear_35 : decode cX4_clear 35 = .ok (.return_, 1) := by decide +kernel
set_option maxRecDepth 20000 in
theorem ggX4_step_X4_reflected : GoodIn wsX4_step wsX4_reflected := goodIn_r _ [9] (by decide +kernel) (by decide +kernel)
set_option maxRecDepth 20000 in
theorem gX4_step_X4_reflected : GoodIn wsX4_step (va_wsS RX4 41 yX4_reflected wsX4_reflected) := goodIn_app (goodIn_of _ (by decide +kernel)) ggX4_step_X4_reflected
theorem dX4_step_0 : decode cX4_step 0 = .ok (.iconst 0, 1) := by decide +kernel
theorem dX4_step_1 : decode cX4_step 1 = .ok (.istore_n 1, 1) := by decide +kernel
theorem dX4_step_2 : decode cX4_step 2 = .ok (.iload_n 1, 1) := by decide +kernel
theorem dX4_step_3 : decode cX4_step 3 = .ok (.bipush 24, 2) := by decide +kernel
theorem dX4_step_5 : decode cX4_step 5 = .ok (.if_icmp .ge 121, 3) := by decide +kernel
theorem dX4_step_8 : decode cX4_step 8 = .ok (.aload_n 0, 1) := by decide +kernel
theorem dX4_step_9 : decode cX4_step 9 = .ok (.getfield 15, 3) := by decide +kernel
theorem dX4_step_12 : decode cX4_step 12 = .ok (.iload_n 1, 1) := by decide +kernel
theorem dX4_step_13 : decode cX4_step 13 = .ok (.iaload, 1) := by decide +kernel
theorem dX4_step_14 : decode cX4_step 14 = .ok (.aload_n 0, 1) := by decide +kernel
theorem dX4_step_15 : decode cX4_step 15 = .ok (.getfield 22, 3) := by decide +kernel
theorem dX4_step_18 : decode cX4_step 18 = .ok (.iload_n 1, 1) := by decide +kernel
theorem dX4_step_19 : decode cX4_step 19 = .ok (.iaload, 1) := by decide +kernel
theorem dX4_step_20 : decode cX4_step 20 = .ok (.iadd, 1) := by decide +kernel
theorem dX4_step_21 : decode cX4_step 21 = .ok (.istore_n 2, 1) := by decide +kernel
theorem dX4_step_22 : decode cX4_step 22 = .ok (.aload_n 0, 1) := by decide +kernel
theorem dX4_step_23 : decode cX4_step 23 = .ok (.getfield 19, 3) := by decide +kernel
theorem dX4_step_26 : decode cX4_step 26 = .ok (.iload_n 1, 1) := by decide +kernel
theorem dX4_step_27 : decode cX4_step 27 = .ok (.iaload, 1) := by decide +kernel
theorem dX4_step_28 : decode cX4_step 28 = .ok (.aload_n 0, 1) := by decide +kernel
theorem dX4_step_29 : decode cX4_step 29 = .ok (.getfield 25, 3) := by decide +kernel
theorem dX4_step_32 : decode cX4_step 32 = .ok (.iload_n 1, 1) := by decide +kernel
theorem dX4_step_33 : decode cX4_step 33 = .ok (.iaload, 1) := by decide +kernel
theorem dX4_step_34 : decode cX4_step 34 = .ok (.iadd, 1) := by decide +kernel
theorem dX4_step_35 : decode cX4_step 35 = .ok (.istore_n 3, 1) := by decide +kernel
theorem dX4_step_36 : decode cX4_step 36 = .ok (.aload_n 0, 1) := by decide +kernel
theorem dX4_step_37 : decode cX4_step 37 = .ok (.getfield 15, 3) := by decide +kernel
theorem dX4_step_40 : decode cX4_step 40 = .ok (.iload_n 1, 1) := by decide +kernel
theorem dX4_step_41 : decode cX4_step 41 = .ok (.iload_n 2, 1) := by decide +kernel
theorem dX4_step_42 : decode cX4_step 42 = .ok (.invokestatic 41, 3) := by decide +kernel
theorem dX4_step_45 : decode cX4_step 45 = .ok (.iastore, 1) := by decide +kernel
theorem dX4_step_46 : decode cX4_step 46 = .ok (.aload_n 0, 1) := by decide +kernel
theorem dX4_step_47 : decode cX4_step 47 = .ok (.getfield 19, 3) := by decide +kernel
theorem dX4_step_50 : decode cX4_step 50 = .ok (.iload_n 1, 1) := by decide +kernel
theorem dX4_step_51 : decode cX4_step 51 = .ok (.iload_n 3, 1) := by decide +kernel
theorem dX4_step_52 : decode cX4_step 52 = .ok (.invokestatic 41, 3) := by decide +kernel
theorem dX4_step_55 : decode cX4_step 55 = .ok (.iastore, 1) := by decide +kernel
theorem dX4_step_56 : decode cX4_step 56 = .ok (.aload_n 0, 1) := by decide +kernel
theorem dX4_step_57 : decode cX4_step 57 = .ok (.getfield 22, 3) := by decide +kernel
theorem dX4_step_60 : decode cX4_step 60 = .ok (.iload_n 1, 1) := by decide +kernel
theorem dX4_step_61 : decode cX4_step 61 = .ok (.aload_n 0, 1) := by decide +kernel
theorem dX4_step_62 : decode cX4_step 62 = .ok (.getfield 15, 3) := by decide +kernel
theorem dX4_step_65 : decode cX4_step 65 = .ok (.iload_n 1, 1) := by decide +kernel
theorem dX4_step_66 : decode cX4_step 66 = .ok (.iaload, 1) := by decide +kernel
theorem dX4_step_67 : decode cX4_step 67 = .ok (.iload_n 2, 1) := by decide +kernel
theorem dX4_step_68 : decode cX4_step 68 = .ok (.if_icmp .ne 12, 3) := by decide +kernel
theorem dX4_step_71 : decode cX4_step 71 = .ok (.aload_n 0, 1) := by decide +kernel
theorem dX4_step_72 : decode cX4_step 72 = .ok (.getfield 22, 3) := by decide +kernel
theorem dX4_step_75 : decode cX4_step 75 = .ok (.iload_n 1, 1) := by decide +kernel
theorem dX4_step_76 : decode cX4_step 76 = .ok (.iaload, 1) := by decide +kernel
theorem dX4_step_77 : decode cX4_step 77 = .ok (.goto 10, 3) := by decide +kernel
theorem dX4_step_80 : decode cX4_step 80 = .ok (.aload_n 0, 1) := by decide +kernel
theorem dX4_step_81 : decode cX4_step 81 = .ok (.getfield 22, 3) := by decide +kernel
theorem dX4_step_84 : decode cX4_step 84 = .ok (.iload_n 1, 1) := by decide +kernel
theorem dX4_step_85 : decode cX4_step 85 = .ok (.iaload, 1) := by decide +kernel
theorem dX4_step_86 : decode cX4_step 86 = .ok (.ineg, 1) := by decide +kernel
theorem dX4_step_87 : decode cX4_step 87 = .ok (.iastore, 1) := by decide +kernel
theorem dX4_step_88 : decode cX4_step 88 = .ok (.aload_n 0, 1) := by decide +kernel
theorem dX4_step_89 : decode cX4_step 89 = .ok (.getfield 25, 3) := by decide +kernel
theorem dX4_step_92 : decode cX4_step 92 = .ok (.iload_n 1, 1) := by decide +kernel
theorem dX4_step_93 : decode cX4_step 93 = .ok (.aload_n 0, 1) := by decide +kernel
theorem dX4_step_94 : decode cX4_step 94 = .ok (.getfield 19, 3) := by decide +kernel
theorem dX4_step_97 : decode cX4_step 97 = .ok (.iload_n 1, 1) := by decide +kernel
theorem dX4_step_98 : decode cX4_step 98 = .ok (.iaload, 1) := by decide +kernel
theorem dX4_step_99 : decode cX4_step 99 = .ok (.iload_n 3, 1) := by decide +kernel
theorem dX4_step_100 : decode cX4_step 100 = .ok (.if_icmp .ne 12, 3) := by decide +kernel
theorem dX4_step_103 : decode cX4_step 103 = .ok (.aload_n 0, 1) := by decide +kernel
theorem dX4_step_104 : decode cX4_step 104 = .ok (.getfield 25, 3) := by decide +kernel
theorem dX4_step_107 : decode cX4_step 107 = .ok (.iload_n 1, 1) := by decide +kernel
theorem dX4_step_108 : decode cX4_step 108 = .ok (.iaload, 1) := by decide +kernel
theorem dX4_step_109 : decode cX4_step 109 = .ok (.goto 10, 3) := by decide +kernel
theorem dX4_step_112 : decode cX4_step 112 = .ok (.aload_n 0, 1) := by decide +kernel
theorem dX4_step_113 : decode cX4_step 113 = .ok (.getfield 25, 3) := by decide +kernel
theorem dX4_step_116 : decode cX4_step 116 = .ok (.iload_n 1, 1) := by decide +kernel
theorem dX4_step_117 : decode cX4_step 117 = .ok (.iaload, 1) := by decide +kernel
theorem dX4_step_118 : decode cX4_step 118 = .ok (.ineg, 1) := by decide +kernel
theorem dX4_step_119 : decode cX4_step 119 = .ok (.iastore, 1) := by decide +kernel
theorem dX4_step_120 : decode cX4_step 120 = .ok (.iinc 1 1, 3) := by decide +kernel
theorem dX4_step_123 : decode cX4_step 123 = .ok (.goto (-121), 3) := by decide +kernel
theorem dX4_step_126 : decode cX4_step 126 = .ok (.aload_n 0, 1) := by decide +kernel
theorem dX4_step_127 : decode cX4_step 127 = .ok (.dup, 1) := by decide +kernel
theorem dX4_step_128 : decode cX4_step 128 = .ok (.getfield 37, 3) := by decide +kernel
theorem dX4_step_131 : decode cX4_step 131 = .ok (.iconst 1, 1) := by decide +kernel
theorem dX4_step_132 : decode cX4_step 132 = .ok (.iadd, 1) := by decide +kernel
theorem dX4_step_133 : decode cX4_step 133 = .ok (.putfield 37, 3) := by decide +kernel
theorem dX4_step_136 : decode cX4_step 136 = .ok (.return_, 1) := by decide +kernel
theorem dX4_reflected_0 : decode cX4_reflected 0 = .ok (.iload_n 0, 1) := by decide +kernel
theorem dX4_reflected_1 : decode cX4_reflected 1 = .ok (.ifCond .ge 6, 3) := by decide +kernel
theorem dX4_reflected_4 : decode cX4_reflected 4 = .ok (.iload_n 0, 1) := by decide +kernel
theorem dX4_reflected_5 : decode cX4_reflected 5 = .ok (.ineg, 1) := by decide +kernel
theorem dX4_reflected_6 : decode cX4_reflected 6 = .ok (.ireturn, 1) := by decide +kernel
theorem dX4_reflected_7 : decode cX4_reflected 7 = .ok (.iload_n 0, 1) := by decide +kernel
theorem dX4_reflected_8 : decode cX4_reflected 8 = .ok (.bipush 64, 2) := by decide +kernel
theorem dX4_reflected_10 : decode cX4_reflected 10 = .ok (.if_icmp .ge 7, 3) := by decide +kernel
theorem dX4_reflected_13 : decode cX4_reflected 13 = .ok (.iload_n 0, 1) := by decide +kernel
theorem dX4_reflected_14 : decode cX4_reflected 14 = .ok (.goto 7, 3) := by decide +kernel
theorem dX4_reflected_17 : decode cX4_reflected 17 = .ok (.bipush 126, 2) := by decide +kernel
theorem dX4_reflected_19 : decode cX4_reflected 19 = .ok (.iload_n 0, 1) := by decide +kernel
theorem dX4_reflected_20 : decode cX4_reflected 20 = .ok (.isub, 1) := by decide +kernel
theorem dX4_reflected_21 : decode cX4_reflected 21 = .ok (.ireturn, 1) := by decide +kernel
theorem dX4_count_0 : decode cX4_count 0 = .ok (.iconst 0, 1) := by decide +kernel
theorem dX4_count_1 : decode cX4_count 1 = .ok (.istore_n 1, 1) := by decide +kernel
theorem dX4_count_2 : decode cX4_count 2 = .ok (.iconst 0, 1) := by decide +kernel
theorem dX4_count_3 : decode cX4_count 3 = .ok (.istore_n 2, 1) := by decide +kernel
theorem dX4_count_4 : decode cX4_count 4 = .ok (.iload_n 2, 1) := by decide +kernel
theorem dX4_count_5 : decode cX4_count 5 = .ok (.bipush 24, 2) := by decide +kernel
theorem dX4_count_7 : decode cX4_count 7 = .ok (.if_icmp .ge 26, 3) := by decide +kernel
theorem dX4_count_10 : decode cX4_count 10 = .ok (.iload_n 1, 1) := by decide +kernel
theorem dX4_count_11 : decode cX4_count 11 = .ok (.aload_n 0, 1) := by decide +kernel
theorem dX4_count_12 : decode cX4_count 12 = .ok (.getfield 9, 3) := by decide +kernel
theorem dX4_count_15 : decode cX4_count 15 = .ok (.iload_n 2, 1) := by decide +kernel
theorem dX4_count_16 : decode cX4_count 16 = .ok (.baload, 1) := by decide +kernel
theorem dX4_count_17 : decode cX4_count 17 = .ok (.ifCond .eq 7, 3) := by decide +kernel
theorem dX4_count_20 : decode cX4_count 20 = .ok (.iconst 1, 1) := by decide +kernel
theorem dX4_count_21 : decode cX4_count 21 = .ok (.goto 4, 3) := by decide +kernel
theorem dX4_count_24 : decode cX4_count 24 = .ok (.iconst 0, 1) := by decide +kernel
theorem dX4_count_25 : decode cX4_count 25 = .ok (.iadd, 1) := by decide +kernel
theorem dX4_count_26 : decode cX4_count 26 = .ok (.istore_n 1, 1) := by decide +kernel
theorem dX4_count_27 : decode cX4_count 27 = .ok (.iinc 2 1, 3) := by decide +kernel
theorem dX4_count_30 : decode cX4_count 30 = .ok (.goto (-26), 3) := by decide +kernel
theorem dX4_count_33 : decode cX4_count 33 = .ok (.iload_n 1, 1) := by decide +kernel
theorem dX4_count_34 : decode cX4_count 34 = .ok (.ireturn, 1) := by decide +kernel
set_option maxRecDepth 20000 in
theorem ggX4_pairOf_X6_distance : GoodIn wsX4_pairOf wsX6_distance := goodIn_r _ [5] (by decide +kernel) (by decide +kernel)
set_option maxRecDepth 20000 in
theorem gX4_pairOf_X6_distance_n45 : GoodIn wsX4_pairOf (wsX6_distance) := ggX4_pairOf_X6_distance
theorem dX4_pairOf_0 : decode cX4_pairOf 0 = .ok (.aload_n 0, 1) := by decide +kernel
theorem dX4_pairOf_1 : decode cX4_pairOf 1 = .ok (.getfield 15, 3) := by decide +kernel
theorem dX4_pairOf_4 : decode cX4_pairOf 4 = .ok (.iload_n 1, 1) := by decide +kernel
theorem dX4_pairOf_5 : decode cX4_pairOf 5 = .ok (.iaload, 1) := by decide +kernel
theorem dX4_pairOf_6 : decode cX4_pairOf 6 = .ok (.aload_n 0, 1) := by decide +kernel
theorem dX4_pairOf_7 : decode cX4_pairOf 7 = .ok (.getfield 19, 3) := by decide +kernel
theorem dX4_pairOf_10 : decode cX4_pairOf 10 = .ok (.iload_n 1, 1) := by decide +kernel
theorem dX4_pairOf_11 : decode cX4_pairOf 11 = .ok (.iaload, 1) := by decide +kernel
theorem dX4_pairOf_12 : decode cX4_pairOf 12 = .ok (.iload_n 2, 1) := by decide +kernel
theorem dX4_pairOf_13 : decode cX4_pairOf 13 = .ok (.iload_n 3, 1) := by decide +kernel
theorem dX4_pairOf_14 : decode cX4_pairOf 14 = .ok (.invokestatic 45, 3) := by decide +kernel
theorem dX4_pairOf_17 : decode cX4_pairOf 17 = .ok (.bipush 32, 2) := by decide +kernel
theorem dX4_pairOf_19 : decode cX4_pairOf 19 = .ok (.imul, 1) := by decide +kernel
theorem dX4_pairOf_20 : decode cX4_pairOf 20 = .ok (.iload_n 1, 1) := by decide +kernel
theorem dX4_pairOf_21 : decode cX4_pairOf 21 = .ok (.iadd, 1) := by decide +kernel
theorem dX4_pairOf_22 : decode cX4_pairOf 22 = .ok (.ireturn, 1) := by decide +kernel
set_option maxRecDepth 20000 in
theorem ggX4_pairAfter_X4_pairOf : GoodIn wsX4_pairAfter wsX4_pairOf := goodIn_r _ [6, 7, 8, 9, 10, 11, 12, 13, 14, 15, 16, 17, 18, 19, 20] (by decide +kernel) (by decide +kernel)
set_option maxRecDepth 20000 in
theorem gX4_pairAfter_X4_pairOf : GoodIn wsX4_pairAfter (wsV RX4 49 RX4 yX4_pairOf wsX4_pairOf) := goodIn_app (goodIn_of _ (by decide +kernel)) ggX4_pairAfter_X4_pairOf
theorem dX4_pairAfter_0 : decode cX4_pairAfter 0 = .ok (.iconst (-1), 1) := by decide +kernel
theorem dX4_pairAfter_1 : decode cX4_pairAfter 1 = .ok (.istore 4, 2) := by decide +kernel
theorem dX4_pairAfter_3 : decode cX4_pairAfter 3 = .ok (.iconst 0, 1) := by decide +kernel
theorem dX4_pairAfter_4 : decode cX4_pairAfter 4 = .ok (.istore 5, 2) := by decide +kernel
theorem dX4_pairAfter_6 : decode cX4_pairAfter 6 = .ok (.iload 5, 2) := by decide +kernel
theorem dX4_pairAfter_8 : decode cX4_pairAfter 8 = .ok (.bipush 24, 2) := by decide +kernel
theorem dX4_pairAfter_10 : decode cX4_pairAfter 10 = .ok (.if_icmp .ge 52, 3) := by decide +kernel
theorem dX4_pairAfter_13 : decode cX4_pairAfter 13 = .ok (.aload_n 0, 1) := by decide +kernel
theorem dX4_pairAfter_14 : decode cX4_pairAfter 14 = .ok (.iload 5, 2) := by decide +kernel
theorem dX4_pairAfter_16 : decode cX4_pairAfter 16 = .ok (.iload_n 2, 1) := by decide +kernel
theorem dX4_pairAfter_17 : decode cX4_pairAfter 17 = .ok (.iload_n 3, 1) := by decide +kernel
theorem dX4_pairAfter_18 : decode cX4_pairAfter 18 = .ok (.invokevirtual 49, 3) := by decide +kernel
theorem dX4_pairAfter_21 : decode cX4_pairAfter 21 = .ok (.istore 6, 2) := by decide +kernel
theorem dX4_pairAfter_23 : decode cX4_pairAfter 23 = .ok (.aload_n 0, 1) := by decide +kernel
theorem dX4_pairAfter_24 : decode cX4_pairAfter 24 = .ok (.getfield 9, 3) := by decide +kernel
theorem dX4_pairAfter_27 : decode cX4_pairAfter 27 = .ok (.iload 5, 2) := by decide +kernel
theorem dX4_pairAfter_29 : decode cX4_pairAfter 29 = .ok (.baload, 1) := by decide +kernel
theorem dX4_pairAfter_30 : decode cX4_pairAfter 30 = .ok (.ifCond .eq 26, 3) := by decide +kernel
theorem dX4_pairAfter_33 : decode cX4_pairAfter 33 = .ok (.iload 6, 2) := by decide +kernel
theorem dX4_pairAfter_35 : decode cX4_pairAfter 35 = .ok (.iload_n 1, 1) := by decide +kernel
theorem dX4_pairAfter_36 : decode cX4_pairAfter 36 = .ok (.if_icmp .le 20, 3) := by decide +kernel
