set_option maxRecDepth 20000 in
theorem ggX0_init_X1_init : GoodIn wsX0_init wsX1_init := goodIn_r _ [11, 12, 2, 3, 6, 13, 14, 15, 18, 19, 20, 21] (by decide +kernel) (by decide +kernel)
set_option maxRecDepth 20000 in
theorem gX0_init_X1_init_n21 : GoodIn wsX0_init (wsX1_init) := ggX0_init_X1_init
theorem dX0_init_0 : decode cX0_init 0 = .ok (.aload_n 0, 1) := by decide +kernel
theorem dX0_init_1 : decode cX0_init 1 = .ok (.invokespecial 3, 3) := by decide +kernel
theorem dX0_init_4 : decode cX0_init 4 = .ok (.aload_n 0, 1) := by decide +kernel
theorem dX0_init_5 : decode cX0_init 5 = .ok (.iconst 5, 1) := by decide +kernel
theorem dX0_init_6 : decode cX0_init 6 = .ok (.anewarray 9, 3) := by decide +kernel
theorem dX0_init_9 : decode cX0_init 9 = .ok (.putfield 11, 3) := by decide +kernel
theorem dX0_init_12 : decode cX0_init 12 = .ok (.aload_n 0, 1) := by decide +kernel
theorem dX0_init_13 : decode cX0_init 13 = .ok (.bipush 24, 2) := by decide +kernel
theorem dX0_init_15 : decode cX0_init 15 = .ok (.newarray .int, 2) := by decide +kernel
theorem dX0_init_17 : decode cX0_init 17 = .ok (.putfield 17, 3) := by decide +kernel
theorem dX0_init_20 : decode cX0_init 20 = .ok (.iconst 0, 1) := by decide +kernel
theorem dX0_init_21 : decode cX0_init 21 = .ok (.istore_n 1, 1) := by decide +kernel
theorem dX0_init_22 : decode cX0_init 22 = .ok (.iload_n 1, 1) := by decide +kernel
theorem dX0_init_23 : decode cX0_init 23 = .ok (.iconst 5, 1) := by decide +kernel
theorem dX0_init_24 : decode cX0_init 24 = .ok (.if_icmp .ge 22, 3) := by decide +kernel
theorem dX0_init_27 : decode cX0_init 27 = .ok (.aload_n 0, 1) := by decide +kernel
theorem dX0_init_28 : decode cX0_init 28 = .ok (.getfield 11, 3) := by decide +kernel
theorem dX0_init_31 : decode cX0_init 31 = .ok (.iload_n 1, 1) := by decide +kernel
theorem dX0_init_32 : decode cX0_init 32 = .ok (.new 9, 3) := by decide +kernel
theorem dX0_init_35 : decode cX0_init 35 = .ok (.dup, 1) := by decide +kernel
theorem dX0_init_36 : decode cX0_init 36 = .ok (.invokespecial 21, 3) := by decide +kernel
theorem dX0_init_39 : decode cX0_init 39 = .ok (.aastore, 1) := by decide +kernel
theorem dX0_init_40 : decode cX0_init 40 = .ok (.iinc 1 1, 3) := by decide +kernel
theorem dX0_init_43 : decode cX0_init 43 = .ok (.goto (-21), 3) := by decide +kernel
theorem dX0_init_46 : decode cX0_init 46 = .ok (.return_, 1) := by decide +kernel
set_option maxRecDepth 20000 in
theorem ggX0_plant_X0_sortPoints : GoodIn wsX0_plant wsX0_sortPoints := goodIn_r _ [7, 8, 9, 10, 11, 12, 13, 14, 15, 16, 17, 18, 19, 20, 21, 6, 22, 2, 60, 61, 62, 63, 64, 65, 66, 67, 68, 58, 59] (by decide +kernel) (by decide +kernel)
set_option maxRecDepth 20000 in
theorem gX0_plant_X0_sortPoints : GoodIn wsX0_plant (wsV RX0 22 RX0 yX0_sortPoints wsX0_sortPoints) := goodIn_app (goodIn_of _ (by decide +kernel)) ggX0_plant_X0_sortPoints
set_option maxRecDepth 20000 in
theorem ggX0_plant_X1_clear : GoodIn wsX0_plant wsX1_clear := goodIn_r _ [27, 28, 29, 69, 70, 71, 72] (by decide +kernel) (by decide +kernel)
set_option maxRecDepth 20000 in
theorem gX0_plant_X1_clear : GoodIn wsX0_plant (wsV RX0 26 RX1 yX1_clear wsX1_clear) := goodIn_app (goodIn_of _ (by decide +kernel)) ggX0_plant_X1_clear
set_option maxRecDepth 20000 in
theorem ggX0_plant_X6_heightOf : GoodIn wsX0_plant wsX6_heightOf := goodIn_r _ [32] (by decide +kernel) (by decide +kernel)
set_option maxRecDepth 20000 in
theorem gX0_plant_X6_heightOf_n29 : GoodIn wsX0_plant (wsX6_heightOf) := ggX0_plant_X6_heightOf
set_option maxRecDepth 20000 in
theorem ggX0_plant_X1_take : GoodIn wsX0_plant wsX1_take := goodIn_r _ [36, 28, 37, 69, 70, 71, 72] (by decide +kernel) (by decide +kernel)
set_option maxRecDepth 20000 in
theorem gX0_plant_X1_take : GoodIn wsX0_plant (wsV RX0 33 RX1 yX1_take wsX1_take) := goodIn_app (goodIn_of _ (by decide +kernel)) ggX0_plant_X1_take
set_option maxRecDepth 20000 in
theorem ggX0_plant_X1_findNodes : GoodIn wsX0_plant wsX1_findNodes := goodIn_r _ [41, 28, 37, 42, 43, 44, 26, 45, 46, 47, 48, 49, 50, 51, 13, 52, 53, 54, 55, 56, 29, 57, 69, 70, 71, 72] (by decide +kernel) (by decide +kernel)
set_option maxRecDepth 20000 in
theorem gX0_plant_X1_findNodes : GoodIn wsX0_plant (wsV RX0 37 RX1 yX1_findNodes wsX1_findNodes) := goodIn_app (goodIn_of _ (by decide +kernel)) ggX0_plant_X1_findNodes
theorem dX0_plant_0 : decode cX0_plant 0 = .ok (.aload_n 0, 1) := by decide +kernel
theorem dX0_plant_1 : decode cX0_plant 1 = .ok (.aload_n 1, 1) := by decide +kernel
theorem dX0_plant_2 : decode cX0_plant 2 = .ok (.invokevirtual 22, 3) := by decide +kernel
theorem dX0_plant_5 : decode cX0_plant 5 = .ok (.istore_n 2, 1) := by decide +kernel
theorem dX0_plant_6 : decode cX0_plant 6 = .ok (.iconst 0, 1) := by decide +kernel
theorem dX0_plant_7 : decode cX0_plant 7 = .ok (.istore_n 3, 1) := by decide +kernel
theorem dX0_plant_8 : decode cX0_plant 8 = .ok (.iload_n 3, 1) := by decide +kernel
theorem dX0_plant_9 : decode cX0_plant 9 = .ok (.iconst 5, 1) := by decide +kernel
theorem dX0_plant_10 : decode cX0_plant 10 = .ok (.if_icmp .ge 18, 3) := by decide +kernel
theorem dX0_plant_13 : decode cX0_plant 13 = .ok (.aload_n 0, 1) := by decide +kernel
theorem dX0_plant_14 : decode cX0_plant 14 = .ok (.getfield 11, 3) := by decide +kernel
theorem dX0_plant_17 : decode cX0_plant 17 = .ok (.iload_n 3, 1) := by decide +kernel
theorem dX0_plant_18 : decode cX0_plant 18 = .ok (.aaload, 1) := by decide +kernel
theorem dX0_plant_19 : decode cX0_plant 19 = .ok (.invokevirtual 26, 3) := by decide +kernel
theorem dX0_plant_22 : decode cX0_plant 22 = .ok (.iinc 3 1, 3) := by decide +kernel
theorem dX0_plant_25 : decode cX0_plant 25 = .ok (.goto (-17), 3) := by decide +kernel
theorem dX0_plant_28 : decode cX0_plant 28 = .ok (.iconst 0, 1) := by decide +kernel
theorem dX0_plant_29 : decode cX0_plant 29 = .ok (.istore_n 3, 1) := by decide +kernel
theorem dX0_plant_30 : decode cX0_plant 30 = .ok (.iload_n 3, 1) := by decide +kernel
theorem dX0_plant_31 : decode cX0_plant 31 = .ok (.iload_n 2, 1) := by decide +kernel
theorem dX0_plant_32 : decode cX0_plant 32 = .ok (.if_icmp .ge 58, 3) := by decide +kernel
theorem dX0_plant_35 : decode cX0_plant 35 = .ok (.aload_n 0, 1) := by decide +kernel
theorem dX0_plant_36 : decode cX0_plant 36 = .ok (.getfield 17, 3) := by decide +kernel
theorem dX0_plant_39 : decode cX0_plant 39 = .ok (.iload_n 3, 1) := by decide +kernel
theorem dX0_plant_40 : decode cX0_plant 40 = .ok (.iaload, 1) := by decide +kernel
theorem dX0_plant_41 : decode cX0_plant 41 = .ok (.bipush 32, 2) := by decide +kernel
theorem dX0_plant_43 : decode cX0_plant 43 = .ok (.irem, 1) := by decide +kernel
theorem dX0_plant_44 : decode cX0_plant 44 = .ok (.invokestatic 29, 3) := by decide +kernel
theorem dX0_plant_47 : decode cX0_plant 47 = .ok (.istore 4, 2) := by decide +kernel
theorem dX0_plant_49 : decode cX0_plant 49 = .ok (.iconst 0, 1) := by decide +kernel
theorem dX0_plant_50 : decode cX0_plant 50 = .ok (.istore 5, 2) := by decide +kernel
theorem dX0_plant_52 : decode cX0_plant 52 = .ok (.iload 5, 2) := by decide +kernel
theorem dX0_plant_54 : decode cX0_plant 54 = .ok (.iload 4, 2) := by decide +kernel
theorem dX0_plant_56 : decode cX0_plant 56 = .ok (.if_icmp .gt 28, 3) := by decide +kernel
theorem dX0_plant_59 : decode cX0_plant 59 = .ok (.aload_n 0, 1) := by decide +kernel
theorem dX0_plant_60 : decode cX0_plant 60 = .ok (.getfield 11, 3) := by decide +kernel
theorem dX0_plant_63 : decode cX0_plant 63 = .ok (.iload 5, 2) := by decide +kernel
theorem dX0_plant_65 : decode cX0_plant 65 = .ok (.aaload, 1) := by decide +kernel
theorem dX0_plant_66 : decode cX0_plant 66 = .ok (.aload_n 0, 1) := by decide +kernel
theorem dX0_plant_67 : decode cX0_plant 67 = .ok (.getfield 17, 3) := by decide +kernel
theorem dX0_plant_70 : decode cX0_plant 70 = .ok (.iload_n 3, 1) := by decide +kernel
theorem dX0_plant_71 : decode cX0_plant 71 = .ok (.iaload, 1) := by decide +kernel
theorem dX0_plant_72 : decode cX0_plant 72 = .ok (.bipush 32, 2) := by decide +kernel
theorem dX0_plant_74 : decode cX0_plant 74 = .ok (.idiv, 1) := by decide +kernel
theorem dX0_plant_75 : decode cX0_plant 75 = .ok (.invokevirtual 33, 3) := by decide +kernel
theorem dX0_plant_78 : decode cX0_plant 78 = .ok (.iinc 5 1, 3) := by decide +kernel
theorem dX0_plant_81 : decode cX0_plant 81 = .ok (.goto (-29), 3) := by decide +kernel
theorem dX0_plant_84 : decode cX0_plant 84 = .ok (.iinc 3 1, 3) := by decide +kernel
theorem dX0_plant_87 : decode cX0_plant 87 = .ok (.goto (-57), 3) := by decide +kernel
theorem dX0_plant_90 : decode cX0_plant 90 = .ok (.iconst 0, 1) := by decide +kernel
theorem dX0_plant_91 : decode cX0_plant 91 = .ok (.istore_n 3, 1) := by decide +kernel
theorem dX0_plant_92 : decode cX0_plant 92 = .ok (.iload_n 3, 1) := by decide +kernel
theorem dX0_plant_93 : decode cX0_plant 93 = .ok (.iconst 5, 1) := by decide +kernel
theorem dX0_plant_94 : decode cX0_plant 94 = .ok (.if_icmp .ge 18, 3) := by decide +kernel
theorem dX0_plant_97 : decode cX0_plant 97 = .ok (.aload_n 0, 1) := by decide +kernel
theorem dX0_plant_98 : decode cX0_plant 98 = .ok (.getfield 11, 3) := by decide +kernel
theorem dX0_plant_101 : decode cX0_plant 101 = .ok (.iload_n 3, 1) := by decide +kernel
theorem dX0_plant_102 : decode cX0_plant 102 = .ok (.aaload, 1) := by decide +kernel
theorem dX0_plant_103 : decode cX0_plant 103 = .ok (.invokevirtual 37, 3) := by decide +kernel
theorem dX0_plant_106 : decode cX0_plant 106 = .ok (.iinc 3 1, 3) := by decide +kernel
theorem dX0_plant_109 : decode cX0_plant 109 = .ok (.goto (-17), 3) := by decide +kernel
theorem dX0_plant_112 : decode cX0_plant 112 = .ok (.return_, 1) := by decide +kernel
set_option maxRecDepth 20000 in
theorem ggX0_sortPoints_X3_code : GoodIn wsX0_sortPoints wsX3_code := goodIn_r _ [7, 8, 9, 10, 11] (by decide +kernel) (by decide +kernel)
set_option maxRecDepth 20000 in
theorem gX0_sortPoints_X3_code : GoodIn wsX0_sortPoints (va_wsS RX0 52 yX3_code wsX3_code) := goodIn_app (goodIn_of _ (by decide +kernel)) ggX0_sortPoints_X3_code
set_option maxRecDepth 20000 in
theorem ggX0_sortPoints_X0_insert : GoodIn wsX0_sortPoints wsX0_insert := goodIn_r _ [16, 17, 27, 28] (by decide +kernel) (by decide +kernel)
set_option maxRecDepth 20000 in
theorem gX0_sortPoints_X0_insert : GoodIn wsX0_sortPoints (wsV RX0 58 RX0 yX0_insert wsX0_insert) := goodIn_app (goodIn_of _ (by decide +kernel)) ggX0_sortPoints_X0_insert
theorem dX0_sortPoints_0 : decode cX0_sortPoints 0 = .ok (.iconst 0, 1) := by decide +kernel
theorem dX0_sortPoints_1 : decode cX0_sortPoints 1 = .ok (.istore_n 2, 1) := by decide +kernel
theorem dX0_sortPoints_2 : decode cX0_sortPoints 2 = .ok (.iconst 0, 1) := by decide +kernel
theorem dX0_sortPoints_3 : decode cX0_sortPoints 3 = .ok (.istore_n 3, 1) := by decide +kernel
theorem dX0_sortPoints_4 : decode cX0_sortPoints 4 = .ok (.iload_n 3, 1) := by decide +kernel
theorem dX0_sortPoints_5 : decode cX0_sortPoints 5 = .ok (.bipush 24, 2) := by decide +kernel
theorem dX0_sortPoints_7 : decode cX0_sortPoints 7 = .ok (.if_icmp .ge 46, 3) := by decide +kernel
theorem dX0_sortPoints_10 : decode cX0_sortPoints 10 = .ok (.aload_n 1, 1) := by decide +kernel
theorem dX0_sortPoints_11 : decode cX0_sortPoints 11 = .ok (.getfield 40, 3) := by decide +kernel
theorem dX0_sortPoints_14 : decode cX0_sortPoints 14 = .ok (.iload_n 3, 1) := by decide +kernel
theorem dX0_sortPoints_15 : decode cX0_sortPoints 15 = .ok (.baload, 1) := by decide +kernel
theorem dX0_sortPoints_16 : decode cX0_sortPoints 16 = .ok (.ifCond .eq 31, 3) := by decide +kernel
theorem dX0_sortPoints_19 : decode cX0_sortPoints 19 = .ok (.aload_n 0, 1) := by decide +kernel
theorem dX0_sortPoints_20 : decode cX0_sortPoints 20 = .ok (.aload_n 1, 1) := by decide +kernel
theorem dX0_sortPoints_21 : decode cX0_sortPoints 21 = .ok (.getfield 46, 3) := by decide +kernel
theorem dX0_sortPoints_24 : decode cX0_sortPoints 24 = .ok (.iload_n 3, 1) := by decide +kernel
theorem dX0_sortPoints_25 : decode cX0_sortPoints 25 = .ok (.iaload, 1) := by decide +kernel
theorem dX0_sortPoints_26 : decode cX0_sortPoints 26 = .ok (.aload_n 1, 1) := by decide +kernel
theorem dX0_sortPoints_27 : decode cX0_sortPoints 27 = .ok (.getfield 49, 3) := by decide +kernel
theorem dX0_sortPoints_30 : decode cX0_sortPoints 30 = .ok (.iload_n 3, 1) := by decide +kernel
theorem dX0_sortPoints_31 : decode cX0_sortPoints 31 = .ok (.iaload, 1) := by decide +kernel
theorem dX0_sortPoints_32 : decode cX0_sortPoints 32 = .ok (.invokestatic 52, 3) := by decide +kernel
theorem dX0_sortPoints_35 : decode cX0_sortPoints 35 = .ok (.bipush 32, 2) := by decide +kernel
theorem dX0_sortPoints_37 : decode cX0_sortPoints 37 = .ok (.imul, 1) := by decide +kernel
theorem dX0_sortPoints_38 : decode cX0_sortPoints 38 = .ok (.iload_n 3, 1) := by decide +kernel
theorem dX0_sortPoints_39 : decode cX0_sortPoints 39 = .ok (.iadd, 1) := by decide +kernel
theorem dX0_sortPoints_40 : decode cX0_sortPoints 40 = .ok (.iload_n 2, 1) := by decide +kernel
theorem dX0_sortPoints_41 : decode cX0_sortPoints 41 = .ok (.invokevirtual 58, 3) := by decide +kernel
theorem dX0_sortPoints_44 : decode cX0_sortPoints 44 = .ok (.iinc 2 1, 3) := by decide +kernel
theorem dX0_sortPoints_47 : decode cX0_sortPoints 47 = .ok (.iinc 3 1, 3) := by decide +kernel
theorem dX0_sortPoints_50 : decode cX0_sortPoints 50 = .ok (.goto (-46), 3) := by decide +kernel
theorem dX0_sortPoints_53 : decode cX0_sortPoints 53 = .ok (.iload_n 2, 1) := by decide +kernel
theorem dX0_sortPoints_54 : decode cX0_sortPoints 54 = .ok (.ireturn, 1) := by decide +kernel
theorem dX0_insert_0 : decode cX0_insert 0 = .ok (.iload_n 2, 1) := by decide +kernel
theorem dX0_insert_1 : decode cX0_insert 1 = .ok (.istore_n 3, 1) := by decide +kernel
theorem dX0_insert_2 : decode cX0_insert 2 = .ok (.iload_n 3, 1) := by decide +kernel
theorem dX0_insert_3 : decode cX0_insert 3 = .ok (.ifCond .le 35, 3) := by decide +kernel
theorem dX0_insert_6 : decode cX0_insert 6 = .ok (.aload_n 0, 1) := by decide +kernel
theorem dX0_insert_7 : decode cX0_insert 7 = .ok (.getfield 17, 3) := by decide +kernel
theorem dX0_insert_10 : decode cX0_insert 10 = .ok (.iload_n 3, 1) := by decide +kernel
theorem dX0_insert_11 : decode cX0_insert 11 = .ok (.iconst 1, 1) := by decide +kernel
theorem dX0_insert_12 : decode cX0_insert 12 = .ok (.isub, 1) := by decide +kernel
theorem dX0_insert_13 : decode cX0_insert 13 = .ok (.iaload, 1) := by decide +kernel
theorem dX0_insert_14 : decode cX0_insert 14 = .ok (.iload_n 1, 1) := by decide +kernel
theorem dX0_insert_15 : decode cX0_insert 15 = .ok (.if_icmp .le 23, 3) := by decide +kernel
theorem dX0_insert_18 : decode cX0_insert 18 = .ok (.aload_n 0, 1) := by decide +kernel
theorem dX0_insert_19 : decode cX0_insert 19 = .ok (.getfield 17, 3) := by decide +kernel
theorem dX0_insert_22 : decode cX0_insert 22 = .ok (.iload_n 3, 1) := by decide +kernel
theorem dX0_insert_23 : decode cX0_insert 23 = .ok (.aload_n 0, 1) := by decide +kernel
theorem dX0_insert_24 : decode cX0_insert 24 = .ok (.getfield 17, 3) := by decide +kernel
theorem dX0_insert_27 : decode cX0_insert 27 = .ok (.iload_n 3, 1) := by decide +kernel
theorem dX0_insert_28 : decode cX0_insert 28 = .ok (.iconst 1, 1) := by decide +kernel
theorem dX0_insert_29 : decode cX0_insert 29 = .ok (.isub, 1) := by decide +kernel
theorem dX0_insert_30 : decode cX0_insert 30 = .ok (.iaload, 1) := by decide +kernel
theorem dX0_insert_31 : decode cX0_insert 31 = .ok (.iastore, 1) := by decide +kernel
theorem dX0_insert_32 : decode cX0_insert 32 = .ok (.iinc 3 (-1), 3) := by decide +kernel
theorem dX0_insert_35 : decode cX0_insert 35 = .ok (.goto (-33), 3) := by decide +kernel
theorem dX0_insert_38 : decode cX0_insert 38 = .ok (.aload_n 0, 1) := by decide +kernel
theorem dX0_insert_39 : decode cX0_insert 39 = .ok (.getfield 17, 3) := by decide +kernel
theorem dX0_insert_42 : decode cX0_insert 42 = .ok (.iload_n 3, 1) := by decide +kernel
theorem dX0_insert_43 : decode cX0_insert 43 = .ok (.iload_n 1, 1) := by decide +kernel
theorem dX0_insert_44 : decode cX0_insert 44 = .ok (.iastore, 1) := by decide +kernel
theorem dX0_insert_45 : decode cX0_insert 45 = .ok (.return_, 1) := by decide +kernel
set_option maxRecDepth 20000 in
theorem ggX0_differences_X1_differences : GoodIn wsX0_differences wsX1_differences := goodIn_r _ [6, 7, 8, 11, 12, 13, 14] (by decide +kernel) (by decide +kernel)
set_option maxRecDepth 20000 in
theorem gX0_differences_X1_differences : GoodIn wsX0_differences (wsV RX0 62 RX1 yX1_differences wsX1_differences) := goodIn_app (goodIn_of _ (by decide +kernel)) ggX0_differences_X1_differences
theorem dX0_differences_0 : decode cX0_differences 0 = .ok (.iconst 0, 1) := by decide +kernel
theorem dX0_differences_1 : decode cX0_differences 1 = .ok (.istore_n 2, 1) := by decide +kernel
theorem dX0_differences_2 : decode cX0_differences 2 = .ok (.iconst 0, 1) := by decide +kernel
theorem dX0_differences_3 : decode cX0_differences 3 = .ok (.istore_n 3, 1) := by decide +kernel
theorem dX0_differences_4 : decode cX0_differences 4 = .ok (.iload_n 3, 1) := by decide +kernel
theorem dX0_differences_5 : decode cX0_differences 5 = .ok (.iconst 5, 1) := by decide +kernel
theorem dX0_differences_6 : decode cX0_differences 6 = .ok (.if_icmp .ge 27, 3) := by decide +kernel
theorem dX0_differences_9 : decode cX0_differences 9 = .ok (.iload_n 2, 1) := by decide +kernel
theorem dX0_differences_10 : decode cX0_differences 10 = .ok (.aload_n 0, 1) := by decide +kernel
theorem dX0_differences_11 : decode cX0_differences 11 = .ok (.getfield 11, 3) := by decide +kernel
theorem dX0_differences_14 : decode cX0_differences 14 = .ok (.iload_n 3, 1) := by decide +kernel
theorem dX0_differences_15 : decode cX0_differences 15 = .ok (.aaload, 1) := by decide +kernel
theorem dX0_differences_16 : decode cX0_differences 16 = .ok (.aload_n 1, 1) := by decide +kernel
theorem dX0_differences_17 : decode cX0_differences 17 = .ok (.getfield 11, 3) := by decide +kernel
theorem dX0_differences_20 : decode cX0_differences 20 = .ok (.iload_n 3, 1) := by decide +kernel
theorem dX0_differences_21 : decode cX0_differences 21 = .ok (.aaload, 1) := by decide +kernel
theorem dX0_differences_22 : decode cX0_differences 22 = .ok (.invokevirtual 62, 3) := by decide +kernel
theorem dX0_differences_25 : decode cX0_differences 25 = .ok (.iadd, 1) := by decide +kernel
theorem dX0_differences_26 : decode cX0_differences 26 = .ok (.istore_n 2, 1) := by decide +kernel
theorem dX0_differences_27 : decode cX0_differences 27 = .ok (.iinc 3 1, 3) := by decide +kernel
theorem dX0_differences_30 : decode cX0_differences 30 = .ok (.goto (-26), 3) := by decide +kernel
theorem dX0_differences_33 : decode cX0_differences 33 = .ok (.iload_n 2, 1) := by decide +kernel
theorem dX0_differences_34 : decode cX0_differences 34 = .ok (.ireturn, 1) := by decide +kernel
theorem dX0_greatestLevel_0 : decode cX0_greatestLevel 0 = .ok (.iconst 0, 1) := by decide +kernel
theorem dX0_greatestLevel_1 : decode cX0_greatestLevel 1 = .ok (.istore_n 1, 1) := by decide +kernel
theorem dX0_greatestLevel_2 : decode cX0_greatestLevel 2 = .ok (.iconst 0, 1) := by decide +kernel
theorem dX0_greatestLevel_3 : decode cX0_greatestLevel 3 = .ok (.istore_n 2, 1) := by decide +kernel
theorem dX0_greatestLevel_4 : decode cX0_greatestLevel 4 = .ok (.iload_n 2, 1) := by decide +kernel
theorem dX0_greatestLevel_5 : decode cX0_greatestLevel 5 = .ok (.iconst 5, 1) := by decide +kernel
theorem dX0_greatestLevel_6 : decode cX0_greatestLevel 6 = .ok (.if_icmp .ge 27, 3) := by decide +kernel
theorem dX0_greatestLevel_9 : decode cX0_greatestLevel 9 = .ok (.aload_n 0, 1) := by decide +kernel
theorem dX0_greatestLevel_10 : decode cX0_greatestLevel 10 = .ok (.getfield 11, 3) := by decide +kernel
theorem dX0_greatestLevel_13 : decode cX0_greatestLevel 13 = .ok (.iload_n 2, 1) := by decide +kernel
theorem dX0_greatestLevel_14 : decode cX0_greatestLevel 14 = .ok (.aaload, 1) := by decide +kernel
theorem dX0_greatestLevel_15 : decode cX0_greatestLevel 15 = .ok (.getfield 66, 3) := by decide +kernel
theorem dX0_greatestLevel_18 : decode cX0_greatestLevel 18 = .ok (.ifCond .le 7, 3) := by decide +kernel
theorem dX0_greatestLevel_21 : decode cX0_greatestLevel 21 = .ok (.iload_n 2, 1) := by decide +kernel
theorem dX0_greatestLevel_22 : decode cX0_greatestLevel 22 = .ok (.goto 4, 3) := by decide +kernel
theorem dX0_greatestLevel_25 : decode cX0_greatestLevel 25 = .ok (.iload_n 1, 1) := by decide +kernel
theorem dX0_greatestLevel_26 : decode cX0_greatestLevel 26 = .ok (.istore_n 1, 1) := by decide +kernel
theorem dX0_greatestLevel_27 : decode cX0_greatestLevel 27 = .ok (.iinc 2 1, 3) := by decide +kernel
theorem dX0_greatestLevel_30 : decode cX0_greatestLevel 30 = .ok (.goto (-26), 3) := by decide +kernel
theorem dX0_greatestLevel_33 : decode cX0_greatestLevel 33 = .ok (.iload_n 1, 1) := by decide +kernel
theorem dX0_greatestLevel_34 : decode cX0_greatestLevel 34 = .ok (.ireturn, 1) := by decide +kernel
set_option maxRecDepth 20000 in
theorem ggX0_find_X3_code : GoodIn wsX0_find wsX3_code := goodIn_r _ [6, 7, 8, 9, 10] (by decide +kernel) (by decide +kernel)
set_option maxRecDepth 20000 in
theorem gX0_find_X3_code : GoodIn wsX0_find (va_wsS RX0 52 yX3_code wsX3_code) := goodIn_app (goodIn_of _ (by decide +kernel)) ggX0_find_X3_code
set_option maxRecDepth 20000 in
theorem ggX0_find_X0_greatestLevel : GoodIn wsX0_find wsX0_greatestLevel := goodIn_r _ [15, 1, 16, 59, 60, 61, 62, 63, 64] (by decide +kernel) (by decide +kernel)
set_option maxRecDepth 20000 in
theorem gX0_find_X0_greatestLevel : GoodIn wsX0_find (wsV RX0 70 RX0 yX0_greatestLevel wsX0_greatestLevel) := goodIn_app (goodIn_of _ (by decide +kernel)) ggX0_find_X0_greatestLevel
set_option maxRecDepth 20000 in
theorem ggX0_find_X1_stepTowards : GoodIn wsX0_find wsX1_stepTowards := goodIn_r _ [21, 22, 23, 24, 5, 25, 26, 27, 28, 29, 30, 31, 20, 32, 33, 34, 35, 36, 37, 38, 39, 40, 41, 42, 43, 44, 45, 46, 47, 48, 49, 50, 51, 52, 53, 54, 61, 62, 63, 64] (by decide +kernel) (by decide +kernel)
set_option maxRecDepth 20000 in
theorem gX0_find_X1_stepTowards : GoodIn wsX0_find (wsV RX0 74 RX1 yX1_stepTowards wsX1_stepTowards) := goodIn_app (goodIn_of _ (by decide +kernel)) ggX0_find_X1_stepTowards
set_option maxRecDepth 20000 in
theorem ggX0_find_X1_indexOf : GoodIn wsX0_find wsX1_indexOf := goodIn_r _ [58, 54, 22, 61, 62, 63, 64] (by decide +kernel) (by decide +kernel)
set_option maxRecDepth 20000 in
theorem gX0_find_X1_indexOf : GoodIn wsX0_find (wsV RX0 80 RX1 yX1_indexOf wsX1_indexOf) := goodIn_app (goodIn_of _ (by decide +kernel)) ggX0_find_X1_indexOf
theorem dX0_find_0 : decode cX0_find 0 = .ok (.iload_n 1, 1) := by decide +kernel
theorem dX0_find_1 : decode cX0_find 1 = .ok (.iload_n 2, 1) := by decide +kernel
theorem dX0_find_2 : decode cX0_find 2 = .ok (.invokestatic 52, 3) := by decide +kernel
theorem dX0_find_5 : decode cX0_find 5 = .ok (.istore 4, 2) := by decide +kernel
theorem dX0_find_7 : decode cX0_find 7 = .ok (.iconst 0, 1) := by decide +kernel
theorem dX0_find_8 : decode cX0_find 8 = .ok (.istore 5, 2) := by decide +kernel
theorem dX0_find_10 : decode cX0_find 10 = .ok (.iconst 0, 1) := by decide +kernel
theorem dX0_find_11 : decode cX0_find 11 = .ok (.istore 6, 2) := by decide +kernel
theorem dX0_find_13 : decode cX0_find 13 = .ok (.iload_n 3, 1) := by decide +kernel
theorem dX0_find_14 : decode cX0_find 14 = .ok (.ifCond .eq 10, 3) := by decide +kernel
theorem dX0_find_17 : decode cX0_find 17 = .ok (.aload_n 0, 1) := by decide +kernel
theorem dX0_find_18 : decode cX0_find 18 = .ok (.invokevirtual 70, 3) := by decide +kernel
theorem dX0_find_21 : decode cX0_find 21 = .ok (.goto 4, 3) := by decide +kernel
theorem dX0_find_24 : decode cX0_find 24 = .ok (.iconst 0, 1) := by decide +kernel
theorem dX0_find_25 : decode cX0_find 25 = .ok (.istore 7, 2) := by decide +kernel
theorem dX0_find_27 : decode cX0_find 27 = .ok (.iload 7, 2) := by decide +kernel
theorem dX0_find_29 : decode cX0_find 29 = .ok (.ifCond .lt 98, 3) := by decide +kernel
theorem dX0_find_32 : decode cX0_find 32 = .ok (.aload_n 0, 1) := by decide +kernel
theorem dX0_find_33 : decode cX0_find 33 = .ok (.getfield 11, 3) := by decide +kernel
theorem dX0_find_36 : decode cX0_find 36 = .ok (.iload 7, 2) := by decide +kernel
theorem dX0_find_38 : decode cX0_find 38 = .ok (.aaload, 1) := by decide +kernel
theorem dX0_find_39 : decode cX0_find 39 = .ok (.astore 8, 2) := by decide +kernel
theorem dX0_find_41 : decode cX0_find 41 = .ok (.aload 8, 2) := by decide +kernel
theorem dX0_find_43 : decode cX0_find 43 = .ok (.iload 6, 2) := by decide +kernel
theorem dX0_find_45 : decode cX0_find 45 = .ok (.iload 4, 2) := by decide +kernel
theorem dX0_find_47 : decode cX0_find 47 = .ok (.invokevirtual 74, 3) := by decide +kernel
theorem dX0_find_50 : decode cX0_find 50 = .ok (.istore 9, 2) := by decide +kernel
theorem dX0_find_52 : decode cX0_find 52 = .ok (.iconst 0, 1) := by decide +kernel
theorem dX0_find_53 : decode cX0_find 53 = .ok (.istore 10, 2) := by decide +kernel
theorem dX0_find_55 : decode cX0_find 55 = .ok (.iload 10, 2) := by decide +kernel
theorem dX0_find_57 : decode cX0_find 57 = .ok (.iconst 5, 1) := by decide +kernel
theorem dX0_find_58 : decode cX0_find 58 = .ok (.if_icmp .ge 33, 3) := by decide +kernel
theorem dX0_find_61 : decode cX0_find 61 = .ok (.iload 9, 2) := by decide +kernel
theorem dX0_find_63 : decode cX0_find 63 = .ok (.iconst (-1), 1) := by decide +kernel
theorem dX0_find_64 : decode cX0_find 64 = .ok (.if_icmp .eq 27, 3) := by decide +kernel
theorem dX0_find_67 : decode cX0_find 67 = .ok (.iload 9, 2) := by decide +kernel
theorem dX0_find_69 : decode cX0_find 69 = .ok (.istore 6, 2) := by decide +kernel
theorem dX0_find_71 : decode cX0_find 71 = .ok (.iinc 5 1, 3) := by decide +kernel
theorem dX0_find_74 : decode cX0_find 74 = .ok (.aload 8, 2) := by decide +kernel
theorem dX0_find_76 : decode cX0_find 76 = .ok (.iload 6, 2) := by decide +kernel
theorem dX0_find_78 : decode cX0_find 78 = .ok (.iload 4, 2) := by decide +kernel
theorem dX0_find_80 : decode cX0_find 80 = .ok (.invokevirtual 74, 3) := by decide +kernel
theorem dX0_find_83 : decode cX0_find 83 = .ok (.istore 9, 2) := by decide +kernel
theorem dX0_find_85 : decode cX0_find 85 = .ok (.iinc 10 1, 3) := by decide +kernel
theorem dX0_find_88 : decode cX0_find 88 = .ok (.goto (-33), 3) := by decide +kernel
theorem dX0_find_91 : decode cX0_find 91 = .ok (.iload 7, 2) := by decide +kernel
theorem dX0_find_93 : decode cX0_find 93 = .ok (.ifCond .le 28, 3) := by decide +kernel
theorem dX0_find_96 : decode cX0_find 96 = .ok (.aload_n 0, 1) := by decide +kernel
theorem dX0_find_97 : decode cX0_find 97 = .ok (.getfield 11, 3) := by decide +kernel
theorem dX0_find_100 : decode cX0_find 100 = .ok (.iload 7, 2) := by decide +kernel
theorem dX0_find_102 : decode cX0_find 102 = .ok (.iconst 1, 1) := by decide +kernel
theorem dX0_find_103 : decode cX0_find 103 = .ok (.isub, 1) := by decide +kernel
theorem dX0_find_104 : decode cX0_find 104 = .ok (.aaload, 1) := by decide +kernel
theorem dX0_find_105 : decode cX0_find 105 = .ok (.aload 8, 2) := by decide +kernel
theorem dX0_find_107 : decode cX0_find 107 = .ok (.getfield 77, 3) := by decide +kernel
theorem dX0_find_110 : decode cX0_find 110 = .ok (.iload 6, 2) := by decide +kernel
theorem dX0_find_112 : decode cX0_find 112 = .ok (.iaload, 1) := by decide +kernel
theorem dX0_find_113 : decode cX0_find 113 = .ok (.invokevirtual 80, 3) := by decide +kernel
theorem dX0_find_116 : decode cX0_find 116 = .ok (.istore 6, 2) := by decide +kernel
theorem dX0_find_118 : decode cX0_find 118 = .ok (.iinc 5 1, 3) := by decide +kernel
theorem dX0_find_121 : decode cX0_find 121 = .ok (.iinc 7 (-1), 3) := by decide +kernel
theorem dX0_find_124 : decode cX0_find 124 = .ok (.goto (-97), 3) := by decide +kernel
theorem dX0_find_127 : decode cX0_find 127 = .ok (.iload 5, 2) := by decide +kernel
theorem dX0_find_129 : decode cX0_find 129 = .ok (.bipush 32, 2) := by decide +kernel
theorem dX0_find_131 : decode cX0_find 131 = .ok (.imul, 1) := by decide +kernel
theorem dX0_find_132 : decode cX0_find 132 = .ok (.iload 6, 2) := by decide +kernel
theorem dX0_find_134 : decode cX0_find 134 = .ok (.iadd, 1) := by decide +kernel
theorem dX0_find_135 : decode cX0_find 135 = .ok (.ireturn, 1) := by decide +kernel
theorem dX1_init_0 : decode cX1_init 0 = .ok (.aload_n 0, 1) := by decide +kernel
theorem dX1_init_1 : decode cX1_init 1 = .ok (.invokespecial 3, 3) := by decide +kernel
theorem dX1_init_4 : decode cX1_init 4 = .ok (.aload_n 0, 1) := by decide +kernel
theorem dX1_init_5 : decode cX1_init 5 = .ok (.bipush 24, 2) := by decide +kernel
theorem dX1_init_7 : decode cX1_init 7 = .ok (.newarray .int, 2) := by decide +kernel
theorem dX1_init_9 : decode cX1_init 9 = .ok (.putfield 9, 3) := by decide +kernel
theorem dX1_init_12 : decode cX1_init 12 = .ok (.aload_n 0, 1) := by decide +kernel
theorem dX1_init_13 : decode cX1_init 13 = .ok (.bipush 24, 2) := by decide +kernel
theorem dX1_init_15 : decode cX1_init 15 = .ok (.newarray .int, 2) := by decide +kernel
theorem dX1_init_17 : decode cX1_init 17 = .ok (.putfield 15, 3) := by decide +kernel
theorem dX1_init_20 : decode cX1_init 20 = .ok (.aload_n 0, 1) := by decide +kernel
theorem dX1_init_21 : decode cX1_init 21 = .ok (.iconst 1, 1) := by decide +kernel
theorem dX1_init_22 : decode cX1_init 22 = .ok (.putfield 18, 3) := by decide +kernel
theorem dX1_init_25 : decode cX1_init 25 = .ok (.return_, 1) := by decide +kernel
theorem dX1_clear_0 : decode cX1_clear 0 = .ok (.aload_n 0, 1) := by decide +kernel
theorem dX1_clear_1 : decode cX1_clear 1 = .ok (.iconst 0, 1) := by decide +kernel
theorem dX1_clear_2 : decode cX1_clear 2 = .ok (.putfield 22, 3) := by decide +kernel
theorem dX1_clear_5 : decode cX1_clear 5 = .ok (.aload_n 0, 1) := by decide +kernel
theorem dX1_clear_6 : decode cX1_clear 6 = .ok (.iconst 1, 1) := by decide +kernel
theorem dX1_clear_7 : decode cX1_clear 7 = .ok (.putfield 18, 3) := by decide +kernel
theorem dX1_clear_10 : decode cX1_clear 10 = .ok (.return_, 1) := by decide +kernel
theorem dX1_take_0 : decode cX1_take 0 = .ok (.aload_n 0, 1) := by decide +kernel
theorem dX1_take_1 : decode cX1_take 1 = .ok (.getfield 22, 3) := by decide +kernel
theorem dX1_take_4 : decode cX1_take 4 = .ok (.bipush 24, 2) := by decide +kernel
theorem dX1_take_6 : decode cX1_take 6 = .ok (.if_icmp .ge 23, 3) := by decide +kernel
theorem dX1_take_9 : decode cX1_take 9 = .ok (.aload_n 0, 1) := by decide +kernel
theorem dX1_take_10 : decode cX1_take 10 = .ok (.getfield 9, 3) := by decide +kernel
theorem dX1_take_13 : decode cX1_take 13 = .ok (.aload_n 0, 1) := by decide +kernel
theorem dX1_take_14 : decode cX1_take 14 = .ok (.getfield 22, 3) := by decide +kernel
theorem dX1_take_17 : decode cX1_take 17 = .ok (.iload_n 1, 1) := by decide +kernel
theorem dX1_take_18 : decode cX1_take 18 = .ok (.iastore, 1) := by decide +kernel
theorem dX1_take_19 : decode cX1_take 19 = .ok (.aload_n 0, 1) := by decide +kernel
theorem dX1_take_20 : decode cX1_take 20 = .ok (.dup, 1) := by decide +kernel
theorem dX1_take_21 : decode cX1_take 21 = .ok (.getfield 22, 3) := by decide +kernel
theorem dX1_take_24 : decode cX1_take 24 = .ok (.iconst 1, 1) := by decide +kernel
theorem dX1_take_25 : decode cX1_take 25 = .ok (.iadd, 1) := by decide +kernel
theorem dX1_take_26 : decode cX1_take 26 = .ok (.putfield 22, 3) := by decide +kernel
theorem dX1_take_29 : decode cX1_take 29 = .ok (.return_, 1) := by decide +kernel
theorem dX1_keep_0 : decode cX1_keep 0 = .ok (.aload_n 0, 1) := by decide +kernel
theorem dX1_keep_1 : decode cX1_keep 1 = .ok (.getfield 18, 3) := by decide +kernel
theorem dX1_keep_4 : decode cX1_keep 4 = .ok (.bipush 24, 2) := by decide +kernel
theorem dX1_keep_6 : decode cX1_keep 6 = .ok (.if_icmp .ge 23, 3) := by decide +kernel
theorem dX1_keep_9 : decode cX1_keep 9 = .ok (.aload_n 0, 1) := by decide +kernel
theorem dX1_keep_10 : decode cX1_keep 10 = .ok (.getfield 15, 3) := by decide +kernel
theorem dX1_keep_13 : decode cX1_keep 13 = .ok (.aload_n 0, 1) := by decide +kernel
theorem dX1_keep_14 : decode cX1_keep 14 = .ok (.getfield 18, 3) := by decide +kernel
theorem dX1_keep_17 : decode cX1_keep 17 = .ok (.iload_n 1, 1) := by decide +kernel
theorem dX1_keep_18 : decode cX1_keep 18 = .ok (.iastore, 1) := by decide +kernel
theorem dX1_keep_19 : decode cX1_keep 19 = .ok (.aload_n 0, 1) := by decide +kernel
theorem dX1_keep_20 : decode cX1_keep 20 = .ok (.dup, 1) := by decide +kernel
theorem dX1_keep_21 : decode cX1_keep 21 = .ok (.getfield 18, 3) := by decide +kernel
theorem dX1_keep_24 : decode cX1_keep 24 = .ok (.iconst 1, 1) := by decide +kernel
theorem dX1_keep_25 : decode cX1_keep 25 = .ok (.iadd, 1) := by decide +kernel
theorem dX1_keep_26 : decode cX1_keep 26 = .ok (.putfield 18, 3) := by decide +kernel
theorem dX1_keep_29 : decode cX1_keep 29 = .ok (.return_, 1) := by decide +kernel
set_option maxRecDepth 20000 in
theorem ggX1_findNodes_X1_beginsSquare : GoodIn wsX1_findNodes wsX1_beginsSquare := goodIn_r _ [7, 2, 22, 23, 24, 25] (by decide +kernel) (by decide +kernel)
set_option maxRecDepth 20000 in
theorem gX1_findNodes_X1_beginsSquare : GoodIn wsX1_findNodes (wsV RX1 25 RX1 yX1_beginsSquare wsX1_beginsSquare) := goodIn_app (goodIn_of _ (by decide +kernel)) ggX1_findNodes_X1_beginsSquare
set_option maxRecDepth 20000 in
theorem ggX1_findNodes_X1_branches : GoodIn wsX1_findNodes wsX1_branches := goodIn_r _ [11, 2, 1, 22, 23, 24, 25] (by decide +kernel) (by decide +kernel)
set_option maxRecDepth 20000 in
theorem gX1_findNodes_X1_branches : GoodIn wsX1_findNodes (wsV RX1 29 RX1 yX1_branches wsX1_branches) := goodIn_app (goodIn_of _ (by decide +kernel)) ggX1_findNodes_X1_branches
set_option maxRecDepth 20000 in
theorem ggX1_findNodes_X3_around : GoodIn wsX1_findNodes wsX3_around := goodIn_r _ [15] (by decide +kernel) (by decide +kernel)
set_option maxRecDepth 20000 in
theorem gX1_findNodes_X3_around : GoodIn wsX1_findNodes (va_wsS RX1 32 yX3_around wsX3_around) := goodIn_app (goodIn_of _ (by decide +kernel)) ggX1_findNodes_X3_around
set_option maxRecDepth 20000 in
theorem ggX1_findNodes_X1_keep : GoodIn wsX1_findNodes wsX1_keep := goodIn_r _ [19, 20, 21, 22, 23, 24, 25] (by decide +kernel) (by decide +kernel)
set_option maxRecDepth 20000 in
theorem gX1_findNodes_X1_keep : GoodIn wsX1_findNodes (wsV RX1 38 RX1 yX1_keep wsX1_keep) := goodIn_app (goodIn_of _ (by decide +kernel)) ggX1_findNodes_X1_keep
theorem dX1_findNodes_0 : decode cX1_findNodes 0 = .ok (.iconst 0, 1) := by decide +kernel
theorem dX1_findNodes_1 : decode cX1_findNodes 1 = .ok (.istore_n 1, 1) := by decide +kernel
theorem dX1_findNodes_2 : decode cX1_findNodes 2 = .ok (.iload_n 1, 1) := by decide +kernel
theorem dX1_findNodes_3 : decode cX1_findNodes 3 = .ok (.aload_n 0, 1) := by decide +kernel
theorem dX1_findNodes_4 : decode cX1_findNodes 4 = .ok (.getfield 22, 3) := by decide +kernel
theorem dX1_findNodes_7 : decode cX1_findNodes 7 = .ok (.if_icmp .ge 53, 3) := by decide +kernel
theorem dX1_findNodes_10 : decode cX1_findNodes 10 = .ok (.iconst 5, 1) := by decide +kernel
theorem dX1_findNodes_11 : decode cX1_findNodes 11 = .ok (.istore_n 2, 1) := by decide +kernel
theorem dX1_findNodes_12 : decode cX1_findNodes 12 = .ok (.iload_n 2, 1) := by decide +kernel
theorem dX1_findNodes_13 : decode cX1_findNodes 13 = .ok (.ifCond .le 41, 3) := by decide +kernel
theorem dX1_findNodes_16 : decode cX1_findNodes 16 = .ok (.aload_n 0, 1) := by decide +kernel
theorem dX1_findNodes_17 : decode cX1_findNodes 17 = .ok (.iload_n 1, 1) := by decide +kernel
theorem dX1_findNodes_18 : decode cX1_findNodes 18 = .ok (.iload_n 2, 1) := by decide +kernel
theorem dX1_findNodes_19 : decode cX1_findNodes 19 = .ok (.invokevirtual 25, 3) := by decide +kernel
theorem dX1_findNodes_22 : decode cX1_findNodes 22 = .ok (.ifCond .eq 26, 3) := by decide +kernel
theorem dX1_findNodes_25 : decode cX1_findNodes 25 = .ok (.aload_n 0, 1) := by decide +kernel
theorem dX1_findNodes_26 : decode cX1_findNodes 26 = .ok (.iload_n 1, 1) := by decide +kernel
theorem dX1_findNodes_27 : decode cX1_findNodes 27 = .ok (.iload_n 2, 1) := by decide +kernel
theorem dX1_findNodes_28 : decode cX1_findNodes 28 = .ok (.invokevirtual 29, 3) := by decide +kernel
theorem dX1_findNodes_31 : decode cX1_findNodes 31 = .ok (.ifCond .eq 17, 3) := by decide +kernel
theorem dX1_findNodes_34 : decode cX1_findNodes 34 = .ok (.aload_n 0, 1) := by decide +kernel
theorem dX1_findNodes_35 : decode cX1_findNodes 35 = .ok (.aload_n 0, 1) := by decide +kernel
theorem dX1_findNodes_36 : decode cX1_findNodes 36 = .ok (.getfield 9, 3) := by decide +kernel
theorem dX1_findNodes_39 : decode cX1_findNodes 39 = .ok (.iload_n 1, 1) := by decide +kernel
theorem dX1_findNodes_40 : decode cX1_findNodes 40 = .ok (.iaload, 1) := by decide +kernel
theorem dX1_findNodes_41 : decode cX1_findNodes 41 = .ok (.iload_n 2, 1) := by decide +kernel
theorem dX1_findNodes_42 : decode cX1_findNodes 42 = .ok (.invokestatic 32, 3) := by decide +kernel
theorem dX1_findNodes_45 : decode cX1_findNodes 45 = .ok (.invokevirtual 38, 3) := by decide +kernel
theorem dX1_findNodes_48 : decode cX1_findNodes 48 = .ok (.iinc 2 (-1), 3) := by decide +kernel
theorem dX1_findNodes_51 : decode cX1_findNodes 51 = .ok (.goto (-39), 3) := by decide +kernel
theorem dX1_findNodes_54 : decode cX1_findNodes 54 = .ok (.iinc 1 1, 3) := by decide +kernel
theorem dX1_findNodes_57 : decode cX1_findNodes 57 = .ok (.goto (-55), 3) := by decide +kernel
theorem dX1_findNodes_60 : decode cX1_findNodes 60 = .ok (.return_, 1) := by decide +kernel
theorem dX1_beginsSquare_0 : decode cX1_beginsSquare 0 = .ok (.iload_n 1, 1) := by decide +kernel
theorem dX1_beginsSquare_1 : decode cX1_beginsSquare 1 = .ok (.ifCond .eq 28, 3) := by decide +kernel
theorem dX1_beginsSquare_4 : decode cX1_beginsSquare 4 = .ok (.aload_n 0, 1) := by decide +kernel
theorem dX1_beginsSquare_5 : decode cX1_beginsSquare 5 = .ok (.getfield 9, 3) := by decide +kernel
theorem dX1_beginsSquare_8 : decode cX1_beginsSquare 8 = .ok (.iload_n 1, 1) := by decide +kernel
theorem dX1_beginsSquare_9 : decode cX1_beginsSquare 9 = .ok (.iconst 1, 1) := by decide +kernel
theorem dX1_beginsSquare_10 : decode cX1_beginsSquare 10 = .ok (.isub, 1) := by decide +kernel
theorem dX1_beginsSquare_11 : decode cX1_beginsSquare 11 = .ok (.iaload, 1) := by decide +kernel
theorem dX1_beginsSquare_12 : decode cX1_beginsSquare 12 = .ok (.iconst 2, 1) := by decide +kernel
theorem dX1_beginsSquare_13 : decode cX1_beginsSquare 13 = .ok (.iload_n 2, 1) := by decide +kernel
theorem dX1_beginsSquare_14 : decode cX1_beginsSquare 14 = .ok (.imul, 1) := by decide +kernel
theorem dX1_beginsSquare_15 : decode cX1_beginsSquare 15 = .ok (.ishr, 1) := by decide +kernel
theorem dX1_beginsSquare_16 : decode cX1_beginsSquare 16 = .ok (.aload_n 0, 1) := by decide +kernel
theorem dX1_beginsSquare_17 : decode cX1_beginsSquare 17 = .ok (.getfield 9, 3) := by decide +kernel
theorem dX1_beginsSquare_20 : decode cX1_beginsSquare 20 = .ok (.iload_n 1, 1) := by decide +kernel
theorem dX1_beginsSquare_21 : decode cX1_beginsSquare 21 = .ok (.iaload, 1) := by decide +kernel
theorem dX1_beginsSquare_22 : decode cX1_beginsSquare 22 = .ok (.iconst 2, 1) := by decide +kernel
theorem dX1_beginsSquare_23 : decode cX1_beginsSquare 23 = .ok (.iload_n 2, 1) := by decide +kernel
theorem dX1_beginsSquare_24 : decode cX1_beginsSquare 24 = .ok (.imul, 1) := by decide +kernel
theorem dX1_beginsSquare_25 : decode cX1_beginsSquare 25 = .ok (.ishr, 1) := by decide +kernel
theorem dX1_beginsSquare_26 : decode cX1_beginsSquare 26 = .ok (.if_icmp .eq 7, 3) := by decide +kernel
theorem dX1_beginsSquare_29 : decode cX1_beginsSquare 29 = .ok (.iconst 1, 1) := by decide +kernel
theorem dX1_beginsSquare_30 : decode cX1_beginsSquare 30 = .ok (.goto 4, 3) := by decide +kernel
theorem dX1_beginsSquare_33 : decode cX1_beginsSquare 33 = .ok (.iconst 0, 1) := by decide +kernel
theorem dX1_beginsSquare_34 : decode cX1_beginsSquare 34 = .ok (.ireturn, 1) := by decide +kernel
theorem dX1_branches_0 : decode cX1_branches 0 = .ok (.aload_n 0, 1) := by decide +kernel
theorem dX1_branches_1 : decode cX1_branches 1 = .ok (.getfield 9, 3) := by decide +kernel
theorem dX1_branches_4 : decode cX1_branches 4 = .ok (.iload_n 1, 1) := by decide +kernel
theorem dX1_branches_5 : decode cX1_branches 5 = .ok (.iaload, 1) := by decide +kernel
theorem dX1_branches_6 : decode cX1_branches 6 = .ok (.iconst 2, 1) := by decide +kernel
theorem dX1_branches_7 : decode cX1_branches 7 = .ok (.iload_n 2, 1) := by decide +kernel
theorem dX1_branches_8 : decode cX1_branches 8 = .ok (.imul, 1) := by decide +kernel
theorem dX1_branches_9 : decode cX1_branches 9 = .ok (.ishr, 1) := by decide +kernel
theorem dX1_branches_10 : decode cX1_branches 10 = .ok (.istore_n 3, 1) := by decide +kernel
theorem dX1_branches_11 : decode cX1_branches 11 = .ok (.aload_n 0, 1) := by decide +kernel
theorem dX1_branches_12 : decode cX1_branches 12 = .ok (.getfield 9, 3) := by decide +kernel
theorem dX1_branches_15 : decode cX1_branches 15 = .ok (.iload_n 1, 1) := by decide +kernel
theorem dX1_branches_16 : decode cX1_branches 16 = .ok (.iaload, 1) := by decide +kernel
theorem dX1_branches_17 : decode cX1_branches 17 = .ok (.iconst 2, 1) := by decide +kernel
theorem dX1_branches_18 : decode cX1_branches 18 = .ok (.iload_n 2, 1) := by decide +kernel
theorem dX1_branches_19 : decode cX1_branches 19 = .ok (.imul, 1) := by decide +kernel
theorem dX1_branches_20 : decode cX1_branches 20 = .ok (.iconst 2, 1) := by decide +kernel
theorem dX1_branches_21 : decode cX1_branches 21 = .ok (.isub, 1) := by decide +kernel
theorem dX1_branches_22 : decode cX1_branches 22 = .ok (.ishr, 1) := by decide +kernel
theorem dX1_branches_23 : decode cX1_branches 23 = .ok (.istore 4, 2) := by decide +kernel
theorem dX1_branches_25 : decode cX1_branches 25 = .ok (.iload_n 1, 1) := by decide +kernel
theorem dX1_branches_26 : decode cX1_branches 26 = .ok (.iconst 1, 1) := by decide +kernel
theorem dX1_branches_27 : decode cX1_branches 27 = .ok (.iadd, 1) := by decide +kernel
theorem dX1_branches_28 : decode cX1_branches 28 = .ok (.istore 5, 2) := by decide +kernel
theorem dX1_branches_30 : decode cX1_branches 30 = .ok (.iload 5, 2) := by decide +kernel
theorem dX1_branches_32 : decode cX1_branches 32 = .ok (.aload_n 0, 1) := by decide +kernel
theorem dX1_branches_33 : decode cX1_branches 33 = .ok (.getfield 22, 3) := by decide +kernel
theorem dX1_branches_36 : decode cX1_branches 36 = .ok (.if_icmp .ge 44, 3) := by decide +kernel
theorem dX1_branches_39 : decode cX1_branches 39 = .ok (.aload_n 0, 1) := by decide +kernel
theorem dX1_branches_40 : decode cX1_branches 40 = .ok (.getfield 9, 3) := by decide +kernel
theorem dX1_branches_43 : decode cX1_branches 43 = .ok (.iload 5, 2) := by decide +kernel
theorem dX1_branches_45 : decode cX1_branches 45 = .ok (.iaload, 1) := by decide +kernel
theorem dX1_branches_46 : decode cX1_branches 46 = .ok (.iconst 2, 1) := by decide +kernel
theorem dX1_branches_47 : decode cX1_branches 47 = .ok (.iload_n 2, 1) := by decide +kernel
theorem dX1_branches_48 : decode cX1_branches 48 = .ok (.imul, 1) := by decide +kernel
theorem dX1_branches_49 : decode cX1_branches 49 = .ok (.ishr, 1) := by decide +kernel
theorem dX1_branches_50 : decode cX1_branches 50 = .ok (.iload_n 3, 1) := by decide +kernel
theorem dX1_branches_51 : decode cX1_branches 51 = .ok (.if_icmp .ne 29, 3) := by decide +kernel
theorem dX1_branches_54 : decode cX1_branches 54 = .ok (.aload_n 0, 1) := by decide +kernel
theorem dX1_branches_55 : decode cX1_branches 55 = .ok (.getfield 9, 3) := by decide +kernel
theorem dX1_branches_58 : decode cX1_branches 58 = .ok (.iload 5, 2) := by decide +kernel
theorem dX1_branches_60 : decode cX1_branches 60 = .ok (.iaload, 1) := by decide +kernel
theorem dX1_branches_61 : decode cX1_branches 61 = .ok (.iconst 2, 1) := by decide +kernel
theorem dX1_branches_62 : decode cX1_branches 62 = .ok (.iload_n 2, 1) := by decide +kernel
theorem dX1_branches_63 : decode cX1_branches 63 = .ok (.imul, 1) := by decide +kernel
theorem dX1_branches_64 : decode cX1_branches 64 = .ok (.iconst 2, 1) := by decide +kernel
theorem dX1_branches_65 : decode cX1_branches 65 = .ok (.isub, 1) := by decide +kernel
theorem dX1_branches_66 : decode cX1_branches 66 = .ok (.ishr, 1) := by decide +kernel
theorem dX1_branches_67 : decode cX1_branches 67 = .ok (.iload 4, 2) := by decide +kernel
theorem dX1_branches_69 : decode cX1_branches 69 = .ok (.if_icmp .eq 5, 3) := by decide +kernel
theorem dX1_branches_72 : decode cX1_branches 72 = .ok (.iconst 1, 1) := by decide +kernel
theorem dX1_branches_73 : decode cX1_branches 73 = .ok (.ireturn, 1) := by decide +kernel
theorem dX1_branches_74 : decode cX1_branches 74 = .ok (.iinc 5 1, 3) := by decide +kernel
theorem dX1_branches_77 : decode cX1_branches 77 = .ok (.goto (-47), 3) := by decide +kernel
theorem dX1_branches_80 : decode cX1_branches 80 = .ok (.iconst 0, 1) := by decide +kernel
theorem dX1_branches_81 : decode cX1_branches 81 = .ok (.ireturn, 1) := by decide +kernel
theorem dX1_differences_0 : decode cX1_differences 0 = .ok (.iconst 0, 1) := by decide +kernel
theorem dX1_differences_1 : decode cX1_differences 1 = .ok (.istore_n 2, 1) := by decide +kernel
theorem dX1_differences_2 : decode cX1_differences 2 = .ok (.iconst 0, 1) := by decide +kernel
theorem dX1_differences_3 : decode cX1_differences 3 = .ok (.istore_n 3, 1) := by decide +kernel
theorem dX1_differences_4 : decode cX1_differences 4 = .ok (.iconst 0, 1) := by decide +kernel
theorem dX1_differences_5 : decode cX1_differences 5 = .ok (.istore 4, 2) := by decide +kernel
theorem dX1_differences_7 : decode cX1_differences 7 = .ok (.iload 4, 2) := by decide +kernel
theorem dX1_differences_9 : decode cX1_differences 9 = .ok (.aload_n 0, 1) := by decide +kernel
theorem dX1_differences_10 : decode cX1_differences 10 = .ok (.getfield 18, 3) := by decide +kernel
theorem dX1_differences_13 : decode cX1_differences 13 = .ok (.if_icmp .ge 66, 3) := by decide +kernel
theorem dX1_differences_16 : decode cX1_differences 16 = .ok (.iload_n 3, 1) := by decide +kernel
theorem dX1_differences_17 : decode cX1_differences 17 = .ok (.aload_n 1, 1) := by decide +kernel
theorem dX1_differences_18 : decode cX1_differences 18 = .ok (.getfield 18, 3) := by decide +kernel
theorem dX1_differences_21 : decode cX1_differences 21 = .ok (.if_icmp .ge 25, 3) := by decide +kernel
theorem dX1_differences_24 : decode cX1_differences 24 = .ok (.aload_n 1, 1) := by decide +kernel
theorem dX1_differences_25 : decode cX1_differences 25 = .ok (.getfield 15, 3) := by decide +kernel
theorem dX1_differences_28 : decode cX1_differences 28 = .ok (.iload_n 3, 1) := by decide +kernel
theorem dX1_differences_29 : decode cX1_differences 29 = .ok (.iaload, 1) := by decide +kernel
theorem dX1_differences_30 : decode cX1_differences 30 = .ok (.aload_n 0, 1) := by decide +kernel
theorem dX1_differences_31 : decode cX1_differences 31 = .ok (.getfield 15, 3) := by decide +kernel
theorem dX1_differences_34 : decode cX1_differences 34 = .ok (.iload 4, 2) := by decide +kernel
theorem dX1_differences_36 : decode cX1_differences 36 = .ok (.iaload, 1) := by decide +kernel
theorem dX1_differences_37 : decode cX1_differences 37 = .ok (.if_icmp .ge 9, 3) := by decide +kernel
theorem dX1_differences_40 : decode cX1_differences 40 = .ok (.iinc 3 1, 3) := by decide +kernel
theorem dX1_differences_43 : decode cX1_differences 43 = .ok (.goto (-27), 3) := by decide +kernel
theorem dX1_differences_46 : decode cX1_differences 46 = .ok (.iload_n 3, 1) := by decide +kernel
theorem dX1_differences_47 : decode cX1_differences 47 = .ok (.aload_n 1, 1) := by decide +kernel
theorem dX1_differences_48 : decode cX1_differences 48 = .ok (.getfield 18, 3) := by decide +kernel
theorem dX1_differences_51 : decode cX1_differences 51 = .ok (.if_icmp .ge 22, 3) := by decide +kernel
theorem dX1_differences_54 : decode cX1_differences 54 = .ok (.aload_n 1, 1) := by decide +kernel
theorem dX1_differences_55 : decode cX1_differences 55 = .ok (.getfield 15, 3) := by decide +kernel
theorem dX1_differences_58 : decode cX1_differences 58 = .ok (.iload_n 3, 1) := by decide +kernel
theorem dX1_differences_59 : decode cX1_differences 59 = .ok (.iaload, 1) := by decide +kernel
theorem dX1_differences_60 : decode cX1_differences 60 = .ok (.aload_n 0, 1) := by decide +kernel
theorem dX1_differences_61 : decode cX1_differences 61 = .ok (.getfield 15, 3) := by decide +kernel
theorem dX1_differences_64 : decode cX1_differences 64 = .ok (.iload 4, 2) := by decide +kernel
theorem dX1_differences_66 : decode cX1_differences 66 = .ok (.iaload, 1) := by decide +kernel
theorem dX1_differences_67 : decode cX1_differences 67 = .ok (.if_icmp .ne 6, 3) := by decide +kernel
theorem dX1_differences_70 : decode cX1_differences 70 = .ok (.iinc 2 1, 3) := by decide +kernel
theorem dX1_differences_73 : decode cX1_differences 73 = .ok (.iinc 4 1, 3) := by decide +kernel
theorem dX1_differences_76 : decode cX1_differences 76 = .ok (.goto (-69), 3) := by decide +kernel
theorem dX1_differences_79 : decode cX1_differences 79 = .ok (.aload_n 0, 1) := by decide +kernel
theorem dX1_differences_80 : decode cX1_differences 80 = .ok (.getfield 18, 3) := by decide +kernel
theorem dX1_differences_83 : decode cX1_differences 83 = .ok (.aload_n 1, 1) := by decide +kernel
theorem dX1_differences_84 : decode cX1_differences 84 = .ok (.getfield 18, 3) := by decide +kernel
theorem dX1_differences_87 : decode cX1_differences 87 = .ok (.iadd, 1) := by decide +kernel
theorem dX1_differences_88 : decode cX1_differences 88 = .ok (.iconst 2, 1) := by decide +kernel
theorem dX1_differences_89 : decode cX1_differences 89 = .ok (.iload_n 2, 1) := by decide +kernel
theorem dX1_differences_90 : decode cX1_differences 90 = .ok (.imul, 1) := by decide +kernel
theorem dX1_differences_91 : decode cX1_differences 91 = .ok (.isub, 1) := by decide +kernel
theorem dX1_differences_92 : decode cX1_differences 92 = .ok (.ireturn, 1) := by decide +kernel
theorem dX1_indexOf_0 : decode cX1_indexOf 0 = .ok (.iconst 0, 1) := by decide +kernel
theorem dX1_indexOf_1 : decode cX1_indexOf 1 = .ok (.istore_n 2, 1) := by decide +kernel
theorem dX1_indexOf_2 : decode cX1_indexOf 2 = .ok (.iload_n 2, 1) := by decide +kernel
theorem dX1_indexOf_3 : decode cX1_indexOf 3 = .ok (.aload_n 0, 1) := by decide +kernel
theorem dX1_indexOf_4 : decode cX1_indexOf 4 = .ok (.getfield 18, 3) := by decide +kernel
theorem dX1_indexOf_7 : decode cX1_indexOf 7 = .ok (.iconst 1, 1) := by decide +kernel
theorem dX1_indexOf_8 : decode cX1_indexOf 8 = .ok (.isub, 1) := by decide +kernel
theorem dX1_indexOf_9 : decode cX1_indexOf 9 = .ok (.if_icmp .ge 19, 3) := by decide +kernel
theorem dX1_indexOf_12 : decode cX1_indexOf 12 = .ok (.aload_n 0, 1) := by decide +kernel
theorem dX1_indexOf_13 : decode cX1_indexOf 13 = .ok (.getfield 15, 3) := by decide +kernel
theorem dX1_indexOf_16 : decode cX1_indexOf 16 = .ok (.iload_n 2, 1) := by decide +kernel
theorem dX1_indexOf_17 : decode cX1_indexOf 17 = .ok (.iaload, 1) := by decide +kernel
theorem dX1_indexOf_18 : decode cX1_indexOf 18 = .ok (.iload_n 1, 1) := by decide +kernel
theorem dX1_indexOf_19 : decode cX1_indexOf 19 = .ok (.if_icmp .ge 9, 3) := by decide +kernel
theorem dX1_indexOf_22 : decode cX1_indexOf 22 = .ok (.iinc 2 1, 3) := by decide +kernel
theorem dX1_indexOf_25 : decode cX1_indexOf 25 = .ok (.goto (-23), 3) := by decide +kernel
theorem dX1_indexOf_28 : decode cX1_indexOf 28 = .ok (.iload_n 2, 1) := by decide +kernel
theorem dX1_indexOf_29 : decode cX1_indexOf 29 = .ok (.ireturn, 1) := by decide +kernel
set_option maxRecDepth 20000 in
theorem ggX1_depthOf_X3_corner : GoodIn wsX1_depthOf wsX3_corner := goodIn_r _ [5] (by decide +kernel) (by decide +kernel)
set_option maxRecDepth 20000 in
theorem gX1_depthOf_X3_corner : GoodIn wsX1_depthOf (va_wsS RX1 42 yX3_corner wsX3_corner) := goodIn_app (goodIn_of _ (by decide +kernel)) ggX1_depthOf_X3_corner
set_option maxRecDepth 20000 in
theorem ggX1_depthOf_X3_holds : GoodIn wsX1_depthOf wsX3_holds := goodIn_r _ [8, 9, 3, 4, 5, 10, 11, 12] (by decide +kernel) (by decide +kernel)
set_option maxRecDepth 20000 in
theorem gX1_depthOf_X3_holds : GoodIn wsX1_depthOf (va_wsS RX1 46 yX3_holds wsX3_holds) := goodIn_app (goodIn_of _ (by decide +kernel)) ggX1_depthOf_X3_holds
theorem dX1_depthOf_0 : decode cX1_depthOf 0 = .ok (.iconst 0, 1) := by decide +kernel
theorem dX1_depthOf_1 : decode cX1_depthOf 1 = .ok (.istore_n 2, 1) := by decide +kernel
theorem dX1_depthOf_2 : decode cX1_depthOf 2 = .ok (.iconst 0, 1) := by decide +kernel
theorem dX1_depthOf_3 : decode cX1_depthOf 3 = .ok (.istore_n 3, 1) := by decide +kernel
theorem dX1_depthOf_4 : decode cX1_depthOf 4 = .ok (.iload_n 3, 1) := by decide +kernel
theorem dX1_depthOf_5 : decode cX1_depthOf 5 = .ok (.iload_n 1, 1) := by decide +kernel
theorem dX1_depthOf_6 : decode cX1_depthOf 6 = .ok (.if_icmp .ge 33, 3) := by decide +kernel
theorem dX1_depthOf_9 : decode cX1_depthOf 9 = .ok (.aload_n 0, 1) := by decide +kernel
theorem dX1_depthOf_10 : decode cX1_depthOf 10 = .ok (.getfield 15, 3) := by decide +kernel
theorem dX1_depthOf_13 : decode cX1_depthOf 13 = .ok (.iload_n 3, 1) := by decide +kernel
theorem dX1_depthOf_14 : decode cX1_depthOf 14 = .ok (.iaload, 1) := by decide +kernel
theorem dX1_depthOf_15 : decode cX1_depthOf 15 = .ok (.aload_n 0, 1) := by decide +kernel
theorem dX1_depthOf_16 : decode cX1_depthOf 16 = .ok (.getfield 15, 3) := by decide +kernel
theorem dX1_depthOf_19 : decode cX1_depthOf 19 = .ok (.iload_n 1, 1) := by decide +kernel
theorem dX1_depthOf_20 : decode cX1_depthOf 20 = .ok (.iaload, 1) := by decide +kernel
theorem dX1_depthOf_21 : decode cX1_depthOf 21 = .ok (.invokestatic 42, 3) := by decide +kernel
theorem dX1_depthOf_24 : decode cX1_depthOf 24 = .ok (.invokestatic 46, 3) := by decide +kernel
theorem dX1_depthOf_27 : decode cX1_depthOf 27 = .ok (.ifCond .eq 6, 3) := by decide +kernel
theorem dX1_depthOf_30 : decode cX1_depthOf 30 = .ok (.iinc 2 1, 3) := by decide +kernel
theorem dX1_depthOf_33 : decode cX1_depthOf 33 = .ok (.iinc 3 1, 3) := by decide +kernel
theorem dX1_depthOf_36 : decode cX1_depthOf 36 = .ok (.goto (-32), 3) := by decide +kernel
theorem dX1_depthOf_39 : decode cX1_depthOf 39 = .ok (.iload_n 2, 1) := by decide +kernel
theorem dX1_depthOf_40 : decode cX1_depthOf 40 = .ok (.ireturn, 1) := by decide +kernel
set_option maxRecDepth 20000 in
theorem ggX1_greatestDepth_X1_depthOf : GoodIn wsX1_greatestDepth wsX1_depthOf := goodIn_r _ [10, 11, 12, 13, 14, 15, 16, 17, 18, 19, 20, 21, 22, 23, 24, 25, 26] (by decide +kernel) (by decide +kernel)
set_option maxRecDepth 20000 in
theorem gX1_greatestDepth_X1_depthOf : GoodIn wsX1_greatestDepth (wsV RX1 49 RX1 yX1_depthOf wsX1_depthOf) := goodIn_app (goodIn_of _ (by decide +kernel)) ggX1_greatestDepth_X1_depthOf
theorem dX1_greatestDepth_0 : decode cX1_greatestDepth 0 = .ok (.iconst 0, 1) := by decide +kernel
theorem dX1_greatestDepth_1 : decode cX1_greatestDepth 1 = .ok (.istore_n 1, 1) := by decide +kernel
theorem dX1_greatestDepth_2 : decode cX1_greatestDepth 2 = .ok (.iconst 0, 1) := by decide +kernel
theorem dX1_greatestDepth_3 : decode cX1_greatestDepth 3 = .ok (.istore_n 2, 1) := by decide +kernel
theorem dX1_greatestDepth_4 : decode cX1_greatestDepth 4 = .ok (.iload_n 2, 1) := by decide +kernel
theorem dX1_greatestDepth_5 : decode cX1_greatestDepth 5 = .ok (.aload_n 0, 1) := by decide +kernel
theorem dX1_greatestDepth_6 : decode cX1_greatestDepth 6 = .ok (.getfield 18, 3) := by decide +kernel
theorem dX1_greatestDepth_9 : decode cX1_greatestDepth 9 = .ok (.if_icmp .ge 19, 3) := by decide +kernel
theorem dX1_greatestDepth_12 : decode cX1_greatestDepth 12 = .ok (.iload_n 1, 1) := by decide +kernel
theorem dX1_greatestDepth_13 : decode cX1_greatestDepth 13 = .ok (.aload_n 0, 1) := by decide +kernel
theorem dX1_greatestDepth_14 : decode cX1_greatestDepth 14 = .ok (.iload_n 2, 1) := by decide +kernel
theorem dX1_greatestDepth_15 : decode cX1_greatestDepth 15 = .ok (.invokevirtual 49, 3) := by decide +kernel
theorem dX1_greatestDepth_18 : decode cX1_greatestDepth 18 = .ok (.invokestatic 52, 3) := by decide +kernel
theorem dX1_greatestDepth_21 : decode cX1_greatestDepth 21 = .ok (.istore_n 1, 1) := by decide +kernel
theorem dX1_greatestDepth_22 : decode cX1_greatestDepth 22 = .ok (.iinc 2 1, 3) := by decide +kernel
theorem dX1_greatestDepth_25 : decode cX1_greatestDepth 25 = .ok (.goto (-21), 3) := by decide +kernel
theorem dX1_greatestDepth_28 : decode cX1_greatestDepth 28 = .ok (.iload_n 1, 1) := by decide +kernel
theorem dX1_greatestDepth_29 : decode cX1_greatestDepth 29 = .ok (.ireturn, 1) := by decide +kernel
set_option maxRecDepth 20000 in
theorem ggX1_pointsIn_X3_holds : GoodIn wsX1_pointsIn wsX3_holds := goodIn_r _ [6, 7, 8, 5, 9, 10, 11, 12] (by decide +kernel) (by decide +kernel)
set_option maxRecDepth 20000 in
theorem gX1_pointsIn_X3_holds : GoodIn wsX1_pointsIn (va_wsS RX1 46 yX3_holds wsX3_holds) := goodIn_app (goodIn_of _ (by decide +kernel)) ggX1_pointsIn_X3_holds
theorem dX1_pointsIn_0 : decode cX1_pointsIn 0 = .ok (.iconst 0, 1) := by decide +kernel
theorem dX1_pointsIn_1 : decode cX1_pointsIn 1 = .ok (.istore_n 2, 1) := by decide +kernel
theorem dX1_pointsIn_2 : decode cX1_pointsIn 2 = .ok (.iconst 0, 1) := by decide +kernel
theorem dX1_pointsIn_3 : decode cX1_pointsIn 3 = .ok (.istore_n 3, 1) := by decide +kernel
theorem dX1_pointsIn_4 : decode cX1_pointsIn 4 = .ok (.iload_n 3, 1) := by decide +kernel
theorem dX1_pointsIn_5 : decode cX1_pointsIn 5 = .ok (.aload_n 0, 1) := by decide +kernel
theorem dX1_pointsIn_6 : decode cX1_pointsIn 6 = .ok (.getfield 22, 3) := by decide +kernel
theorem dX1_pointsIn_9 : decode cX1_pointsIn 9 = .ok (.if_icmp .ge 25, 3) := by decide +kernel
theorem dX1_pointsIn_12 : decode cX1_pointsIn 12 = .ok (.iload_n 1, 1) := by decide +kernel
theorem dX1_pointsIn_13 : decode cX1_pointsIn 13 = .ok (.aload_n 0, 1) := by decide +kernel
theorem dX1_pointsIn_14 : decode cX1_pointsIn 14 = .ok (.getfield 9, 3) := by decide +kernel
theorem dX1_pointsIn_17 : decode cX1_pointsIn 17 = .ok (.iload_n 3, 1) := by decide +kernel
theorem dX1_pointsIn_18 : decode cX1_pointsIn 18 = .ok (.iaload, 1) := by decide +kernel
theorem dX1_pointsIn_19 : decode cX1_pointsIn 19 = .ok (.invokestatic 46, 3) := by decide +kernel
theorem dX1_pointsIn_22 : decode cX1_pointsIn 22 = .ok (.ifCond .eq 6, 3) := by decide +kernel
theorem dX1_pointsIn_25 : decode cX1_pointsIn 25 = .ok (.iinc 2 1, 3) := by decide +kernel
theorem dX1_pointsIn_28 : decode cX1_pointsIn 28 = .ok (.iinc 3 1, 3) := by decide +kernel
theorem dX1_pointsIn_31 : decode cX1_pointsIn 31 = .ok (.goto (-27), 3) := by decide +kernel
theorem dX1_pointsIn_34 : decode cX1_pointsIn 34 = .ok (.iload_n 2, 1) := by decide +kernel
theorem dX1_pointsIn_35 : decode cX1_pointsIn 35 = .ok (.ireturn, 1) := by decide +kernel
set_option maxRecDepth 20000 in
theorem ggX1_quadrantsIn_X3_holds : GoodIn wsX1_quadrantsIn wsX3_holds := goodIn_r _ [6, 7, 8, 5, 9, 10, 11, 12] (by decide +kernel) (by decide +kernel)
set_option maxRecDepth 20000 in
theorem gX1_quadrantsIn_X3_holds : GoodIn wsX1_quadrantsIn (va_wsS RX1 46 yX3_holds wsX3_holds) := goodIn_app (goodIn_of _ (by decide +kernel)) ggX1_quadrantsIn_X3_holds
set_option maxRecDepth 20000 in
theorem ggX1_quadrantsIn_X3_quadrant : GoodIn wsX1_quadrantsIn wsX3_quadrant := goodIn_r _ [15, 10, 11, 5, 12] (by decide +kernel) (by decide +kernel)
set_option maxRecDepth 20000 in
theorem gX1_quadrantsIn_X3_quadrant : GoodIn wsX1_quadrantsIn (va_wsS RX1 57 yX3_quadrant wsX3_quadrant) := goodIn_app (goodIn_of _ (by decide +kernel)) ggX1_quadrantsIn_X3_quadrant
set_option maxRecDepth 20000 in
theorem ggX1_quadrantsIn_J6_bitCount_0f7a4 : GoodIn wsX1_quadrantsIn wsJ6_bitCount_0f7a4 := goodIn_r _ [19, 20, 21, 22] (by decide +kernel) (by decide +kernel)
set_option maxRecDepth 20000 in
theorem gX1_quadrantsIn_J6_bitCount_0f7a4 : GoodIn wsX1_quadrantsIn (va_wsS RX1 60 yJ6_bitCount_0f7a4 wsJ6_bitCount_0f7a4) := goodIn_app (goodIn_of _ (by decide +kernel)) ggX1_quadrantsIn_J6_bitCount_0f7a4
theorem dX1_quadrantsIn_0 : decode cX1_quadrantsIn 0 = .ok (.iconst 0, 1) := by decide +kernel
theorem dX1_quadrantsIn_1 : decode cX1_quadrantsIn 1 = .ok (.istore_n 2, 1) := by decide +kernel
theorem dX1_quadrantsIn_2 : decode cX1_quadrantsIn 2 = .ok (.iconst 0, 1) := by decide +kernel
theorem dX1_quadrantsIn_3 : decode cX1_quadrantsIn 3 = .ok (.istore_n 3, 1) := by decide +kernel
theorem dX1_quadrantsIn_4 : decode cX1_quadrantsIn 4 = .ok (.iload_n 3, 1) := by decide +kernel
theorem dX1_quadrantsIn_5 : decode cX1_quadrantsIn 5 = .ok (.aload_n 0, 1) := by decide +kernel
theorem dX1_quadrantsIn_6 : decode cX1_quadrantsIn 6 = .ok (.getfield 22, 3) := by decide +kernel
theorem dX1_quadrantsIn_9 : decode cX1_quadrantsIn 9 = .ok (.if_icmp .ge 37, 3) := by decide +kernel
theorem dX1_quadrantsIn_12 : decode cX1_quadrantsIn 12 = .ok (.iload_n 1, 1) := by decide +kernel
theorem dX1_quadrantsIn_13 : decode cX1_quadrantsIn 13 = .ok (.aload_n 0, 1) := by decide +kernel
theorem dX1_quadrantsIn_14 : decode cX1_quadrantsIn 14 = .ok (.getfield 9, 3) := by decide +kernel
theorem dX1_quadrantsIn_17 : decode cX1_quadrantsIn 17 = .ok (.iload_n 3, 1) := by decide +kernel
theorem dX1_quadrantsIn_18 : decode cX1_quadrantsIn 18 = .ok (.iaload, 1) := by decide +kernel
theorem dX1_quadrantsIn_19 : decode cX1_quadrantsIn 19 = .ok (.invokestatic 46, 3) := by decide +kernel
theorem dX1_quadrantsIn_22 : decode cX1_quadrantsIn 22 = .ok (.ifCond .eq 18, 3) := by decide +kernel
theorem dX1_quadrantsIn_25 : decode cX1_quadrantsIn 25 = .ok (.iload_n 2, 1) := by decide +kernel
theorem dX1_quadrantsIn_26 : decode cX1_quadrantsIn 26 = .ok (.iconst 1, 1) := by decide +kernel
theorem dX1_quadrantsIn_27 : decode cX1_quadrantsIn 27 = .ok (.iload_n 1, 1) := by decide +kernel
theorem dX1_quadrantsIn_28 : decode cX1_quadrantsIn 28 = .ok (.aload_n 0, 1) := by decide +kernel
theorem dX1_quadrantsIn_29 : decode cX1_quadrantsIn 29 = .ok (.getfield 9, 3) := by decide +kernel
theorem dX1_quadrantsIn_32 : decode cX1_quadrantsIn 32 = .ok (.iload_n 3, 1) := by decide +kernel
theorem dX1_quadrantsIn_33 : decode cX1_quadrantsIn 33 = .ok (.iaload, 1) := by decide +kernel
theorem dX1_quadrantsIn_34 : decode cX1_quadrantsIn 34 = .ok (.invokestatic 57, 3) := by decide +kernel
theorem dX1_quadrantsIn_37 : decode cX1_quadrantsIn 37 = .ok (.ishl, 1) := by decide +kernel
theorem dX1_quadrantsIn_38 : decode cX1_quadrantsIn 38 = .ok (.ior, 1) := by decide +kernel
theorem dX1_quadrantsIn_39 : decode cX1_quadrantsIn 39 = .ok (.istore_n 2, 1) := by decide +kernel
theorem dX1_quadrantsIn_40 : decode cX1_quadrantsIn 40 = .ok (.iinc 3 1, 3) := by decide +kernel
theorem dX1_quadrantsIn_43 : decode cX1_quadrantsIn 43 = .ok (.goto (-39), 3) := by decide +kernel
theorem dX1_quadrantsIn_46 : decode cX1_quadrantsIn 46 = .ok (.iload_n 2, 1) := by decide +kernel
theorem dX1_quadrantsIn_47 : decode cX1_quadrantsIn 47 = .ok (.invokestatic 60, 3) := by decide +kernel
theorem dX1_quadrantsIn_50 : decode cX1_quadrantsIn 50 = .ok (.ireturn, 1) := by decide +kernel
set_option maxRecDepth 20000 in
theorem ggX1_childOf_X3_holds : GoodIn wsX1_childOf wsX3_holds := goodIn_r _ [7, 8, 9, 6, 10, 11, 12, 13] (by decide +kernel) (by decide +kernel)
set_option maxRecDepth 20000 in
theorem gX1_childOf_X3_holds : GoodIn wsX1_childOf (va_wsS RX1 46 yX3_holds wsX3_holds) := goodIn_app (goodIn_of _ (by decide +kernel)) ggX1_childOf_X3_holds
set_option maxRecDepth 20000 in
theorem ggX1_childOf_X3_quadrant : GoodIn wsX1_childOf wsX3_quadrant := goodIn_r _ [16, 11, 12, 6, 13] (by decide +kernel) (by decide +kernel)
set_option maxRecDepth 20000 in
theorem gX1_childOf_X3_quadrant : GoodIn wsX1_childOf (va_wsS RX1 57 yX3_quadrant wsX3_quadrant) := goodIn_app (goodIn_of _ (by decide +kernel)) ggX1_childOf_X3_quadrant
set_option maxRecDepth 20000 in
theorem ggX1_childOf_X3_yOf : GoodIn wsX1_childOf wsX3_yOf := goodIn_r _ [19, 20, 21, 6, 22] (by decide +kernel) (by decide +kernel)
set_option maxRecDepth 20000 in
theorem gX1_childOf_X3_yOf : GoodIn wsX1_childOf (va_wsS RX1 65 yX3_yOf wsX3_yOf) := goodIn_app (goodIn_of _ (by decide +kernel)) ggX1_childOf_X3_yOf
set_option maxRecDepth 20000 in
theorem ggX1_childOf_X3_xOf : GoodIn wsX1_childOf wsX3_xOf := goodIn_r _ [25, 20, 21, 6, 22] (by decide +kernel) (by decide +kernel)
set_option maxRecDepth 20000 in
theorem gX1_childOf_X3_xOf : GoodIn wsX1_childOf (va_wsS RX1 68 yX3_xOf wsX3_xOf) := goodIn_app (goodIn_of _ (by decide +kernel)) ggX1_childOf_X3_xOf
set_option maxRecDepth 20000 in
theorem ggX1_childOf_X1_greatestNodeAround : GoodIn wsX1_childOf wsX1_greatestNodeAround := goodIn_r _ [30, 31, 1, 4, 5, 6, 7, 8, 9, 10, 11, 12, 13, 32, 33, 34, 35] (by decide +kernel) (by decide +kernel)
set_option maxRecDepth 20000 in
theorem gX1_childOf_X1_greatestNodeAround : GoodIn wsX1_childOf (wsV RX1 71 RX1 yX1_greatestNodeAround wsX1_greatestNodeAround) := goodIn_app (goodIn_of _ (by decide +kernel)) ggX1_childOf_X1_greatestNodeAround
theorem dX1_childOf_0 : decode cX1_childOf 0 = .ok (.aload_n 0, 1) := by decide +kernel
theorem dX1_childOf_1 : decode cX1_childOf 1 = .ok (.getfield 15, 3) := by decide +kernel
theorem dX1_childOf_4 : decode cX1_childOf 4 = .ok (.iload_n 1, 1) := by decide +kernel
theorem dX1_childOf_5 : decode cX1_childOf 5 = .ok (.iaload, 1) := by decide +kernel
theorem dX1_childOf_6 : decode cX1_childOf 6 = .ok (.istore_n 3, 1) := by decide +kernel
theorem dX1_childOf_7 : decode cX1_childOf 7 = .ok (.iconst (-1), 1) := by decide +kernel
theorem dX1_childOf_8 : decode cX1_childOf 8 = .ok (.istore 4, 2) := by decide +kernel
theorem dX1_childOf_10 : decode cX1_childOf 10 = .ok (.iconst (-1), 1) := by decide +kernel
theorem dX1_childOf_11 : decode cX1_childOf 11 = .ok (.istore 5, 2) := by decide +kernel
theorem dX1_childOf_13 : decode cX1_childOf 13 = .ok (.iconst 0, 1) := by decide +kernel
