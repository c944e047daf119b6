theorem dX4_pairAfter_39 : decode cX4_pairAfter 39 = .ok (.iload 4, 2) := by decide +kernel
theorem dX4_pairAfter_41 : decode cX4_pairAfter 41 = .ok (.iconst (-1), 1) := by decide +kernel
theorem dX4_pairAfter_42 : decode cX4_pairAfter 42 = .ok (.if_icmp .eq 10, 3) := by decide +kernel
theorem dX4_pairAfter_45 : decode cX4_pairAfter 45 = .ok (.iload 6, 2) := by decide +kernel
theorem dX4_pairAfter_47 : decode cX4_pairAfter 47 = .ok (.iload 4, 2) := by decide +kernel
theorem dX4_pairAfter_49 : decode cX4_pairAfter 49 = .ok (.if_icmp .ge 7, 3) := by decide +kernel
theorem dX4_pairAfter_52 : decode cX4_pairAfter 52 = .ok (.iload 6, 2) := by decide +kernel
theorem dX4_pairAfter_54 : decode cX4_pairAfter 54 = .ok (.istore 4, 2) := by decide +kernel
theorem dX4_pairAfter_56 : decode cX4_pairAfter 56 = .ok (.iinc 5 1, 3) := by decide +kernel
theorem dX4_pairAfter_59 : decode cX4_pairAfter 59 = .ok (.goto (-53), 3) := by decide +kernel
theorem dX4_pairAfter_62 : decode cX4_pairAfter 62 = .ok (.iload 4, 2) := by decide +kernel
theorem dX4_pairAfter_64 : decode cX4_pairAfter 64 = .ok (.ireturn, 1) := by decide +kernel
set_option maxRecDepth 20000 in
theorem ggX4_pairsAfter_X4_pairOf : GoodIn wsX4_pairsAfter wsX4_pairOf := goodIn_r _ [6, 7, 8, 9, 10, 11, 12, 13, 14, 15, 16, 17, 18, 19, 20] (by decide +kernel) (by decide +kernel)
set_option maxRecDepth 20000 in
theorem gX4_pairsAfter_X4_pairOf : GoodIn wsX4_pairsAfter (wsV RX4 49 RX4 yX4_pairOf wsX4_pairOf) := goodIn_app (goodIn_of _ (by decide +kernel)) ggX4_pairsAfter_X4_pairOf
theorem dX4_pairsAfter_0 : decode cX4_pairsAfter 0 = .ok (.iconst 0, 1) := by decide +kernel
theorem dX4_pairsAfter_1 : decode cX4_pairsAfter 1 = .ok (.istore 4, 2) := by decide +kernel
theorem dX4_pairsAfter_3 : decode cX4_pairsAfter 3 = .ok (.iconst 0, 1) := by decide +kernel
theorem dX4_pairsAfter_4 : decode cX4_pairsAfter 4 = .ok (.istore 5, 2) := by decide +kernel
theorem dX4_pairsAfter_6 : decode cX4_pairsAfter 6 = .ok (.iload 5, 2) := by decide +kernel
theorem dX4_pairsAfter_8 : decode cX4_pairsAfter 8 = .ok (.bipush 24, 2) := by decide +kernel
theorem dX4_pairsAfter_10 : decode cX4_pairsAfter 10 = .ok (.if_icmp .ge 34, 3) := by decide +kernel
theorem dX4_pairsAfter_13 : decode cX4_pairsAfter 13 = .ok (.aload_n 0, 1) := by decide +kernel
theorem dX4_pairsAfter_14 : decode cX4_pairsAfter 14 = .ok (.getfield 9, 3) := by decide +kernel
theorem dX4_pairsAfter_17 : decode cX4_pairsAfter 17 = .ok (.iload 5, 2) := by decide +kernel
theorem dX4_pairsAfter_19 : decode cX4_pairsAfter 19 = .ok (.baload, 1) := by decide +kernel
theorem dX4_pairsAfter_20 : decode cX4_pairsAfter 20 = .ok (.ifCond .eq 18, 3) := by decide +kernel
theorem dX4_pairsAfter_23 : decode cX4_pairsAfter 23 = .ok (.aload_n 0, 1) := by decide +kernel
theorem dX4_pairsAfter_24 : decode cX4_pairsAfter 24 = .ok (.iload 5, 2) := by decide +kernel
theorem dX4_pairsAfter_26 : decode cX4_pairsAfter 26 = .ok (.iload_n 2, 1) := by decide +kernel
theorem dX4_pairsAfter_27 : decode cX4_pairsAfter 27 = .ok (.iload_n 3, 1) := by decide +kernel
theorem dX4_pairsAfter_28 : decode cX4_pairsAfter 28 = .ok (.invokevirtual 49, 3) := by decide +kernel
theorem dX4_pairsAfter_31 : decode cX4_pairsAfter 31 = .ok (.iload_n 1, 1) := by decide +kernel
theorem dX4_pairsAfter_32 : decode cX4_pairsAfter 32 = .ok (.if_icmp .le 6, 3) := by decide +kernel
theorem dX4_pairsAfter_35 : decode cX4_pairsAfter 35 = .ok (.iinc 4 1, 3) := by decide +kernel
theorem dX4_pairsAfter_38 : decode cX4_pairsAfter 38 = .ok (.iinc 5 1, 3) := by decide +kernel
theorem dX4_pairsAfter_41 : decode cX4_pairsAfter 41 = .ok (.goto (-35), 3) := by decide +kernel
theorem dX4_pairsAfter_44 : decode cX4_pairsAfter 44 = .ok (.iload 4, 2) := by decide +kernel
theorem dX4_pairsAfter_46 : decode cX4_pairsAfter 46 = .ok (.ireturn, 1) := by decide +kernel
set_option maxRecDepth 20000 in
theorem ggX4_closestCouple_X4_pairOf : GoodIn wsX4_closestCouple wsX4_pairOf := goodIn_r _ [8, 2, 3, 9, 10, 11, 12, 13, 14, 15, 16, 17, 18, 19, 20] (by decide +kernel) (by decide +kernel)
set_option maxRecDepth 20000 in
theorem gX4_closestCouple_X4_pairOf : GoodIn wsX4_closestCouple (wsV RX4 49 RX4 yX4_pairOf wsX4_pairOf) := goodIn_app (goodIn_of _ (by decide +kernel)) ggX4_closestCouple_X4_pairOf
theorem dX4_closestCouple_0 : decode cX4_closestCouple 0 = .ok (.iconst (-1), 1) := by decide +kernel
theorem dX4_closestCouple_1 : decode cX4_closestCouple 1 = .ok (.istore_n 1, 1) := by decide +kernel
theorem dX4_closestCouple_2 : decode cX4_closestCouple 2 = .ok (.iconst 0, 1) := by decide +kernel
theorem dX4_closestCouple_3 : decode cX4_closestCouple 3 = .ok (.istore_n 2, 1) := by decide +kernel
theorem dX4_closestCouple_4 : decode cX4_closestCouple 4 = .ok (.iload_n 2, 1) := by decide +kernel
theorem dX4_closestCouple_5 : decode cX4_closestCouple 5 = .ok (.bipush 24, 2) := by decide +kernel
theorem dX4_closestCouple_7 : decode cX4_closestCouple 7 = .ok (.if_icmp .ge 81, 3) := by decide +kernel
theorem dX4_closestCouple_10 : decode cX4_closestCouple 10 = .ok (.iload_n 2, 1) := by decide +kernel
theorem dX4_closestCouple_11 : decode cX4_closestCouple 11 = .ok (.iconst 1, 1) := by decide +kernel
theorem dX4_closestCouple_12 : decode cX4_closestCouple 12 = .ok (.iadd, 1) := by decide +kernel
theorem dX4_closestCouple_13 : decode cX4_closestCouple 13 = .ok (.istore_n 3, 1) := by decide +kernel
theorem dX4_closestCouple_14 : decode cX4_closestCouple 14 = .ok (.aload_n 0, 1) := by decide +kernel
theorem dX4_closestCouple_15 : decode cX4_closestCouple 15 = .ok (.getfield 9, 3) := by decide +kernel
theorem dX4_closestCouple_18 : decode cX4_closestCouple 18 = .ok (.iload_n 2, 1) := by decide +kernel
theorem dX4_closestCouple_19 : decode cX4_closestCouple 19 = .ok (.baload, 1) := by decide +kernel
theorem dX4_closestCouple_20 : decode cX4_closestCouple 20 = .ok (.ifCond .eq 62, 3) := by decide +kernel
theorem dX4_closestCouple_23 : decode cX4_closestCouple 23 = .ok (.iload_n 3, 1) := by decide +kernel
theorem dX4_closestCouple_24 : decode cX4_closestCouple 24 = .ok (.bipush 24, 2) := by decide +kernel
theorem dX4_closestCouple_26 : decode cX4_closestCouple 26 = .ok (.if_icmp .ge 56, 3) := by decide +kernel
theorem dX4_closestCouple_29 : decode cX4_closestCouple 29 = .ok (.aload_n 0, 1) := by decide +kernel
theorem dX4_closestCouple_30 : decode cX4_closestCouple 30 = .ok (.iload_n 2, 1) := by decide +kernel
theorem dX4_closestCouple_31 : decode cX4_closestCouple 31 = .ok (.aload_n 0, 1) := by decide +kernel
theorem dX4_closestCouple_32 : decode cX4_closestCouple 32 = .ok (.getfield 15, 3) := by decide +kernel
theorem dX4_closestCouple_35 : decode cX4_closestCouple 35 = .ok (.iload_n 3, 1) := by decide +kernel
theorem dX4_closestCouple_36 : decode cX4_closestCouple 36 = .ok (.iaload, 1) := by decide +kernel
theorem dX4_closestCouple_37 : decode cX4_closestCouple 37 = .ok (.aload_n 0, 1) := by decide +kernel
theorem dX4_closestCouple_38 : decode cX4_closestCouple 38 = .ok (.getfield 19, 3) := by decide +kernel
theorem dX4_closestCouple_41 : decode cX4_closestCouple 41 = .ok (.iload_n 3, 1) := by decide +kernel
theorem dX4_closestCouple_42 : decode cX4_closestCouple 42 = .ok (.iaload, 1) := by decide +kernel
theorem dX4_closestCouple_43 : decode cX4_closestCouple 43 = .ok (.invokevirtual 49, 3) := by decide +kernel
theorem dX4_closestCouple_46 : decode cX4_closestCouple 46 = .ok (.bipush 32, 2) := by decide +kernel
theorem dX4_closestCouple_48 : decode cX4_closestCouple 48 = .ok (.imul, 1) := by decide +kernel
theorem dX4_closestCouple_49 : decode cX4_closestCouple 49 = .ok (.iload_n 3, 1) := by decide +kernel
theorem dX4_closestCouple_50 : decode cX4_closestCouple 50 = .ok (.iadd, 1) := by decide +kernel
theorem dX4_closestCouple_51 : decode cX4_closestCouple 51 = .ok (.istore 4, 2) := by decide +kernel
theorem dX4_closestCouple_53 : decode cX4_closestCouple 53 = .ok (.aload_n 0, 1) := by decide +kernel
theorem dX4_closestCouple_54 : decode cX4_closestCouple 54 = .ok (.getfield 9, 3) := by decide +kernel
theorem dX4_closestCouple_57 : decode cX4_closestCouple 57 = .ok (.iload_n 3, 1) := by decide +kernel
theorem dX4_closestCouple_58 : decode cX4_closestCouple 58 = .ok (.baload, 1) := by decide +kernel
theorem dX4_closestCouple_59 : decode cX4_closestCouple 59 = .ok (.ifCond .eq 17, 3) := by decide +kernel
theorem dX4_closestCouple_62 : decode cX4_closestCouple 62 = .ok (.iload_n 1, 1) := by decide +kernel
theorem dX4_closestCouple_63 : decode cX4_closestCouple 63 = .ok (.iconst (-1), 1) := by decide +kernel
theorem dX4_closestCouple_64 : decode cX4_closestCouple 64 = .ok (.if_icmp .eq 9, 3) := by decide +kernel
theorem dX4_closestCouple_67 : decode cX4_closestCouple 67 = .ok (.iload 4, 2) := by decide +kernel
theorem dX4_closestCouple_69 : decode cX4_closestCouple 69 = .ok (.iload_n 1, 1) := by decide +kernel
theorem dX4_closestCouple_70 : decode cX4_closestCouple 70 = .ok (.if_icmp .ge 6, 3) := by decide +kernel
theorem dX4_closestCouple_73 : decode cX4_closestCouple 73 = .ok (.iload 4, 2) := by decide +kernel
theorem dX4_closestCouple_75 : decode cX4_closestCouple 75 = .ok (.istore_n 1, 1) := by decide +kernel
theorem dX4_closestCouple_76 : decode cX4_closestCouple 76 = .ok (.iinc 3 1, 3) := by decide +kernel
theorem dX4_closestCouple_79 : decode cX4_closestCouple 79 = .ok (.goto (-65), 3) := by decide +kernel
theorem dX4_closestCouple_82 : decode cX4_closestCouple 82 = .ok (.iinc 2 1, 3) := by decide +kernel
theorem dX4_closestCouple_85 : decode cX4_closestCouple 85 = .ok (.goto (-81), 3) := by decide +kernel
theorem dX4_closestCouple_88 : decode cX4_closestCouple 88 = .ok (.iload_n 1, 1) := by decide +kernel
theorem dX4_closestCouple_89 : decode cX4_closestCouple 89 = .ok (.ireturn, 1) := by decide +kernel
set_option maxRecDepth 20000 in
theorem ggX5_init_X4_init : GoodIn wsX5_init wsX4_init := goodIn_r _ [10, 11, 2, 3, 12, 13, 14, 15, 16, 17, 18, 19, 20, 21, 25, 26, 27, 28, 29, 30, 31, 32, 33] (by decide +kernel) (by decide +kernel)
set_option maxRecDepth 20000 in
theorem gX5_init_X4_init : GoodIn wsX5_init (wsX4_init) := ggX5_init_X4_init
theorem dX5_init_0 : decode cX5_init 0 = .ok (.aload_n 0, 1) := by decide +kernel
theorem dX5_init_1 : decode cX5_init 1 = .ok (.invokespecial 3, 3) := by decide +kernel
theorem dX5_init_4 : decode cX5_init 4 = .ok (.aload_n 0, 1) := by decide +kernel
theorem dX5_init_5 : decode cX5_init 5 = .ok (.iconst 4, 1) := by decide +kernel
theorem dX5_init_6 : decode cX5_init 6 = .ok (.anewarray 9, 3) := by decide +kernel
theorem dX5_init_9 : decode cX5_init 9 = .ok (.putfield 11, 3) := by decide +kernel
theorem dX5_init_12 : decode cX5_init 12 = .ok (.iconst 0, 1) := by decide +kernel
theorem dX5_init_13 : decode cX5_init 13 = .ok (.istore_n 1, 1) := by decide +kernel
theorem dX5_init_14 : decode cX5_init 14 = .ok (.iload_n 1, 1) := by decide +kernel
theorem dX5_init_15 : decode cX5_init 15 = .ok (.iconst 4, 1) := by decide +kernel
theorem dX5_init_16 : decode cX5_init 16 = .ok (.if_icmp .ge 22, 3) := by decide +kernel
theorem dX5_init_19 : decode cX5_init 19 = .ok (.aload_n 0, 1) := by decide +kernel
theorem dX5_init_20 : decode cX5_init 20 = .ok (.getfield 11, 3) := by decide +kernel
theorem dX5_init_23 : decode cX5_init 23 = .ok (.iload_n 1, 1) := by decide +kernel
theorem dX5_init_24 : decode cX5_init 24 = .ok (.new 9, 3) := by decide +kernel
theorem dX5_init_27 : decode cX5_init 27 = .ok (.dup, 1) := by decide +kernel
theorem dX5_init_28 : decode cX5_init 28 = .ok (.invokespecial 17, 3) := by decide +kernel
theorem dX5_init_31 : decode cX5_init 31 = .ok (.aastore, 1) := by decide +kernel
theorem dX5_init_32 : decode cX5_init 32 = .ok (.iinc 1 1, 3) := by decide +kernel
theorem dX5_init_35 : decode cX5_init 35 = .ok (.goto (-21), 3) := by decide +kernel
theorem dX5_init_38 : decode cX5_init 38 = .ok (.return_, 1) := by decide +kernel
set_option maxRecDepth 20000 in
theorem ggX5_push_X4_copy : GoodIn wsX5_push wsX4_copy := goodIn_r _ [12, 13, 14, 15, 16, 17, 18, 19, 20, 21, 25, 26, 27, 28, 29, 30, 31, 32, 33] (by decide +kernel) (by decide +kernel)
set_option maxRecDepth 20000 in
theorem gX5_push_X4_copy : GoodIn wsX5_push (wsV RX5 22 RX4 yX4_copy wsX4_copy) := goodIn_app (goodIn_of _ (by decide +kernel)) ggX5_push_X4_copy
theorem dX5_push_0 : decode cX5_push 0 = .ok (.aload_n 0, 1) := by decide +kernel
theorem dX5_push_1 : decode cX5_push 1 = .ok (.getfield 11, 3) := by decide +kernel
theorem dX5_push_4 : decode cX5_push 4 = .ok (.aload_n 0, 1) := by decide +kernel
theorem dX5_push_5 : decode cX5_push 5 = .ok (.getfield 18, 3) := by decide +kernel
theorem dX5_push_8 : decode cX5_push 8 = .ok (.aaload, 1) := by decide +kernel
theorem dX5_push_9 : decode cX5_push 9 = .ok (.aload_n 1, 1) := by decide +kernel
theorem dX5_push_10 : decode cX5_push 10 = .ok (.invokevirtual 22, 3) := by decide +kernel
theorem dX5_push_13 : decode cX5_push 13 = .ok (.aload_n 0, 1) := by decide +kernel
theorem dX5_push_14 : decode cX5_push 14 = .ok (.aload_n 0, 1) := by decide +kernel
theorem dX5_push_15 : decode cX5_push 15 = .ok (.getfield 18, 3) := by decide +kernel
theorem dX5_push_18 : decode cX5_push 18 = .ok (.iconst 1, 1) := by decide +kernel
theorem dX5_push_19 : decode cX5_push 19 = .ok (.iadd, 1) := by decide +kernel
theorem dX5_push_20 : decode cX5_push 20 = .ok (.iconst 4, 1) := by decide +kernel
theorem dX5_push_21 : decode cX5_push 21 = .ok (.irem, 1) := by decide +kernel
theorem dX5_push_22 : decode cX5_push 22 = .ok (.putfield 18, 3) := by decide +kernel
theorem dX5_push_25 : decode cX5_push 25 = .ok (.aload_n 0, 1) := by decide +kernel
theorem dX5_push_26 : decode cX5_push 26 = .ok (.aload_n 0, 1) := by decide +kernel
theorem dX5_push_27 : decode cX5_push 27 = .ok (.getfield 26, 3) := by decide +kernel
theorem dX5_push_30 : decode cX5_push 30 = .ok (.iconst 1, 1) := by decide +kernel
theorem dX5_push_31 : decode cX5_push 31 = .ok (.iadd, 1) := by decide +kernel
theorem dX5_push_32 : decode cX5_push 32 = .ok (.iconst 4, 1) := by decide +kernel
theorem dX5_push_33 : decode cX5_push 33 = .ok (.invokestatic 29, 3) := by decide +kernel
theorem dX5_push_36 : decode cX5_push 36 = .ok (.putfield 26, 3) := by decide +kernel
theorem dX5_push_39 : decode cX5_push 39 = .ok (.return_, 1) := by decide +kernel
set_option maxRecDepth 20000 in
theorem ggX5_pop_X4_copy : GoodIn wsX5_pop wsX4_copy := goodIn_r _ [8, 9, 10, 11, 12, 13, 14, 15, 16, 17, 21, 22, 23, 24, 25, 26, 27, 28, 29] (by decide +kernel) (by decide +kernel)
set_option maxRecDepth 20000 in
theorem gX5_pop_X4_copy : GoodIn wsX5_pop (wsV RX5 22 RX4 yX4_copy wsX4_copy) := goodIn_app (goodIn_of _ (by decide +kernel)) ggX5_pop_X4_copy
theorem dX5_pop_0 : decode cX5_pop 0 = .ok (.aload_n 0, 1) := by decide +kernel
theorem dX5_pop_1 : decode cX5_pop 1 = .ok (.aload_n 0, 1) := by decide +kernel
theorem dX5_pop_2 : decode cX5_pop 2 = .ok (.getfield 18, 3) := by decide +kernel
theorem dX5_pop_5 : decode cX5_pop 5 = .ok (.iconst 4, 1) := by decide +kernel
theorem dX5_pop_6 : decode cX5_pop 6 = .ok (.iadd, 1) := by decide +kernel
theorem dX5_pop_7 : decode cX5_pop 7 = .ok (.iconst 1, 1) := by decide +kernel
theorem dX5_pop_8 : decode cX5_pop 8 = .ok (.isub, 1) := by decide +kernel
theorem dX5_pop_9 : decode cX5_pop 9 = .ok (.iconst 4, 1) := by decide +kernel
theorem dX5_pop_10 : decode cX5_pop 10 = .ok (.irem, 1) := by decide +kernel
theorem dX5_pop_11 : decode cX5_pop 11 = .ok (.putfield 18, 3) := by decide +kernel
theorem dX5_pop_14 : decode cX5_pop 14 = .ok (.aload_n 0, 1) := by decide +kernel
theorem dX5_pop_15 : decode cX5_pop 15 = .ok (.dup, 1) := by decide +kernel
theorem dX5_pop_16 : decode cX5_pop 16 = .ok (.getfield 26, 3) := by decide +kernel
theorem dX5_pop_19 : decode cX5_pop 19 = .ok (.iconst 1, 1) := by decide +kernel
theorem dX5_pop_20 : decode cX5_pop 20 = .ok (.isub, 1) := by decide +kernel
theorem dX5_pop_21 : decode cX5_pop 21 = .ok (.putfield 26, 3) := by decide +kernel
theorem dX5_pop_24 : decode cX5_pop 24 = .ok (.aload_n 1, 1) := by decide +kernel
theorem dX5_pop_25 : decode cX5_pop 25 = .ok (.aload_n 0, 1) := by decide +kernel
theorem dX5_pop_26 : decode cX5_pop 26 = .ok (.getfield 11, 3) := by decide +kernel
theorem dX5_pop_29 : decode cX5_pop 29 = .ok (.aload_n 0, 1) := by decide +kernel
theorem dX5_pop_30 : decode cX5_pop 30 = .ok (.getfield 18, 3) := by decide +kernel
theorem dX5_pop_33 : decode cX5_pop 33 = .ok (.aaload, 1) := by decide +kernel
theorem dX5_pop_34 : decode cX5_pop 34 = .ok (.invokevirtual 22, 3) := by decide +kernel
theorem dX5_pop_37 : decode cX5_pop 37 = .ok (.return_, 1) := by decide +kernel
set_option maxRecDepth 20000 in
theorem ggX6_init_X4_init : GoodIn wsX6_init wsX4_init := goodIn_r _ [23, 24, 2, 3, 25, 26, 27, 28, 29, 30, 31, 32, 33, 34, 62, 63, 64, 65, 66, 67, 68, 69, 70] (by decide +kernel) (by decide +kernel)
set_option maxRecDepth 20000 in
theorem gX6_init_X4_init : GoodIn wsX6_init (wsX4_init) := ggX6_init_X4_init
set_option maxRecDepth 20000 in
theorem ggX6_init_X5_init : GoodIn wsX6_init wsX5_init := goodIn_r _ [37, 38, 2, 3, 39, 40, 5, 6, 41, 22, 23, 24, 25, 26, 27, 28, 29, 30, 31, 32, 33, 34, 76, 77, 78, 62, 63, 64, 65, 66, 67, 68, 69, 70] (by decide +kernel) (by decide +kernel)
set_option maxRecDepth 20000 in
theorem gX6_init_X5_init : GoodIn wsX6_init (wsX5_init) := ggX6_init_X5_init
set_option maxRecDepth 20000 in
theorem ggX6_init_X2_init : GoodIn wsX6_init wsX2_init := goodIn_r _ [43, 44, 2, 3, 27, 45, 46, 79, 80, 81, 82, 83, 84] (by decide +kernel) (by decide +kernel)
set_option maxRecDepth 20000 in
theorem gX6_init_X2_init_n25 : GoodIn wsX6_init (wsX2_init) := ggX6_init_X2_init
set_option maxRecDepth 20000 in
theorem ggX6_init_X0_init : GoodIn wsX6_init wsX0_init := goodIn_r _ [49, 50, 2, 3, 51, 52, 27, 53, 54, 55, 56, 57, 58, 59, 60, 61, 85, 86, 87, 88, 89, 90] (by decide +kernel) (by decide +kernel)
set_option maxRecDepth 20000 in
theorem gX6_init_X0_init : GoodIn wsX6_init (wsX0_init) := ggX6_init_X0_init
theorem dX6_init_0 : decode cX6_init 0 = .ok (.aload_n 0, 1) := by decide +kernel
theorem dX6_init_1 : decode cX6_init 1 = .ok (.invokespecial 1, 3) := by decide +kernel
theorem dX6_init_4 : decode cX6_init 4 = .ok (.aload_n 0, 1) := by decide +kernel
theorem dX6_init_5 : decode cX6_init 5 = .ok (.new 7, 3) := by decide +kernel
theorem dX6_init_8 : decode cX6_init 8 = .ok (.dup, 1) := by decide +kernel
theorem dX6_init_9 : decode cX6_init 9 = .ok (.invokespecial 9, 3) := by decide +kernel
theorem dX6_init_12 : decode cX6_init 12 = .ok (.putfield 10, 3) := by decide +kernel
theorem dX6_init_15 : decode cX6_init 15 = .ok (.aload_n 0, 1) := by decide +kernel
theorem dX6_init_16 : decode cX6_init 16 = .ok (.new 16, 3) := by decide +kernel
theorem dX6_init_19 : decode cX6_init 19 = .ok (.dup, 1) := by decide +kernel
theorem dX6_init_20 : decode cX6_init 20 = .ok (.invokespecial 18, 3) := by decide +kernel
theorem dX6_init_23 : decode cX6_init 23 = .ok (.putfield 19, 3) := by decide +kernel
theorem dX6_init_26 : decode cX6_init 26 = .ok (.aload_n 0, 1) := by decide +kernel
theorem dX6_init_27 : decode cX6_init 27 = .ok (.new 23, 3) := by decide +kernel
theorem dX6_init_30 : decode cX6_init 30 = .ok (.dup, 1) := by decide +kernel
theorem dX6_init_31 : decode cX6_init 31 = .ok (.invokespecial 25, 3) := by decide +kernel
theorem dX6_init_34 : decode cX6_init 34 = .ok (.putfield 26, 3) := by decide +kernel
theorem dX6_init_37 : decode cX6_init 37 = .ok (.aload_n 0, 1) := by decide +kernel
theorem dX6_init_38 : decode cX6_init 38 = .ok (.new 30, 3) := by decide +kernel
theorem dX6_init_41 : decode cX6_init 41 = .ok (.dup, 1) := by decide +kernel
theorem dX6_init_42 : decode cX6_init 42 = .ok (.invokespecial 32, 3) := by decide +kernel
theorem dX6_init_45 : decode cX6_init 45 = .ok (.putfield 33, 3) := by decide +kernel
theorem dX6_init_48 : decode cX6_init 48 = .ok (.aload_n 0, 1) := by decide +kernel
theorem dX6_init_49 : decode cX6_init 49 = .ok (.new 30, 3) := by decide +kernel
theorem dX6_init_52 : decode cX6_init 52 = .ok (.dup, 1) := by decide +kernel
theorem dX6_init_53 : decode cX6_init 53 = .ok (.invokespecial 32, 3) := by decide +kernel
theorem dX6_init_56 : decode cX6_init 56 = .ok (.putfield 37, 3) := by decide +kernel
theorem dX6_init_59 : decode cX6_init 59 = .ok (.return_, 1) := by decide +kernel
set_option maxRecDepth 20000 in
theorem ggX6_add_X6_refusalOfPlace : GoodIn wsX6_add wsX6_refusalOfPlace := goodIn_r _ [7, 2, 8, 9, 10, 6, 11, 12, 13, 14, 15, 16, 17, 135, 136, 137, 138, 139, 140, 141, 142, 143, 144, 145, 146, 147, 148] (by decide +kernel) (by decide +kernel)
set_option maxRecDepth 20000 in
theorem gX6_add_X6_refusalOfPlace : GoodIn wsX6_add (wsV RX6 40 RX6 yX6_refusalOfPlace wsX6_refusalOfPlace) := goodIn_app (goodIn_of _ (by decide +kernel)) ggX6_add_X6_refusalOfPlace
set_option maxRecDepth 20000 in
theorem ggX6_add_X6_throwIf : GoodIn wsX6_add wsX6_throwIf := goodIn_ca (goodIn_ca (goodIn_ca (goodIn_r _ [20, 21, 22, 23, 24, 25, 26] (by decide +kernel) (by decide +kernel)) (goodIn_sub (fun _ h => List.mem_cons_of_mem _ (List.mem_append_left _ (List.mem_append_left _ (List.mem_append_right _ h)))) (by decide +kernel))) (goodIn_sub (fun _ h => List.mem_cons_of_mem _ (List.mem_append_left _ (List.mem_append_right _ h))) (by decide +kernel))) (goodIn_sub (fun _ h => List.mem_cons_of_mem _ (List.mem_append_right _ h)) (by decide +kernel))
set_option maxRecDepth 20000 in
theorem gX6_add_X6_throwIf : GoodIn wsX6_add (va_wsS RX6 44 yX6_throwIf wsX6_throwIf) := goodIn_app (goodIn_of _ (by decide +kernel)) ggX6_add_X6_throwIf
set_option maxRecDepth 20000 in
theorem ggX6_add_X5_push : GoodIn wsX6_add wsX5_push := goodIn_r _ [31, 32, 33, 34, 35, 36, 37, 38, 39, 40, 41, 42, 43, 44, 45, 46, 47, 48, 49, 50, 51, 52, 149, 150, 151, 140, 141, 142, 143, 144, 145, 146, 147, 148] (by decide +kernel) (by decide +kernel)
set_option maxRecDepth 20000 in
theorem gX6_add_X5_push : GoodIn wsX6_add (wsV RX6 48 RX5 yX5_push wsX5_push) := goodIn_app (goodIn_of _ (by decide +kernel)) ggX6_add_X5_push
set_option maxRecDepth 20000 in
theorem ggX6_add_X6_place : GoodIn wsX6_add wsX6_place := goodIn_r _ [56, 2, 57, 58, 59, 42, 60, 44, 45, 46, 61, 62, 63, 6, 64, 65, 66, 67, 68, 69, 70, 71, 72, 73, 74, 75, 76, 77, 78, 79, 80, 81, 82, 83, 84, 85, 86, 87, 88, 89, 90, 91, 92, 93, 94, 95, 96, 97, 98, 99, 100, 101, 102, 103, 104, 105, 106, 107, 108, 109, 110, 111, 112, 113, 114, 115, 116, 117, 118, 119, 120, 121, 122, 123, 124, 125, 126, 127, 128, 129, 130, 131, 132, 133, 134, 135, 136, 137, 138, 139, 140, 141, 142, 143, 144, 145, 146, 147, 148, 152, 153, 154, 155, 156, 157] (by decide +kernel) (by decide +kernel)
set_option maxRecDepth 20000 in
theorem gX6_add_X6_place : GoodIn wsX6_add (wsV RX6 52 RX6 yX6_place wsX6_place) := goodIn_app (goodIn_of _ (by decide +kernel)) ggX6_add_X6_place
theorem dX6_add_0 : decode cX6_add 0 = .ok (.aload_n 0, 1) := by decide +kernel
theorem dX6_add_1 : decode cX6_add 1 = .ok (.iload_n 1, 1) := by decide +kernel
theorem dX6_add_2 : decode cX6_add 2 = .ok (.iload_n 2, 1) := by decide +kernel
theorem dX6_add_3 : decode cX6_add 3 = .ok (.iload_n 3, 1) := by decide +kernel
theorem dX6_add_4 : decode cX6_add 4 = .ok (.iconst 0, 1) := by decide +kernel
theorem dX6_add_5 : decode cX6_add 5 = .ok (.invokevirtual 40, 3) := by decide +kernel
theorem dX6_add_8 : decode cX6_add 8 = .ok (.invokestatic 44, 3) := by decide +kernel
theorem dX6_add_11 : decode cX6_add 11 = .ok (.aload_n 0, 1) := by decide +kernel
theorem dX6_add_12 : decode cX6_add 12 = .ok (.getfield 19, 3) := by decide +kernel
theorem dX6_add_15 : decode cX6_add 15 = .ok (.aload_n 0, 1) := by decide +kernel
theorem dX6_add_16 : decode cX6_add 16 = .ok (.getfield 10, 3) := by decide +kernel
theorem dX6_add_19 : decode cX6_add 19 = .ok (.invokevirtual 48, 3) := by decide +kernel
theorem dX6_add_22 : decode cX6_add 22 = .ok (.aload_n 0, 1) := by decide +kernel
theorem dX6_add_23 : decode cX6_add 23 = .ok (.iload_n 1, 1) := by decide +kernel
theorem dX6_add_24 : decode cX6_add 24 = .ok (.iload_n 2, 1) := by decide +kernel
theorem dX6_add_25 : decode cX6_add 25 = .ok (.iload_n 3, 1) := by decide +kernel
theorem dX6_add_26 : decode cX6_add 26 = .ok (.invokevirtual 52, 3) := by decide +kernel
theorem dX6_add_29 : decode cX6_add 29 = .ok (.ireturn, 1) := by decide +kernel
set_option maxRecDepth 20000 in
theorem ggX6_move_X6_refusalOfPlace : GoodIn wsX6_move wsX6_refusalOfPlace := goodIn_r _ [7, 2, 8, 9, 10, 6, 11, 12, 13, 14, 15, 16, 17, 135, 136, 137, 138, 139, 140, 141, 142, 143, 144, 145, 146, 147, 148] (by decide +kernel) (by decide +kernel)
set_option maxRecDepth 20000 in
theorem gX6_move_X6_refusalOfPlace : GoodIn wsX6_move (wsV RX6 40 RX6 yX6_refusalOfPlace wsX6_refusalOfPlace) := goodIn_app (goodIn_of _ (by decide +kernel)) ggX6_move_X6_refusalOfPlace
set_option maxRecDepth 20000 in
theorem ggX6_move_X6_throwIf : GoodIn wsX6_move wsX6_throwIf := goodIn_ca (goodIn_ca (goodIn_ca (goodIn_r _ [20, 21, 22, 23, 24, 25, 26] (by decide +kernel) (by decide +kernel)) (goodIn_sub (fun _ h => List.mem_cons_of_mem _ (List.mem_append_left _ (List.mem_append_left _ (List.mem_append_right _ h)))) (by decide +kernel))) (goodIn_sub (fun _ h => List.mem_cons_of_mem _ (List.mem_append_left _ (List.mem_append_right _ h))) (by decide +kernel))) (goodIn_sub (fun _ h => List.mem_cons_of_mem _ (List.mem_append_right _ h)) (by decide +kernel))
set_option maxRecDepth 20000 in
theorem gX6_move_X6_throwIf : GoodIn wsX6_move (va_wsS RX6 44 yX6_throwIf wsX6_throwIf) := goodIn_app (goodIn_of _ (by decide +kernel)) ggX6_move_X6_throwIf
set_option maxRecDepth 20000 in
theorem ggX6_move_X5_push : GoodIn wsX6_move wsX5_push := goodIn_r _ [31, 32, 33, 34, 35, 36, 37, 38, 39, 40, 41, 42, 43, 44, 45, 46, 47, 48, 49, 50, 51, 52, 149, 150, 151, 140, 141, 142, 143, 144, 145, 146, 147, 148] (by decide +kernel) (by decide +kernel)
set_option maxRecDepth 20000 in
theorem gX6_move_X5_push : GoodIn wsX6_move (wsV RX6 48 RX5 yX5_push wsX5_push) := goodIn_app (goodIn_of _ (by decide +kernel)) ggX6_move_X5_push
set_option maxRecDepth 20000 in
theorem ggX6_move_X6_place : GoodIn wsX6_move wsX6_place := goodIn_r _ [56, 2, 57, 58, 59, 42, 60, 44, 45, 46, 61, 62, 63, 6, 64, 65, 66, 67, 68, 69, 70, 71, 72, 73, 74, 75, 76, 77, 78, 79, 80, 81, 82, 83, 84, 85, 86, 87, 88, 89, 90, 91, 92, 93, 94, 95, 96, 97, 98, 99, 100, 101, 102, 103, 104, 105, 106, 107, 108, 109, 110, 111, 112, 113, 114, 115, 116, 117, 118, 119, 120, 121, 122, 123, 124, 125, 126, 127, 128, 129, 130, 131, 132, 133, 134, 135, 136, 137, 138, 139, 140, 141, 142, 143, 144, 145, 146, 147, 148, 152, 153, 154, 155, 156, 157] (by decide +kernel) (by decide +kernel)
set_option maxRecDepth 20000 in
theorem gX6_move_X6_place : GoodIn wsX6_move (wsV RX6 52 RX6 yX6_place wsX6_place) := goodIn_app (goodIn_of _ (by decide +kernel)) ggX6_move_X6_place
theorem dX6_move_0 : decode cX6_move 0 = .ok (.aload_n 0, 1) := by decide +kernel
theorem dX6_move_1 : decode cX6_move 1 = .ok (.iload_n 1, 1) := by decide +kernel
theorem dX6_move_2 : decode cX6_move 2 = .ok (.iload_n 2, 1) := by decide +kernel
theorem dX6_move_3 : decode cX6_move 3 = .ok (.iload_n 3, 1) := by decide +kernel
theorem dX6_move_4 : decode cX6_move 4 = .ok (.iconst 1, 1) := by decide +kernel
theorem dX6_move_5 : decode cX6_move 5 = .ok (.invokevirtual 40, 3) := by decide +kernel
theorem dX6_move_8 : decode cX6_move 8 = .ok (.invokestatic 44, 3) := by decide +kernel
theorem dX6_move_11 : decode cX6_move 11 = .ok (.aload_n 0, 1) := by decide +kernel
theorem dX6_move_12 : decode cX6_move 12 = .ok (.getfield 19, 3) := by decide +kernel
theorem dX6_move_15 : decode cX6_move 15 = .ok (.aload_n 0, 1) := by decide +kernel
theorem dX6_move_16 : decode cX6_move 16 = .ok (.getfield 10, 3) := by decide +kernel
theorem dX6_move_19 : decode cX6_move 19 = .ok (.invokevirtual 48, 3) := by decide +kernel
theorem dX6_move_22 : decode cX6_move 22 = .ok (.aload_n 0, 1) := by decide +kernel
theorem dX6_move_23 : decode cX6_move 23 = .ok (.iload_n 1, 1) := by decide +kernel
theorem dX6_move_24 : decode cX6_move 24 = .ok (.iload_n 2, 1) := by decide +kernel
theorem dX6_move_25 : decode cX6_move 25 = .ok (.iload_n 3, 1) := by decide +kernel
theorem dX6_move_26 : decode cX6_move 26 = .ok (.invokevirtual 52, 3) := by decide +kernel
theorem dX6_move_29 : decode cX6_move 29 = .ok (.ireturn, 1) := by decide +kernel
set_option maxRecDepth 20000 in
theorem ggX6_remove_X6_refusalOfDrop : GoodIn wsX6_remove wsX6_refusalOfDrop := goodIn_r _ [7, 2, 8, 9, 10, 6, 11, 12, 13, 14, 132, 133, 134, 135, 136, 137, 138, 139, 140, 141, 142, 143, 144, 145] (by decide +kernel) (by decide +kernel)
set_option maxRecDepth 20000 in
theorem gX6_remove_X6_refusalOfDrop : GoodIn wsX6_remove (wsV RX6 56 RX6 yX6_refusalOfDrop wsX6_refusalOfDrop) := goodIn_app (goodIn_of _ (by decide +kernel)) ggX6_remove_X6_refusalOfDrop
set_option maxRecDepth 20000 in
theorem ggX6_remove_X6_throwIf : GoodIn wsX6_remove wsX6_throwIf := goodIn_ca (goodIn_ca (goodIn_ca (goodIn_r _ [17, 18, 19, 20, 21, 22, 23] (by decide +kernel) (by decide +kernel)) (goodIn_sub (fun _ h => List.mem_cons_of_mem _ (List.mem_append_left _ (List.mem_append_left _ (List.mem_append_right _ h)))) (by decide +kernel))) (goodIn_sub (fun _ h => List.mem_cons_of_mem _ (List.mem_append_left _ (List.mem_append_right _ h))) (by decide +kernel))) (goodIn_sub (fun _ h => List.mem_cons_of_mem _ (List.mem_append_right _ h)) (by decide +kernel))
set_option maxRecDepth 20000 in
theorem gX6_remove_X6_throwIf : GoodIn wsX6_remove (va_wsS RX6 44 yX6_throwIf wsX6_throwIf) := goodIn_app (goodIn_of _ (by decide +kernel)) ggX6_remove_X6_throwIf
set_option maxRecDepth 20000 in
theorem ggX6_remove_X5_push : GoodIn wsX6_remove wsX5_push := goodIn_r _ [28, 29, 30, 31, 32, 33, 34, 35, 36, 37, 38, 39, 40, 41, 42, 43, 44, 45, 46, 47, 48, 49, 146, 147, 148, 137, 138, 139, 140, 141, 142, 143, 144, 145] (by decide +kernel) (by decide +kernel)
set_option maxRecDepth 20000 in
theorem gX6_remove_X5_push : GoodIn wsX6_remove (wsV RX6 48 RX5 yX5_push wsX5_push) := goodIn_app (goodIn_of _ (by decide +kernel)) ggX6_remove_X5_push
set_option maxRecDepth 20000 in
theorem ggX6_remove_X6_takeOut : GoodIn wsX6_remove wsX6_takeOut := goodIn_r _ [53, 2, 54, 55, 56, 39, 57, 41, 42, 43, 44, 45, 58, 59, 60, 6, 61, 62, 63, 64, 65, 66, 67, 68, 69, 70, 71, 72, 73, 74, 75, 76, 77, 78, 79, 80, 81, 82, 83, 84, 85, 86, 87, 88, 89, 90, 91, 92, 93, 94, 95, 96, 97, 98, 99, 100, 101, 102, 103, 104, 105, 106, 107, 108, 109, 110, 111, 112, 113, 114, 115, 116, 117, 118, 119, 120, 121, 122, 123, 124, 125, 126, 127, 128, 129, 130, 131, 132, 133, 134, 135, 136, 137, 138, 139, 140, 141, 142, 143, 144, 145, 149, 150, 151, 152, 153, 154] (by decide +kernel) (by decide +kernel)
set_option maxRecDepth 20000 in
theorem gX6_remove_X6_takeOut : GoodIn wsX6_remove (wsV RX6 60 RX6 yX6_takeOut wsX6_takeOut) := goodIn_app (goodIn_of _ (by decide +kernel)) ggX6_remove_X6_takeOut
theorem dX6_remove_0 : decode cX6_remove 0 = .ok (.aload_n 0, 1) := by decide +kernel
theorem dX6_remove_1 : decode cX6_remove 1 = .ok (.iload_n 1, 1) := by decide +kernel
theorem dX6_remove_2 : decode cX6_remove 2 = .ok (.invokevirtual 56, 3) := by decide +kernel
theorem dX6_remove_5 : decode cX6_remove 5 = .ok (.invokestatic 44, 3) := by decide +kernel
theorem dX6_remove_8 : decode cX6_remove 8 = .ok (.aload_n 0, 1) := by decide +kernel
theorem dX6_remove_9 : decode cX6_remove 9 = .ok (.getfield 19, 3) := by decide +kernel
theorem dX6_remove_12 : decode cX6_remove 12 = .ok (.aload_n 0, 1) := by decide +kernel
theorem dX6_remove_13 : decode cX6_remove 13 = .ok (.getfield 10, 3) := by decide +kernel
theorem dX6_remove_16 : decode cX6_remove 16 = .ok (.invokevirtual 48, 3) := by decide +kernel
theorem dX6_remove_19 : decode cX6_remove 19 = .ok (.aload_n 0, 1) := by decide +kernel
theorem dX6_remove_20 : decode cX6_remove 20 = .ok (.iload_n 1, 1) := by decide +kernel
theorem dX6_remove_21 : decode cX6_remove 21 = .ok (.invokevirtual 60, 3) := by decide +kernel
theorem dX6_remove_24 : decode cX6_remove 24 = .ok (.ireturn, 1) := by decide +kernel
set_option maxRecDepth 20000 in
theorem ggX6_setVelocity_X6_refusalOfSpeed : GoodIn wsX6_setVelocity wsX6_refusalOfSpeed := goodIn_r _ [13, 2, 14, 15, 16, 12, 17, 18, 19, 20, 59, 60, 61, 62, 63, 64, 65, 66, 67, 68, 69, 70, 71, 72] (by decide +kernel) (by decide +kernel)
set_option maxRecDepth 20000 in
theorem gX6_setVelocity_X6_refusalOfSpeed : GoodIn wsX6_setVelocity (wsV RX6 63 RX6 yX6_refusalOfSpeed wsX6_refusalOfSpeed) := goodIn_app (goodIn_of _ (by decide +kernel)) ggX6_setVelocity_X6_refusalOfSpeed
set_option maxRecDepth 20000 in
theorem ggX6_setVelocity_X6_throwIf : GoodIn wsX6_setVelocity wsX6_throwIf := goodIn_ca (goodIn_ca (goodIn_ca (goodIn_r _ [23, 24, 25, 26, 27, 28, 29] (by decide +kernel) (by decide +kernel)) (goodIn_sub (fun _ h => List.mem_cons_of_mem _ (List.mem_append_left _ (List.mem_append_left _ (List.mem_append_right _ h)))) (by decide +kernel))) (goodIn_sub (fun _ h => List.mem_cons_of_mem _ (List.mem_append_left _ (List.mem_append_right _ h))) (by decide +kernel))) (goodIn_sub (fun _ h => List.mem_cons_of_mem _ (List.mem_append_right _ h)) (by decide +kernel))
set_option maxRecDepth 20000 in
theorem gX6_setVelocity_X6_throwIf : GoodIn wsX6_setVelocity (va_wsS RX6 44 yX6_throwIf wsX6_throwIf) := goodIn_app (goodIn_of _ (by decide +kernel)) ggX6_setVelocity_X6_throwIf
set_option maxRecDepth 20000 in
theorem ggX6_setVelocity_X5_push : GoodIn wsX6_setVelocity wsX5_push := goodIn_r _ [34, 35, 36, 37, 38, 39, 6, 40, 41, 42, 43, 44, 45, 46, 47, 48, 49, 50, 51, 52, 53, 54, 73, 74, 75, 64, 65, 66, 67, 68, 69, 70, 71, 72] (by decide +kernel) (by decide +kernel)
set_option maxRecDepth 20000 in
theorem gX6_setVelocity_X5_push : GoodIn wsX6_setVelocity (wsV RX6 48 RX5 yX5_push wsX5_push) := goodIn_app (goodIn_of _ (by decide +kernel)) ggX6_setVelocity_X5_push
set_option maxRecDepth 20000 in
theorem ggX6_setVelocity_X6_setSpeed : GoodIn wsX6_setVelocity wsX6_setSpeed := goodIn_r _ [58, 2, 3, 8, 59, 60, 61, 62, 63, 64, 65, 66, 67, 68, 69, 70, 71, 72] (by decide +kernel) (by decide +kernel)
set_option maxRecDepth 20000 in
theorem gX6_setVelocity_X6_setSpeed : GoodIn wsX6_setVelocity (wsV RX6 78 RX6 yX6_setSpeed wsX6_setSpeed) := goodIn_app (goodIn_of _ (by decide +kernel)) ggX6_setVelocity_X6_setSpeed
theorem dX6_setVelocity_0 : decode cX6_setVelocity 0 = .ok (.aload_n 0, 1) := by decide +kernel
theorem dX6_setVelocity_1 : decode cX6_setVelocity 1 = .ok (.iload_n 1, 1) := by decide +kernel
theorem dX6_setVelocity_2 : decode cX6_setVelocity 2 = .ok (.iload_n 2, 1) := by decide +kernel
theorem dX6_setVelocity_3 : decode cX6_setVelocity 3 = .ok (.iload_n 3, 1) := by decide +kernel
theorem dX6_setVelocity_4 : decode cX6_setVelocity 4 = .ok (.invokevirtual 63, 3) := by decide +kernel
theorem dX6_setVelocity_7 : decode cX6_setVelocity 7 = .ok (.invokestatic 44, 3) := by decide +kernel
theorem dX6_setVelocity_10 : decode cX6_setVelocity 10 = .ok (.aload_n 0, 1) := by decide +kernel
theorem dX6_setVelocity_11 : decode cX6_setVelocity 11 = .ok (.getfield 19, 3) := by decide +kernel
theorem dX6_setVelocity_14 : decode cX6_setVelocity 14 = .ok (.aload_n 0, 1) := by decide +kernel
theorem dX6_setVelocity_15 : decode cX6_setVelocity 15 = .ok (.getfield 10, 3) := by decide +kernel
theorem dX6_setVelocity_18 : decode cX6_setVelocity 18 = .ok (.invokevirtual 48, 3) := by decide +kernel
theorem dX6_setVelocity_21 : decode cX6_setVelocity 21 = .ok (.bipush 10, 2) := by decide +kernel
theorem dX6_setVelocity_23 : decode cX6_setVelocity 23 = .ok (.aload_n 0, 1) := by decide +kernel
theorem dX6_setVelocity_24 : decode cX6_setVelocity 24 = .ok (.getfield 10, 3) := by decide +kernel
theorem dX6_setVelocity_27 : decode cX6_setVelocity 27 = .ok (.getfield 66, 3) := by decide +kernel
theorem dX6_setVelocity_30 : decode cX6_setVelocity 30 = .ok (.iload_n 1, 1) := by decide +kernel
theorem dX6_setVelocity_31 : decode cX6_setVelocity 31 = .ok (.iaload, 1) := by decide +kernel
theorem dX6_setVelocity_32 : decode cX6_setVelocity 32 = .ok (.invokestatic 70, 3) := by decide +kernel
theorem dX6_setVelocity_35 : decode cX6_setVelocity 35 = .ok (.imul, 1) := by decide +kernel
theorem dX6_setVelocity_36 : decode cX6_setVelocity 36 = .ok (.aload_n 0, 1) := by decide +kernel
theorem dX6_setVelocity_37 : decode cX6_setVelocity 37 = .ok (.getfield 10, 3) := by decide +kernel
theorem dX6_setVelocity_40 : decode cX6_setVelocity 40 = .ok (.getfield 75, 3) := by decide +kernel
theorem dX6_setVelocity_43 : decode cX6_setVelocity 43 = .ok (.iload_n 1, 1) := by decide +kernel
theorem dX6_setVelocity_44 : decode cX6_setVelocity 44 = .ok (.iaload, 1) := by decide +kernel
theorem dX6_setVelocity_45 : decode cX6_setVelocity 45 = .ok (.invokestatic 70, 3) := by decide +kernel
theorem dX6_setVelocity_48 : decode cX6_setVelocity 48 = .ok (.iadd, 1) := by decide +kernel
theorem dX6_setVelocity_49 : decode cX6_setVelocity 49 = .ok (.istore 4, 2) := by decide +kernel
theorem dX6_setVelocity_51 : decode cX6_setVelocity 51 = .ok (.aload_n 0, 1) := by decide +kernel
theorem dX6_setVelocity_52 : decode cX6_setVelocity 52 = .ok (.iload_n 1, 1) := by decide +kernel
theorem dX6_setVelocity_53 : decode cX6_setVelocity 53 = .ok (.iload_n 2, 1) := by decide +kernel
theorem dX6_setVelocity_54 : decode cX6_setVelocity 54 = .ok (.iload_n 3, 1) := by decide +kernel
theorem dX6_setVelocity_55 : decode cX6_setVelocity 55 = .ok (.invokevirtual 78, 3) := by decide +kernel
theorem dX6_setVelocity_58 : decode cX6_setVelocity 58 = .ok (.iload 4, 2) := by decide +kernel
theorem dX6_setVelocity_60 : decode cX6_setVelocity 60 = .ok (.ireturn, 1) := by decide +kernel
set_option maxRecDepth 20000 in
theorem ggX6_tick_X6_refusalOfTicks : GoodIn wsX6_tick wsX6_refusalOfTicks := goodIn_r _ [6, 7, 8, 5, 9] (by decide +kernel) (by decide +kernel)
set_option maxRecDepth 20000 in
theorem gX6_tick_X6_refusalOfTicks : GoodIn wsX6_tick (va_wsS RX6 82 yX6_refusalOfTicks wsX6_refusalOfTicks) := goodIn_app (goodIn_of _ (by decide +kernel)) ggX6_tick_X6_refusalOfTicks
set_option maxRecDepth 20000 in
theorem ggX6_tick_X6_throwIf : GoodIn wsX6_tick wsX6_throwIf := goodIn_ca (goodIn_ca (goodIn_ca (goodIn_r _ [12, 13, 14, 15, 16, 17, 18] (by decide +kernel) (by decide +kernel)) (goodIn_sub (fun _ h => List.mem_cons_of_mem _ (List.mem_append_left _ (List.mem_append_left _ (List.mem_append_right _ h)))) (by decide +kernel))) (goodIn_sub (fun _ h => List.mem_cons_of_mem _ (List.mem_append_left _ (List.mem_append_right _ h))) (by decide +kernel))) (goodIn_sub (fun _ h => List.mem_cons_of_mem _ (List.mem_append_right _ h)) (by decide +kernel))
set_option maxRecDepth 20000 in
theorem gX6_tick_X6_throwIf : GoodIn wsX6_tick (va_wsS RX6 44 yX6_throwIf wsX6_throwIf) := goodIn_app (goodIn_of _ (by decide +kernel)) ggX6_tick_X6_throwIf
set_option maxRecDepth 20000 in
theorem ggX6_tick_X5_push : GoodIn wsX6_tick wsX5_push := goodIn_r _ [23, 24, 25, 26, 27, 28, 29, 30, 31, 32, 33, 34, 35, 36, 37, 38, 39, 40, 41, 42, 43, 44, 135, 136, 137, 138, 139, 140, 141, 142, 143, 144, 145, 146] (by decide +kernel) (by decide +kernel)
set_option maxRecDepth 20000 in
theorem gX6_tick_X5_push : GoodIn wsX6_tick (wsV RX6 48 RX5 yX5_push wsX5_push) := goodIn_app (goodIn_of _ (by decide +kernel)) ggX6_tick_X5_push
set_option maxRecDepth 20000 in
theorem ggX6_tick_X6_letPass : GoodIn wsX6_tick wsX6_letPass := goodIn_r _ [48, 2, 49, 50, 51, 34, 52, 37, 39, 38, 40, 44, 53, 54, 55, 56, 57, 58, 5, 59, 60, 61, 62, 63, 64, 65, 66, 67, 68, 69, 70, 71, 72, 73, 74, 75, 76, 77, 78, 79, 80, 81, 82, 83, 84, 85, 86, 87, 88, 89, 90, 91, 92, 93, 94, 95, 96, 97, 98, 99, 100, 101, 102, 103, 104, 105, 106, 107, 108, 109, 110, 111, 112, 113, 114, 115, 116, 117, 118, 119, 120, 121, 122, 123, 124, 125, 126, 127, 128, 129, 130, 131, 132, 133, 134, 138, 139, 140, 141, 142, 143, 144, 145, 146, 147, 148, 149, 150, 151, 152] (by decide +kernel) (by decide +kernel)
set_option maxRecDepth 20000 in
theorem gX6_tick_X6_letPass : GoodIn wsX6_tick (wsV RX6 85 RX6 yX6_letPass wsX6_letPass) := goodIn_app (goodIn_of _ (by decide +kernel)) ggX6_tick_X6_letPass
theorem dX6_tick_0 : decode cX6_tick 0 = .ok (.iload_n 1, 1) := by decide +kernel
theorem dX6_tick_1 : decode cX6_tick 1 = .ok (.invokestatic 82, 3) := by decide +kernel
theorem dX6_tick_4 : decode cX6_tick 4 = .ok (.invokestatic 44, 3) := by decide +kernel
theorem dX6_tick_7 : decode cX6_tick 7 = .ok (.aload_n 0, 1) := by decide +kernel
theorem dX6_tick_8 : decode cX6_tick 8 = .ok (.getfield 19, 3) := by decide +kernel
theorem dX6_tick_11 : decode cX6_tick 11 = .ok (.aload_n 0, 1) := by decide +kernel
theorem dX6_tick_12 : decode cX6_tick 12 = .ok (.getfield 10, 3) := by decide +kernel
theorem dX6_tick_15 : decode cX6_tick 15 = .ok (.invokevirtual 48, 3) := by decide +kernel
theorem dX6_tick_18 : decode cX6_tick 18 = .ok (.aload_n 0, 1) := by decide +kernel
theorem dX6_tick_19 : decode cX6_tick 19 = .ok (.iload_n 1, 1) := by decide +kernel
theorem dX6_tick_20 : decode cX6_tick 20 = .ok (.invokevirtual 85, 3) := by decide +kernel
theorem dX6_tick_23 : decode cX6_tick 23 = .ok (.ireturn, 1) := by decide +kernel
set_option maxRecDepth 20000 in
theorem ggX6_scatter_X6_refusalOfScatter : GoodIn wsX6_scatter wsX6_refusalOfScatter := goodIn_r _ [6, 7, 8, 9, 5, 10, 11, 12, 13] (by decide +kernel) (by decide +kernel)
set_option maxRecDepth 20000 in
theorem gX6_scatter_X6_refusalOfScatter : GoodIn wsX6_scatter (va_wsS RX6 88 yX6_refusalOfScatter wsX6_refusalOfScatter) := goodIn_app (goodIn_of _ (by decide +kernel)) ggX6_scatter_X6_refusalOfScatter
set_option maxRecDepth 20000 in
theorem ggX6_scatter_X6_throwIf : GoodIn wsX6_scatter wsX6_throwIf := goodIn_ca (goodIn_ca (goodIn_ca (goodIn_r _ [16, 17, 18, 19, 20, 21, 22] (by decide +kernel) (by decide +kernel)) (goodIn_sub (fun _ h => List.mem_cons_of_mem _ (List.mem_append_left _ (List.mem_append_left _ (List.mem_append_right _ h)))) (by decide +kernel))) (goodIn_sub (fun _ h => List.mem_cons_of_mem _ (List.mem_append_left _ (List.mem_append_right _ h))) (by decide +kernel))) (goodIn_sub (fun _ h => List.mem_cons_of_mem _ (List.mem_append_right _ h)) (by decide +kernel))
set_option maxRecDepth 20000 in
theorem gX6_scatter_X6_throwIf : GoodIn wsX6_scatter (va_wsS RX6 44 yX6_throwIf wsX6_throwIf) := goodIn_app (goodIn_of _ (by decide +kernel)) ggX6_scatter_X6_throwIf
set_option maxRecDepth 20000 in
theorem ggX6_scatter_X5_push : GoodIn wsX6_scatter wsX5_push := goodIn_r _ [27, 28, 29, 30, 31, 32, 33, 34, 35, 36, 37, 38, 39, 40, 41, 42, 43, 44, 45, 46, 47, 48, 146, 147, 148, 149, 150, 151, 152, 153, 154, 155, 156, 157] (by decide +kernel) (by decide +kernel)
set_option maxRecDepth 20000 in
theorem gX6_scatter_X5_push : GoodIn wsX6_scatter (wsV RX6 48 RX5 yX5_push wsX5_push) := goodIn_app (goodIn_of _ (by decide +kernel)) ggX6_scatter_X5_push
set_option maxRecDepth 20000 in
theorem ggX6_scatter_X6_nextRandom : GoodIn wsX6_scatter wsX6_nextRandom := goodIn_r _ [51, 52, 53, 54] (by decide +kernel) (by decide +kernel)
set_option maxRecDepth 20000 in
theorem gX6_scatter_X6_nextRandom : GoodIn wsX6_scatter (va_wsS RX6 92 yX6_nextRandom wsX6_nextRandom) := goodIn_app (goodIn_of _ (by decide +kernel)) ggX6_scatter_X6_nextRandom
set_option maxRecDepth 20000 in
theorem ggX6_scatter_X6_placeIn : GoodIn wsX6_scatter wsX6_placeIn := goodIn_r _ [57, 58] (by decide +kernel) (by decide +kernel)
set_option maxRecDepth 20000 in
theorem gX6_scatter_X6_placeIn : GoodIn wsX6_scatter (va_wsS RX6 96 yX6_placeIn wsX6_placeIn) := goodIn_app (goodIn_of _ (by decide +kernel)) ggX6_scatter_X6_placeIn
set_option maxRecDepth 20000 in
theorem ggX6_scatter_X4_put : GoodIn wsX6_scatter wsX4_put := goodIn_r _ [62, 40, 41, 42, 149, 150, 151, 152, 153, 154, 155, 156, 157] (by decide +kernel) (by decide +kernel)
set_option maxRecDepth 20000 in
theorem gX6_scatter_X4_put : GoodIn wsX6_scatter (wsV RX6 100 RX4 yX4_put wsX4_put) := goodIn_app (goodIn_of _ (by decide +kernel)) ggX6_scatter_X4_put
set_option maxRecDepth 20000 in
theorem ggX6_scatter_X6_settle : GoodIn wsX6_scatter wsX6_settle := goodIn_r _ [66, 67, 2, 68, 69, 70, 71, 72, 73, 74, 75, 76, 77, 78, 79, 80, 81, 82, 83, 84, 85, 86, 87, 88, 89, 90, 91, 92, 93, 94, 95, 96, 97, 98, 99, 100, 101, 102, 5, 103, 104, 105, 106, 107, 108, 109, 110, 111, 112, 113, 114, 115, 116, 117, 118, 119, 120, 121, 122, 123, 124, 125, 126, 127, 128, 129, 130, 131, 132, 133, 134, 135, 136, 141, 142, 143, 144, 145, 158, 159, 149, 150, 151, 152, 153, 154, 155, 156, 157, 160, 161, 162, 163] (by decide +kernel) (by decide +kernel)
set_option maxRecDepth 20000 in
theorem gX6_scatter_X6_settle : GoodIn wsX6_scatter (wsV RX6 103 RX6 yX6_settle wsX6_settle) := goodIn_app (goodIn_of _ (by decide +kernel)) ggX6_scatter_X6_settle
set_option maxRecDepth 20000 in
theorem ggX6_scatter_X4_count : GoodIn wsX6_scatter wsX4_count := goodIn_r _ [140, 40, 149, 150, 151, 152, 153, 154, 155, 156, 157] (by decide +kernel) (by decide +kernel)
set_option maxRecDepth 20000 in
theorem gX6_scatter_X4_count : GoodIn wsX6_scatter (wsV RX6 107 RX4 yX4_count wsX4_count) := goodIn_app (goodIn_of _ (by decide +kernel)) ggX6_scatter_X4_count
theorem dX6_scatter_0 : decode cX6_scatter 0 = .ok (.iload_n 1, 1) := by decide +kernel
theorem dX6_scatter_1 : decode cX6_scatter 1 = .ok (.iload_n 2, 1) := by decide +kernel
theorem dX6_scatter_2 : decode cX6_scatter 2 = .ok (.iload_n 3, 1) := by decide +kernel
theorem dX6_scatter_3 : decode cX6_scatter 3 = .ok (.iload 4, 2) := by decide +kernel
theorem dX6_scatter_5 : decode cX6_scatter 5 = .ok (.invokestatic 88, 3) := by decide +kernel
theorem dX6_scatter_8 : decode cX6_scatter 8 = .ok (.invokestatic 44, 3) := by decide +kernel
theorem dX6_scatter_11 : decode cX6_scatter 11 = .ok (.aload_n 0, 1) := by decide +kernel
theorem dX6_scatter_12 : decode cX6_scatter 12 = .ok (.getfield 19, 3) := by decide +kernel
theorem dX6_scatter_15 : decode cX6_scatter 15 = .ok (.aload_n 0, 1) := by decide +kernel
theorem dX6_scatter_16 : decode cX6_scatter 16 = .ok (.getfield 10, 3) := by decide +kernel
theorem dX6_scatter_19 : decode cX6_scatter 19 = .ok (.invokevirtual 48, 3) := by decide +kernel
theorem dX6_scatter_22 : decode cX6_scatter 22 = .ok (.iload 4, 2) := by decide +kernel
theorem dX6_scatter_24 : decode cX6_scatter 24 = .ok (.i2l, 1) := by decide +kernel
theorem dX6_scatter_25 : decode cX6_scatter 25 = .ok (.lstore 5, 2) := by decide +kernel
theorem dX6_scatter_27 : decode cX6_scatter 27 = .ok (.iload_n 1, 1) := by decide +kernel
theorem dX6_scatter_28 : decode cX6_scatter 28 = .ok (.istore 7, 2) := by decide +kernel
theorem dX6_scatter_30 : decode cX6_scatter 30 = .ok (.iload 7, 2) := by decide +kernel
theorem dX6_scatter_32 : decode cX6_scatter 32 = .ok (.iload_n 1, 1) := by decide +kernel
theorem dX6_scatter_33 : decode cX6_scatter 33 = .ok (.iload_n 2, 1) := by decide +kernel
theorem dX6_scatter_34 : decode cX6_scatter 34 = .ok (.iadd, 1) := by decide +kernel
theorem dX6_scatter_35 : decode cX6_scatter 35 = .ok (.if_icmp .ge 48, 3) := by decide +kernel
theorem dX6_scatter_38 : decode cX6_scatter 38 = .ok (.lload 5, 2) := by decide +kernel
theorem dX6_scatter_40 : decode cX6_scatter 40 = .ok (.invokestatic 92, 3) := by decide +kernel
theorem dX6_scatter_43 : decode cX6_scatter 43 = .ok (.lstore 5, 2) := by decide +kernel
theorem dX6_scatter_45 : decode cX6_scatter 45 = .ok (.lload 5, 2) := by decide +kernel
theorem dX6_scatter_47 : decode cX6_scatter 47 = .ok (.iload_n 3, 1) := by decide +kernel
theorem dX6_scatter_48 : decode cX6_scatter 48 = .ok (.invokestatic 96, 3) := by decide +kernel
theorem dX6_scatter_51 : decode cX6_scatter 51 = .ok (.istore 8, 2) := by decide +kernel
theorem dX6_scatter_53 : decode cX6_scatter 53 = .ok (.lload 5, 2) := by decide +kernel
theorem dX6_scatter_55 : decode cX6_scatter 55 = .ok (.invokestatic 92, 3) := by decide +kernel
theorem dX6_scatter_58 : decode cX6_scatter 58 = .ok (.lstore 5, 2) := by decide +kernel
theorem dX6_scatter_60 : decode cX6_scatter 60 = .ok (.aload_n 0, 1) := by decide +kernel
theorem dX6_scatter_61 : decode cX6_scatter 61 = .ok (.getfield 10, 3) := by decide +kernel
theorem dX6_scatter_64 : decode cX6_scatter 64 = .ok (.iload 7, 2) := by decide +kernel
theorem dX6_scatter_66 : decode cX6_scatter 66 = .ok (.iload 8, 2) := by decide +kernel
theorem dX6_scatter_68 : decode cX6_scatter 68 = .ok (.lload 5, 2) := by decide +kernel
theorem dX6_scatter_70 : decode cX6_scatter 70 = .ok (.iload_n 3, 1) := by decide +kernel
theorem dX6_scatter_71 : decode cX6_scatter 71 = .ok (.invokestatic 96, 3) := by decide +kernel
theorem dX6_scatter_74 : decode cX6_scatter 74 = .ok (.invokevirtual 100, 3) := by decide +kernel
theorem dX6_scatter_77 : decode cX6_scatter 77 = .ok (.iinc 7 1, 3) := by decide +kernel
theorem dX6_scatter_80 : decode cX6_scatter 80 = .ok (.goto (-50), 3) := by decide +kernel
theorem dX6_scatter_83 : decode cX6_scatter 83 = .ok (.aload_n 0, 1) := by decide +kernel
theorem dX6_scatter_84 : decode cX6_scatter 84 = .ok (.invokevirtual 103, 3) := by decide +kernel
theorem dX6_scatter_87 : decode cX6_scatter 87 = .ok (.pop, 1) := by decide +kernel
theorem dX6_scatter_88 : decode cX6_scatter 88 = .ok (.aload_n 0, 1) := by decide +kernel
theorem dX6_scatter_89 : decode cX6_scatter 89 = .ok (.getfield 10, 3) := by decide +kernel
theorem dX6_scatter_92 : decode cX6_scatter 92 = .ok (.invokevirtual 107, 3) := by decide +kernel
theorem dX6_scatter_95 : decode cX6_scatter 95 = .ok (.ireturn, 1) := by decide +kernel
set_option maxRecDepth 20000 in
theorem ggX6_point_X6_refusalOfValue : GoodIn wsX6_point wsX6_refusalOfValue := goodIn_r _ [10, 11, 12, 9, 13] (by decide +kernel) (by decide +kernel)
set_option maxRecDepth 20000 in
theorem gX6_point_X6_refusalOfValue : GoodIn wsX6_point (va_wsS RX6 110 yX6_refusalOfValue wsX6_refusalOfValue) := goodIn_app (goodIn_of _ (by decide +kernel)) ggX6_point_X6_refusalOfValue
set_option maxRecDepth 20000 in
theorem ggX6_point_X6_throwIf : GoodIn wsX6_point wsX6_throwIf := goodIn_ca (goodIn_ca (goodIn_ca (goodIn_r _ [16, 17, 18, 19, 20, 21, 22] (by decide +kernel) (by decide +kernel)) (goodIn_sub (fun _ h => List.mem_cons_of_mem _ (List.mem_append_left _ (List.mem_append_left _ (List.mem_append_right _ h)))) (by decide +kernel))) (goodIn_sub (fun _ h => List.mem_cons_of_mem _ (List.mem_append_left _ (List.mem_append_right _ h))) (by decide +kernel))) (goodIn_sub (fun _ h => List.mem_cons_of_mem _ (List.mem_append_right _ h)) (by decide +kernel))
set_option maxRecDepth 20000 in
theorem gX6_point_X6_throwIf : GoodIn wsX6_point (va_wsS RX6 44 yX6_throwIf wsX6_throwIf) := goodIn_app (goodIn_of _ (by decide +kernel)) ggX6_point_X6_throwIf
set_option maxRecDepth 20000 in
theorem ggX6_point_X6_heightOf : GoodIn wsX6_point wsX6_heightOf := goodIn_r _ [25] (by decide +kernel) (by decide +kernel)
set_option maxRecDepth 20000 in
theorem gX6_point_X6_heightOf : GoodIn wsX6_point (va_wsS RX6 123 yX6_heightOf wsX6_heightOf) := goodIn_app (goodIn_of _ (by decide +kernel)) ggX6_point_X6_heightOf
theorem dX6_point_0 : decode cX6_point 0 = .ok (.iload_n 1, 1) := by decide +kernel
theorem dX6_point_1 : decode cX6_point 1 = .ok (.bipush 24, 2) := by decide +kernel
theorem dX6_point_3 : decode cX6_point 3 = .ok (.iload_n 2, 1) := by decide +kernel
theorem dX6_point_4 : decode cX6_point 4 = .ok (.iconst 5, 1) := by decide +kernel
theorem dX6_point_5 : decode cX6_point 5 = .ok (.invokestatic 110, 3) := by decide +kernel
theorem dX6_point_8 : decode cX6_point 8 = .ok (.invokestatic 44, 3) := by decide +kernel
theorem dX6_point_11 : decode cX6_point 11 = .ok (.iload_n 2, 1) := by decide +kernel
theorem dX6_point_12 : decode cX6_point 12 = .ok (.tableswitch 94 0 4 #[36, 54, 64, 74, 84], 36) := by decide +kernel
theorem dX6_point_48 : decode cX6_point 48 = .ok (.aload_n 0, 1) := by decide +kernel
theorem dX6_point_49 : decode cX6_point 49 = .ok (.getfield 10, 3) := by decide +kernel
theorem dX6_point_52 : decode cX6_point 52 = .ok (.getfield 113, 3) := by decide +kernel
theorem dX6_point_55 : decode cX6_point 55 = .ok (.iload_n 1, 1) := by decide +kernel
theorem dX6_point_56 : decode cX6_point 56 = .ok (.baload, 1) := by decide +kernel
theorem dX6_point_57 : decode cX6_point 57 = .ok (.ifCond .eq 7, 3) := by decide +kernel
theorem dX6_point_60 : decode cX6_point 60 = .ok (.iconst 1, 1) := by decide +kernel
theorem dX6_point_61 : decode cX6_point 61 = .ok (.goto 4, 3) := by decide +kernel
theorem dX6_point_64 : decode cX6_point 64 = .ok (.iconst 0, 1) := by decide +kernel
theorem dX6_point_65 : decode cX6_point 65 = .ok (.ireturn, 1) := by decide +kernel
theorem dX6_point_66 : decode cX6_point 66 = .ok (.aload_n 0, 1) := by decide +kernel
theorem dX6_point_67 : decode cX6_point 67 = .ok (.getfield 10, 3) := by decide +kernel
theorem dX6_point_70 : decode cX6_point 70 = .ok (.getfield 117, 3) := by decide +kernel
theorem dX6_point_73 : decode cX6_point 73 = .ok (.iload_n 1, 1) := by decide +kernel
theorem dX6_point_74 : decode cX6_point 74 = .ok (.iaload, 1) := by decide +kernel
theorem dX6_point_75 : decode cX6_point 75 = .ok (.ireturn, 1) := by decide +kernel
theorem dX6_point_76 : decode cX6_point 76 = .ok (.aload_n 0, 1) := by decide +kernel
theorem dX6_point_77 : decode cX6_point 77 = .ok (.getfield 10, 3) := by decide +kernel
theorem dX6_point_80 : decode cX6_point 80 = .ok (.getfield 120, 3) := by decide +kernel
theorem dX6_point_83 : decode cX6_point 83 = .ok (.iload_n 1, 1) := by decide +kernel
theorem dX6_point_84 : decode cX6_point 84 = .ok (.iaload, 1) := by decide +kernel
theorem dX6_point_85 : decode cX6_point 85 = .ok (.ireturn, 1) := by decide +kernel
theorem dX6_point_86 : decode cX6_point 86 = .ok (.aload_n 0, 1) := by decide +kernel
theorem dX6_point_87 : decode cX6_point 87 = .ok (.getfield 10, 3) := by decide +kernel
theorem dX6_point_90 : decode cX6_point 90 = .ok (.getfield 66, 3) := by decide +kernel
theorem dX6_point_93 : decode cX6_point 93 = .ok (.iload_n 1, 1) := by decide +kernel
theorem dX6_point_94 : decode cX6_point 94 = .ok (.iaload, 1) := by decide +kernel
theorem dX6_point_95 : decode cX6_point 95 = .ok (.ireturn, 1) := by decide +kernel
theorem dX6_point_96 : decode cX6_point 96 = .ok (.aload_n 0, 1) := by decide +kernel
theorem dX6_point_97 : decode cX6_point 97 = .ok (.getfield 10, 3) := by decide +kernel
theorem dX6_point_100 : decode cX6_point 100 = .ok (.getfield 75, 3) := by decide +kernel
theorem dX6_point_103 : decode cX6_point 103 = .ok (.iload_n 1, 1) := by decide +kernel
theorem dX6_point_104 : decode cX6_point 104 = .ok (.iaload, 1) := by decide +kernel
theorem dX6_point_105 : decode cX6_point 105 = .ok (.ireturn, 1) := by decide +kernel
theorem dX6_point_106 : decode cX6_point 106 = .ok (.iload_n 1, 1) := by decide +kernel
theorem dX6_point_107 : decode cX6_point 107 = .ok (.invokestatic 123, 3) := by decide +kernel
theorem dX6_point_110 : decode cX6_point 110 = .ok (.ireturn, 1) := by decide +kernel
set_option maxRecDepth 20000 in
theorem ggX6_level_X6_refusalOfValue : GoodIn wsX6_level wsX6_refusalOfValue := goodIn_r _ [8, 9, 10, 7, 11] (by decide +kernel) (by decide +kernel)
set_option maxRecDepth 20000 in
theorem gX6_level_X6_refusalOfValue : GoodIn wsX6_level (va_wsS RX6 110 yX6_refusalOfValue wsX6_refusalOfValue) := goodIn_app (goodIn_of _ (by decide +kernel)) ggX6_level_X6_refusalOfValue
set_option maxRecDepth 20000 in
theorem ggX6_level_X6_throwIf : GoodIn wsX6_level wsX6_throwIf := goodIn_ca (goodIn_ca (goodIn_ca (goodIn_r _ [14, 15, 16, 17, 18, 19, 20] (by decide +kernel) (by decide +kernel)) (goodIn_sub (fun _ h => List.mem_cons_of_mem _ (List.mem_append_left _ (List.mem_append_left _ (List.mem_append_right _ h)))) (by decide +kernel))) (goodIn_sub (fun _ h => List.mem_cons_of_mem _ (List.mem_append_left _ (List.mem_append_right _ h))) (by decide +kernel))) (goodIn_sub (fun _ h => List.mem_cons_of_mem _ (List.mem_append_right _ h)) (by decide +kernel))
set_option maxRecDepth 20000 in
theorem gX6_level_X6_throwIf : GoodIn wsX6_level (va_wsS RX6 44 yX6_throwIf wsX6_throwIf) := goodIn_app (goodIn_of _ (by decide +kernel)) ggX6_level_X6_throwIf
set_option maxRecDepth 20000 in
theorem ggX6_level_X1_greatestDepth : GoodIn wsX6_level wsX1_greatestDepth := goodIn_r _ [25, 26, 27, 28, 29, 30, 31, 32, 33, 24, 34, 35, 36, 37, 38, 39, 40, 41, 42, 43, 44, 45, 46, 84, 85, 86, 87] (by decide +kernel) (by decide +kernel)
set_option maxRecDepth 20000 in
theorem gX6_level_X1_greatestDepth : GoodIn wsX6_level (wsV RX6 139 RX1 yX1_greatestDepth wsX1_greatestDepth) := goodIn_app (goodIn_of _ (by decide +kernel)) ggX6_level_X1_greatestDepth
set_option maxRecDepth 20000 in
theorem ggX6_level_X1_positionChildren : GoodIn wsX6_level wsX1_positionChildren := goodIn_r _ [50, 26, 51, 52, 53, 24, 54, 35, 55, 56, 40, 41, 38, 42, 43, 37, 39, 44, 45, 46, 57, 58, 59, 60, 61, 62, 63, 64, 65, 66, 67, 68, 69, 70, 71, 72, 84, 85, 86, 87] (by decide +kernel) (by decide +kernel)
set_option maxRecDepth 20000 in
theorem gX6_level_X1_positionChildren : GoodIn wsX6_level (wsV RX6 142 RX1 yX1_positionChildren wsX1_positionChildren) := goodIn_app (goodIn_of _ (by decide +kernel)) ggX6_level_X1_positionChildren
set_option maxRecDepth 20000 in
theorem ggX6_level_X1_differentPositions : GoodIn wsX6_level wsX1_differentPositions := goodIn_r _ [76, 55, 56, 84, 85, 86, 87] (by decide +kernel) (by decide +kernel)
set_option maxRecDepth 20000 in
theorem gX6_level_X1_differentPositions : GoodIn wsX6_level (wsV RX6 145 RX1 yX1_differentPositions wsX1_differentPositions) := goodIn_app (goodIn_of _ (by decide +kernel)) ggX6_level_X1_differentPositions
theorem dX6_level_0 : decode cX6_level 0 = .ok (.iload_n 1, 1) := by decide +kernel
theorem dX6_level_1 : decode cX6_level 1 = .ok (.iconst 5, 1) := by decide +kernel
theorem dX6_level_2 : decode cX6_level 2 = .ok (.iload_n 2, 1) := by decide +kernel
theorem dX6_level_3 : decode cX6_level 3 = .ok (.iconst 4, 1) := by decide +kernel
theorem dX6_level_4 : decode cX6_level 4 = .ok (.invokestatic 110, 3) := by decide +kernel
theorem dX6_level_7 : decode cX6_level 7 = .ok (.invokestatic 44, 3) := by decide +kernel
theorem dX6_level_10 : decode cX6_level 10 = .ok (.aload_n 0, 1) := by decide +kernel
theorem dX6_level_11 : decode cX6_level 11 = .ok (.getfield 33, 3) := by decide +kernel
theorem dX6_level_14 : decode cX6_level 14 = .ok (.getfield 126, 3) := by decide +kernel
theorem dX6_level_17 : decode cX6_level 17 = .ok (.iload_n 1, 1) := by decide +kernel
theorem dX6_level_18 : decode cX6_level 18 = .ok (.aaload, 1) := by decide +kernel
theorem dX6_level_19 : decode cX6_level 19 = .ok (.astore_n 3, 1) := by decide +kernel
theorem dX6_level_20 : decode cX6_level 20 = .ok (.iload_n 2, 1) := by decide +kernel
theorem dX6_level_21 : decode cX6_level 21 = .ok (.tableswitch 51 0 3 #[31, 36, 41, 46], 31) := by decide +kernel
theorem dX6_level_52 : decode cX6_level 52 = .ok (.aload_n 3, 1) := by decide +kernel
theorem dX6_level_53 : decode cX6_level 53 = .ok (.getfield 130, 3) := by decide +kernel
theorem dX6_level_56 : decode cX6_level 56 = .ok (.ireturn, 1) := by decide +kernel
theorem dX6_level_57 : decode cX6_level 57 = .ok (.aload_n 3, 1) := by decide +kernel
theorem dX6_level_58 : decode cX6_level 58 = .ok (.getfield 136, 3) := by decide +kernel
theorem dX6_level_61 : decode cX6_level 61 = .ok (.ireturn, 1) := by decide +kernel
theorem dX6_level_62 : decode cX6_level 62 = .ok (.aload_n 3, 1) := by decide +kernel
theorem dX6_level_63 : decode cX6_level 63 = .ok (.invokevirtual 139, 3) := by decide +kernel
theorem dX6_level_66 : decode cX6_level 66 = .ok (.ireturn, 1) := by decide +kernel
theorem dX6_level_67 : decode cX6_level 67 = .ok (.aload_n 3, 1) := by decide +kernel
theorem dX6_level_68 : decode cX6_level 68 = .ok (.invokevirtual 142, 3) := by decide +kernel
theorem dX6_level_71 : decode cX6_level 71 = .ok (.ireturn, 1) := by decide +kernel
theorem dX6_level_72 : decode cX6_level 72 = .ok (.aload_n 3, 1) := by decide +kernel
theorem dX6_level_73 : decode cX6_level 73 = .ok (.invokevirtual 145, 3) := by decide +kernel
theorem dX6_level_76 : decode cX6_level 76 = .ok (.ireturn, 1) := by decide +kernel
set_option maxRecDepth 20000 in
theorem ggX6_node_X6_refusalOfNode : GoodIn wsX6_node wsX6_refusalOfNode := goodIn_r _ [8, 1, 2, 9, 10, 11, 7, 12, 13, 14, 15, 75, 76, 77, 78, 79, 80, 81, 82, 83, 84, 85] (by decide +kernel) (by decide +kernel)
