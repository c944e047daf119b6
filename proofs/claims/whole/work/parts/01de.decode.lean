theorem dX7_init_0 : decode cX7_init 0 = .ok (.aload_n 0, 1) := by decide +kernel
theorem dX7_init_1 : decode cX7_init 1 = .ok (.invokespecial 1, 3) := by decide +kernel
theorem dX7_init_4 : decode cX7_init 4 = .ok (.aload_n 0, 1) := by decide +kernel
theorem dX7_init_5 : decode cX7_init 5 = .ok (.sipush 141, 3) := by decide +kernel
theorem dX7_init_8 : decode cX7_init 8 = .ok (.newarray .int, 2) := by decide +kernel
theorem dX7_init_10 : decode cX7_init 10 = .ok (.putfield 7, 3) := by decide +kernel
theorem dX7_init_13 : decode cX7_init 13 = .ok (.aload_n 0, 1) := by decide +kernel
theorem dX7_init_14 : decode cX7_init 14 = .ok (.sipush 564, 3) := by decide +kernel
theorem dX7_init_17 : decode cX7_init 17 = .ok (.newarray .int, 2) := by decide +kernel
theorem dX7_init_19 : decode cX7_init 19 = .ok (.putfield 13, 3) := by decide +kernel
theorem dX7_init_22 : decode cX7_init 22 = .ok (.aload_n 0, 1) := by decide +kernel
theorem dX7_init_23 : decode cX7_init 23 = .ok (.sipush 141, 3) := by decide +kernel
theorem dX7_init_26 : decode cX7_init 26 = .ok (.newarray .int, 2) := by decide +kernel
theorem dX7_init_28 : decode cX7_init 28 = .ok (.putfield 16, 3) := by decide +kernel
theorem dX7_init_31 : decode cX7_init 31 = .ok (.aload_n 0, 1) := by decide +kernel
theorem dX7_init_32 : decode cX7_init 32 = .ok (.bipush 120, 2) := by decide +kernel
theorem dX7_init_34 : decode cX7_init 34 = .ok (.newarray .int, 2) := by decide +kernel
theorem dX7_init_36 : decode cX7_init 36 = .ok (.putfield 19, 3) := by decide +kernel
theorem dX7_init_39 : decode cX7_init 39 = .ok (.aload_n 0, 1) := by decide +kernel
theorem dX7_init_40 : decode cX7_init 40 = .ok (.sipush 160, 3) := by decide +kernel
theorem dX7_init_43 : decode cX7_init 43 = .ok (.newarray .int, 2) := by decide +kernel
theorem dX7_init_45 : decode cX7_init 45 = .ok (.putfield 22, 3) := by decide +kernel
theorem dX7_init_48 : decode cX7_init 48 = .ok (.aload_n 0, 1) := by decide +kernel
theorem dX7_init_49 : decode cX7_init 49 = .ok (.iconst 5, 1) := by decide +kernel
theorem dX7_init_50 : decode cX7_init 50 = .ok (.newarray .int, 2) := by decide +kernel
theorem dX7_init_52 : decode cX7_init 52 = .ok (.putfield 25, 3) := by decide +kernel
theorem dX7_init_55 : decode cX7_init 55 = .ok (.aload_n 0, 1) := by decide +kernel
theorem dX7_init_56 : decode cX7_init 56 = .ok (.sipush 160, 3) := by decide +kernel
theorem dX7_init_59 : decode cX7_init 59 = .ok (.newarray .int, 2) := by decide +kernel
theorem dX7_init_61 : decode cX7_init 61 = .ok (.putfield 28, 3) := by decide +kernel
theorem dX7_init_64 : decode cX7_init 64 = .ok (.aload_n 0, 1) := by decide +kernel
theorem dX7_init_65 : decode cX7_init 65 = .ok (.iconst 5, 1) := by decide +kernel
theorem dX7_init_66 : decode cX7_init 66 = .ok (.newarray .int, 2) := by decide +kernel
theorem dX7_init_68 : decode cX7_init 68 = .ok (.putfield 31, 3) := by decide +kernel
theorem dX7_init_71 : decode cX7_init 71 = .ok (.aload_n 0, 1) := by decide +kernel
theorem dX7_init_72 : decode cX7_init 72 = .ok (.iconst 3, 1) := by decide +kernel
theorem dX7_init_73 : decode cX7_init 73 = .ok (.newarray .int, 2) := by decide +kernel
theorem dX7_init_75 : decode cX7_init 75 = .ok (.putfield 34, 3) := by decide +kernel
theorem dX7_init_78 : decode cX7_init 78 = .ok (.return_, 1) := by decide +kernel
theorem dX7_thrown_0 : decode cX7_thrown 0 = .ok (.aload_n 0, 1) := by decide +kernel
theorem dX7_thrown_1 : decode cX7_thrown 1 = .ok (.getfield 37, 3) := by decide +kernel
theorem dX7_thrown_4 : decode cX7_thrown 4 = .ok (.ireturn, 1) := by decide +kernel
theorem dX7_refused_0 : decode cX7_refused 0 = .ok (.aload_n 0, 1) := by decide +kernel
theorem dX7_refused_1 : decode cX7_refused 1 = .ok (.iload_n 1, 1) := by decide +kernel
theorem dX7_refused_2 : decode cX7_refused 2 = .ok (.putfield 37, 3) := by decide +kernel
theorem dX7_refused_5 : decode cX7_refused 5 = .ok (.iload_n 1, 1) := by decide +kernel
theorem dX7_refused_6 : decode cX7_refused 6 = .ok (.ifCond .le 7, 3) := by decide +kernel
theorem dX7_refused_9 : decode cX7_refused 9 = .ok (.iconst 1, 1) := by decide +kernel
theorem dX7_refused_10 : decode cX7_refused 10 = .ok (.goto 4, 3) := by decide +kernel
theorem dX7_refused_13 : decode cX7_refused 13 = .ok (.iconst 0, 1) := by decide +kernel
theorem dX7_refused_14 : decode cX7_refused 14 = .ok (.ireturn, 1) := by decide +kernel
theorem dX7_in_0 : decode cX7_in 0 = .ok (.iload_n 0, 1) := by decide +kernel
theorem dX7_in_1 : decode cX7_in 1 = .ok (.iload_n 1, 1) := by decide +kernel
theorem dX7_in_2 : decode cX7_in 2 = .ok (.if_icmp .lt 12, 3) := by decide +kernel
theorem dX7_in_5 : decode cX7_in 5 = .ok (.iload_n 0, 1) := by decide +kernel
theorem dX7_in_6 : decode cX7_in 6 = .ok (.iload_n 2, 1) := by decide +kernel
theorem dX7_in_7 : decode cX7_in 7 = .ok (.if_icmp .gt 7, 3) := by decide +kernel
theorem dX7_in_10 : decode cX7_in 10 = .ok (.iconst 1, 1) := by decide +kernel
theorem dX7_in_11 : decode cX7_in 11 = .ok (.goto 4, 3) := by decide +kernel
theorem dX7_in_14 : decode cX7_in 14 = .ok (.iconst 0, 1) := by decide +kernel
theorem dX7_in_15 : decode cX7_in 15 = .ok (.ireturn, 1) := by decide +kernel
set_option maxRecDepth 20000 in
theorem ggX7_isId_X7_in : GoodIn wsX7_isId wsX7_in := goodIn_r _ [4] (by decide +kernel) (by decide +kernel)
set_option maxRecDepth 20000 in
theorem gX7_isId_X7_in : GoodIn wsX7_isId (va_wsS RX7 41 yX7_in wsX7_in) := goodIn_app (goodIn_of _ (by decide +kernel)) ggX7_isId_X7_in
theorem dX7_isId_0 : decode cX7_isId 0 = .ok (.iload_n 0, 1) := by decide +kernel
theorem dX7_isId_1 : decode cX7_isId 1 = .ok (.iconst 0, 1) := by decide +kernel
theorem dX7_isId_2 : decode cX7_isId 2 = .ok (.bipush 23, 2) := by decide +kernel
theorem dX7_isId_4 : decode cX7_isId 4 = .ok (.invokestatic 41, 3) := by decide +kernel
theorem dX7_isId_7 : decode cX7_isId 7 = .ok (.ireturn, 1) := by decide +kernel
set_option maxRecDepth 20000 in
theorem ggX7_isPlace_X7_in : GoodIn wsX7_isPlace wsX7_in := goodIn_r _ [4] (by decide +kernel) (by decide +kernel)
set_option maxRecDepth 20000 in
theorem gX7_isPlace_X7_in : GoodIn wsX7_isPlace (va_wsS RX7 41 yX7_in wsX7_in) := goodIn_app (goodIn_of _ (by decide +kernel)) ggX7_isPlace_X7_in
theorem dX7_isPlace_0 : decode cX7_isPlace 0 = .ok (.iload_n 0, 1) := by decide +kernel
theorem dX7_isPlace_1 : decode cX7_isPlace 1 = .ok (.iconst 0, 1) := by decide +kernel
theorem dX7_isPlace_2 : decode cX7_isPlace 2 = .ok (.bipush 63, 2) := by decide +kernel
theorem dX7_isPlace_4 : decode cX7_isPlace 4 = .ok (.invokestatic 41, 3) := by decide +kernel
theorem dX7_isPlace_7 : decode cX7_isPlace 7 = .ok (.ifCond .eq 17, 3) := by decide +kernel
theorem dX7_isPlace_10 : decode cX7_isPlace 10 = .ok (.iload_n 1, 1) := by decide +kernel
theorem dX7_isPlace_11 : decode cX7_isPlace 11 = .ok (.iconst 0, 1) := by decide +kernel
theorem dX7_isPlace_12 : decode cX7_isPlace 12 = .ok (.bipush 63, 2) := by decide +kernel
theorem dX7_isPlace_14 : decode cX7_isPlace 14 = .ok (.invokestatic 41, 3) := by decide +kernel
theorem dX7_isPlace_17 : decode cX7_isPlace 17 = .ok (.ifCond .eq 7, 3) := by decide +kernel
theorem dX7_isPlace_20 : decode cX7_isPlace 20 = .ok (.iconst 1, 1) := by decide +kernel
theorem dX7_isPlace_21 : decode cX7_isPlace 21 = .ok (.goto 4, 3) := by decide +kernel
theorem dX7_isPlace_24 : decode cX7_isPlace 24 = .ok (.iconst 0, 1) := by decide +kernel
theorem dX7_isPlace_25 : decode cX7_isPlace 25 = .ok (.ireturn, 1) := by decide +kernel
theorem dX7_isThere_0 : decode cX7_isThere 0 = .ok (.aload_n 0, 1) := by decide +kernel
theorem dX7_isThere_1 : decode cX7_isThere 1 = .ok (.getfield 7, 3) := by decide +kernel
theorem dX7_isThere_4 : decode cX7_isThere 4 = .ok (.iconst 5, 1) := by decide +kernel
theorem dX7_isThere_5 : decode cX7_isThere 5 = .ok (.iload_n 1, 1) := by decide +kernel
theorem dX7_isThere_6 : decode cX7_isThere 6 = .ok (.imul, 1) := by decide +kernel
theorem dX7_isThere_7 : decode cX7_isThere 7 = .ok (.iaload, 1) := by decide +kernel
theorem dX7_isThere_8 : decode cX7_isThere 8 = .ok (.iconst 1, 1) := by decide +kernel
theorem dX7_isThere_9 : decode cX7_isThere 9 = .ok (.if_icmp .ne 7, 3) := by decide +kernel
theorem dX7_isThere_12 : decode cX7_isThere 12 = .ok (.iconst 1, 1) := by decide +kernel
theorem dX7_isThere_13 : decode cX7_isThere 13 = .ok (.goto 4, 3) := by decide +kernel
theorem dX7_isThere_16 : decode cX7_isThere 16 = .ok (.iconst 0, 1) := by decide +kernel
theorem dX7_isThere_17 : decode cX7_isThere 17 = .ok (.ireturn, 1) := by decide +kernel
theorem dX7_heightOf_0 : decode cX7_heightOf 0 = .ok (.iconst 0, 1) := by decide +kernel
theorem dX7_heightOf_1 : decode cX7_heightOf 1 = .ok (.istore_n 1, 1) := by decide +kernel
theorem dX7_heightOf_2 : decode cX7_heightOf 2 = .ok (.iload_n 0, 1) := by decide +kernel
theorem dX7_heightOf_3 : decode cX7_heightOf 3 = .ok (.iconst 1, 1) := by decide +kernel
theorem dX7_heightOf_4 : decode cX7_heightOf 4 = .ok (.iadd, 1) := by decide +kernel
theorem dX7_heightOf_5 : decode cX7_heightOf 5 = .ok (.istore_n 2, 1) := by decide +kernel
theorem dX7_heightOf_6 : decode cX7_heightOf 6 = .ok (.iload_n 2, 1) := by decide +kernel
theorem dX7_heightOf_7 : decode cX7_heightOf 7 = .ok (.iconst 2, 1) := by decide +kernel
theorem dX7_heightOf_8 : decode cX7_heightOf 8 = .ok (.irem, 1) := by decide +kernel
theorem dX7_heightOf_9 : decode cX7_heightOf 9 = .ok (.ifCond .ne 13, 3) := by decide +kernel
theorem dX7_heightOf_12 : decode cX7_heightOf 12 = .ok (.iload_n 2, 1) := by decide +kernel
theorem dX7_heightOf_13 : decode cX7_heightOf 13 = .ok (.iconst 2, 1) := by decide +kernel
theorem dX7_heightOf_14 : decode cX7_heightOf 14 = .ok (.idiv, 1) := by decide +kernel
theorem dX7_heightOf_15 : decode cX7_heightOf 15 = .ok (.istore_n 2, 1) := by decide +kernel
theorem dX7_heightOf_16 : decode cX7_heightOf 16 = .ok (.iinc 1 1, 3) := by decide +kernel
theorem dX7_heightOf_19 : decode cX7_heightOf 19 = .ok (.goto (-13), 3) := by decide +kernel
theorem dX7_heightOf_22 : decode cX7_heightOf 22 = .ok (.iload_n 1, 1) := by decide +kernel
theorem dX7_heightOf_23 : decode cX7_heightOf 23 = .ok (.ireturn, 1) := by decide +kernel
set_option maxRecDepth 20000 in
theorem ggX7_isOn_X7_isThere : GoodIn wsX7_isOn wsX7_isThere := goodIn_r _ [5, 6, 10, 11, 12, 13, 14, 15, 16, 17, 18, 19, 20, 21, 22, 23, 24, 25, 26, 27, 28, 29] (by decide +kernel) (by decide +kernel)
set_option maxRecDepth 20000 in
theorem gX7_isOn_X7_isThere : GoodIn wsX7_isOn (wsV RX7 45 RX7 yX7_isThere wsX7_isThere) := goodIn_app (goodIn_of _ (by decide +kernel)) ggX7_isOn_X7_isThere
set_option maxRecDepth 20000 in
theorem ggX7_isOn_X7_heightOf : GoodIn wsX7_isOn wsX7_heightOf := goodIn_r _ [9] (by decide +kernel) (by decide +kernel)
set_option maxRecDepth 20000 in
theorem gX7_isOn_X7_heightOf : GoodIn wsX7_isOn (va_wsS RX7 49 yX7_heightOf wsX7_heightOf) := goodIn_app (goodIn_of _ (by decide +kernel)) ggX7_isOn_X7_heightOf
theorem dX7_isOn_0 : decode cX7_isOn 0 = .ok (.aload_n 0, 1) := by decide +kernel
theorem dX7_isOn_1 : decode cX7_isOn 1 = .ok (.iload_n 1, 1) := by decide +kernel
theorem dX7_isOn_2 : decode cX7_isOn 2 = .ok (.invokevirtual 45, 3) := by decide +kernel
theorem dX7_isOn_5 : decode cX7_isOn 5 = .ok (.ifCond .eq 15, 3) := by decide +kernel
theorem dX7_isOn_8 : decode cX7_isOn 8 = .ok (.iload_n 1, 1) := by decide +kernel
theorem dX7_isOn_9 : decode cX7_isOn 9 = .ok (.invokestatic 49, 3) := by decide +kernel
theorem dX7_isOn_12 : decode cX7_isOn 12 = .ok (.iload_n 2, 1) := by decide +kernel
theorem dX7_isOn_13 : decode cX7_isOn 13 = .ok (.if_icmp .lt 7, 3) := by decide +kernel
theorem dX7_isOn_16 : decode cX7_isOn 16 = .ok (.iconst 1, 1) := by decide +kernel
theorem dX7_isOn_17 : decode cX7_isOn 17 = .ok (.goto 4, 3) := by decide +kernel
theorem dX7_isOn_20 : decode cX7_isOn 20 = .ok (.iconst 0, 1) := by decide +kernel
theorem dX7_isOn_21 : decode cX7_isOn 21 = .ok (.ireturn, 1) := by decide +kernel
theorem dX7_saves_0 : decode cX7_saves 0 = .ok (.aload_n 0, 1) := by decide +kernel
theorem dX7_saves_1 : decode cX7_saves 1 = .ok (.getfield 53, 3) := by decide +kernel
theorem dX7_saves_4 : decode cX7_saves 4 = .ok (.iconst 4, 1) := by decide +kernel
theorem dX7_saves_5 : decode cX7_saves 5 = .ok (.if_icmp .ne 44, 3) := by decide +kernel
theorem dX7_saves_8 : decode cX7_saves 8 = .ok (.iconst 0, 1) := by decide +kernel
theorem dX7_saves_9 : decode cX7_saves 9 = .ok (.istore_n 1, 1) := by decide +kernel
theorem dX7_saves_10 : decode cX7_saves 10 = .ok (.iload_n 1, 1) := by decide +kernel
theorem dX7_saves_11 : decode cX7_saves 11 = .ok (.sipush 423, 3) := by decide +kernel
theorem dX7_saves_14 : decode cX7_saves 14 = .ok (.if_icmp .ge 25, 3) := by decide +kernel
theorem dX7_saves_17 : decode cX7_saves 17 = .ok (.aload_n 0, 1) := by decide +kernel
theorem dX7_saves_18 : decode cX7_saves 18 = .ok (.getfield 13, 3) := by decide +kernel
theorem dX7_saves_21 : decode cX7_saves 21 = .ok (.iload_n 1, 1) := by decide +kernel
theorem dX7_saves_22 : decode cX7_saves 22 = .ok (.aload_n 0, 1) := by decide +kernel
theorem dX7_saves_23 : decode cX7_saves 23 = .ok (.getfield 13, 3) := by decide +kernel
theorem dX7_saves_26 : decode cX7_saves 26 = .ok (.iload_n 1, 1) := by decide +kernel
theorem dX7_saves_27 : decode cX7_saves 27 = .ok (.sipush 141, 3) := by decide +kernel
theorem dX7_saves_30 : decode cX7_saves 30 = .ok (.iadd, 1) := by decide +kernel
theorem dX7_saves_31 : decode cX7_saves 31 = .ok (.iaload, 1) := by decide +kernel
theorem dX7_saves_32 : decode cX7_saves 32 = .ok (.iastore, 1) := by decide +kernel
theorem dX7_saves_33 : decode cX7_saves 33 = .ok (.iinc 1 1, 3) := by decide +kernel
theorem dX7_saves_36 : decode cX7_saves 36 = .ok (.goto (-26), 3) := by decide +kernel
theorem dX7_saves_39 : decode cX7_saves 39 = .ok (.aload_n 0, 1) := by decide +kernel
theorem dX7_saves_40 : decode cX7_saves 40 = .ok (.dup, 1) := by decide +kernel
theorem dX7_saves_41 : decode cX7_saves 41 = .ok (.getfield 53, 3) := by decide +kernel
theorem dX7_saves_44 : decode cX7_saves 44 = .ok (.iconst 1, 1) := by decide +kernel
theorem dX7_saves_45 : decode cX7_saves 45 = .ok (.isub, 1) := by decide +kernel
theorem dX7_saves_46 : decode cX7_saves 46 = .ok (.putfield 53, 3) := by decide +kernel
theorem dX7_saves_49 : decode cX7_saves 49 = .ok (.iconst 0, 1) := by decide +kernel
theorem dX7_saves_50 : decode cX7_saves 50 = .ok (.istore_n 1, 1) := by decide +kernel
theorem dX7_saves_51 : decode cX7_saves 51 = .ok (.iload_n 1, 1) := by decide +kernel
theorem dX7_saves_52 : decode cX7_saves 52 = .ok (.sipush 141, 3) := by decide +kernel
theorem dX7_saves_55 : decode cX7_saves 55 = .ok (.if_icmp .ge 30, 3) := by decide +kernel
theorem dX7_saves_58 : decode cX7_saves 58 = .ok (.aload_n 0, 1) := by decide +kernel
theorem dX7_saves_59 : decode cX7_saves 59 = .ok (.getfield 13, 3) := by decide +kernel
theorem dX7_saves_62 : decode cX7_saves 62 = .ok (.sipush 141, 3) := by decide +kernel
theorem dX7_saves_65 : decode cX7_saves 65 = .ok (.aload_n 0, 1) := by decide +kernel
theorem dX7_saves_66 : decode cX7_saves 66 = .ok (.getfield 53, 3) := by decide +kernel
theorem dX7_saves_69 : decode cX7_saves 69 = .ok (.imul, 1) := by decide +kernel
theorem dX7_saves_70 : decode cX7_saves 70 = .ok (.iload_n 1, 1) := by decide +kernel
theorem dX7_saves_71 : decode cX7_saves 71 = .ok (.iadd, 1) := by decide +kernel
theorem dX7_saves_72 : decode cX7_saves 72 = .ok (.aload_n 0, 1) := by decide +kernel
theorem dX7_saves_73 : decode cX7_saves 73 = .ok (.getfield 7, 3) := by decide +kernel
theorem dX7_saves_76 : decode cX7_saves 76 = .ok (.iload_n 1, 1) := by decide +kernel
theorem dX7_saves_77 : decode cX7_saves 77 = .ok (.iaload, 1) := by decide +kernel
theorem dX7_saves_78 : decode cX7_saves 78 = .ok (.iastore, 1) := by decide +kernel
theorem dX7_saves_79 : decode cX7_saves 79 = .ok (.iinc 1 1, 3) := by decide +kernel
theorem dX7_saves_82 : decode cX7_saves 82 = .ok (.goto (-31), 3) := by decide +kernel
theorem dX7_saves_85 : decode cX7_saves 85 = .ok (.aload_n 0, 1) := by decide +kernel
theorem dX7_saves_86 : decode cX7_saves 86 = .ok (.dup, 1) := by decide +kernel
theorem dX7_saves_87 : decode cX7_saves 87 = .ok (.getfield 53, 3) := by decide +kernel
theorem dX7_saves_90 : decode cX7_saves 90 = .ok (.iconst 1, 1) := by decide +kernel
theorem dX7_saves_91 : decode cX7_saves 91 = .ok (.iadd, 1) := by decide +kernel
theorem dX7_saves_92 : decode cX7_saves 92 = .ok (.putfield 53, 3) := by decide +kernel
theorem dX7_saves_95 : decode cX7_saves 95 = .ok (.return_, 1) := by decide +kernel
set_option maxRecDepth 20000 in
theorem ggX7_undo_X7_refused : GoodIn wsX7_undo wsX7_refused := goodIn_r _ [8, 9, 10, 11, 12, 13, 14, 15, 16, 17, 18, 19, 20, 21, 22, 23, 24, 25, 26, 27, 28, 29] (by decide +kernel) (by decide +kernel)
set_option maxRecDepth 20000 in
theorem gX7_undo_X7_refused : GoodIn wsX7_undo (wsV RX7 56 RX7 yX7_refused wsX7_refused) := goodIn_app (goodIn_of _ (by decide +kernel)) ggX7_undo_X7_refused
theorem dX7_undo_0 : decode cX7_undo 0 = .ok (.aload_n 0, 1) := by decide +kernel
theorem dX7_undo_1 : decode cX7_undo 1 = .ok (.aload_n 0, 1) := by decide +kernel
theorem dX7_undo_2 : decode cX7_undo 2 = .ok (.getfield 53, 3) := by decide +kernel
theorem dX7_undo_5 : decode cX7_undo 5 = .ok (.ifCond .ne 7, 3) := by decide +kernel
theorem dX7_undo_8 : decode cX7_undo 8 = .ok (.iconst 1, 1) := by decide +kernel
theorem dX7_undo_9 : decode cX7_undo 9 = .ok (.goto 4, 3) := by decide +kernel
theorem dX7_undo_12 : decode cX7_undo 12 = .ok (.iconst 0, 1) := by decide +kernel
theorem dX7_undo_13 : decode cX7_undo 13 = .ok (.invokevirtual 56, 3) := by decide +kernel
theorem dX7_undo_16 : decode cX7_undo 16 = .ok (.ifCond .eq 5, 3) := by decide +kernel
theorem dX7_undo_19 : decode cX7_undo 19 = .ok (.iconst 0, 1) := by decide +kernel
theorem dX7_undo_20 : decode cX7_undo 20 = .ok (.ireturn, 1) := by decide +kernel
theorem dX7_undo_21 : decode cX7_undo 21 = .ok (.aload_n 0, 1) := by decide +kernel
theorem dX7_undo_22 : decode cX7_undo 22 = .ok (.dup, 1) := by decide +kernel
theorem dX7_undo_23 : decode cX7_undo 23 = .ok (.getfield 53, 3) := by decide +kernel
theorem dX7_undo_26 : decode cX7_undo 26 = .ok (.iconst 1, 1) := by decide +kernel
theorem dX7_undo_27 : decode cX7_undo 27 = .ok (.isub, 1) := by decide +kernel
theorem dX7_undo_28 : decode cX7_undo 28 = .ok (.putfield 53, 3) := by decide +kernel
theorem dX7_undo_31 : decode cX7_undo 31 = .ok (.iconst 0, 1) := by decide +kernel
theorem dX7_undo_32 : decode cX7_undo 32 = .ok (.istore_n 1, 1) := by decide +kernel
theorem dX7_undo_33 : decode cX7_undo 33 = .ok (.iload_n 1, 1) := by decide +kernel
theorem dX7_undo_34 : decode cX7_undo 34 = .ok (.sipush 141, 3) := by decide +kernel
theorem dX7_undo_37 : decode cX7_undo 37 = .ok (.if_icmp .ge 30, 3) := by decide +kernel
theorem dX7_undo_40 : decode cX7_undo 40 = .ok (.aload_n 0, 1) := by decide +kernel
theorem dX7_undo_41 : decode cX7_undo 41 = .ok (.getfield 7, 3) := by decide +kernel
theorem dX7_undo_44 : decode cX7_undo 44 = .ok (.iload_n 1, 1) := by decide +kernel
theorem dX7_undo_45 : decode cX7_undo 45 = .ok (.aload_n 0, 1) := by decide +kernel
theorem dX7_undo_46 : decode cX7_undo 46 = .ok (.getfield 13, 3) := by decide +kernel
theorem dX7_undo_49 : decode cX7_undo 49 = .ok (.sipush 141, 3) := by decide +kernel
theorem dX7_undo_52 : decode cX7_undo 52 = .ok (.aload_n 0, 1) := by decide +kernel
theorem dX7_undo_53 : decode cX7_undo 53 = .ok (.getfield 53, 3) := by decide +kernel
theorem dX7_undo_56 : decode cX7_undo 56 = .ok (.imul, 1) := by decide +kernel
theorem dX7_undo_57 : decode cX7_undo 57 = .ok (.iload_n 1, 1) := by decide +kernel
theorem dX7_undo_58 : decode cX7_undo 58 = .ok (.iadd, 1) := by decide +kernel
theorem dX7_undo_59 : decode cX7_undo 59 = .ok (.iaload, 1) := by decide +kernel
theorem dX7_undo_60 : decode cX7_undo 60 = .ok (.iastore, 1) := by decide +kernel
theorem dX7_undo_61 : decode cX7_undo 61 = .ok (.iinc 1 1, 3) := by decide +kernel
theorem dX7_undo_64 : decode cX7_undo 64 = .ok (.goto (-31), 3) := by decide +kernel
theorem dX7_undo_67 : decode cX7_undo 67 = .ok (.aload_n 0, 1) := by decide +kernel
theorem dX7_undo_68 : decode cX7_undo 68 = .ok (.getfield 53, 3) := by decide +kernel
theorem dX7_undo_71 : decode cX7_undo 71 = .ok (.ireturn, 1) := by decide +kernel
theorem dX7_codeOf_0 : decode cX7_codeOf 0 = .ok (.iconst 0, 1) := by decide +kernel
theorem dX7_codeOf_1 : decode cX7_codeOf 1 = .ok (.istore_n 2, 1) := by decide +kernel
theorem dX7_codeOf_2 : decode cX7_codeOf 2 = .ok (.iconst 0, 1) := by decide +kernel
theorem dX7_codeOf_3 : decode cX7_codeOf 3 = .ok (.istore_n 3, 1) := by decide +kernel
theorem dX7_codeOf_4 : decode cX7_codeOf 4 = .ok (.iload_n 3, 1) := by decide +kernel
theorem dX7_codeOf_5 : decode cX7_codeOf 5 = .ok (.bipush 6, 2) := by decide +kernel
theorem dX7_codeOf_7 : decode cX7_codeOf 7 = .ok (.if_icmp .ge 33, 3) := by decide +kernel
theorem dX7_codeOf_10 : decode cX7_codeOf 10 = .ok (.iload_n 2, 1) := by decide +kernel
theorem dX7_codeOf_11 : decode cX7_codeOf 11 = .ok (.iload_n 0, 1) := by decide +kernel
theorem dX7_codeOf_12 : decode cX7_codeOf 12 = .ok (.iload_n 3, 1) := by decide +kernel
theorem dX7_codeOf_13 : decode cX7_codeOf 13 = .ok (.ishr, 1) := by decide +kernel
theorem dX7_codeOf_14 : decode cX7_codeOf 14 = .ok (.iconst 1, 1) := by decide +kernel
theorem dX7_codeOf_15 : decode cX7_codeOf 15 = .ok (.iand, 1) := by decide +kernel
theorem dX7_codeOf_16 : decode cX7_codeOf 16 = .ok (.iconst 2, 1) := by decide +kernel
theorem dX7_codeOf_17 : decode cX7_codeOf 17 = .ok (.iload_n 3, 1) := by decide +kernel
theorem dX7_codeOf_18 : decode cX7_codeOf 18 = .ok (.imul, 1) := by decide +kernel
theorem dX7_codeOf_19 : decode cX7_codeOf 19 = .ok (.ishl, 1) := by decide +kernel
theorem dX7_codeOf_20 : decode cX7_codeOf 20 = .ok (.iload_n 1, 1) := by decide +kernel
theorem dX7_codeOf_21 : decode cX7_codeOf 21 = .ok (.iload_n 3, 1) := by decide +kernel
theorem dX7_codeOf_22 : decode cX7_codeOf 22 = .ok (.ishr, 1) := by decide +kernel
theorem dX7_codeOf_23 : decode cX7_codeOf 23 = .ok (.iconst 1, 1) := by decide +kernel
theorem dX7_codeOf_24 : decode cX7_codeOf 24 = .ok (.iand, 1) := by decide +kernel
theorem dX7_codeOf_25 : decode cX7_codeOf 25 = .ok (.iconst 2, 1) := by decide +kernel
theorem dX7_codeOf_26 : decode cX7_codeOf 26 = .ok (.iload_n 3, 1) := by decide +kernel
theorem dX7_codeOf_27 : decode cX7_codeOf 27 = .ok (.imul, 1) := by decide +kernel
theorem dX7_codeOf_28 : decode cX7_codeOf 28 = .ok (.iconst 1, 1) := by decide +kernel
theorem dX7_codeOf_29 : decode cX7_codeOf 29 = .ok (.iadd, 1) := by decide +kernel
theorem dX7_codeOf_30 : decode cX7_codeOf 30 = .ok (.ishl, 1) := by decide +kernel
theorem dX7_codeOf_31 : decode cX7_codeOf 31 = .ok (.ior, 1) := by decide +kernel
theorem dX7_codeOf_32 : decode cX7_codeOf 32 = .ok (.ior, 1) := by decide +kernel
theorem dX7_codeOf_33 : decode cX7_codeOf 33 = .ok (.istore_n 2, 1) := by decide +kernel
theorem dX7_codeOf_34 : decode cX7_codeOf 34 = .ok (.iinc 3 1, 3) := by decide +kernel
theorem dX7_codeOf_37 : decode cX7_codeOf 37 = .ok (.goto (-33), 3) := by decide +kernel
theorem dX7_codeOf_40 : decode cX7_codeOf 40 = .ok (.iload_n 2, 1) := by decide +kernel
theorem dX7_codeOf_41 : decode cX7_codeOf 41 = .ok (.ireturn, 1) := by decide +kernel
theorem dX7_xOf_0 : decode cX7_xOf 0 = .ok (.iconst 0, 1) := by decide +kernel
theorem dX7_xOf_1 : decode cX7_xOf 1 = .ok (.istore_n 1, 1) := by decide +kernel
theorem dX7_xOf_2 : decode cX7_xOf 2 = .ok (.iconst 0, 1) := by decide +kernel
theorem dX7_xOf_3 : decode cX7_xOf 3 = .ok (.istore_n 2, 1) := by decide +kernel
theorem dX7_xOf_4 : decode cX7_xOf 4 = .ok (.iload_n 2, 1) := by decide +kernel
theorem dX7_xOf_5 : decode cX7_xOf 5 = .ok (.bipush 6, 2) := by decide +kernel
theorem dX7_xOf_7 : decode cX7_xOf 7 = .ok (.if_icmp .ge 21, 3) := by decide +kernel
theorem dX7_xOf_10 : decode cX7_xOf 10 = .ok (.iload_n 1, 1) := by decide +kernel
theorem dX7_xOf_11 : decode cX7_xOf 11 = .ok (.iload_n 0, 1) := by decide +kernel
theorem dX7_xOf_12 : decode cX7_xOf 12 = .ok (.iconst 2, 1) := by decide +kernel
theorem dX7_xOf_13 : decode cX7_xOf 13 = .ok (.iload_n 2, 1) := by decide +kernel
theorem dX7_xOf_14 : decode cX7_xOf 14 = .ok (.imul, 1) := by decide +kernel
theorem dX7_xOf_15 : decode cX7_xOf 15 = .ok (.ishr, 1) := by decide +kernel
theorem dX7_xOf_16 : decode cX7_xOf 16 = .ok (.iconst 1, 1) := by decide +kernel
theorem dX7_xOf_17 : decode cX7_xOf 17 = .ok (.iand, 1) := by decide +kernel
theorem dX7_xOf_18 : decode cX7_xOf 18 = .ok (.iload_n 2, 1) := by decide +kernel
theorem dX7_xOf_19 : decode cX7_xOf 19 = .ok (.ishl, 1) := by decide +kernel
theorem dX7_xOf_20 : decode cX7_xOf 20 = .ok (.ior, 1) := by decide +kernel
theorem dX7_xOf_21 : decode cX7_xOf 21 = .ok (.istore_n 1, 1) := by decide +kernel
theorem dX7_xOf_22 : decode cX7_xOf 22 = .ok (.iinc 2 1, 3) := by decide +kernel
theorem dX7_xOf_25 : decode cX7_xOf 25 = .ok (.goto (-21), 3) := by decide +kernel
theorem dX7_xOf_28 : decode cX7_xOf 28 = .ok (.iload_n 1, 1) := by decide +kernel
theorem dX7_xOf_29 : decode cX7_xOf 29 = .ok (.ireturn, 1) := by decide +kernel
set_option maxRecDepth 20000 in
theorem ggX7_yOf_X7_xOf : GoodIn wsX7_yOf wsX7_xOf := goodIn_r _ [4] (by decide +kernel) (by decide +kernel)
set_option maxRecDepth 20000 in
theorem gX7_yOf_X7_xOf : GoodIn wsX7_yOf (va_wsS RX7 59 yX7_xOf wsX7_xOf) := goodIn_app (goodIn_of _ (by decide +kernel)) ggX7_yOf_X7_xOf
theorem dX7_yOf_0 : decode cX7_yOf 0 = .ok (.iload_n 0, 1) := by decide +kernel
theorem dX7_yOf_1 : decode cX7_yOf 1 = .ok (.iconst 1, 1) := by decide +kernel
theorem dX7_yOf_2 : decode cX7_yOf 2 = .ok (.ishr, 1) := by decide +kernel
theorem dX7_yOf_3 : decode cX7_yOf 3 = .ok (.invokestatic 59, 3) := by decide +kernel
theorem dX7_yOf_6 : decode cX7_yOf 6 = .ok (.ireturn, 1) := by decide +kernel
set_option maxRecDepth 20000 in
theorem ggX7_placeOf_X7_codeOf : GoodIn wsX7_placeOf wsX7_codeOf := goodIn_r _ [5] (by decide +kernel) (by decide +kernel)
set_option maxRecDepth 20000 in
theorem gX7_placeOf_X7_codeOf : GoodIn wsX7_placeOf (va_wsS RX7 62 yX7_codeOf wsX7_codeOf) := goodIn_app (goodIn_of _ (by decide +kernel)) ggX7_placeOf_X7_codeOf
theorem dX7_placeOf_0 : decode cX7_placeOf 0 = .ok (.aload_n 0, 1) := by decide +kernel
theorem dX7_placeOf_1 : decode cX7_placeOf 1 = .ok (.getfield 7, 3) := by decide +kernel
theorem dX7_placeOf_4 : decode cX7_placeOf 4 = .ok (.iconst 5, 1) := by decide +kernel
theorem dX7_placeOf_5 : decode cX7_placeOf 5 = .ok (.iload_n 1, 1) := by decide +kernel
theorem dX7_placeOf_6 : decode cX7_placeOf 6 = .ok (.imul, 1) := by decide +kernel
theorem dX7_placeOf_7 : decode cX7_placeOf 7 = .ok (.iconst 1, 1) := by decide +kernel
theorem dX7_placeOf_8 : decode cX7_placeOf 8 = .ok (.iadd, 1) := by decide +kernel
theorem dX7_placeOf_9 : decode cX7_placeOf 9 = .ok (.iaload, 1) := by decide +kernel
theorem dX7_placeOf_10 : decode cX7_placeOf 10 = .ok (.aload_n 0, 1) := by decide +kernel
theorem dX7_placeOf_11 : decode cX7_placeOf 11 = .ok (.getfield 7, 3) := by decide +kernel
theorem dX7_placeOf_14 : decode cX7_placeOf 14 = .ok (.iconst 5, 1) := by decide +kernel
theorem dX7_placeOf_15 : decode cX7_placeOf 15 = .ok (.iload_n 1, 1) := by decide +kernel
theorem dX7_placeOf_16 : decode cX7_placeOf 16 = .ok (.imul, 1) := by decide +kernel
theorem dX7_placeOf_17 : decode cX7_placeOf 17 = .ok (.iconst 2, 1) := by decide +kernel
theorem dX7_placeOf_18 : decode cX7_placeOf 18 = .ok (.iadd, 1) := by decide +kernel
theorem dX7_placeOf_19 : decode cX7_placeOf 19 = .ok (.iaload, 1) := by decide +kernel
theorem dX7_placeOf_20 : decode cX7_placeOf 20 = .ok (.invokestatic 62, 3) := by decide +kernel
theorem dX7_placeOf_23 : decode cX7_placeOf 23 = .ok (.ireturn, 1) := by decide +kernel
theorem dX7_spanOf_0 : decode cX7_spanOf 0 = .ok (.iconst 0, 1) := by decide +kernel
theorem dX7_spanOf_1 : decode cX7_spanOf 1 = .ok (.istore_n 2, 1) := by decide +kernel
theorem dX7_spanOf_2 : decode cX7_spanOf 2 = .ok (.iload_n 0, 1) := by decide +kernel
theorem dX7_spanOf_3 : decode cX7_spanOf 3 = .ok (.iconst 2, 1) := by decide +kernel
theorem dX7_spanOf_4 : decode cX7_spanOf 4 = .ok (.iload_n 2, 1) := by decide +kernel
theorem dX7_spanOf_5 : decode cX7_spanOf 5 = .ok (.imul, 1) := by decide +kernel
theorem dX7_spanOf_6 : decode cX7_spanOf 6 = .ok (.ishr, 1) := by decide +kernel
theorem dX7_spanOf_7 : decode cX7_spanOf 7 = .ok (.iload_n 1, 1) := by decide +kernel
theorem dX7_spanOf_8 : decode cX7_spanOf 8 = .ok (.iconst 2, 1) := by decide +kernel
theorem dX7_spanOf_9 : decode cX7_spanOf 9 = .ok (.iload_n 2, 1) := by decide +kernel
theorem dX7_spanOf_10 : decode cX7_spanOf 10 = .ok (.imul, 1) := by decide +kernel
theorem dX7_spanOf_11 : decode cX7_spanOf 11 = .ok (.ishr, 1) := by decide +kernel
theorem dX7_spanOf_12 : decode cX7_spanOf 12 = .ok (.if_icmp .eq 9, 3) := by decide +kernel
theorem dX7_spanOf_15 : decode cX7_spanOf 15 = .ok (.iinc 2 1, 3) := by decide +kernel
theorem dX7_spanOf_18 : decode cX7_spanOf 18 = .ok (.goto (-16), 3) := by decide +kernel
theorem dX7_spanOf_21 : decode cX7_spanOf 21 = .ok (.iload_n 2, 1) := by decide +kernel
theorem dX7_spanOf_22 : decode cX7_spanOf 22 = .ok (.ireturn, 1) := by decide +kernel
theorem dX7_enters_0 : decode cX7_enters 0 = .ok (.aload_n 0, 1) := by decide +kernel
theorem dX7_enters_1 : decode cX7_enters 1 = .ok (.getfield 25, 3) := by decide +kernel
theorem dX7_enters_4 : decode cX7_enters 4 = .ok (.iload_n 1, 1) := by decide +kernel
theorem dX7_enters_5 : decode cX7_enters 5 = .ok (.iaload, 1) := by decide +kernel
theorem dX7_enters_6 : decode cX7_enters 6 = .ok (.istore_n 3, 1) := by decide +kernel
theorem dX7_enters_7 : decode cX7_enters 7 = .ok (.iconst 0, 1) := by decide +kernel
theorem dX7_enters_8 : decode cX7_enters 8 = .ok (.istore 4, 2) := by decide +kernel
theorem dX7_enters_10 : decode cX7_enters 10 = .ok (.iload 4, 2) := by decide +kernel
theorem dX7_enters_12 : decode cX7_enters 12 = .ok (.aload_n 0, 1) := by decide +kernel
theorem dX7_enters_13 : decode cX7_enters 13 = .ok (.getfield 25, 3) := by decide +kernel
theorem dX7_enters_16 : decode cX7_enters 16 = .ok (.iload_n 1, 1) := by decide +kernel
theorem dX7_enters_17 : decode cX7_enters 17 = .ok (.iaload, 1) := by decide +kernel
theorem dX7_enters_18 : decode cX7_enters 18 = .ok (.if_icmp .ge 26, 3) := by decide +kernel
theorem dX7_enters_21 : decode cX7_enters 21 = .ok (.aload_n 0, 1) := by decide +kernel
theorem dX7_enters_22 : decode cX7_enters 22 = .ok (.getfield 22, 3) := by decide +kernel
theorem dX7_enters_25 : decode cX7_enters 25 = .ok (.bipush 32, 2) := by decide +kernel
theorem dX7_enters_27 : decode cX7_enters 27 = .ok (.iload_n 1, 1) := by decide +kernel
theorem dX7_enters_28 : decode cX7_enters 28 = .ok (.imul, 1) := by decide +kernel
theorem dX7_enters_29 : decode cX7_enters 29 = .ok (.iload 4, 2) := by decide +kernel
theorem dX7_enters_31 : decode cX7_enters 31 = .ok (.iadd, 1) := by decide +kernel
theorem dX7_enters_32 : decode cX7_enters 32 = .ok (.iaload, 1) := by decide +kernel
theorem dX7_enters_33 : decode cX7_enters 33 = .ok (.iload_n 2, 1) := by decide +kernel
theorem dX7_enters_34 : decode cX7_enters 34 = .ok (.if_icmp .ne 4, 3) := by decide +kernel
theorem dX7_enters_37 : decode cX7_enters 37 = .ok (.return_, 1) := by decide +kernel
theorem dX7_enters_38 : decode cX7_enters 38 = .ok (.iinc 4 1, 3) := by decide +kernel
theorem dX7_enters_41 : decode cX7_enters 41 = .ok (.goto (-31), 3) := by decide +kernel
theorem dX7_enters_44 : decode cX7_enters 44 = .ok (.iload_n 3, 1) := by decide +kernel
theorem dX7_enters_45 : decode cX7_enters 45 = .ok (.ifCond .le 50, 3) := by decide +kernel
theorem dX7_enters_48 : decode cX7_enters 48 = .ok (.aload_n 0, 1) := by decide +kernel
theorem dX7_enters_49 : decode cX7_enters 49 = .ok (.getfield 22, 3) := by decide +kernel
theorem dX7_enters_52 : decode cX7_enters 52 = .ok (.bipush 32, 2) := by decide +kernel
theorem dX7_enters_54 : decode cX7_enters 54 = .ok (.iload_n 1, 1) := by decide +kernel
theorem dX7_enters_55 : decode cX7_enters 55 = .ok (.imul, 1) := by decide +kernel
theorem dX7_enters_56 : decode cX7_enters 56 = .ok (.iload_n 3, 1) := by decide +kernel
theorem dX7_enters_57 : decode cX7_enters 57 = .ok (.iadd, 1) := by decide +kernel
theorem dX7_enters_58 : decode cX7_enters 58 = .ok (.iconst 1, 1) := by decide +kernel
theorem dX7_enters_59 : decode cX7_enters 59 = .ok (.isub, 1) := by decide +kernel
theorem dX7_enters_60 : decode cX7_enters 60 = .ok (.iaload, 1) := by decide +kernel
theorem dX7_enters_61 : decode cX7_enters 61 = .ok (.iload_n 2, 1) := by decide +kernel
theorem dX7_enters_62 : decode cX7_enters 62 = .ok (.if_icmp .le 33, 3) := by decide +kernel
theorem dX7_enters_65 : decode cX7_enters 65 = .ok (.aload_n 0, 1) := by decide +kernel
theorem dX7_enters_66 : decode cX7_enters 66 = .ok (.getfield 22, 3) := by decide +kernel
theorem dX7_enters_69 : decode cX7_enters 69 = .ok (.bipush 32, 2) := by decide +kernel
theorem dX7_enters_71 : decode cX7_enters 71 = .ok (.iload_n 1, 1) := by decide +kernel
theorem dX7_enters_72 : decode cX7_enters 72 = .ok (.imul, 1) := by decide +kernel
theorem dX7_enters_73 : decode cX7_enters 73 = .ok (.iload_n 3, 1) := by decide +kernel
theorem dX7_enters_74 : decode cX7_enters 74 = .ok (.iadd, 1) := by decide +kernel
theorem dX7_enters_75 : decode cX7_enters 75 = .ok (.aload_n 0, 1) := by decide +kernel
theorem dX7_enters_76 : decode cX7_enters 76 = .ok (.getfield 22, 3) := by decide +kernel
theorem dX7_enters_79 : decode cX7_enters 79 = .ok (.bipush 32, 2) := by decide +kernel
theorem dX7_enters_81 : decode cX7_enters 81 = .ok (.iload_n 1, 1) := by decide +kernel
theorem dX7_enters_82 : decode cX7_enters 82 = .ok (.imul, 1) := by decide +kernel
theorem dX7_enters_83 : decode cX7_enters 83 = .ok (.iload_n 3, 1) := by decide +kernel
theorem dX7_enters_84 : decode cX7_enters 84 = .ok (.iadd, 1) := by decide +kernel
theorem dX7_enters_85 : decode cX7_enters 85 = .ok (.iconst 1, 1) := by decide +kernel
theorem dX7_enters_86 : decode cX7_enters 86 = .ok (.isub, 1) := by decide +kernel
theorem dX7_enters_87 : decode cX7_enters 87 = .ok (.iaload, 1) := by decide +kernel
theorem dX7_enters_88 : decode cX7_enters 88 = .ok (.iastore, 1) := by decide +kernel
theorem dX7_enters_89 : decode cX7_enters 89 = .ok (.iinc 3 (-1), 3) := by decide +kernel
theorem dX7_enters_92 : decode cX7_enters 92 = .ok (.goto (-48), 3) := by decide +kernel
theorem dX7_enters_95 : decode cX7_enters 95 = .ok (.aload_n 0, 1) := by decide +kernel
theorem dX7_enters_96 : decode cX7_enters 96 = .ok (.getfield 22, 3) := by decide +kernel
theorem dX7_enters_99 : decode cX7_enters 99 = .ok (.bipush 32, 2) := by decide +kernel
theorem dX7_enters_101 : decode cX7_enters 101 = .ok (.iload_n 1, 1) := by decide +kernel
theorem dX7_enters_102 : decode cX7_enters 102 = .ok (.imul, 1) := by decide +kernel
theorem dX7_enters_103 : decode cX7_enters 103 = .ok (.iload_n 3, 1) := by decide +kernel
theorem dX7_enters_104 : decode cX7_enters 104 = .ok (.iadd, 1) := by decide +kernel
theorem dX7_enters_105 : decode cX7_enters 105 = .ok (.iload_n 2, 1) := by decide +kernel
theorem dX7_enters_106 : decode cX7_enters 106 = .ok (.iastore, 1) := by decide +kernel
theorem dX7_enters_107 : decode cX7_enters 107 = .ok (.aload_n 0, 1) := by decide +kernel
theorem dX7_enters_108 : decode cX7_enters 108 = .ok (.getfield 25, 3) := by decide +kernel
theorem dX7_enters_111 : decode cX7_enters 111 = .ok (.iload_n 1, 1) := by decide +kernel
theorem dX7_enters_112 : decode cX7_enters 112 = .ok (.dup2, 1) := by decide +kernel
theorem dX7_enters_113 : decode cX7_enters 113 = .ok (.iaload, 1) := by decide +kernel
theorem dX7_enters_114 : decode cX7_enters 114 = .ok (.iconst 1, 1) := by decide +kernel
theorem dX7_enters_115 : decode cX7_enters 115 = .ok (.iadd, 1) := by decide +kernel
theorem dX7_enters_116 : decode cX7_enters 116 = .ok (.iastore, 1) := by decide +kernel
theorem dX7_enters_117 : decode cX7_enters 117 = .ok (.return_, 1) := by decide +kernel
theorem dX7_firstOf_0 : decode cX7_firstOf 0 = .ok (.iload_n 0, 1) := by decide +kernel
theorem dX7_firstOf_1 : decode cX7_firstOf 1 = .ok (.bipush 8, 2) := by decide +kernel
theorem dX7_firstOf_3 : decode cX7_firstOf 3 = .ok (.idiv, 1) := by decide +kernel
theorem dX7_firstOf_4 : decode cX7_firstOf 4 = .ok (.ireturn, 1) := by decide +kernel
theorem dX7_span_0 : decode cX7_span 0 = .ok (.bipush 6, 2) := by decide +kernel
theorem dX7_span_2 : decode cX7_span 2 = .ok (.iload_n 0, 1) := by decide +kernel
theorem dX7_span_3 : decode cX7_span 3 = .ok (.bipush 8, 2) := by decide +kernel
theorem dX7_span_5 : decode cX7_span 5 = .ok (.irem, 1) := by decide +kernel
theorem dX7_span_6 : decode cX7_span 6 = .ok (.isub, 1) := by decide +kernel
theorem dX7_span_7 : decode cX7_span 7 = .ok (.ireturn, 1) := by decide +kernel
set_option maxRecDepth 20000 in
theorem ggX7_holds_X7_firstOf : GoodIn wsX7_holds wsX7_firstOf := goodIn_r _ [4] (by decide +kernel) (by decide +kernel)
set_option maxRecDepth 20000 in
theorem gX7_holds_X7_firstOf : GoodIn wsX7_holds (va_wsS RX7 66 yX7_firstOf wsX7_firstOf) := goodIn_app (goodIn_of _ (by decide +kernel)) ggX7_holds_X7_firstOf
set_option maxRecDepth 20000 in
theorem ggX7_holds_X7_span : GoodIn wsX7_holds wsX7_span := goodIn_r _ [7] (by decide +kernel) (by decide +kernel)
set_option maxRecDepth 20000 in
theorem gX7_holds_X7_span : GoodIn wsX7_holds (va_wsS RX7 69 yX7_span wsX7_span) := goodIn_app (goodIn_of _ (by decide +kernel)) ggX7_holds_X7_span
theorem dX7_holds_0 : decode cX7_holds 0 = .ok (.iload_n 0, 1) := by decide +kernel
theorem dX7_holds_1 : decode cX7_holds 1 = .ok (.invokestatic 66, 3) := by decide +kernel
theorem dX7_holds_4 : decode cX7_holds 4 = .ok (.iconst 2, 1) := by decide +kernel
theorem dX7_holds_5 : decode cX7_holds 5 = .ok (.iload_n 0, 1) := by decide +kernel
theorem dX7_holds_6 : decode cX7_holds 6 = .ok (.invokestatic 69, 3) := by decide +kernel
theorem dX7_holds_9 : decode cX7_holds 9 = .ok (.imul, 1) := by decide +kernel
theorem dX7_holds_10 : decode cX7_holds 10 = .ok (.ishr, 1) := by decide +kernel
theorem dX7_holds_11 : decode cX7_holds 11 = .ok (.iload_n 1, 1) := by decide +kernel
theorem dX7_holds_12 : decode cX7_holds 12 = .ok (.iconst 2, 1) := by decide +kernel
theorem dX7_holds_13 : decode cX7_holds 13 = .ok (.iload_n 0, 1) := by decide +kernel
theorem dX7_holds_14 : decode cX7_holds 14 = .ok (.invokestatic 69, 3) := by decide +kernel
theorem dX7_holds_17 : decode cX7_holds 17 = .ok (.imul, 1) := by decide +kernel
theorem dX7_holds_18 : decode cX7_holds 18 = .ok (.ishr, 1) := by decide +kernel
theorem dX7_holds_19 : decode cX7_holds 19 = .ok (.if_icmp .ne 7, 3) := by decide +kernel
theorem dX7_holds_22 : decode cX7_holds 22 = .ok (.iconst 1, 1) := by decide +kernel
theorem dX7_holds_23 : decode cX7_holds 23 = .ok (.goto 4, 3) := by decide +kernel
theorem dX7_holds_26 : decode cX7_holds 26 = .ok (.iconst 0, 1) := by decide +kernel
theorem dX7_holds_27 : decode cX7_holds 27 = .ok (.ireturn, 1) := by decide +kernel
set_option maxRecDepth 20000 in
theorem ggX7_lays_X7_enters : GoodIn wsX7_lays wsX7_enters := goodIn_r _ [6, 1, 7, 30, 31, 32, 33, 34, 35, 36, 37, 38, 39, 40, 41, 42, 43, 44, 45, 46, 47, 48, 49] (by decide +kernel) (by decide +kernel)
set_option maxRecDepth 20000 in
theorem gX7_lays_X7_enters : GoodIn wsX7_lays (wsV RX7 72 RX7 yX7_enters wsX7_enters) := goodIn_app (goodIn_of _ (by decide +kernel)) ggX7_lays_X7_enters
set_option maxRecDepth 20000 in
theorem ggX7_lays_X7_isOn : GoodIn wsX7_lays wsX7_isOn := goodIn_r _ [11, 12, 13, 14, 5, 15, 16, 17, 18, 19, 30, 31, 32, 33, 34, 35, 36, 37, 38, 39, 40, 41, 42, 43, 44, 45, 46, 47, 48, 49] (by decide +kernel) (by decide +kernel)
set_option maxRecDepth 20000 in
theorem gX7_lays_X7_isOn : GoodIn wsX7_lays (wsV RX7 76 RX7 yX7_isOn wsX7_isOn) := goodIn_app (goodIn_of _ (by decide +kernel)) ggX7_lays_X7_isOn
set_option maxRecDepth 20000 in
theorem ggX7_lays_X7_placeOf : GoodIn wsX7_lays wsX7_placeOf := goodIn_r _ [23, 16, 24, 25, 5, 26, 30, 31, 32, 33, 34, 35, 36, 37, 38, 39, 40, 41, 42, 43, 44, 45, 46, 47, 48, 49] (by decide +kernel) (by decide +kernel)
set_option maxRecDepth 20000 in
theorem gX7_lays_X7_placeOf : GoodIn wsX7_lays (wsV RX7 80 RX7 yX7_placeOf wsX7_placeOf) := goodIn_app (goodIn_of _ (by decide +kernel)) ggX7_lays_X7_placeOf
set_option maxRecDepth 20000 in
theorem ggX7_lays_X7_spanOf : GoodIn wsX7_lays wsX7_spanOf := goodIn_r _ [29] (by decide +kernel) (by decide +kernel)
set_option maxRecDepth 20000 in
theorem gX7_lays_X7_spanOf : GoodIn wsX7_lays (va_wsS RX7 83 yX7_spanOf wsX7_spanOf) := goodIn_app (goodIn_of _ (by decide +kernel)) ggX7_lays_X7_spanOf
theorem dX7_lays_0 : decode cX7_lays 0 = .ok (.iconst 0, 1) := by decide +kernel
theorem dX7_lays_1 : decode cX7_lays 1 = .ok (.istore_n 1, 1) := by decide +kernel
theorem dX7_lays_2 : decode cX7_lays 2 = .ok (.iload_n 1, 1) := by decide +kernel
theorem dX7_lays_3 : decode cX7_lays 3 = .ok (.iconst 5, 1) := by decide +kernel
theorem dX7_lays_4 : decode cX7_lays 4 = .ok (.if_icmp .ge 128, 3) := by decide +kernel
theorem dX7_lays_7 : decode cX7_lays 7 = .ok (.aload_n 0, 1) := by decide +kernel
theorem dX7_lays_8 : decode cX7_lays 8 = .ok (.getfield 25, 3) := by decide +kernel
theorem dX7_lays_11 : decode cX7_lays 11 = .ok (.iload_n 1, 1) := by decide +kernel
theorem dX7_lays_12 : decode cX7_lays 12 = .ok (.iconst 0, 1) := by decide +kernel
theorem dX7_lays_13 : decode cX7_lays 13 = .ok (.iastore, 1) := by decide +kernel
theorem dX7_lays_14 : decode cX7_lays 14 = .ok (.aload_n 0, 1) := by decide +kernel
theorem dX7_lays_15 : decode cX7_lays 15 = .ok (.iload_n 1, 1) := by decide +kernel
theorem dX7_lays_16 : decode cX7_lays 16 = .ok (.iconst 0, 1) := by decide +kernel
theorem dX7_lays_17 : decode cX7_lays 17 = .ok (.invokevirtual 72, 3) := by decide +kernel
theorem dX7_lays_20 : decode cX7_lays 20 = .ok (.iconst 0, 1) := by decide +kernel
theorem dX7_lays_21 : decode cX7_lays 21 = .ok (.istore_n 2, 1) := by decide +kernel
theorem dX7_lays_22 : decode cX7_lays 22 = .ok (.iload_n 2, 1) := by decide +kernel
theorem dX7_lays_23 : decode cX7_lays 23 = .ok (.bipush 24, 2) := by decide +kernel
theorem dX7_lays_25 : decode cX7_lays 25 = .ok (.if_icmp .ge 101, 3) := by decide +kernel
theorem dX7_lays_28 : decode cX7_lays 28 = .ok (.iconst 0, 1) := by decide +kernel
theorem dX7_lays_29 : decode cX7_lays 29 = .ok (.istore_n 3, 1) := by decide +kernel
theorem dX7_lays_30 : decode cX7_lays 30 = .ok (.iload_n 3, 1) := by decide +kernel
theorem dX7_lays_31 : decode cX7_lays 31 = .ok (.iload_n 2, 1) := by decide +kernel
theorem dX7_lays_32 : decode cX7_lays 32 = .ok (.if_icmp .ge 88, 3) := by decide +kernel
theorem dX7_lays_35 : decode cX7_lays 35 = .ok (.aload_n 0, 1) := by decide +kernel
theorem dX7_lays_36 : decode cX7_lays 36 = .ok (.iload_n 2, 1) := by decide +kernel
theorem dX7_lays_37 : decode cX7_lays 37 = .ok (.iload_n 1, 1) := by decide +kernel
theorem dX7_lays_38 : decode cX7_lays 38 = .ok (.invokevirtual 76, 3) := by decide +kernel
theorem dX7_lays_41 : decode cX7_lays 41 = .ok (.ifCond .eq 79, 3) := by decide +kernel
theorem dX7_lays_44 : decode cX7_lays 44 = .ok (.aload_n 0, 1) := by decide +kernel
theorem dX7_lays_45 : decode cX7_lays 45 = .ok (.iload_n 2, 1) := by decide +kernel
theorem dX7_lays_46 : decode cX7_lays 46 = .ok (.invokevirtual 80, 3) := by decide +kernel
theorem dX7_lays_49 : decode cX7_lays 49 = .ok (.istore 4, 2) := by decide +kernel
theorem dX7_lays_51 : decode cX7_lays 51 = .ok (.aload_n 0, 1) := by decide +kernel
theorem dX7_lays_52 : decode cX7_lays 52 = .ok (.iload_n 3, 1) := by decide +kernel
theorem dX7_lays_53 : decode cX7_lays 53 = .ok (.iload_n 1, 1) := by decide +kernel
theorem dX7_lays_54 : decode cX7_lays 54 = .ok (.invokevirtual 76, 3) := by decide +kernel
theorem dX7_lays_57 : decode cX7_lays 57 = .ok (.ifCond .eq 11, 3) := by decide +kernel
theorem dX7_lays_60 : decode cX7_lays 60 = .ok (.aload_n 0, 1) := by decide +kernel
theorem dX7_lays_61 : decode cX7_lays 61 = .ok (.iload_n 3, 1) := by decide +kernel
theorem dX7_lays_62 : decode cX7_lays 62 = .ok (.invokevirtual 80, 3) := by decide +kernel
theorem dX7_lays_65 : decode cX7_lays 65 = .ok (.goto 5, 3) := by decide +kernel
theorem dX7_lays_68 : decode cX7_lays 68 = .ok (.iload 4, 2) := by decide +kernel
theorem dX7_lays_70 : decode cX7_lays 70 = .ok (.istore 5, 2) := by decide +kernel
theorem dX7_lays_72 : decode cX7_lays 72 = .ok (.iload 4, 2) := by decide +kernel
theorem dX7_lays_74 : decode cX7_lays 74 = .ok (.iload 5, 2) := by decide +kernel
theorem dX7_lays_76 : decode cX7_lays 76 = .ok (.if_icmp .eq 38, 3) := by decide +kernel
theorem dX7_lays_79 : decode cX7_lays 79 = .ok (.iload 4, 2) := by decide +kernel
theorem dX7_lays_81 : decode cX7_lays 81 = .ok (.iload 5, 2) := by decide +kernel
theorem dX7_lays_83 : decode cX7_lays 83 = .ok (.invokestatic 83, 3) := by decide +kernel
theorem dX7_lays_86 : decode cX7_lays 86 = .ok (.istore 6, 2) := by decide +kernel
theorem dX7_lays_88 : decode cX7_lays 88 = .ok (.aload_n 0, 1) := by decide +kernel
theorem dX7_lays_89 : decode cX7_lays 89 = .ok (.iload_n 1, 1) := by decide +kernel
theorem dX7_lays_90 : decode cX7_lays 90 = .ok (.bipush 8, 2) := by decide +kernel
theorem dX7_lays_92 : decode cX7_lays 92 = .ok (.iload 4, 2) := by decide +kernel
theorem dX7_lays_94 : decode cX7_lays 94 = .ok (.iconst 2, 1) := by decide +kernel
theorem dX7_lays_95 : decode cX7_lays 95 = .ok (.iload 6, 2) := by decide +kernel
theorem dX7_lays_97 : decode cX7_lays 97 = .ok (.imul, 1) := by decide +kernel
theorem dX7_lays_98 : decode cX7_lays 98 = .ok (.ishr, 1) := by decide +kernel
theorem dX7_lays_99 : decode cX7_lays 99 = .ok (.iconst 2, 1) := by decide +kernel
theorem dX7_lays_100 : decode cX7_lays 100 = .ok (.iload 6, 2) := by decide +kernel
theorem dX7_lays_102 : decode cX7_lays 102 = .ok (.imul, 1) := by decide +kernel
theorem dX7_lays_103 : decode cX7_lays 103 = .ok (.ishl, 1) := by decide +kernel
theorem dX7_lays_104 : decode cX7_lays 104 = .ok (.imul, 1) := by decide +kernel
theorem dX7_lays_105 : decode cX7_lays 105 = .ok (.bipush 6, 2) := by decide +kernel
theorem dX7_lays_107 : decode cX7_lays 107 = .ok (.iadd, 1) := by decide +kernel
theorem dX7_lays_108 : decode cX7_lays 108 = .ok (.iload 6, 2) := by decide +kernel
theorem dX7_lays_110 : decode cX7_lays 110 = .ok (.isub, 1) := by decide +kernel
theorem dX7_lays_111 : decode cX7_lays 111 = .ok (.invokevirtual 72, 3) := by decide +kernel
theorem dX7_lays_114 : decode cX7_lays 114 = .ok (.iinc 3 1, 3) := by decide +kernel
theorem dX7_lays_117 : decode cX7_lays 117 = .ok (.goto (-87), 3) := by decide +kernel
theorem dX7_lays_120 : decode cX7_lays 120 = .ok (.iinc 2 1, 3) := by decide +kernel
theorem dX7_lays_123 : decode cX7_lays 123 = .ok (.goto (-101), 3) := by decide +kernel
theorem dX7_lays_126 : decode cX7_lays 126 = .ok (.iinc 1 1, 3) := by decide +kernel
theorem dX7_lays_129 : decode cX7_lays 129 = .ok (.goto (-127), 3) := by decide +kernel
theorem dX7_lays_132 : decode cX7_lays 132 = .ok (.return_, 1) := by decide +kernel
theorem dX7_nodeAt_0 : decode cX7_nodeAt 0 = .ok (.aload_n 0, 1) := by decide +kernel
theorem dX7_nodeAt_1 : decode cX7_nodeAt 1 = .ok (.getfield 22, 3) := by decide +kernel
theorem dX7_nodeAt_4 : decode cX7_nodeAt 4 = .ok (.bipush 32, 2) := by decide +kernel
theorem dX7_nodeAt_6 : decode cX7_nodeAt 6 = .ok (.iload_n 1, 1) := by decide +kernel
theorem dX7_nodeAt_7 : decode cX7_nodeAt 7 = .ok (.imul, 1) := by decide +kernel
theorem dX7_nodeAt_8 : decode cX7_nodeAt 8 = .ok (.iload_n 2, 1) := by decide +kernel
theorem dX7_nodeAt_9 : decode cX7_nodeAt 9 = .ok (.iadd, 1) := by decide +kernel
theorem dX7_nodeAt_10 : decode cX7_nodeAt 10 = .ok (.iaload, 1) := by decide +kernel
theorem dX7_nodeAt_11 : decode cX7_nodeAt 11 = .ok (.ireturn, 1) := by decide +kernel
set_option maxRecDepth 20000 in
theorem ggX7_indexOf_X7_nodeAt : GoodIn wsX7_indexOf wsX7_nodeAt := goodIn_r _ [5, 6, 7, 8, 9, 10, 11, 12, 13, 14, 15, 16, 17, 18, 19, 20, 21, 22, 23, 24, 25, 26] (by decide +kernel) (by decide +kernel)
set_option maxRecDepth 20000 in
theorem gX7_indexOf_X7_nodeAt : GoodIn wsX7_indexOf (wsV RX7 86 RX7 yX7_nodeAt wsX7_nodeAt) := goodIn_app (goodIn_of _ (by decide +kernel)) ggX7_indexOf_X7_nodeAt
theorem dX7_indexOf_0 : decode cX7_indexOf 0 = .ok (.iconst 0, 1) := by decide +kernel
theorem dX7_indexOf_1 : decode cX7_indexOf 1 = .ok (.istore_n 3, 1) := by decide +kernel
theorem dX7_indexOf_2 : decode cX7_indexOf 2 = .ok (.aload_n 0, 1) := by decide +kernel
theorem dX7_indexOf_3 : decode cX7_indexOf 3 = .ok (.iload_n 1, 1) := by decide +kernel
theorem dX7_indexOf_4 : decode cX7_indexOf 4 = .ok (.iload_n 3, 1) := by decide +kernel
theorem dX7_indexOf_5 : decode cX7_indexOf 5 = .ok (.invokevirtual 86, 3) := by decide +kernel
theorem dX7_indexOf_8 : decode cX7_indexOf 8 = .ok (.iload_n 2, 1) := by decide +kernel
theorem dX7_indexOf_9 : decode cX7_indexOf 9 = .ok (.if_icmp .eq 9, 3) := by decide +kernel
theorem dX7_indexOf_12 : decode cX7_indexOf 12 = .ok (.iinc 3 1, 3) := by decide +kernel
theorem dX7_indexOf_15 : decode cX7_indexOf 15 = .ok (.goto (-13), 3) := by decide +kernel
theorem dX7_indexOf_18 : decode cX7_indexOf 18 = .ok (.iload_n 3, 1) := by decide +kernel
theorem dX7_indexOf_19 : decode cX7_indexOf 19 = .ok (.ireturn, 1) := by decide +kernel
set_option maxRecDepth 20000 in
theorem ggX7_isNode_X7_nodeAt : GoodIn wsX7_isNode wsX7_nodeAt := goodIn_r _ [6, 7, 8, 9, 10, 11, 12, 13, 14, 15, 16, 17, 18, 19, 20, 21, 22, 23, 24, 25, 26, 27] (by decide +kernel) (by decide +kernel)
set_option maxRecDepth 20000 in
theorem gX7_isNode_X7_nodeAt : GoodIn wsX7_isNode (wsV RX7 86 RX7 yX7_nodeAt wsX7_nodeAt) := goodIn_app (goodIn_of _ (by decide +kernel)) ggX7_isNode_X7_nodeAt
theorem dX7_isNode_0 : decode cX7_isNode 0 = .ok (.iconst 0, 1) := by decide +kernel
theorem dX7_isNode_1 : decode cX7_isNode 1 = .ok (.istore_n 3, 1) := by decide +kernel
theorem dX7_isNode_2 : decode cX7_isNode 2 = .ok (.iconst 0, 1) := by decide +kernel
theorem dX7_isNode_3 : decode cX7_isNode 3 = .ok (.istore 4, 2) := by decide +kernel
theorem dX7_isNode_5 : decode cX7_isNode 5 = .ok (.iload 4, 2) := by decide +kernel
theorem dX7_isNode_7 : decode cX7_isNode 7 = .ok (.aload_n 0, 1) := by decide +kernel
theorem dX7_isNode_8 : decode cX7_isNode 8 = .ok (.getfield 25, 3) := by decide +kernel
theorem dX7_isNode_11 : decode cX7_isNode 11 = .ok (.iload_n 1, 1) := by decide +kernel
theorem dX7_isNode_12 : decode cX7_isNode 12 = .ok (.iaload, 1) := by decide +kernel
theorem dX7_isNode_13 : decode cX7_isNode 13 = .ok (.if_icmp .ge 30, 3) := by decide +kernel
theorem dX7_isNode_16 : decode cX7_isNode 16 = .ok (.iload_n 3, 1) := by decide +kernel
theorem dX7_isNode_17 : decode cX7_isNode 17 = .ok (.ifCond .ne 14, 3) := by decide +kernel
theorem dX7_isNode_20 : decode cX7_isNode 20 = .ok (.aload_n 0, 1) := by decide +kernel
theorem dX7_isNode_21 : decode cX7_isNode 21 = .ok (.iload_n 1, 1) := by decide +kernel
theorem dX7_isNode_22 : decode cX7_isNode 22 = .ok (.iload 4, 2) := by decide +kernel
theorem dX7_isNode_24 : decode cX7_isNode 24 = .ok (.invokevirtual 86, 3) := by decide +kernel
theorem dX7_isNode_27 : decode cX7_isNode 27 = .ok (.iload_n 2, 1) := by decide +kernel
theorem dX7_isNode_28 : decode cX7_isNode 28 = .ok (.if_icmp .ne 7, 3) := by decide +kernel
theorem dX7_isNode_31 : decode cX7_isNode 31 = .ok (.iconst 1, 1) := by decide +kernel
theorem dX7_isNode_32 : decode cX7_isNode 32 = .ok (.goto 4, 3) := by decide +kernel
theorem dX7_isNode_35 : decode cX7_isNode 35 = .ok (.iconst 0, 1) := by decide +kernel
theorem dX7_isNode_36 : decode cX7_isNode 36 = .ok (.istore_n 3, 1) := by decide +kernel
theorem dX7_isNode_37 : decode cX7_isNode 37 = .ok (.iinc 4 1, 3) := by decide +kernel
theorem dX7_isNode_40 : decode cX7_isNode 40 = .ok (.goto (-35), 3) := by decide +kernel
theorem dX7_isNode_43 : decode cX7_isNode 43 = .ok (.iload_n 3, 1) := by decide +kernel
theorem dX7_isNode_44 : decode cX7_isNode 44 = .ok (.ireturn, 1) := by decide +kernel
set_option maxRecDepth 20000 in
theorem ggX7_laysBefore_X7_lays : GoodIn wsX7_laysBefore wsX7_lays := goodIn_r _ [9, 4, 10, 11, 12, 8, 13, 2, 14, 15, 16, 17, 18, 19, 20, 21, 22, 23, 24, 25, 26, 27, 28, 29, 30, 31, 32, 33, 34, 35, 36, 37, 38, 39, 40, 41, 42, 43, 44, 45, 46, 47, 48, 49, 50, 51, 52, 53, 54, 55] (by decide +kernel) (by decide +kernel)
set_option maxRecDepth 20000 in
theorem gX7_laysBefore_X7_lays : GoodIn wsX7_laysBefore (wsV RX7 89 RX7 yX7_lays wsX7_lays) := goodIn_app (goodIn_of _ (by decide +kernel)) ggX7_laysBefore_X7_lays
theorem dX7_laysBefore_0 : decode cX7_laysBefore 0 = .ok (.aload_n 0, 1) := by decide +kernel
theorem dX7_laysBefore_1 : decode cX7_laysBefore 1 = .ok (.invokevirtual 89, 3) := by decide +kernel
theorem dX7_laysBefore_4 : decode cX7_laysBefore 4 = .ok (.iconst 0, 1) := by decide +kernel
theorem dX7_laysBefore_5 : decode cX7_laysBefore 5 = .ok (.istore_n 1, 1) := by decide +kernel
theorem dX7_laysBefore_6 : decode cX7_laysBefore 6 = .ok (.iload_n 1, 1) := by decide +kernel
theorem dX7_laysBefore_7 : decode cX7_laysBefore 7 = .ok (.sipush 160, 3) := by decide +kernel
theorem dX7_laysBefore_10 : decode cX7_laysBefore 10 = .ok (.if_icmp .ge 21, 3) := by decide +kernel
theorem dX7_laysBefore_13 : decode cX7_laysBefore 13 = .ok (.aload_n 0, 1) := by decide +kernel
theorem dX7_laysBefore_14 : decode cX7_laysBefore 14 = .ok (.getfield 28, 3) := by decide +kernel
theorem dX7_laysBefore_17 : decode cX7_laysBefore 17 = .ok (.iload_n 1, 1) := by decide +kernel
theorem dX7_laysBefore_18 : decode cX7_laysBefore 18 = .ok (.aload_n 0, 1) := by decide +kernel
theorem dX7_laysBefore_19 : decode cX7_laysBefore 19 = .ok (.getfield 22, 3) := by decide +kernel
theorem dX7_laysBefore_22 : decode cX7_laysBefore 22 = .ok (.iload_n 1, 1) := by decide +kernel
theorem dX7_laysBefore_23 : decode cX7_laysBefore 23 = .ok (.iaload, 1) := by decide +kernel
theorem dX7_laysBefore_24 : decode cX7_laysBefore 24 = .ok (.iastore, 1) := by decide +kernel
theorem dX7_laysBefore_25 : decode cX7_laysBefore 25 = .ok (.iinc 1 1, 3) := by decide +kernel
theorem dX7_laysBefore_28 : decode cX7_laysBefore 28 = .ok (.goto (-22), 3) := by decide +kernel
theorem dX7_laysBefore_31 : decode cX7_laysBefore 31 = .ok (.iconst 0, 1) := by decide +kernel
theorem dX7_laysBefore_32 : decode cX7_laysBefore 32 = .ok (.istore_n 1, 1) := by decide +kernel
theorem dX7_laysBefore_33 : decode cX7_laysBefore 33 = .ok (.iload_n 1, 1) := by decide +kernel
theorem dX7_laysBefore_34 : decode cX7_laysBefore 34 = .ok (.iconst 5, 1) := by decide +kernel
theorem dX7_laysBefore_35 : decode cX7_laysBefore 35 = .ok (.if_icmp .ge 21, 3) := by decide +kernel
theorem dX7_laysBefore_38 : decode cX7_laysBefore 38 = .ok (.aload_n 0, 1) := by decide +kernel
theorem dX7_laysBefore_39 : decode cX7_laysBefore 39 = .ok (.getfield 31, 3) := by decide +kernel
theorem dX7_laysBefore_42 : decode cX7_laysBefore 42 = .ok (.iload_n 1, 1) := by decide +kernel
theorem dX7_laysBefore_43 : decode cX7_laysBefore 43 = .ok (.aload_n 0, 1) := by decide +kernel
theorem dX7_laysBefore_44 : decode cX7_laysBefore 44 = .ok (.getfield 25, 3) := by decide +kernel
theorem dX7_laysBefore_47 : decode cX7_laysBefore 47 = .ok (.iload_n 1, 1) := by decide +kernel
theorem dX7_laysBefore_48 : decode cX7_laysBefore 48 = .ok (.iaload, 1) := by decide +kernel
theorem dX7_laysBefore_49 : decode cX7_laysBefore 49 = .ok (.iastore, 1) := by decide +kernel
theorem dX7_laysBefore_50 : decode cX7_laysBefore 50 = .ok (.iinc 1 1, 3) := by decide +kernel
theorem dX7_laysBefore_53 : decode cX7_laysBefore 53 = .ok (.goto (-20), 3) := by decide +kernel
theorem dX7_laysBefore_56 : decode cX7_laysBefore 56 = .ok (.return_, 1) := by decide +kernel
set_option maxRecDepth 20000 in
theorem ggX7_touched_X7_lays : GoodIn wsX7_touched wsX7_lays := goodIn_r _ [8, 3, 9, 10, 11, 7, 12, 13, 14, 15, 16, 17, 18, 19, 20, 21, 22, 23, 24, 25, 26, 27, 28, 29, 30, 31, 32, 33, 34, 35, 44, 45, 46, 47, 48, 49, 50, 51, 52, 53, 54, 55, 56, 57, 58, 59, 60, 61, 62, 63] (by decide +kernel) (by decide +kernel)
set_option maxRecDepth 20000 in
theorem gX7_touched_X7_lays : GoodIn wsX7_touched (wsV RX7 89 RX7 yX7_lays wsX7_lays) := goodIn_app (goodIn_of _ (by decide +kernel)) ggX7_touched_X7_lays
set_option maxRecDepth 20000 in
theorem ggX7_touched_X7_isNode : GoodIn wsX7_touched wsX7_isNode := goodIn_r _ [39, 3, 40, 41, 42, 7, 43, 13, 44, 45, 46, 47, 48, 49, 50, 51, 52, 53, 54, 55, 56, 57, 58, 59, 60, 61, 62, 63] (by decide +kernel) (by decide +kernel)
set_option maxRecDepth 20000 in
theorem gX7_touched_X7_isNode : GoodIn wsX7_touched (wsV RX7 92 RX7 yX7_isNode wsX7_isNode) := goodIn_app (goodIn_of _ (by decide +kernel)) ggX7_touched_X7_isNode
theorem dX7_touched_0 : decode cX7_touched 0 = .ok (.aload_n 0, 1) := by decide +kernel
theorem dX7_touched_1 : decode cX7_touched 1 = .ok (.invokevirtual 89, 3) := by decide +kernel
theorem dX7_touched_4 : decode cX7_touched 4 = .ok (.iconst 0, 1) := by decide +kernel
theorem dX7_touched_5 : decode cX7_touched 5 = .ok (.istore_n 1, 1) := by decide +kernel
theorem dX7_touched_6 : decode cX7_touched 6 = .ok (.iconst 0, 1) := by decide +kernel
theorem dX7_touched_7 : decode cX7_touched 7 = .ok (.istore_n 2, 1) := by decide +kernel
theorem dX7_touched_8 : decode cX7_touched 8 = .ok (.iload_n 2, 1) := by decide +kernel
theorem dX7_touched_9 : decode cX7_touched 9 = .ok (.iconst 5, 1) := by decide +kernel
theorem dX7_touched_10 : decode cX7_touched 10 = .ok (.if_icmp .ge 79, 3) := by decide +kernel
theorem dX7_touched_13 : decode cX7_touched 13 = .ok (.iconst 0, 1) := by decide +kernel
theorem dX7_touched_14 : decode cX7_touched 14 = .ok (.istore_n 3, 1) := by decide +kernel
theorem dX7_touched_15 : decode cX7_touched 15 = .ok (.iconst 0, 1) := by decide +kernel
theorem dX7_touched_16 : decode cX7_touched 16 = .ok (.istore 4, 2) := by decide +kernel
theorem dX7_touched_18 : decode cX7_touched 18 = .ok (.iload 4, 2) := by decide +kernel
theorem dX7_touched_20 : decode cX7_touched 20 = .ok (.aload_n 0, 1) := by decide +kernel
theorem dX7_touched_21 : decode cX7_touched 21 = .ok (.getfield 31, 3) := by decide +kernel
theorem dX7_touched_24 : decode cX7_touched 24 = .ok (.iload_n 2, 1) := by decide +kernel
theorem dX7_touched_25 : decode cX7_touched 25 = .ok (.iaload, 1) := by decide +kernel
theorem dX7_touched_26 : decode cX7_touched 26 = .ok (.if_icmp .ge 37, 3) := by decide +kernel
theorem dX7_touched_29 : decode cX7_touched 29 = .ok (.iload_n 3, 1) := by decide +kernel
theorem dX7_touched_30 : decode cX7_touched 30 = .ok (.aload_n 0, 1) := by decide +kernel
theorem dX7_touched_31 : decode cX7_touched 31 = .ok (.iload_n 2, 1) := by decide +kernel
theorem dX7_touched_32 : decode cX7_touched 32 = .ok (.aload_n 0, 1) := by decide +kernel
theorem dX7_touched_33 : decode cX7_touched 33 = .ok (.getfield 28, 3) := by decide +kernel
theorem dX7_touched_36 : decode cX7_touched 36 = .ok (.bipush 32, 2) := by decide +kernel
theorem dX7_touched_38 : decode cX7_touched 38 = .ok (.iload_n 2, 1) := by decide +kernel
theorem dX7_touched_39 : decode cX7_touched 39 = .ok (.imul, 1) := by decide +kernel
theorem dX7_touched_40 : decode cX7_touched 40 = .ok (.iload 4, 2) := by decide +kernel
theorem dX7_touched_42 : decode cX7_touched 42 = .ok (.iadd, 1) := by decide +kernel
theorem dX7_touched_43 : decode cX7_touched 43 = .ok (.iaload, 1) := by decide +kernel
theorem dX7_touched_44 : decode cX7_touched 44 = .ok (.invokevirtual 92, 3) := by decide +kernel
theorem dX7_touched_47 : decode cX7_touched 47 = .ok (.ifCond .eq 7, 3) := by decide +kernel
theorem dX7_touched_50 : decode cX7_touched 50 = .ok (.iconst 1, 1) := by decide +kernel
theorem dX7_touched_51 : decode cX7_touched 51 = .ok (.goto 4, 3) := by decide +kernel
theorem dX7_touched_54 : decode cX7_touched 54 = .ok (.iconst 0, 1) := by decide +kernel
theorem dX7_touched_55 : decode cX7_touched 55 = .ok (.iadd, 1) := by decide +kernel
theorem dX7_touched_56 : decode cX7_touched 56 = .ok (.istore_n 3, 1) := by decide +kernel
theorem dX7_touched_57 : decode cX7_touched 57 = .ok (.iinc 4 1, 3) := by decide +kernel
theorem dX7_touched_60 : decode cX7_touched 60 = .ok (.goto (-42), 3) := by decide +kernel
theorem dX7_touched_63 : decode cX7_touched 63 = .ok (.iload_n 1, 1) := by decide +kernel
theorem dX7_touched_64 : decode cX7_touched 64 = .ok (.aload_n 0, 1) := by decide +kernel
theorem dX7_touched_65 : decode cX7_touched 65 = .ok (.getfield 31, 3) := by decide +kernel
theorem dX7_touched_68 : decode cX7_touched 68 = .ok (.iload_n 2, 1) := by decide +kernel
theorem dX7_touched_69 : decode cX7_touched 69 = .ok (.iaload, 1) := by decide +kernel
theorem dX7_touched_70 : decode cX7_touched 70 = .ok (.aload_n 0, 1) := by decide +kernel
theorem dX7_touched_71 : decode cX7_touched 71 = .ok (.getfield 25, 3) := by decide +kernel
theorem dX7_touched_74 : decode cX7_touched 74 = .ok (.iload_n 2, 1) := by decide +kernel
theorem dX7_touched_75 : decode cX7_touched 75 = .ok (.iaload, 1) := by decide +kernel
theorem dX7_touched_76 : decode cX7_touched 76 = .ok (.iadd, 1) := by decide +kernel
theorem dX7_touched_77 : decode cX7_touched 77 = .ok (.iconst 2, 1) := by decide +kernel
theorem dX7_touched_78 : decode cX7_touched 78 = .ok (.iload_n 3, 1) := by decide +kernel
theorem dX7_touched_79 : decode cX7_touched 79 = .ok (.imul, 1) := by decide +kernel
theorem dX7_touched_80 : decode cX7_touched 80 = .ok (.isub, 1) := by decide +kernel
theorem dX7_touched_81 : decode cX7_touched 81 = .ok (.iadd, 1) := by decide +kernel
theorem dX7_touched_82 : decode cX7_touched 82 = .ok (.istore_n 1, 1) := by decide +kernel
theorem dX7_touched_83 : decode cX7_touched 83 = .ok (.iinc 2 1, 3) := by decide +kernel
theorem dX7_touched_86 : decode cX7_touched 86 = .ok (.goto (-78), 3) := by decide +kernel
theorem dX7_touched_89 : decode cX7_touched 89 = .ok (.iload_n 1, 1) := by decide +kernel
theorem dX7_touched_90 : decode cX7_touched 90 = .ok (.ireturn, 1) := by decide +kernel
set_option maxRecDepth 20000 in
theorem ggX7_badAdd_X7_isId : GoodIn wsX7_badAdd wsX7_isId := goodIn_r _ [4, 5, 6, 3, 7] (by decide +kernel) (by decide +kernel)
set_option maxRecDepth 20000 in
theorem gX7_badAdd_X7_isId : GoodIn wsX7_badAdd (va_wsS RX7 95 yX7_isId wsX7_isId) := goodIn_app (goodIn_of _ (by decide +kernel)) ggX7_badAdd_X7_isId
set_option maxRecDepth 20000 in
theorem ggX7_badAdd_X7_isPlace : GoodIn wsX7_badAdd wsX7_isPlace := goodIn_r _ [10, 5, 6, 3, 7] (by decide +kernel) (by decide +kernel)
set_option maxRecDepth 20000 in
theorem gX7_badAdd_X7_isPlace : GoodIn wsX7_badAdd (va_wsS RX7 98 yX7_isPlace wsX7_isPlace) := goodIn_app (goodIn_of _ (by decide +kernel)) ggX7_badAdd_X7_isPlace
set_option maxRecDepth 20000 in
theorem ggX7_badAdd_X7_isThere : GoodIn wsX7_badAdd wsX7_isThere := goodIn_r _ [14, 15, 16, 17, 18, 19, 20, 21, 22, 23, 24, 25, 26, 27, 28, 29, 30, 31, 32, 33, 34, 35] (by decide +kernel) (by decide +kernel)
set_option maxRecDepth 20000 in
theorem gX7_badAdd_X7_isThere : GoodIn wsX7_badAdd (wsV RX7 45 RX7 yX7_isThere wsX7_isThere) := goodIn_app (goodIn_of _ (by decide +kernel)) ggX7_badAdd_X7_isThere
theorem dX7_badAdd_0 : decode cX7_badAdd 0 = .ok (.iload_n 1, 1) := by decide +kernel
theorem dX7_badAdd_1 : decode cX7_badAdd 1 = .ok (.invokestatic 95, 3) := by decide +kernel
theorem dX7_badAdd_4 : decode cX7_badAdd 4 = .ok (.ifCond .ne 7, 3) := by decide +kernel
theorem dX7_badAdd_7 : decode cX7_badAdd 7 = .ok (.iconst 1, 1) := by decide +kernel
theorem dX7_badAdd_8 : decode cX7_badAdd 8 = .ok (.goto 28, 3) := by decide +kernel
theorem dX7_badAdd_11 : decode cX7_badAdd 11 = .ok (.iload_n 2, 1) := by decide +kernel
theorem dX7_badAdd_12 : decode cX7_badAdd 12 = .ok (.iload_n 3, 1) := by decide +kernel
theorem dX7_badAdd_13 : decode cX7_badAdd 13 = .ok (.invokestatic 98, 3) := by decide +kernel
theorem dX7_badAdd_16 : decode cX7_badAdd 16 = .ok (.ifCond .ne 7, 3) := by decide +kernel
theorem dX7_badAdd_19 : decode cX7_badAdd 19 = .ok (.iconst 2, 1) := by decide +kernel
theorem dX7_badAdd_20 : decode cX7_badAdd 20 = .ok (.goto 16, 3) := by decide +kernel
theorem dX7_badAdd_23 : decode cX7_badAdd 23 = .ok (.aload_n 0, 1) := by decide +kernel
theorem dX7_badAdd_24 : decode cX7_badAdd 24 = .ok (.iload_n 1, 1) := by decide +kernel
theorem dX7_badAdd_25 : decode cX7_badAdd 25 = .ok (.invokevirtual 45, 3) := by decide +kernel
theorem dX7_badAdd_28 : decode cX7_badAdd 28 = .ok (.ifCond .eq 7, 3) := by decide +kernel
theorem dX7_badAdd_31 : decode cX7_badAdd 31 = .ok (.iconst 3, 1) := by decide +kernel
theorem dX7_badAdd_32 : decode cX7_badAdd 32 = .ok (.goto 4, 3) := by decide +kernel
theorem dX7_badAdd_35 : decode cX7_badAdd 35 = .ok (.iconst 0, 1) := by decide +kernel
theorem dX7_badAdd_36 : decode cX7_badAdd 36 = .ok (.ireturn, 1) := by decide +kernel
set_option maxRecDepth 20000 in
theorem ggX7_adds_X7_laysBefore : GoodIn wsX7_adds wsX7_laysBefore := goodIn_r _ [5, 6, 7, 8, 9, 10, 11, 12, 4, 13, 14, 15, 16, 17, 18, 19, 20, 21, 22, 23, 24, 25, 26, 27, 28, 29, 30, 31, 32, 33, 34, 35, 36, 37, 38, 39, 56, 57, 58, 59, 60, 61, 62, 63, 64, 65, 66, 67, 68, 69, 70, 71, 72, 73, 74, 75] (by decide +kernel) (by decide +kernel)
set_option maxRecDepth 20000 in
theorem gX7_adds_X7_laysBefore : GoodIn wsX7_adds (wsV RX7 101 RX7 yX7_laysBefore wsX7_laysBefore) := goodIn_app (goodIn_of _ (by decide +kernel)) ggX7_adds_X7_laysBefore
set_option maxRecDepth 20000 in
theorem ggX7_adds_X7_puts : GoodIn wsX7_adds wsX7_puts := goodIn_r _ [43, 26, 56, 57, 58, 59, 60, 61, 62, 63, 64, 65, 66, 67, 68, 69, 70, 71, 72, 73, 74, 75] (by decide +kernel) (by decide +kernel)
set_option maxRecDepth 20000 in
theorem gX7_adds_X7_puts : GoodIn wsX7_adds (wsV RX7 104 RX7 yX7_puts wsX7_puts) := goodIn_app (goodIn_of _ (by decide +kernel)) ggX7_adds_X7_puts
set_option maxRecDepth 20000 in
theorem ggX7_adds_X7_touched : GoodIn wsX7_adds wsX7_touched := goodIn_r _ [47, 8, 6, 9, 10, 11, 12, 4, 13, 14, 15, 16, 17, 7, 18, 19, 20, 21, 22, 23, 24, 25, 26, 27, 28, 29, 30, 31, 32, 33, 34, 35, 36, 37, 38, 39, 48, 49, 50, 51, 52, 53, 54, 55, 56, 57, 58, 59, 60, 61, 62, 63, 64, 65, 66, 67, 68, 69, 70, 71, 72, 73, 74, 75] (by decide +kernel) (by decide +kernel)
set_option maxRecDepth 20000 in
theorem gX7_adds_X7_touched : GoodIn wsX7_adds (wsV RX7 108 RX7 yX7_touched wsX7_touched) := goodIn_app (goodIn_of _ (by decide +kernel)) ggX7_adds_X7_touched
theorem dX7_adds_0 : decode cX7_adds 0 = .ok (.aload_n 0, 1) := by decide +kernel
theorem dX7_adds_1 : decode cX7_adds 1 = .ok (.invokevirtual 101, 3) := by decide +kernel
theorem dX7_adds_4 : decode cX7_adds 4 = .ok (.aload_n 0, 1) := by decide +kernel
theorem dX7_adds_5 : decode cX7_adds 5 = .ok (.iload_n 1, 1) := by decide +kernel
theorem dX7_adds_6 : decode cX7_adds 6 = .ok (.iload_n 2, 1) := by decide +kernel
theorem dX7_adds_7 : decode cX7_adds 7 = .ok (.iload_n 3, 1) := by decide +kernel
theorem dX7_adds_8 : decode cX7_adds 8 = .ok (.invokevirtual 104, 3) := by decide +kernel
theorem dX7_adds_11 : decode cX7_adds 11 = .ok (.aload_n 0, 1) := by decide +kernel
theorem dX7_adds_12 : decode cX7_adds 12 = .ok (.invokevirtual 108, 3) := by decide +kernel
theorem dX7_adds_15 : decode cX7_adds 15 = .ok (.ireturn, 1) := by decide +kernel
theorem dX7_puts_0 : decode cX7_puts 0 = .ok (.iconst 5, 1) := by decide +kernel
theorem dX7_puts_1 : decode cX7_puts 1 = .ok (.iload_n 1, 1) := by decide +kernel
theorem dX7_puts_2 : decode cX7_puts 2 = .ok (.imul, 1) := by decide +kernel
theorem dX7_puts_3 : decode cX7_puts 3 = .ok (.istore 4, 2) := by decide +kernel
theorem dX7_puts_5 : decode cX7_puts 5 = .ok (.aload_n 0, 1) := by decide +kernel
theorem dX7_puts_6 : decode cX7_puts 6 = .ok (.getfield 7, 3) := by decide +kernel
theorem dX7_puts_9 : decode cX7_puts 9 = .ok (.iload 4, 2) := by decide +kernel
theorem dX7_puts_11 : decode cX7_puts 11 = .ok (.iaload, 1) := by decide +kernel
theorem dX7_puts_12 : decode cX7_puts 12 = .ok (.ifCond .ne 23, 3) := by decide +kernel
theorem dX7_puts_15 : decode cX7_puts 15 = .ok (.aload_n 0, 1) := by decide +kernel
theorem dX7_puts_16 : decode cX7_puts 16 = .ok (.getfield 7, 3) := by decide +kernel
theorem dX7_puts_19 : decode cX7_puts 19 = .ok (.iload 4, 2) := by decide +kernel
theorem dX7_puts_21 : decode cX7_puts 21 = .ok (.iconst 3, 1) := by decide +kernel
theorem dX7_puts_22 : decode cX7_puts 22 = .ok (.iadd, 1) := by decide +kernel
theorem dX7_puts_23 : decode cX7_puts 23 = .ok (.iconst 0, 1) := by decide +kernel
theorem dX7_puts_24 : decode cX7_puts 24 = .ok (.iastore, 1) := by decide +kernel
theorem dX7_puts_25 : decode cX7_puts 25 = .ok (.aload_n 0, 1) := by decide +kernel
theorem dX7_puts_26 : decode cX7_puts 26 = .ok (.getfield 7, 3) := by decide +kernel
theorem dX7_puts_29 : decode cX7_puts 29 = .ok (.iload 4, 2) := by decide +kernel
theorem dX7_puts_31 : decode cX7_puts 31 = .ok (.iconst 4, 1) := by decide +kernel
theorem dX7_puts_32 : decode cX7_puts 32 = .ok (.iadd, 1) := by decide +kernel
theorem dX7_puts_33 : decode cX7_puts 33 = .ok (.iconst 0, 1) := by decide +kernel
theorem dX7_puts_34 : decode cX7_puts 34 = .ok (.iastore, 1) := by decide +kernel
theorem dX7_puts_35 : decode cX7_puts 35 = .ok (.aload_n 0, 1) := by decide +kernel
theorem dX7_puts_36 : decode cX7_puts 36 = .ok (.getfield 7, 3) := by decide +kernel
theorem dX7_puts_39 : decode cX7_puts 39 = .ok (.iload 4, 2) := by decide +kernel
theorem dX7_puts_41 : decode cX7_puts 41 = .ok (.iconst 1, 1) := by decide +kernel
theorem dX7_puts_42 : decode cX7_puts 42 = .ok (.iastore, 1) := by decide +kernel
theorem dX7_puts_43 : decode cX7_puts 43 = .ok (.aload_n 0, 1) := by decide +kernel
theorem dX7_puts_44 : decode cX7_puts 44 = .ok (.getfield 7, 3) := by decide +kernel
theorem dX7_puts_47 : decode cX7_puts 47 = .ok (.iload 4, 2) := by decide +kernel
theorem dX7_puts_49 : decode cX7_puts 49 = .ok (.iconst 1, 1) := by decide +kernel
theorem dX7_puts_50 : decode cX7_puts 50 = .ok (.iadd, 1) := by decide +kernel
theorem dX7_puts_51 : decode cX7_puts 51 = .ok (.iload_n 2, 1) := by decide +kernel
theorem dX7_puts_52 : decode cX7_puts 52 = .ok (.iastore, 1) := by decide +kernel
theorem dX7_puts_53 : decode cX7_puts 53 = .ok (.aload_n 0, 1) := by decide +kernel
theorem dX7_puts_54 : decode cX7_puts 54 = .ok (.getfield 7, 3) := by decide +kernel
theorem dX7_puts_57 : decode cX7_puts 57 = .ok (.iload 4, 2) := by decide +kernel
theorem dX7_puts_59 : decode cX7_puts 59 = .ok (.iconst 2, 1) := by decide +kernel
theorem dX7_puts_60 : decode cX7_puts 60 = .ok (.iadd, 1) := by decide +kernel
theorem dX7_puts_61 : decode cX7_puts 61 = .ok (.iload_n 3, 1) := by decide +kernel
theorem dX7_puts_62 : decode cX7_puts 62 = .ok (.iastore, 1) := by decide +kernel
theorem dX7_puts_63 : decode cX7_puts 63 = .ok (.return_, 1) := by decide +kernel
set_option maxRecDepth 20000 in
theorem ggX7_add_X7_badAdd : GoodIn wsX7_add wsX7_badAdd := goodIn_r _ [5, 6, 7, 4, 8, 9, 10, 11, 12, 13, 14, 15, 16, 17, 18, 19, 84, 85, 86, 87, 88, 89, 90, 91, 92, 93, 94, 95, 96, 97, 98, 99, 100, 101, 102, 103] (by decide +kernel) (by decide +kernel)
set_option maxRecDepth 20000 in
theorem gX7_add_X7_badAdd : GoodIn wsX7_add (wsV RX7 112 RX7 yX7_badAdd wsX7_badAdd) := goodIn_app (goodIn_of _ (by decide +kernel)) ggX7_add_X7_badAdd
set_option maxRecDepth 20000 in
theorem ggX7_add_X7_refused : GoodIn wsX7_add wsX7_refused := goodIn_r _ [23, 24, 84, 85, 86, 87, 88, 89, 90, 91, 92, 93, 94, 95, 96, 97, 98, 99, 100, 101, 102, 103] (by decide +kernel) (by decide +kernel)
set_option maxRecDepth 20000 in
theorem gX7_add_X7_refused : GoodIn wsX7_add (wsV RX7 56 RX7 yX7_refused wsX7_refused) := goodIn_app (goodIn_of _ (by decide +kernel)) ggX7_add_X7_refused
set_option maxRecDepth 20000 in
theorem ggX7_add_X7_saves : GoodIn wsX7_add wsX7_saves := goodIn_r _ [28, 29, 30, 19, 84, 85, 86, 87, 88, 89, 90, 91, 92, 93, 94, 95, 96, 97, 98, 99, 100, 101, 102, 103] (by decide +kernel) (by decide +kernel)
set_option maxRecDepth 20000 in
theorem gX7_add_X7_saves : GoodIn wsX7_add (wsV RX7 116 RX7 yX7_saves wsX7_saves) := goodIn_app (goodIn_of _ (by decide +kernel)) ggX7_add_X7_saves
set_option maxRecDepth 20000 in
theorem ggX7_add_X7_adds : GoodIn wsX7_add wsX7_adds := goodIn_r _ [34, 35, 36, 37, 4, 38, 39, 40, 41, 42, 43, 44, 45, 46, 47, 48, 49, 50, 51, 52, 53, 54, 15, 16, 17, 18, 19, 55, 56, 57, 58, 59, 60, 61, 62, 63, 64, 65, 66, 67, 68, 69, 70, 71, 72, 73, 74, 75, 76, 77, 78, 79, 80, 81, 82, 83, 84, 85, 86, 87, 88, 89, 90, 91, 92, 93, 94, 95, 96, 97, 98, 99, 100, 101, 102, 103] (by decide +kernel) (by decide +kernel)
set_option maxRecDepth 20000 in
theorem gX7_add_X7_adds : GoodIn wsX7_add (wsV RX7 119 RX7 yX7_adds wsX7_adds) := goodIn_app (goodIn_of _ (by decide +kernel)) ggX7_add_X7_adds
theorem dX7_add_0 : decode cX7_add 0 = .ok (.aload_n 0, 1) := by decide +kernel
theorem dX7_add_1 : decode cX7_add 1 = .ok (.aload_n 0, 1) := by decide +kernel
theorem dX7_add_2 : decode cX7_add 2 = .ok (.iload_n 1, 1) := by decide +kernel
theorem dX7_add_3 : decode cX7_add 3 = .ok (.iload_n 2, 1) := by decide +kernel
theorem dX7_add_4 : decode cX7_add 4 = .ok (.iload_n 3, 1) := by decide +kernel
theorem dX7_add_5 : decode cX7_add 5 = .ok (.invokevirtual 112, 3) := by decide +kernel
theorem dX7_add_8 : decode cX7_add 8 = .ok (.invokevirtual 56, 3) := by decide +kernel
theorem dX7_add_11 : decode cX7_add 11 = .ok (.ifCond .eq 5, 3) := by decide +kernel
theorem dX7_add_14 : decode cX7_add 14 = .ok (.iconst 0, 1) := by decide +kernel
theorem dX7_add_15 : decode cX7_add 15 = .ok (.ireturn, 1) := by decide +kernel
theorem dX7_add_16 : decode cX7_add 16 = .ok (.aload_n 0, 1) := by decide +kernel
theorem dX7_add_17 : decode cX7_add 17 = .ok (.invokevirtual 116, 3) := by decide +kernel
theorem dX7_add_20 : decode cX7_add 20 = .ok (.aload_n 0, 1) := by decide +kernel
theorem dX7_add_21 : decode cX7_add 21 = .ok (.iload_n 1, 1) := by decide +kernel
theorem dX7_add_22 : decode cX7_add 22 = .ok (.iload_n 2, 1) := by decide +kernel
theorem dX7_add_23 : decode cX7_add 23 = .ok (.iload_n 3, 1) := by decide +kernel
theorem dX7_add_24 : decode cX7_add 24 = .ok (.invokevirtual 119, 3) := by decide +kernel
theorem dX7_add_27 : decode cX7_add 27 = .ok (.ireturn, 1) := by decide +kernel
set_option maxRecDepth 20000 in
theorem ggX7_badMove_X7_isId : GoodIn wsX7_badMove wsX7_isId := goodIn_r _ [4, 5, 6, 3, 7] (by decide +kernel) (by decide +kernel)
set_option maxRecDepth 20000 in
theorem gX7_badMove_X7_isId : GoodIn wsX7_badMove (va_wsS RX7 95 yX7_isId wsX7_isId) := goodIn_app (goodIn_of _ (by decide +kernel)) ggX7_badMove_X7_isId
set_option maxRecDepth 20000 in
theorem ggX7_badMove_X7_isPlace : GoodIn wsX7_badMove wsX7_isPlace := goodIn_r _ [10, 5, 6, 3, 7] (by decide +kernel) (by decide +kernel)
set_option maxRecDepth 20000 in
theorem gX7_badMove_X7_isPlace : GoodIn wsX7_badMove (va_wsS RX7 98 yX7_isPlace wsX7_isPlace) := goodIn_app (goodIn_of _ (by decide +kernel)) ggX7_badMove_X7_isPlace
set_option maxRecDepth 20000 in
theorem ggX7_badMove_X7_isThere : GoodIn wsX7_badMove wsX7_isThere := goodIn_r _ [14, 15, 16, 17, 18, 19, 20, 21, 22, 23, 24, 25, 26, 27, 28, 29, 30, 31, 32, 33, 34, 35] (by decide +kernel) (by decide +kernel)
set_option maxRecDepth 20000 in
theorem gX7_badMove_X7_isThere : GoodIn wsX7_badMove (wsV RX7 45 RX7 yX7_isThere wsX7_isThere) := goodIn_app (goodIn_of _ (by decide +kernel)) ggX7_badMove_X7_isThere
theorem dX7_badMove_0 : decode cX7_badMove 0 = .ok (.iload_n 1, 1) := by decide +kernel
theorem dX7_badMove_1 : decode cX7_badMove 1 = .ok (.invokestatic 95, 3) := by decide +kernel
theorem dX7_badMove_4 : decode cX7_badMove 4 = .ok (.ifCond .ne 7, 3) := by decide +kernel
theorem dX7_badMove_7 : decode cX7_badMove 7 = .ok (.iconst 1, 1) := by decide +kernel
theorem dX7_badMove_8 : decode cX7_badMove 8 = .ok (.goto 28, 3) := by decide +kernel
theorem dX7_badMove_11 : decode cX7_badMove 11 = .ok (.iload_n 2, 1) := by decide +kernel
theorem dX7_badMove_12 : decode cX7_badMove 12 = .ok (.iload_n 3, 1) := by decide +kernel
theorem dX7_badMove_13 : decode cX7_badMove 13 = .ok (.invokestatic 98, 3) := by decide +kernel
theorem dX7_badMove_16 : decode cX7_badMove 16 = .ok (.ifCond .ne 7, 3) := by decide +kernel
theorem dX7_badMove_19 : decode cX7_badMove 19 = .ok (.iconst 2, 1) := by decide +kernel
theorem dX7_badMove_20 : decode cX7_badMove 20 = .ok (.goto 16, 3) := by decide +kernel
theorem dX7_badMove_23 : decode cX7_badMove 23 = .ok (.aload_n 0, 1) := by decide +kernel
theorem dX7_badMove_24 : decode cX7_badMove 24 = .ok (.iload_n 1, 1) := by decide +kernel
theorem dX7_badMove_25 : decode cX7_badMove 25 = .ok (.invokevirtual 45, 3) := by decide +kernel
theorem dX7_badMove_28 : decode cX7_badMove 28 = .ok (.ifCond .eq 7, 3) := by decide +kernel
theorem dX7_badMove_31 : decode cX7_badMove 31 = .ok (.iconst 0, 1) := by decide +kernel
theorem dX7_badMove_32 : decode cX7_badMove 32 = .ok (.goto 4, 3) := by decide +kernel
theorem dX7_badMove_35 : decode cX7_badMove 35 = .ok (.iconst 3, 1) := by decide +kernel
theorem dX7_badMove_36 : decode cX7_badMove 36 = .ok (.ireturn, 1) := by decide +kernel
set_option maxRecDepth 20000 in
theorem ggX7_move_X7_badMove : GoodIn wsX7_move wsX7_badMove := goodIn_r _ [5, 6, 7, 4, 8, 9, 10, 11, 12, 13, 14, 15, 16, 17, 18, 19, 84, 85, 86, 87, 88, 89, 90, 91, 92, 93, 94, 95, 96, 97, 98, 99, 100, 101, 102, 103] (by decide +kernel) (by decide +kernel)
set_option maxRecDepth 20000 in
theorem gX7_move_X7_badMove : GoodIn wsX7_move (wsV RX7 122 RX7 yX7_badMove wsX7_badMove) := goodIn_app (goodIn_of _ (by decide +kernel)) ggX7_move_X7_badMove
set_option maxRecDepth 20000 in
theorem ggX7_move_X7_refused : GoodIn wsX7_move wsX7_refused := goodIn_r _ [23, 24, 84, 85, 86, 87, 88, 89, 90, 91, 92, 93, 94, 95, 96, 97, 98, 99, 100, 101, 102, 103] (by decide +kernel) (by decide +kernel)
set_option maxRecDepth 20000 in
theorem gX7_move_X7_refused : GoodIn wsX7_move (wsV RX7 56 RX7 yX7_refused wsX7_refused) := goodIn_app (goodIn_of _ (by decide +kernel)) ggX7_move_X7_refused
set_option maxRecDepth 20000 in
theorem ggX7_move_X7_saves : GoodIn wsX7_move wsX7_saves := goodIn_r _ [28, 29, 30, 19, 84, 85, 86, 87, 88, 89, 90, 91, 92, 93, 94, 95, 96, 97, 98, 99, 100, 101, 102, 103] (by decide +kernel) (by decide +kernel)
set_option maxRecDepth 20000 in
theorem gX7_move_X7_saves : GoodIn wsX7_move (wsV RX7 116 RX7 yX7_saves wsX7_saves) := goodIn_app (goodIn_of _ (by decide +kernel)) ggX7_move_X7_saves
set_option maxRecDepth 20000 in
theorem ggX7_move_X7_adds : GoodIn wsX7_move wsX7_adds := goodIn_r _ [34, 35, 36, 37, 4, 38, 39, 40, 41, 42, 43, 44, 45, 46, 47, 48, 49, 50, 51, 52, 53, 54, 15, 16, 17, 18, 19, 55, 56, 57, 58, 59, 60, 61, 62, 63, 64, 65, 66, 67, 68, 69, 70, 71, 72, 73, 74, 75, 76, 77, 78, 79, 80, 81, 82, 83, 84, 85, 86, 87, 88, 89, 90, 91, 92, 93, 94, 95, 96, 97, 98, 99, 100, 101, 102, 103] (by decide +kernel) (by decide +kernel)
set_option maxRecDepth 20000 in
theorem gX7_move_X7_adds : GoodIn wsX7_move (wsV RX7 119 RX7 yX7_adds wsX7_adds) := goodIn_app (goodIn_of _ (by decide +kernel)) ggX7_move_X7_adds
theorem dX7_move_0 : decode cX7_move 0 = .ok (.aload_n 0, 1) := by decide +kernel
theorem dX7_move_1 : decode cX7_move 1 = .ok (.aload_n 0, 1) := by decide +kernel
theorem dX7_move_2 : decode cX7_move 2 = .ok (.iload_n 1, 1) := by decide +kernel
theorem dX7_move_3 : decode cX7_move 3 = .ok (.iload_n 2, 1) := by decide +kernel
theorem dX7_move_4 : decode cX7_move 4 = .ok (.iload_n 3, 1) := by decide +kernel
theorem dX7_move_5 : decode cX7_move 5 = .ok (.invokevirtual 122, 3) := by decide +kernel
theorem dX7_move_8 : decode cX7_move 8 = .ok (.invokevirtual 56, 3) := by decide +kernel
theorem dX7_move_11 : decode cX7_move 11 = .ok (.ifCond .eq 5, 3) := by decide +kernel
theorem dX7_move_14 : decode cX7_move 14 = .ok (.iconst 0, 1) := by decide +kernel
theorem dX7_move_15 : decode cX7_move 15 = .ok (.ireturn, 1) := by decide +kernel
theorem dX7_move_16 : decode cX7_move 16 = .ok (.aload_n 0, 1) := by decide +kernel
theorem dX7_move_17 : decode cX7_move 17 = .ok (.invokevirtual 116, 3) := by decide +kernel
theorem dX7_move_20 : decode cX7_move 20 = .ok (.aload_n 0, 1) := by decide +kernel
theorem dX7_move_21 : decode cX7_move 21 = .ok (.iload_n 1, 1) := by decide +kernel
theorem dX7_move_22 : decode cX7_move 22 = .ok (.iload_n 2, 1) := by decide +kernel
theorem dX7_move_23 : decode cX7_move 23 = .ok (.iload_n 3, 1) := by decide +kernel
theorem dX7_move_24 : decode cX7_move 24 = .ok (.invokevirtual 119, 3) := by decide +kernel
theorem dX7_move_27 : decode cX7_move 27 = .ok (.ireturn, 1) := by decide +kernel
set_option maxRecDepth 20000 in
theorem ggX7_badRemove_X7_isId : GoodIn wsX7_badRemove wsX7_isId := goodIn_r _ [4, 5, 6, 3, 7] (by decide +kernel) (by decide +kernel)
set_option maxRecDepth 20000 in
theorem gX7_badRemove_X7_isId : GoodIn wsX7_badRemove (va_wsS RX7 95 yX7_isId wsX7_isId) := goodIn_app (goodIn_of _ (by decide +kernel)) ggX7_badRemove_X7_isId
set_option maxRecDepth 20000 in
theorem ggX7_badRemove_X7_isThere : GoodIn wsX7_badRemove wsX7_isThere := goodIn_r _ [11, 12, 13, 14, 15, 16, 17, 18, 19, 20, 21, 22, 23, 24, 25, 26, 27, 28, 29, 30, 31, 32] (by decide +kernel) (by decide +kernel)
set_option maxRecDepth 20000 in
theorem gX7_badRemove_X7_isThere : GoodIn wsX7_badRemove (wsV RX7 45 RX7 yX7_isThere wsX7_isThere) := goodIn_app (goodIn_of _ (by decide +kernel)) ggX7_badRemove_X7_isThere
theorem dX7_badRemove_0 : decode cX7_badRemove 0 = .ok (.iload_n 1, 1) := by decide +kernel
theorem dX7_badRemove_1 : decode cX7_badRemove 1 = .ok (.invokestatic 95, 3) := by decide +kernel
theorem dX7_badRemove_4 : decode cX7_badRemove 4 = .ok (.ifCond .ne 7, 3) := by decide +kernel
theorem dX7_badRemove_7 : decode cX7_badRemove 7 = .ok (.iconst 1, 1) := by decide +kernel
theorem dX7_badRemove_8 : decode cX7_badRemove 8 = .ok (.goto 16, 3) := by decide +kernel
theorem dX7_badRemove_11 : decode cX7_badRemove 11 = .ok (.aload_n 0, 1) := by decide +kernel
theorem dX7_badRemove_12 : decode cX7_badRemove 12 = .ok (.iload_n 1, 1) := by decide +kernel
theorem dX7_badRemove_13 : decode cX7_badRemove 13 = .ok (.invokevirtual 45, 3) := by decide +kernel
theorem dX7_badRemove_16 : decode cX7_badRemove 16 = .ok (.ifCond .eq 7, 3) := by decide +kernel
theorem dX7_badRemove_19 : decode cX7_badRemove 19 = .ok (.iconst 0, 1) := by decide +kernel
theorem dX7_badRemove_20 : decode cX7_badRemove 20 = .ok (.goto 4, 3) := by decide +kernel
theorem dX7_badRemove_23 : decode cX7_badRemove 23 = .ok (.iconst 2, 1) := by decide +kernel
theorem dX7_badRemove_24 : decode cX7_badRemove 24 = .ok (.ireturn, 1) := by decide +kernel
set_option maxRecDepth 20000 in
theorem ggX7_removes_X7_laysBefore : GoodIn wsX7_removes wsX7_laysBefore := goodIn_r _ [6, 7, 8, 9, 10, 11, 12, 13, 5, 14, 15, 16, 17, 18, 19, 20, 21, 22, 23, 24, 25, 26, 1, 27, 28, 29, 30, 31, 32, 33, 34, 35, 36, 37, 38, 39, 52, 53, 54, 55, 56, 57, 58, 59, 60, 61, 62, 63, 64, 65, 66, 67, 68, 69, 70, 71] (by decide +kernel) (by decide +kernel)
set_option maxRecDepth 20000 in
theorem gX7_removes_X7_laysBefore : GoodIn wsX7_removes (wsV RX7 101 RX7 yX7_laysBefore wsX7_laysBefore) := goodIn_app (goodIn_of _ (by decide +kernel)) ggX7_removes_X7_laysBefore
set_option maxRecDepth 20000 in
theorem ggX7_removes_X7_touched : GoodIn wsX7_removes wsX7_touched := goodIn_r _ [43, 9, 7, 10, 11, 12, 13, 5, 14, 15, 16, 17, 18, 8, 19, 20, 21, 22, 23, 24, 25, 26, 1, 27, 28, 29, 30, 31, 32, 33, 34, 35, 36, 37, 38, 39, 44, 45, 46, 47, 48, 49, 50, 51, 52, 53, 54, 55, 56, 57, 58, 59, 60, 61, 62, 63, 64, 65, 66, 67, 68, 69, 70, 71] (by decide +kernel) (by decide +kernel)
set_option maxRecDepth 20000 in
theorem gX7_removes_X7_touched : GoodIn wsX7_removes (wsV RX7 108 RX7 yX7_touched wsX7_touched) := goodIn_app (goodIn_of _ (by decide +kernel)) ggX7_removes_X7_touched
theorem dX7_removes_0 : decode cX7_removes 0 = .ok (.aload_n 0, 1) := by decide +kernel
theorem dX7_removes_1 : decode cX7_removes 1 = .ok (.invokevirtual 101, 3) := by decide +kernel
theorem dX7_removes_4 : decode cX7_removes 4 = .ok (.iconst 0, 1) := by decide +kernel
theorem dX7_removes_5 : decode cX7_removes 5 = .ok (.istore_n 2, 1) := by decide +kernel
theorem dX7_removes_6 : decode cX7_removes 6 = .ok (.iload_n 2, 1) := by decide +kernel
theorem dX7_removes_7 : decode cX7_removes 7 = .ok (.iconst 5, 1) := by decide +kernel
theorem dX7_removes_8 : decode cX7_removes 8 = .ok (.if_icmp .ge 20, 3) := by decide +kernel
theorem dX7_removes_11 : decode cX7_removes 11 = .ok (.aload_n 0, 1) := by decide +kernel
theorem dX7_removes_12 : decode cX7_removes 12 = .ok (.getfield 7, 3) := by decide +kernel
theorem dX7_removes_15 : decode cX7_removes 15 = .ok (.iconst 5, 1) := by decide +kernel
theorem dX7_removes_16 : decode cX7_removes 16 = .ok (.iload_n 1, 1) := by decide +kernel
theorem dX7_removes_17 : decode cX7_removes 17 = .ok (.imul, 1) := by decide +kernel
theorem dX7_removes_18 : decode cX7_removes 18 = .ok (.iload_n 2, 1) := by decide +kernel
theorem dX7_removes_19 : decode cX7_removes 19 = .ok (.iadd, 1) := by decide +kernel
theorem dX7_removes_20 : decode cX7_removes 20 = .ok (.iconst 0, 1) := by decide +kernel
theorem dX7_removes_21 : decode cX7_removes 21 = .ok (.iastore, 1) := by decide +kernel
theorem dX7_removes_22 : decode cX7_removes 22 = .ok (.iinc 2 1, 3) := by decide +kernel
theorem dX7_removes_25 : decode cX7_removes 25 = .ok (.goto (-19), 3) := by decide +kernel
theorem dX7_removes_28 : decode cX7_removes 28 = .ok (.aload_n 0, 1) := by decide +kernel
theorem dX7_removes_29 : decode cX7_removes 29 = .ok (.invokevirtual 108, 3) := by decide +kernel
theorem dX7_removes_32 : decode cX7_removes 32 = .ok (.ireturn, 1) := by decide +kernel
set_option maxRecDepth 20000 in
theorem ggX7_remove_X7_badRemove : GoodIn wsX7_remove wsX7_badRemove := goodIn_r _ [5, 6, 7, 4, 8, 9, 10, 11, 12, 13, 14, 15, 16, 77, 78, 79, 80, 81, 82, 83, 84, 85, 86, 87, 88, 89, 90, 91, 92, 93, 94, 95, 96] (by decide +kernel) (by decide +kernel)
set_option maxRecDepth 20000 in
theorem gX7_remove_X7_badRemove : GoodIn wsX7_remove (wsV RX7 125 RX7 yX7_badRemove wsX7_badRemove) := goodIn_app (goodIn_of _ (by decide +kernel)) ggX7_remove_X7_badRemove
set_option maxRecDepth 20000 in
theorem ggX7_remove_X7_refused : GoodIn wsX7_remove wsX7_refused := goodIn_r _ [20, 21, 77, 78, 79, 80, 81, 82, 83, 84, 85, 86, 87, 88, 89, 90, 91, 92, 93, 94, 95, 96] (by decide +kernel) (by decide +kernel)
set_option maxRecDepth 20000 in
theorem gX7_remove_X7_refused : GoodIn wsX7_remove (wsV RX7 56 RX7 yX7_refused wsX7_refused) := goodIn_app (goodIn_of _ (by decide +kernel)) ggX7_remove_X7_refused
set_option maxRecDepth 20000 in
theorem ggX7_remove_X7_saves : GoodIn wsX7_remove wsX7_saves := goodIn_r _ [25, 26, 27, 16, 77, 78, 79, 80, 81, 82, 83, 84, 85, 86, 87, 88, 89, 90, 91, 92, 93, 94, 95, 96] (by decide +kernel) (by decide +kernel)
set_option maxRecDepth 20000 in
theorem gX7_remove_X7_saves : GoodIn wsX7_remove (wsV RX7 116 RX7 yX7_saves wsX7_saves) := goodIn_app (goodIn_of _ (by decide +kernel)) ggX7_remove_X7_saves
set_option maxRecDepth 20000 in
theorem ggX7_remove_X7_removes : GoodIn wsX7_remove wsX7_removes := goodIn_r _ [31, 16, 32, 33, 34, 4, 35, 36, 37, 38, 39, 40, 41, 42, 43, 44, 45, 46, 47, 48, 49, 50, 51, 12, 13, 14, 15, 52, 53, 54, 55, 56, 57, 58, 59, 60, 61, 62, 63, 64, 65, 66, 67, 68, 69, 70, 71, 72, 73, 74, 75, 76, 77, 78, 79, 80, 81, 82, 83, 84, 85, 86, 87, 88, 89, 90, 91, 92, 93, 94, 95, 96] (by decide +kernel) (by decide +kernel)
set_option maxRecDepth 20000 in
theorem gX7_remove_X7_removes : GoodIn wsX7_remove (wsV RX7 128 RX7 yX7_removes wsX7_removes) := goodIn_app (goodIn_of _ (by decide +kernel)) ggX7_remove_X7_removes
theorem dX7_remove_0 : decode cX7_remove 0 = .ok (.aload_n 0, 1) := by decide +kernel
theorem dX7_remove_1 : decode cX7_remove 1 = .ok (.aload_n 0, 1) := by decide +kernel
theorem dX7_remove_2 : decode cX7_remove 2 = .ok (.iload_n 1, 1) := by decide +kernel
theorem dX7_remove_3 : decode cX7_remove 3 = .ok (.invokevirtual 125, 3) := by decide +kernel
theorem dX7_remove_6 : decode cX7_remove 6 = .ok (.invokevirtual 56, 3) := by decide +kernel
theorem dX7_remove_9 : decode cX7_remove 9 = .ok (.ifCond .eq 5, 3) := by decide +kernel
theorem dX7_remove_12 : decode cX7_remove 12 = .ok (.iconst 0, 1) := by decide +kernel
theorem dX7_remove_13 : decode cX7_remove 13 = .ok (.ireturn, 1) := by decide +kernel
theorem dX7_remove_14 : decode cX7_remove 14 = .ok (.aload_n 0, 1) := by decide +kernel
theorem dX7_remove_15 : decode cX7_remove 15 = .ok (.invokevirtual 116, 3) := by decide +kernel
theorem dX7_remove_18 : decode cX7_remove 18 = .ok (.aload_n 0, 1) := by decide +kernel
theorem dX7_remove_19 : decode cX7_remove 19 = .ok (.iload_n 1, 1) := by decide +kernel
theorem dX7_remove_20 : decode cX7_remove 20 = .ok (.invokevirtual 128, 3) := by decide +kernel
theorem dX7_remove_23 : decode cX7_remove 23 = .ok (.ireturn, 1) := by decide +kernel
set_option maxRecDepth 20000 in
theorem ggX7_badSpeed_X7_isId : GoodIn wsX7_badSpeed wsX7_isId := goodIn_r _ [4, 5, 6, 3, 7] (by decide +kernel) (by decide +kernel)
set_option maxRecDepth 20000 in
theorem gX7_badSpeed_X7_isId : GoodIn wsX7_badSpeed (va_wsS RX7 95 yX7_isId wsX7_isId) := goodIn_app (goodIn_of _ (by decide +kernel)) ggX7_badSpeed_X7_isId
set_option maxRecDepth 20000 in
theorem ggX7_badSpeed_X7_in : GoodIn wsX7_badSpeed wsX7_in := goodIn_r _ [7] (by decide +kernel) (by decide +kernel)
set_option maxRecDepth 20000 in
theorem gX7_badSpeed_X7_in : GoodIn wsX7_badSpeed (va_wsS RX7 41 yX7_in wsX7_in) := goodIn_app (goodIn_of _ (by decide +kernel)) ggX7_badSpeed_X7_in
set_option maxRecDepth 20000 in
theorem ggX7_badSpeed_X7_isThere : GoodIn wsX7_badSpeed wsX7_isThere := goodIn_r _ [11, 12, 13, 14, 15, 16, 17, 18, 19, 20, 21, 22, 23, 24, 25, 26, 27, 28, 29, 30, 31, 32] (by decide +kernel) (by decide +kernel)
set_option maxRecDepth 20000 in
theorem gX7_badSpeed_X7_isThere : GoodIn wsX7_badSpeed (wsV RX7 45 RX7 yX7_isThere wsX7_isThere) := goodIn_app (goodIn_of _ (by decide +kernel)) ggX7_badSpeed_X7_isThere
theorem dX7_badSpeed_0 : decode cX7_badSpeed 0 = .ok (.iload_n 1, 1) := by decide +kernel
theorem dX7_badSpeed_1 : decode cX7_badSpeed 1 = .ok (.invokestatic 95, 3) := by decide +kernel
theorem dX7_badSpeed_4 : decode cX7_badSpeed 4 = .ok (.ifCond .ne 7, 3) := by decide +kernel
theorem dX7_badSpeed_7 : decode cX7_badSpeed 7 = .ok (.iconst 1, 1) := by decide +kernel
theorem dX7_badSpeed_8 : decode cX7_badSpeed 8 = .ok (.goto 42, 3) := by decide +kernel
theorem dX7_badSpeed_11 : decode cX7_badSpeed 11 = .ok (.iload_n 2, 1) := by decide +kernel
theorem dX7_badSpeed_12 : decode cX7_badSpeed 12 = .ok (.bipush (-9), 2) := by decide +kernel
theorem dX7_badSpeed_14 : decode cX7_badSpeed 14 = .ok (.bipush 9, 2) := by decide +kernel
theorem dX7_badSpeed_16 : decode cX7_badSpeed 16 = .ok (.invokestatic 41, 3) := by decide +kernel
theorem dX7_badSpeed_19 : decode cX7_badSpeed 19 = .ok (.ifCond .eq 14, 3) := by decide +kernel
theorem dX7_badSpeed_22 : decode cX7_badSpeed 22 = .ok (.iload_n 3, 1) := by decide +kernel
theorem dX7_badSpeed_23 : decode cX7_badSpeed 23 = .ok (.bipush (-9), 2) := by decide +kernel
theorem dX7_badSpeed_25 : decode cX7_badSpeed 25 = .ok (.bipush 9, 2) := by decide +kernel
theorem dX7_badSpeed_27 : decode cX7_badSpeed 27 = .ok (.invokestatic 41, 3) := by decide +kernel
theorem dX7_badSpeed_30 : decode cX7_badSpeed 30 = .ok (.ifCond .ne 7, 3) := by decide +kernel
theorem dX7_badSpeed_33 : decode cX7_badSpeed 33 = .ok (.iconst 2, 1) := by decide +kernel
theorem dX7_badSpeed_34 : decode cX7_badSpeed 34 = .ok (.goto 16, 3) := by decide +kernel
theorem dX7_badSpeed_37 : decode cX7_badSpeed 37 = .ok (.aload_n 0, 1) := by decide +kernel
theorem dX7_badSpeed_38 : decode cX7_badSpeed 38 = .ok (.iload_n 1, 1) := by decide +kernel
theorem dX7_badSpeed_39 : decode cX7_badSpeed 39 = .ok (.invokevirtual 45, 3) := by decide +kernel
theorem dX7_badSpeed_42 : decode cX7_badSpeed 42 = .ok (.ifCond .eq 7, 3) := by decide +kernel
theorem dX7_badSpeed_45 : decode cX7_badSpeed 45 = .ok (.iconst 0, 1) := by decide +kernel
theorem dX7_badSpeed_46 : decode cX7_badSpeed 46 = .ok (.goto 4, 3) := by decide +kernel
theorem dX7_badSpeed_49 : decode cX7_badSpeed 49 = .ok (.iconst 3, 1) := by decide +kernel
theorem dX7_badSpeed_50 : decode cX7_badSpeed 50 = .ok (.ireturn, 1) := by decide +kernel
theorem dX7_size_0 : decode cX7_size 0 = .ok (.iload_n 0, 1) := by decide +kernel
theorem dX7_size_1 : decode cX7_size 1 = .ok (.ifCond .ge 8, 3) := by decide +kernel
theorem dX7_size_4 : decode cX7_size 4 = .ok (.iload_n 0, 1) := by decide +kernel
theorem dX7_size_5 : decode cX7_size 5 = .ok (.ineg, 1) := by decide +kernel
theorem dX7_size_6 : decode cX7_size 6 = .ok (.goto 4, 3) := by decide +kernel
theorem dX7_size_9 : decode cX7_size 9 = .ok (.iload_n 0, 1) := by decide +kernel
theorem dX7_size_10 : decode cX7_size 10 = .ok (.ireturn, 1) := by decide +kernel
set_option maxRecDepth 20000 in
theorem ggX7_speeds_X7_size : GoodIn wsX7_speeds wsX7_size := goodIn_r _ [5] (by decide +kernel) (by decide +kernel)
set_option maxRecDepth 20000 in
theorem gX7_speeds_X7_size : GoodIn wsX7_speeds (va_wsS RX7 131 yX7_size wsX7_size) := goodIn_app (goodIn_of _ (by decide +kernel)) ggX7_speeds_X7_size
theorem dX7_speeds_0 : decode cX7_speeds 0 = .ok (.iconst 5, 1) := by decide +kernel
theorem dX7_speeds_1 : decode cX7_speeds 1 = .ok (.iload_n 1, 1) := by decide +kernel
theorem dX7_speeds_2 : decode cX7_speeds 2 = .ok (.imul, 1) := by decide +kernel
theorem dX7_speeds_3 : decode cX7_speeds 3 = .ok (.istore 4, 2) := by decide +kernel
theorem dX7_speeds_5 : decode cX7_speeds 5 = .ok (.bipush 10, 2) := by decide +kernel
theorem dX7_speeds_7 : decode cX7_speeds 7 = .ok (.aload_n 0, 1) := by decide +kernel
theorem dX7_speeds_8 : decode cX7_speeds 8 = .ok (.getfield 7, 3) := by decide +kernel
theorem dX7_speeds_11 : decode cX7_speeds 11 = .ok (.iload 4, 2) := by decide +kernel
theorem dX7_speeds_13 : decode cX7_speeds 13 = .ok (.iconst 3, 1) := by decide +kernel
theorem dX7_speeds_14 : decode cX7_speeds 14 = .ok (.iadd, 1) := by decide +kernel
theorem dX7_speeds_15 : decode cX7_speeds 15 = .ok (.iaload, 1) := by decide +kernel
theorem dX7_speeds_16 : decode cX7_speeds 16 = .ok (.invokestatic 131, 3) := by decide +kernel
theorem dX7_speeds_19 : decode cX7_speeds 19 = .ok (.imul, 1) := by decide +kernel
theorem dX7_speeds_20 : decode cX7_speeds 20 = .ok (.aload_n 0, 1) := by decide +kernel
theorem dX7_speeds_21 : decode cX7_speeds 21 = .ok (.getfield 7, 3) := by decide +kernel
theorem dX7_speeds_24 : decode cX7_speeds 24 = .ok (.iload 4, 2) := by decide +kernel
theorem dX7_speeds_26 : decode cX7_speeds 26 = .ok (.iconst 4, 1) := by decide +kernel
theorem dX7_speeds_27 : decode cX7_speeds 27 = .ok (.iadd, 1) := by decide +kernel
theorem dX7_speeds_28 : decode cX7_speeds 28 = .ok (.iaload, 1) := by decide +kernel
theorem dX7_speeds_29 : decode cX7_speeds 29 = .ok (.invokestatic 131, 3) := by decide +kernel
theorem dX7_speeds_32 : decode cX7_speeds 32 = .ok (.iadd, 1) := by decide +kernel
theorem dX7_speeds_33 : decode cX7_speeds 33 = .ok (.istore 5, 2) := by decide +kernel
theorem dX7_speeds_35 : decode cX7_speeds 35 = .ok (.aload_n 0, 1) := by decide +kernel
theorem dX7_speeds_36 : decode cX7_speeds 36 = .ok (.getfield 7, 3) := by decide +kernel
theorem dX7_speeds_39 : decode cX7_speeds 39 = .ok (.iload 4, 2) := by decide +kernel
theorem dX7_speeds_41 : decode cX7_speeds 41 = .ok (.iconst 3, 1) := by decide +kernel
theorem dX7_speeds_42 : decode cX7_speeds 42 = .ok (.iadd, 1) := by decide +kernel
theorem dX7_speeds_43 : decode cX7_speeds 43 = .ok (.iload_n 2, 1) := by decide +kernel
theorem dX7_speeds_44 : decode cX7_speeds 44 = .ok (.iastore, 1) := by decide +kernel
theorem dX7_speeds_45 : decode cX7_speeds 45 = .ok (.aload_n 0, 1) := by decide +kernel
theorem dX7_speeds_46 : decode cX7_speeds 46 = .ok (.getfield 7, 3) := by decide +kernel
theorem dX7_speeds_49 : decode cX7_speeds 49 = .ok (.iload 4, 2) := by decide +kernel
theorem dX7_speeds_51 : decode cX7_speeds 51 = .ok (.iconst 4, 1) := by decide +kernel
theorem dX7_speeds_52 : decode cX7_speeds 52 = .ok (.iadd, 1) := by decide +kernel
theorem dX7_speeds_53 : decode cX7_speeds 53 = .ok (.iload_n 3, 1) := by decide +kernel
theorem dX7_speeds_54 : decode cX7_speeds 54 = .ok (.iastore, 1) := by decide +kernel
theorem dX7_speeds_55 : decode cX7_speeds 55 = .ok (.iload 5, 2) := by decide +kernel
theorem dX7_speeds_57 : decode cX7_speeds 57 = .ok (.ireturn, 1) := by decide +kernel
set_option maxRecDepth 20000 in
theorem ggX7_setVelocity_X7_badSpeed : GoodIn wsX7_setVelocity wsX7_badSpeed := goodIn_r _ [5, 6, 7, 4, 8, 9, 10, 11, 12, 13, 14, 15, 16, 35, 36, 37, 38, 39, 40, 41, 42, 43, 44, 45, 46, 47, 48, 49, 50, 51, 52, 53, 54] (by decide +kernel) (by decide +kernel)
set_option maxRecDepth 20000 in
theorem gX7_setVelocity_X7_badSpeed : GoodIn wsX7_setVelocity (wsV RX7 134 RX7 yX7_badSpeed wsX7_badSpeed) := goodIn_app (goodIn_of _ (by decide +kernel)) ggX7_setVelocity_X7_badSpeed
set_option maxRecDepth 20000 in
theorem ggX7_setVelocity_X7_refused : GoodIn wsX7_setVelocity wsX7_refused := goodIn_r _ [20, 21, 35, 36, 37, 38, 39, 40, 41, 42, 43, 44, 45, 46, 47, 48, 49, 50, 51, 52, 53, 54] (by decide +kernel) (by decide +kernel)
set_option maxRecDepth 20000 in
theorem gX7_setVelocity_X7_refused : GoodIn wsX7_setVelocity (wsV RX7 56 RX7 yX7_refused wsX7_refused) := goodIn_app (goodIn_of _ (by decide +kernel)) ggX7_setVelocity_X7_refused
set_option maxRecDepth 20000 in
theorem ggX7_setVelocity_X7_saves : GoodIn wsX7_setVelocity wsX7_saves := goodIn_r _ [25, 26, 27, 16, 35, 36, 37, 38, 39, 40, 41, 42, 43, 44, 45, 46, 47, 48, 49, 50, 51, 52, 53, 54] (by decide +kernel) (by decide +kernel)
set_option maxRecDepth 20000 in
theorem gX7_setVelocity_X7_saves : GoodIn wsX7_setVelocity (wsV RX7 116 RX7 yX7_saves wsX7_saves) := goodIn_app (goodIn_of _ (by decide +kernel)) ggX7_setVelocity_X7_saves
set_option maxRecDepth 20000 in
theorem ggX7_setVelocity_X7_speeds : GoodIn wsX7_setVelocity wsX7_speeds := goodIn_r _ [31, 16, 32, 33, 4, 34, 35, 36, 37, 38, 39, 40, 41, 42, 43, 44, 45, 46, 47, 48, 49, 50, 51, 52, 53, 54] (by decide +kernel) (by decide +kernel)
set_option maxRecDepth 20000 in
theorem gX7_setVelocity_X7_speeds : GoodIn wsX7_setVelocity (wsV RX7 137 RX7 yX7_speeds wsX7_speeds) := goodIn_app (goodIn_of _ (by decide +kernel)) ggX7_setVelocity_X7_speeds
theorem dX7_setVelocity_0 : decode cX7_setVelocity 0 = .ok (.aload_n 0, 1) := by decide +kernel
theorem dX7_setVelocity_1 : decode cX7_setVelocity 1 = .ok (.aload_n 0, 1) := by decide +kernel
theorem dX7_setVelocity_2 : decode cX7_setVelocity 2 = .ok (.iload_n 1, 1) := by decide +kernel
theorem dX7_setVelocity_3 : decode cX7_setVelocity 3 = .ok (.iload_n 2, 1) := by decide +kernel
theorem dX7_setVelocity_4 : decode cX7_setVelocity 4 = .ok (.iload_n 3, 1) := by decide +kernel
theorem dX7_setVelocity_5 : decode cX7_setVelocity 5 = .ok (.invokevirtual 134, 3) := by decide +kernel
theorem dX7_setVelocity_8 : decode cX7_setVelocity 8 = .ok (.invokevirtual 56, 3) := by decide +kernel
theorem dX7_setVelocity_11 : decode cX7_setVelocity 11 = .ok (.ifCond .eq 5, 3) := by decide +kernel
theorem dX7_setVelocity_14 : decode cX7_setVelocity 14 = .ok (.iconst 0, 1) := by decide +kernel
theorem dX7_setVelocity_15 : decode cX7_setVelocity 15 = .ok (.ireturn, 1) := by decide +kernel
theorem dX7_setVelocity_16 : decode cX7_setVelocity 16 = .ok (.aload_n 0, 1) := by decide +kernel
theorem dX7_setVelocity_17 : decode cX7_setVelocity 17 = .ok (.invokevirtual 116, 3) := by decide +kernel
theorem dX7_setVelocity_20 : decode cX7_setVelocity 20 = .ok (.aload_n 0, 1) := by decide +kernel
theorem dX7_setVelocity_21 : decode cX7_setVelocity 21 = .ok (.iload_n 1, 1) := by decide +kernel
theorem dX7_setVelocity_22 : decode cX7_setVelocity 22 = .ok (.iload_n 2, 1) := by decide +kernel
theorem dX7_setVelocity_23 : decode cX7_setVelocity 23 = .ok (.iload_n 3, 1) := by decide +kernel
theorem dX7_setVelocity_24 : decode cX7_setVelocity 24 = .ok (.invokevirtual 137, 3) := by decide +kernel
theorem dX7_setVelocity_27 : decode cX7_setVelocity 27 = .ok (.ireturn, 1) := by decide +kernel
theorem dX7_steps_0 : decode cX7_steps 0 = .ok (.aload_n 0, 1) := by decide +kernel
theorem dX7_steps_1 : decode cX7_steps 1 = .ok (.getfield 7, 3) := by decide +kernel
theorem dX7_steps_4 : decode cX7_steps 4 = .ok (.iload_n 1, 1) := by decide +kernel
theorem dX7_steps_5 : decode cX7_steps 5 = .ok (.iaload, 1) := by decide +kernel
theorem dX7_steps_6 : decode cX7_steps 6 = .ok (.aload_n 0, 1) := by decide +kernel
theorem dX7_steps_7 : decode cX7_steps 7 = .ok (.getfield 7, 3) := by decide +kernel
theorem dX7_steps_10 : decode cX7_steps 10 = .ok (.iload_n 1, 1) := by decide +kernel
theorem dX7_steps_11 : decode cX7_steps 11 = .ok (.iconst 2, 1) := by decide +kernel
theorem dX7_steps_12 : decode cX7_steps 12 = .ok (.iadd, 1) := by decide +kernel
theorem dX7_steps_13 : decode cX7_steps 13 = .ok (.iaload, 1) := by decide +kernel
theorem dX7_steps_14 : decode cX7_steps 14 = .ok (.iadd, 1) := by decide +kernel
theorem dX7_steps_15 : decode cX7_steps 15 = .ok (.istore_n 2, 1) := by decide +kernel
theorem dX7_steps_16 : decode cX7_steps 16 = .ok (.iload_n 2, 1) := by decide +kernel
theorem dX7_steps_17 : decode cX7_steps 17 = .ok (.ifCond .ge 31, 3) := by decide +kernel
theorem dX7_steps_20 : decode cX7_steps 20 = .ok (.aload_n 0, 1) := by decide +kernel
theorem dX7_steps_21 : decode cX7_steps 21 = .ok (.getfield 7, 3) := by decide +kernel
theorem dX7_steps_24 : decode cX7_steps 24 = .ok (.iload_n 1, 1) := by decide +kernel
theorem dX7_steps_25 : decode cX7_steps 25 = .ok (.iload_n 2, 1) := by decide +kernel
theorem dX7_steps_26 : decode cX7_steps 26 = .ok (.ineg, 1) := by decide +kernel
theorem dX7_steps_27 : decode cX7_steps 27 = .ok (.iastore, 1) := by decide +kernel
theorem dX7_steps_28 : decode cX7_steps 28 = .ok (.aload_n 0, 1) := by decide +kernel
theorem dX7_steps_29 : decode cX7_steps 29 = .ok (.getfield 7, 3) := by decide +kernel
theorem dX7_steps_32 : decode cX7_steps 32 = .ok (.iload_n 1, 1) := by decide +kernel
theorem dX7_steps_33 : decode cX7_steps 33 = .ok (.iconst 2, 1) := by decide +kernel
theorem dX7_steps_34 : decode cX7_steps 34 = .ok (.iadd, 1) := by decide +kernel
theorem dX7_steps_35 : decode cX7_steps 35 = .ok (.aload_n 0, 1) := by decide +kernel
theorem dX7_steps_36 : decode cX7_steps 36 = .ok (.getfield 7, 3) := by decide +kernel
theorem dX7_steps_39 : decode cX7_steps 39 = .ok (.iload_n 1, 1) := by decide +kernel
theorem dX7_steps_40 : decode cX7_steps 40 = .ok (.iconst 2, 1) := by decide +kernel
theorem dX7_steps_41 : decode cX7_steps 41 = .ok (.iadd, 1) := by decide +kernel
theorem dX7_steps_42 : decode cX7_steps 42 = .ok (.iaload, 1) := by decide +kernel
theorem dX7_steps_43 : decode cX7_steps 43 = .ok (.ineg, 1) := by decide +kernel
theorem dX7_steps_44 : decode cX7_steps 44 = .ok (.iastore, 1) := by decide +kernel
theorem dX7_steps_45 : decode cX7_steps 45 = .ok (.goto 46, 3) := by decide +kernel
theorem dX7_steps_48 : decode cX7_steps 48 = .ok (.iload_n 2, 1) := by decide +kernel
theorem dX7_steps_49 : decode cX7_steps 49 = .ok (.bipush 63, 2) := by decide +kernel
theorem dX7_steps_51 : decode cX7_steps 51 = .ok (.if_icmp .le 33, 3) := by decide +kernel
theorem dX7_steps_54 : decode cX7_steps 54 = .ok (.aload_n 0, 1) := by decide +kernel
theorem dX7_steps_55 : decode cX7_steps 55 = .ok (.getfield 7, 3) := by decide +kernel
theorem dX7_steps_58 : decode cX7_steps 58 = .ok (.iload_n 1, 1) := by decide +kernel
theorem dX7_steps_59 : decode cX7_steps 59 = .ok (.bipush 126, 2) := by decide +kernel
theorem dX7_steps_61 : decode cX7_steps 61 = .ok (.iload_n 2, 1) := by decide +kernel
theorem dX7_steps_62 : decode cX7_steps 62 = .ok (.isub, 1) := by decide +kernel
theorem dX7_steps_63 : decode cX7_steps 63 = .ok (.iastore, 1) := by decide +kernel
theorem dX7_steps_64 : decode cX7_steps 64 = .ok (.aload_n 0, 1) := by decide +kernel
theorem dX7_steps_65 : decode cX7_steps 65 = .ok (.getfield 7, 3) := by decide +kernel
theorem dX7_steps_68 : decode cX7_steps 68 = .ok (.iload_n 1, 1) := by decide +kernel
theorem dX7_steps_69 : decode cX7_steps 69 = .ok (.iconst 2, 1) := by decide +kernel
theorem dX7_steps_70 : decode cX7_steps 70 = .ok (.iadd, 1) := by decide +kernel
theorem dX7_steps_71 : decode cX7_steps 71 = .ok (.aload_n 0, 1) := by decide +kernel
theorem dX7_steps_72 : decode cX7_steps 72 = .ok (.getfield 7, 3) := by decide +kernel
theorem dX7_steps_75 : decode cX7_steps 75 = .ok (.iload_n 1, 1) := by decide +kernel
theorem dX7_steps_76 : decode cX7_steps 76 = .ok (.iconst 2, 1) := by decide +kernel
theorem dX7_steps_77 : decode cX7_steps 77 = .ok (.iadd, 1) := by decide +kernel
theorem dX7_steps_78 : decode cX7_steps 78 = .ok (.iaload, 1) := by decide +kernel
theorem dX7_steps_79 : decode cX7_steps 79 = .ok (.ineg, 1) := by decide +kernel
theorem dX7_steps_80 : decode cX7_steps 80 = .ok (.iastore, 1) := by decide +kernel
theorem dX7_steps_81 : decode cX7_steps 81 = .ok (.goto 10, 3) := by decide +kernel
theorem dX7_steps_84 : decode cX7_steps 84 = .ok (.aload_n 0, 1) := by decide +kernel
theorem dX7_steps_85 : decode cX7_steps 85 = .ok (.getfield 7, 3) := by decide +kernel
theorem dX7_steps_88 : decode cX7_steps 88 = .ok (.iload_n 1, 1) := by decide +kernel
theorem dX7_steps_89 : decode cX7_steps 89 = .ok (.iload_n 2, 1) := by decide +kernel
theorem dX7_steps_90 : decode cX7_steps 90 = .ok (.iastore, 1) := by decide +kernel
theorem dX7_steps_91 : decode cX7_steps 91 = .ok (.return_, 1) := by decide +kernel
set_option maxRecDepth 20000 in
theorem ggX7_passes_X7_laysBefore : GoodIn wsX7_passes wsX7_laysBefore := goodIn_r _ [6, 7, 8, 9, 10, 11, 12, 13, 5, 14, 15, 16, 17, 18, 19, 20, 21, 22, 23, 24, 25, 26, 1, 27, 28, 29, 30, 31, 32, 33, 34, 35, 36, 37, 38, 39, 56, 57, 58, 59, 60, 61, 62, 63, 64, 65, 66, 67, 68, 69, 70, 71, 72, 73, 74, 75] (by decide +kernel) (by decide +kernel)
set_option maxRecDepth 20000 in
theorem gX7_passes_X7_laysBefore : GoodIn wsX7_passes (wsV RX7 101 RX7 yX7_laysBefore wsX7_laysBefore) := goodIn_app (goodIn_of _ (by decide +kernel)) ggX7_passes_X7_laysBefore
set_option maxRecDepth 20000 in
theorem ggX7_passes_X7_isThere : GoodIn wsX7_passes wsX7_isThere := goodIn_r _ [26, 1, 56, 57, 58, 59, 60, 61, 62, 63, 64, 65, 66, 67, 68, 69, 70, 71, 72, 73, 74, 75] (by decide +kernel) (by decide +kernel)
set_option maxRecDepth 20000 in
theorem gX7_passes_X7_isThere : GoodIn wsX7_passes (wsV RX7 45 RX7 yX7_isThere wsX7_isThere) := goodIn_app (goodIn_of _ (by decide +kernel)) ggX7_passes_X7_isThere
set_option maxRecDepth 20000 in
theorem ggX7_passes_X7_steps : GoodIn wsX7_passes wsX7_steps := goodIn_r _ [43, 1, 56, 57, 58, 59, 60, 61, 62, 63, 64, 65, 66, 67, 68, 69, 70, 71, 72, 73, 74, 75] (by decide +kernel) (by decide +kernel)
set_option maxRecDepth 20000 in
theorem gX7_passes_X7_steps : GoodIn wsX7_passes (wsV RX7 140 RX7 yX7_steps wsX7_steps) := goodIn_app (goodIn_of _ (by decide +kernel)) ggX7_passes_X7_steps
set_option maxRecDepth 20000 in
theorem ggX7_passes_X7_touched : GoodIn wsX7_passes wsX7_touched := goodIn_r _ [47, 9, 7, 10, 11, 12, 13, 5, 14, 15, 16, 17, 18, 8, 19, 20, 21, 22, 23, 24, 25, 26, 1, 27, 28, 29, 30, 31, 32, 33, 34, 35, 36, 37, 38, 39, 48, 49, 50, 51, 52, 53, 54, 55, 56, 57, 58, 59, 60, 61, 62, 63, 64, 65, 66, 67, 68, 69, 70, 71, 72, 73, 74, 75] (by decide +kernel) (by decide +kernel)
set_option maxRecDepth 20000 in
theorem gX7_passes_X7_touched : GoodIn wsX7_passes (wsV RX7 108 RX7 yX7_touched wsX7_touched) := goodIn_app (goodIn_of _ (by decide +kernel)) ggX7_passes_X7_touched
theorem dX7_passes_0 : decode cX7_passes 0 = .ok (.iconst 0, 1) := by decide +kernel
theorem dX7_passes_1 : decode cX7_passes 1 = .ok (.istore_n 2, 1) := by decide +kernel
theorem dX7_passes_2 : decode cX7_passes 2 = .ok (.iconst 0, 1) := by decide +kernel
theorem dX7_passes_3 : decode cX7_passes 3 = .ok (.istore_n 3, 1) := by decide +kernel
theorem dX7_passes_4 : decode cX7_passes 4 = .ok (.iload_n 3, 1) := by decide +kernel
theorem dX7_passes_5 : decode cX7_passes 5 = .ok (.iload_n 1, 1) := by decide +kernel
theorem dX7_passes_6 : decode cX7_passes 6 = .ok (.if_icmp .ge 77, 3) := by decide +kernel
theorem dX7_passes_9 : decode cX7_passes 9 = .ok (.aload_n 0, 1) := by decide +kernel
theorem dX7_passes_10 : decode cX7_passes 10 = .ok (.invokevirtual 101, 3) := by decide +kernel
theorem dX7_passes_13 : decode cX7_passes 13 = .ok (.iconst 0, 1) := by decide +kernel
theorem dX7_passes_14 : decode cX7_passes 14 = .ok (.istore 4, 2) := by decide +kernel
theorem dX7_passes_16 : decode cX7_passes 16 = .ok (.iload 4, 2) := by decide +kernel
theorem dX7_passes_18 : decode cX7_passes 18 = .ok (.bipush 24, 2) := by decide +kernel
theorem dX7_passes_20 : decode cX7_passes 20 = .ok (.if_icmp .ge 38, 3) := by decide +kernel
theorem dX7_passes_23 : decode cX7_passes 23 = .ok (.aload_n 0, 1) := by decide +kernel
theorem dX7_passes_24 : decode cX7_passes 24 = .ok (.iload 4, 2) := by decide +kernel
theorem dX7_passes_26 : decode cX7_passes 26 = .ok (.invokevirtual 45, 3) := by decide +kernel
theorem dX7_passes_29 : decode cX7_passes 29 = .ok (.ifCond .eq 23, 3) := by decide +kernel
theorem dX7_passes_32 : decode cX7_passes 32 = .ok (.aload_n 0, 1) := by decide +kernel
theorem dX7_passes_33 : decode cX7_passes 33 = .ok (.iconst 5, 1) := by decide +kernel
theorem dX7_passes_34 : decode cX7_passes 34 = .ok (.iload 4, 2) := by decide +kernel
theorem dX7_passes_36 : decode cX7_passes 36 = .ok (.imul, 1) := by decide +kernel
theorem dX7_passes_37 : decode cX7_passes 37 = .ok (.iconst 1, 1) := by decide +kernel
theorem dX7_passes_38 : decode cX7_passes 38 = .ok (.iadd, 1) := by decide +kernel
theorem dX7_passes_39 : decode cX7_passes 39 = .ok (.invokevirtual 140, 3) := by decide +kernel
theorem dX7_passes_42 : decode cX7_passes 42 = .ok (.aload_n 0, 1) := by decide +kernel
theorem dX7_passes_43 : decode cX7_passes 43 = .ok (.iconst 5, 1) := by decide +kernel
theorem dX7_passes_44 : decode cX7_passes 44 = .ok (.iload 4, 2) := by decide +kernel
theorem dX7_passes_46 : decode cX7_passes 46 = .ok (.imul, 1) := by decide +kernel
theorem dX7_passes_47 : decode cX7_passes 47 = .ok (.iconst 2, 1) := by decide +kernel
theorem dX7_passes_48 : decode cX7_passes 48 = .ok (.iadd, 1) := by decide +kernel
theorem dX7_passes_49 : decode cX7_passes 49 = .ok (.invokevirtual 140, 3) := by decide +kernel
theorem dX7_passes_52 : decode cX7_passes 52 = .ok (.iinc 4 1, 3) := by decide +kernel
theorem dX7_passes_55 : decode cX7_passes 55 = .ok (.goto (-39), 3) := by decide +kernel
theorem dX7_passes_58 : decode cX7_passes 58 = .ok (.aload_n 0, 1) := by decide +kernel
theorem dX7_passes_59 : decode cX7_passes 59 = .ok (.getfield 7, 3) := by decide +kernel
theorem dX7_passes_62 : decode cX7_passes 62 = .ok (.sipush 140, 3) := by decide +kernel
theorem dX7_passes_65 : decode cX7_passes 65 = .ok (.dup2, 1) := by decide +kernel
theorem dX7_passes_66 : decode cX7_passes 66 = .ok (.iaload, 1) := by decide +kernel
theorem dX7_passes_67 : decode cX7_passes 67 = .ok (.iconst 1, 1) := by decide +kernel
theorem dX7_passes_68 : decode cX7_passes 68 = .ok (.iadd, 1) := by decide +kernel
theorem dX7_passes_69 : decode cX7_passes 69 = .ok (.iastore, 1) := by decide +kernel
theorem dX7_passes_70 : decode cX7_passes 70 = .ok (.iload_n 2, 1) := by decide +kernel
theorem dX7_passes_71 : decode cX7_passes 71 = .ok (.aload_n 0, 1) := by decide +kernel
theorem dX7_passes_72 : decode cX7_passes 72 = .ok (.invokevirtual 108, 3) := by decide +kernel
theorem dX7_passes_75 : decode cX7_passes 75 = .ok (.iadd, 1) := by decide +kernel
theorem dX7_passes_76 : decode cX7_passes 76 = .ok (.istore_n 2, 1) := by decide +kernel
theorem dX7_passes_77 : decode cX7_passes 77 = .ok (.iinc 3 1, 3) := by decide +kernel
theorem dX7_passes_80 : decode cX7_passes 80 = .ok (.goto (-76), 3) := by decide +kernel
theorem dX7_passes_83 : decode cX7_passes 83 = .ok (.iload_n 2, 1) := by decide +kernel
theorem dX7_passes_84 : decode cX7_passes 84 = .ok (.ireturn, 1) := by decide +kernel
set_option maxRecDepth 20000 in
theorem ggX7_areTicks_X7_in : GoodIn wsX7_areTicks wsX7_in := goodIn_r _ [4] (by decide +kernel) (by decide +kernel)
set_option maxRecDepth 20000 in
theorem gX7_areTicks_X7_in : GoodIn wsX7_areTicks (va_wsS RX7 41 yX7_in wsX7_in) := goodIn_app (goodIn_of _ (by decide +kernel)) ggX7_areTicks_X7_in
theorem dX7_areTicks_0 : decode cX7_areTicks 0 = .ok (.iload_n 0, 1) := by decide +kernel
theorem dX7_areTicks_1 : decode cX7_areTicks 1 = .ok (.iconst 1, 1) := by decide +kernel
theorem dX7_areTicks_2 : decode cX7_areTicks 2 = .ok (.bipush 50, 2) := by decide +kernel
theorem dX7_areTicks_4 : decode cX7_areTicks 4 = .ok (.invokestatic 41, 3) := by decide +kernel
theorem dX7_areTicks_7 : decode cX7_areTicks 7 = .ok (.ireturn, 1) := by decide +kernel
set_option maxRecDepth 20000 in
theorem ggX7_tick_X7_areTicks : GoodIn wsX7_tick wsX7_areTicks := goodIn_r _ [4, 5, 6, 3, 7] (by decide +kernel) (by decide +kernel)
set_option maxRecDepth 20000 in
theorem gX7_tick_X7_areTicks : GoodIn wsX7_tick (va_wsS RX7 144 yX7_areTicks wsX7_areTicks) := goodIn_app (goodIn_of _ (by decide +kernel)) ggX7_tick_X7_areTicks
set_option maxRecDepth 20000 in
theorem ggX7_tick_X7_refused : GoodIn wsX7_tick wsX7_refused := goodIn_r _ [11, 12, 77, 78, 79, 80, 81, 82, 83, 84, 85, 86, 87, 88, 89, 90, 91, 92, 93, 94, 95, 96] (by decide +kernel) (by decide +kernel)
set_option maxRecDepth 20000 in
theorem gX7_tick_X7_refused : GoodIn wsX7_tick (wsV RX7 56 RX7 yX7_refused wsX7_refused) := goodIn_app (goodIn_of _ (by decide +kernel)) ggX7_tick_X7_refused
set_option maxRecDepth 20000 in
theorem ggX7_tick_X7_saves : GoodIn wsX7_tick wsX7_saves := goodIn_r _ [16, 17, 18, 19, 77, 78, 79, 80, 81, 82, 83, 84, 85, 86, 87, 88, 89, 90, 91, 92, 93, 94, 95, 96] (by decide +kernel) (by decide +kernel)
set_option maxRecDepth 20000 in
theorem gX7_tick_X7_saves : GoodIn wsX7_tick (wsV RX7 116 RX7 yX7_saves wsX7_saves) := goodIn_app (goodIn_of _ (by decide +kernel)) ggX7_tick_X7_saves
set_option maxRecDepth 20000 in
theorem ggX7_tick_X7_passes : GoodIn wsX7_tick wsX7_passes := goodIn_r _ [23, 19, 24, 25, 26, 3, 27, 28, 29, 30, 31, 32, 33, 34, 35, 36, 37, 38, 39, 40, 41, 42, 43, 44, 45, 46, 47, 48, 49, 50, 51, 52, 53, 54, 55, 56, 57, 58, 59, 60, 61, 62, 63, 64, 65, 66, 67, 68, 69, 70, 71, 72, 73, 74, 75, 76, 77, 78, 79, 80, 81, 82, 83, 84, 85, 86, 87, 88, 89, 90, 91, 92, 93, 94, 95, 96] (by decide +kernel) (by decide +kernel)
set_option maxRecDepth 20000 in
theorem gX7_tick_X7_passes : GoodIn wsX7_tick (wsV RX7 147 RX7 yX7_passes wsX7_passes) := goodIn_app (goodIn_of _ (by decide +kernel)) ggX7_tick_X7_passes
theorem dX7_tick_0 : decode cX7_tick 0 = .ok (.aload_n 0, 1) := by decide +kernel
theorem dX7_tick_1 : decode cX7_tick 1 = .ok (.iload_n 1, 1) := by decide +kernel
theorem dX7_tick_2 : decode cX7_tick 2 = .ok (.invokestatic 144, 3) := by decide +kernel
theorem dX7_tick_5 : decode cX7_tick 5 = .ok (.ifCond .eq 7, 3) := by decide +kernel
theorem dX7_tick_8 : decode cX7_tick 8 = .ok (.iconst 0, 1) := by decide +kernel
theorem dX7_tick_9 : decode cX7_tick 9 = .ok (.goto 4, 3) := by decide +kernel
theorem dX7_tick_12 : decode cX7_tick 12 = .ok (.iconst 1, 1) := by decide +kernel
theorem dX7_tick_13 : decode cX7_tick 13 = .ok (.invokevirtual 56, 3) := by decide +kernel
theorem dX7_tick_16 : decode cX7_tick 16 = .ok (.ifCond .eq 5, 3) := by decide +kernel
theorem dX7_tick_19 : decode cX7_tick 19 = .ok (.iconst 0, 1) := by decide +kernel
theorem dX7_tick_20 : decode cX7_tick 20 = .ok (.ireturn, 1) := by decide +kernel
theorem dX7_tick_21 : decode cX7_tick 21 = .ok (.aload_n 0, 1) := by decide +kernel
theorem dX7_tick_22 : decode cX7_tick 22 = .ok (.invokevirtual 116, 3) := by decide +kernel
theorem dX7_tick_25 : decode cX7_tick 25 = .ok (.aload_n 0, 1) := by decide +kernel
theorem dX7_tick_26 : decode cX7_tick 26 = .ok (.iload_n 1, 1) := by decide +kernel
theorem dX7_tick_27 : decode cX7_tick 27 = .ok (.invokevirtual 147, 3) := by decide +kernel
theorem dX7_tick_30 : decode cX7_tick 30 = .ok (.ireturn, 1) := by decide +kernel
theorem dX7_pointMany_0 : decode cX7_pointMany 0 = .ok (.iconst 0, 1) := by decide +kernel
theorem dX7_pointMany_1 : decode cX7_pointMany 1 = .ok (.istore_n 1, 1) := by decide +kernel
theorem dX7_pointMany_2 : decode cX7_pointMany 2 = .ok (.iconst 0, 1) := by decide +kernel
theorem dX7_pointMany_3 : decode cX7_pointMany 3 = .ok (.istore_n 2, 1) := by decide +kernel
theorem dX7_pointMany_4 : decode cX7_pointMany 4 = .ok (.iload_n 2, 1) := by decide +kernel
theorem dX7_pointMany_5 : decode cX7_pointMany 5 = .ok (.bipush 24, 2) := by decide +kernel
theorem dX7_pointMany_7 : decode cX7_pointMany 7 = .ok (.if_icmp .ge 20, 3) := by decide +kernel
theorem dX7_pointMany_10 : decode cX7_pointMany 10 = .ok (.iload_n 1, 1) := by decide +kernel
theorem dX7_pointMany_11 : decode cX7_pointMany 11 = .ok (.aload_n 0, 1) := by decide +kernel
theorem dX7_pointMany_12 : decode cX7_pointMany 12 = .ok (.getfield 7, 3) := by decide +kernel
theorem dX7_pointMany_15 : decode cX7_pointMany 15 = .ok (.iconst 5, 1) := by decide +kernel
theorem dX7_pointMany_16 : decode cX7_pointMany 16 = .ok (.iload_n 2, 1) := by decide +kernel
theorem dX7_pointMany_17 : decode cX7_pointMany 17 = .ok (.imul, 1) := by decide +kernel
theorem dX7_pointMany_18 : decode cX7_pointMany 18 = .ok (.iaload, 1) := by decide +kernel
theorem dX7_pointMany_19 : decode cX7_pointMany 19 = .ok (.iadd, 1) := by decide +kernel
theorem dX7_pointMany_20 : decode cX7_pointMany 20 = .ok (.istore_n 1, 1) := by decide +kernel
theorem dX7_pointMany_21 : decode cX7_pointMany 21 = .ok (.iinc 2 1, 3) := by decide +kernel
theorem dX7_pointMany_24 : decode cX7_pointMany 24 = .ok (.goto (-20), 3) := by decide +kernel
theorem dX7_pointMany_27 : decode cX7_pointMany 27 = .ok (.iload_n 1, 1) := by decide +kernel
theorem dX7_pointMany_28 : decode cX7_pointMany 28 = .ok (.ireturn, 1) := by decide +kernel
theorem dX7_draws_0 : decode cX7_draws 0 = .ok (.aload_n 0, 1) := by decide +kernel
theorem dX7_draws_1 : decode cX7_draws 1 = .ok (.ldc2_w 150, 3) := by decide +kernel
theorem dX7_draws_4 : decode cX7_draws 4 = .ok (.aload_n 0, 1) := by decide +kernel
theorem dX7_draws_5 : decode cX7_draws 5 = .ok (.getfield 152, 3) := by decide +kernel
theorem dX7_draws_8 : decode cX7_draws 8 = .ok (.lmul, 1) := by decide +kernel
theorem dX7_draws_9 : decode cX7_draws 9 = .ok (.ldc2_w 156, 3) := by decide +kernel
theorem dX7_draws_12 : decode cX7_draws 12 = .ok (.ladd, 1) := by decide +kernel
theorem dX7_draws_13 : decode cX7_draws 13 = .ok (.ldc2_w 158, 3) := by decide +kernel
theorem dX7_draws_16 : decode cX7_draws 16 = .ok (.lrem, 1) := by decide +kernel
theorem dX7_draws_17 : decode cX7_draws 17 = .ok (.putfield 152, 3) := by decide +kernel
theorem dX7_draws_20 : decode cX7_draws 20 = .ok (.aload_n 0, 1) := by decide +kernel
theorem dX7_draws_21 : decode cX7_draws 21 = .ok (.getfield 152, 3) := by decide +kernel
theorem dX7_draws_24 : decode cX7_draws 24 = .ok (.ldc2_w 160, 3) := by decide +kernel
theorem dX7_draws_27 : decode cX7_draws 27 = .ok (.ldiv, 1) := by decide +kernel
theorem dX7_draws_28 : decode cX7_draws 28 = .ok (.l2i, 1) := by decide +kernel
theorem dX7_draws_29 : decode cX7_draws 29 = .ok (.iload_n 1, 1) := by decide +kernel
theorem dX7_draws_30 : decode cX7_draws 30 = .ok (.irem, 1) := by decide +kernel
theorem dX7_draws_31 : decode cX7_draws 31 = .ok (.ireturn, 1) := by decide +kernel
set_option maxRecDepth 20000 in
theorem ggX7_scatter_X7_isId : GoodIn wsX7_scatter wsX7_isId := goodIn_r _ [6, 7, 8, 5, 9] (by decide +kernel) (by decide +kernel)
set_option maxRecDepth 20000 in
theorem gX7_scatter_X7_isId : GoodIn wsX7_scatter (va_wsS RX7 95 yX7_isId wsX7_isId) := goodIn_app (goodIn_of _ (by decide +kernel)) ggX7_scatter_X7_isId
set_option maxRecDepth 20000 in
theorem ggX7_scatter_X7_in : GoodIn wsX7_scatter wsX7_in := goodIn_r _ [9] (by decide +kernel) (by decide +kernel)
set_option maxRecDepth 20000 in
theorem gX7_scatter_X7_in : GoodIn wsX7_scatter (va_wsS RX7 41 yX7_in wsX7_in) := goodIn_app (goodIn_of _ (by decide +kernel)) ggX7_scatter_X7_in
set_option maxRecDepth 20000 in
theorem ggX7_scatter_X7_refused : GoodIn wsX7_scatter wsX7_refused := goodIn_r _ [13, 14, 38, 39, 40, 41, 42, 43, 44, 45, 46, 47, 48, 49, 50, 51, 52, 53, 54, 55, 56, 57] (by decide +kernel) (by decide +kernel)
set_option maxRecDepth 20000 in
theorem gX7_scatter_X7_refused : GoodIn wsX7_scatter (wsV RX7 56 RX7 yX7_refused wsX7_refused) := goodIn_app (goodIn_of _ (by decide +kernel)) ggX7_scatter_X7_refused
set_option maxRecDepth 20000 in
theorem ggX7_scatter_X7_saves : GoodIn wsX7_scatter wsX7_saves := goodIn_r _ [18, 19, 20, 21, 38, 39, 40, 41, 42, 43, 44, 45, 46, 47, 48, 49, 50, 51, 52, 53, 54, 55, 56, 57] (by decide +kernel) (by decide +kernel)
set_option maxRecDepth 20000 in
theorem gX7_scatter_X7_saves : GoodIn wsX7_scatter (wsV RX7 116 RX7 yX7_saves wsX7_saves) := goodIn_app (goodIn_of _ (by decide +kernel)) ggX7_scatter_X7_saves
set_option maxRecDepth 20000 in
theorem ggX7_scatter_X7_draws : GoodIn wsX7_scatter wsX7_draws := goodIn_r _ [25, 26, 2, 27, 28, 29, 38, 39, 40, 41, 42, 43, 44, 45, 46, 47, 48, 49, 50, 51, 52, 53, 54, 55, 56, 57] (by decide +kernel) (by decide +kernel)
set_option maxRecDepth 20000 in
theorem gX7_scatter_X7_draws : GoodIn wsX7_scatter (wsV RX7 163 RX7 yX7_draws wsX7_draws) := goodIn_app (goodIn_of _ (by decide +kernel)) ggX7_scatter_X7_draws
set_option maxRecDepth 20000 in
theorem ggX7_scatter_X7_puts : GoodIn wsX7_scatter wsX7_puts := goodIn_r _ [33, 21, 38, 39, 40, 41, 42, 43, 44, 45, 46, 47, 48, 49, 50, 51, 52, 53, 54, 55, 56, 57] (by decide +kernel) (by decide +kernel)
set_option maxRecDepth 20000 in
theorem gX7_scatter_X7_puts : GoodIn wsX7_scatter (wsV RX7 104 RX7 yX7_puts wsX7_puts) := goodIn_app (goodIn_of _ (by decide +kernel)) ggX7_scatter_X7_puts
set_option maxRecDepth 20000 in
theorem ggX7_scatter_X7_pointMany : GoodIn wsX7_scatter wsX7_pointMany := goodIn_r _ [37, 21, 38, 39, 40, 41, 42, 43, 44, 45, 46, 47, 48, 49, 50, 51, 52, 53, 54, 55, 56, 57] (by decide +kernel) (by decide +kernel)
set_option maxRecDepth 20000 in
theorem gX7_scatter_X7_pointMany : GoodIn wsX7_scatter (wsV RX7 166 RX7 yX7_pointMany wsX7_pointMany) := goodIn_app (goodIn_of _ (by decide +kernel)) ggX7_scatter_X7_pointMany
theorem dX7_scatter_0 : decode cX7_scatter 0 = .ok (.iload_n 1, 1) := by decide +kernel
theorem dX7_scatter_1 : decode cX7_scatter 1 = .ok (.invokestatic 95, 3) := by decide +kernel
theorem dX7_scatter_4 : decode cX7_scatter 4 = .ok (.ifCond .eq 40, 3) := by decide +kernel
theorem dX7_scatter_7 : decode cX7_scatter 7 = .ok (.iload_n 2, 1) := by decide +kernel
theorem dX7_scatter_8 : decode cX7_scatter 8 = .ok (.iconst 1, 1) := by decide +kernel
theorem dX7_scatter_9 : decode cX7_scatter 9 = .ok (.bipush 24, 2) := by decide +kernel
theorem dX7_scatter_11 : decode cX7_scatter 11 = .ok (.iload_n 1, 1) := by decide +kernel
theorem dX7_scatter_12 : decode cX7_scatter 12 = .ok (.isub, 1) := by decide +kernel
theorem dX7_scatter_13 : decode cX7_scatter 13 = .ok (.invokestatic 41, 3) := by decide +kernel
theorem dX7_scatter_16 : decode cX7_scatter 16 = .ok (.ifCond .eq 28, 3) := by decide +kernel
theorem dX7_scatter_19 : decode cX7_scatter 19 = .ok (.iload_n 3, 1) := by decide +kernel
theorem dX7_scatter_20 : decode cX7_scatter 20 = .ok (.iconst 1, 1) := by decide +kernel
theorem dX7_scatter_21 : decode cX7_scatter 21 = .ok (.bipush 64, 2) := by decide +kernel
theorem dX7_scatter_23 : decode cX7_scatter 23 = .ok (.invokestatic 41, 3) := by decide +kernel
theorem dX7_scatter_26 : decode cX7_scatter 26 = .ok (.ifCond .eq 18, 3) := by decide +kernel
theorem dX7_scatter_29 : decode cX7_scatter 29 = .ok (.iload 4, 2) := by decide +kernel
theorem dX7_scatter_31 : decode cX7_scatter 31 = .ok (.iconst 0, 1) := by decide +kernel
theorem dX7_scatter_32 : decode cX7_scatter 32 = .ok (.ldc 162, 2) := by decide +kernel
theorem dX7_scatter_34 : decode cX7_scatter 34 = .ok (.invokestatic 41, 3) := by decide +kernel
theorem dX7_scatter_37 : decode cX7_scatter 37 = .ok (.ifCond .eq 7, 3) := by decide +kernel
theorem dX7_scatter_40 : decode cX7_scatter 40 = .ok (.iconst 1, 1) := by decide +kernel
theorem dX7_scatter_41 : decode cX7_scatter 41 = .ok (.goto 4, 3) := by decide +kernel
theorem dX7_scatter_44 : decode cX7_scatter 44 = .ok (.iconst 0, 1) := by decide +kernel
theorem dX7_scatter_45 : decode cX7_scatter 45 = .ok (.istore 5, 2) := by decide +kernel
theorem dX7_scatter_47 : decode cX7_scatter 47 = .ok (.aload_n 0, 1) := by decide +kernel
theorem dX7_scatter_48 : decode cX7_scatter 48 = .ok (.iload_n 1, 1) := by decide +kernel
theorem dX7_scatter_49 : decode cX7_scatter 49 = .ok (.invokestatic 95, 3) := by decide +kernel
theorem dX7_scatter_52 : decode cX7_scatter 52 = .ok (.ifCond .ne 7, 3) := by decide +kernel
theorem dX7_scatter_55 : decode cX7_scatter 55 = .ok (.iconst 1, 1) := by decide +kernel
theorem dX7_scatter_56 : decode cX7_scatter 56 = .ok (.goto 13, 3) := by decide +kernel
theorem dX7_scatter_59 : decode cX7_scatter 59 = .ok (.iload 5, 2) := by decide +kernel
theorem dX7_scatter_61 : decode cX7_scatter 61 = .ok (.ifCond .eq 7, 3) := by decide +kernel
theorem dX7_scatter_64 : decode cX7_scatter 64 = .ok (.iconst 0, 1) := by decide +kernel
theorem dX7_scatter_65 : decode cX7_scatter 65 = .ok (.goto 4, 3) := by decide +kernel
theorem dX7_scatter_68 : decode cX7_scatter 68 = .ok (.iconst 2, 1) := by decide +kernel
theorem dX7_scatter_69 : decode cX7_scatter 69 = .ok (.invokevirtual 56, 3) := by decide +kernel
theorem dX7_scatter_72 : decode cX7_scatter 72 = .ok (.ifCond .eq 5, 3) := by decide +kernel
theorem dX7_scatter_75 : decode cX7_scatter 75 = .ok (.iconst 0, 1) := by decide +kernel
theorem dX7_scatter_76 : decode cX7_scatter 76 = .ok (.ireturn, 1) := by decide +kernel
theorem dX7_scatter_77 : decode cX7_scatter 77 = .ok (.aload_n 0, 1) := by decide +kernel
theorem dX7_scatter_78 : decode cX7_scatter 78 = .ok (.invokevirtual 116, 3) := by decide +kernel
theorem dX7_scatter_81 : decode cX7_scatter 81 = .ok (.aload_n 0, 1) := by decide +kernel
theorem dX7_scatter_82 : decode cX7_scatter 82 = .ok (.iload 4, 2) := by decide +kernel
theorem dX7_scatter_84 : decode cX7_scatter 84 = .ok (.i2l, 1) := by decide +kernel
theorem dX7_scatter_85 : decode cX7_scatter 85 = .ok (.putfield 152, 3) := by decide +kernel
theorem dX7_scatter_88 : decode cX7_scatter 88 = .ok (.iload_n 1, 1) := by decide +kernel
theorem dX7_scatter_89 : decode cX7_scatter 89 = .ok (.istore 6, 2) := by decide +kernel
theorem dX7_scatter_91 : decode cX7_scatter 91 = .ok (.iload 6, 2) := by decide +kernel
theorem dX7_scatter_93 : decode cX7_scatter 93 = .ok (.iload_n 1, 1) := by decide +kernel
theorem dX7_scatter_94 : decode cX7_scatter 94 = .ok (.iload_n 2, 1) := by decide +kernel
theorem dX7_scatter_95 : decode cX7_scatter 95 = .ok (.iadd, 1) := by decide +kernel
theorem dX7_scatter_96 : decode cX7_scatter 96 = .ok (.if_icmp .ge 29, 3) := by decide +kernel
theorem dX7_scatter_99 : decode cX7_scatter 99 = .ok (.aload_n 0, 1) := by decide +kernel
theorem dX7_scatter_100 : decode cX7_scatter 100 = .ok (.iload_n 3, 1) := by decide +kernel
theorem dX7_scatter_101 : decode cX7_scatter 101 = .ok (.invokevirtual 163, 3) := by decide +kernel
theorem dX7_scatter_104 : decode cX7_scatter 104 = .ok (.istore 7, 2) := by decide +kernel
theorem dX7_scatter_106 : decode cX7_scatter 106 = .ok (.aload_n 0, 1) := by decide +kernel
theorem dX7_scatter_107 : decode cX7_scatter 107 = .ok (.iload 6, 2) := by decide +kernel
theorem dX7_scatter_109 : decode cX7_scatter 109 = .ok (.iload 7, 2) := by decide +kernel
theorem dX7_scatter_111 : decode cX7_scatter 111 = .ok (.aload_n 0, 1) := by decide +kernel
theorem dX7_scatter_112 : decode cX7_scatter 112 = .ok (.iload_n 3, 1) := by decide +kernel
theorem dX7_scatter_113 : decode cX7_scatter 113 = .ok (.invokevirtual 163, 3) := by decide +kernel
theorem dX7_scatter_116 : decode cX7_scatter 116 = .ok (.invokevirtual 104, 3) := by decide +kernel
theorem dX7_scatter_119 : decode cX7_scatter 119 = .ok (.iinc 6 1, 3) := by decide +kernel
theorem dX7_scatter_122 : decode cX7_scatter 122 = .ok (.goto (-31), 3) := by decide +kernel
theorem dX7_scatter_125 : decode cX7_scatter 125 = .ok (.aload_n 0, 1) := by decide +kernel
theorem dX7_scatter_126 : decode cX7_scatter 126 = .ok (.invokevirtual 166, 3) := by decide +kernel
theorem dX7_scatter_129 : decode cX7_scatter 129 = .ok (.ireturn, 1) := by decide +kernel
set_option maxRecDepth 20000 in
theorem ggX7_tellPoint_X7_heightOf : GoodIn wsX7_tellPoint wsX7_heightOf := goodIn_r _ [5] (by decide +kernel) (by decide +kernel)
set_option maxRecDepth 20000 in
theorem gX7_tellPoint_X7_heightOf : GoodIn wsX7_tellPoint (va_wsS RX7 49 yX7_heightOf wsX7_heightOf) := goodIn_app (goodIn_of _ (by decide +kernel)) ggX7_tellPoint_X7_heightOf
theorem dX7_tellPoint_0 : decode cX7_tellPoint 0 = .ok (.iload_n 2, 1) := by decide +kernel
theorem dX7_tellPoint_1 : decode cX7_tellPoint 1 = .ok (.iconst 5, 1) := by decide +kernel
theorem dX7_tellPoint_2 : decode cX7_tellPoint 2 = .ok (.if_icmp .ne 10, 3) := by decide +kernel
theorem dX7_tellPoint_5 : decode cX7_tellPoint 5 = .ok (.iload_n 1, 1) := by decide +kernel
theorem dX7_tellPoint_6 : decode cX7_tellPoint 6 = .ok (.invokestatic 49, 3) := by decide +kernel
theorem dX7_tellPoint_9 : decode cX7_tellPoint 9 = .ok (.goto 13, 3) := by decide +kernel
theorem dX7_tellPoint_12 : decode cX7_tellPoint 12 = .ok (.aload_n 0, 1) := by decide +kernel
theorem dX7_tellPoint_13 : decode cX7_tellPoint 13 = .ok (.getfield 7, 3) := by decide +kernel
theorem dX7_tellPoint_16 : decode cX7_tellPoint 16 = .ok (.iconst 5, 1) := by decide +kernel
theorem dX7_tellPoint_17 : decode cX7_tellPoint 17 = .ok (.iload_n 1, 1) := by decide +kernel
theorem dX7_tellPoint_18 : decode cX7_tellPoint 18 = .ok (.imul, 1) := by decide +kernel
theorem dX7_tellPoint_19 : decode cX7_tellPoint 19 = .ok (.iload_n 2, 1) := by decide +kernel
theorem dX7_tellPoint_20 : decode cX7_tellPoint 20 = .ok (.iadd, 1) := by decide +kernel
theorem dX7_tellPoint_21 : decode cX7_tellPoint 21 = .ok (.iaload, 1) := by decide +kernel
theorem dX7_tellPoint_22 : decode cX7_tellPoint 22 = .ok (.ireturn, 1) := by decide +kernel
set_option maxRecDepth 20000 in
theorem ggX7_point_X7_isId : GoodIn wsX7_point wsX7_isId := goodIn_r _ [4, 5, 6, 3, 7] (by decide +kernel) (by decide +kernel)
set_option maxRecDepth 20000 in
theorem gX7_point_X7_isId : GoodIn wsX7_point (va_wsS RX7 95 yX7_isId wsX7_isId) := goodIn_app (goodIn_of _ (by decide +kernel)) ggX7_point_X7_isId
set_option maxRecDepth 20000 in
theorem ggX7_point_X7_in : GoodIn wsX7_point wsX7_in := goodIn_r _ [7] (by decide +kernel) (by decide +kernel)
set_option maxRecDepth 20000 in
theorem gX7_point_X7_in : GoodIn wsX7_point (va_wsS RX7 41 yX7_in wsX7_in) := goodIn_app (goodIn_of _ (by decide +kernel)) ggX7_point_X7_in
set_option maxRecDepth 20000 in
theorem ggX7_point_X7_refused : GoodIn wsX7_point wsX7_refused := goodIn_r _ [11, 12, 21, 22, 23, 24, 25, 26, 27, 28, 29, 30, 31, 32, 33, 34, 35, 36, 37, 38, 39, 40] (by decide +kernel) (by decide +kernel)
set_option maxRecDepth 20000 in
theorem gX7_point_X7_refused : GoodIn wsX7_point (wsV RX7 56 RX7 yX7_refused wsX7_refused) := goodIn_app (goodIn_of _ (by decide +kernel)) ggX7_point_X7_refused
set_option maxRecDepth 20000 in
theorem ggX7_point_X7_tellPoint : GoodIn wsX7_point wsX7_tellPoint := goodIn_r _ [16, 17, 18, 19, 3, 20, 21, 22, 23, 24, 25, 26, 27, 28, 29, 30, 31, 32, 33, 34, 35, 36, 37, 38, 39, 40] (by decide +kernel) (by decide +kernel)
set_option maxRecDepth 20000 in
theorem gX7_point_X7_tellPoint : GoodIn wsX7_point (wsV RX7 169 RX7 yX7_tellPoint wsX7_tellPoint) := goodIn_app (goodIn_of _ (by decide +kernel)) ggX7_point_X7_tellPoint
theorem dX7_point_0 : decode cX7_point 0 = .ok (.aload_n 0, 1) := by decide +kernel
theorem dX7_point_1 : decode cX7_point 1 = .ok (.iload_n 1, 1) := by decide +kernel
theorem dX7_point_2 : decode cX7_point 2 = .ok (.invokestatic 95, 3) := by decide +kernel
theorem dX7_point_5 : decode cX7_point 5 = .ok (.ifCond .ne 7, 3) := by decide +kernel
theorem dX7_point_8 : decode cX7_point 8 = .ok (.iconst 1, 1) := by decide +kernel
theorem dX7_point_9 : decode cX7_point 9 = .ok (.goto 17, 3) := by decide +kernel
theorem dX7_point_12 : decode cX7_point 12 = .ok (.iload_n 2, 1) := by decide +kernel
theorem dX7_point_13 : decode cX7_point 13 = .ok (.iconst 0, 1) := by decide +kernel
theorem dX7_point_14 : decode cX7_point 14 = .ok (.iconst 5, 1) := by decide +kernel
theorem dX7_point_15 : decode cX7_point 15 = .ok (.invokestatic 41, 3) := by decide +kernel
theorem dX7_point_18 : decode cX7_point 18 = .ok (.ifCond .eq 7, 3) := by decide +kernel
theorem dX7_point_21 : decode cX7_point 21 = .ok (.iconst 0, 1) := by decide +kernel
theorem dX7_point_22 : decode cX7_point 22 = .ok (.goto 4, 3) := by decide +kernel
theorem dX7_point_25 : decode cX7_point 25 = .ok (.iconst 2, 1) := by decide +kernel
theorem dX7_point_26 : decode cX7_point 26 = .ok (.invokevirtual 56, 3) := by decide +kernel
theorem dX7_point_29 : decode cX7_point 29 = .ok (.ifCond .eq 7, 3) := by decide +kernel
theorem dX7_point_32 : decode cX7_point 32 = .ok (.iconst 0, 1) := by decide +kernel
theorem dX7_point_33 : decode cX7_point 33 = .ok (.goto 9, 3) := by decide +kernel
theorem dX7_point_36 : decode cX7_point 36 = .ok (.aload_n 0, 1) := by decide +kernel
theorem dX7_point_37 : decode cX7_point 37 = .ok (.iload_n 1, 1) := by decide +kernel
theorem dX7_point_38 : decode cX7_point 38 = .ok (.iload_n 2, 1) := by decide +kernel
theorem dX7_point_39 : decode cX7_point 39 = .ok (.invokevirtual 169, 3) := by decide +kernel
theorem dX7_point_42 : decode cX7_point 42 = .ok (.ireturn, 1) := by decide +kernel
set_option maxRecDepth 20000 in
theorem ggX7_pointsOn_X7_isOn : GoodIn wsX7_pointsOn wsX7_isOn := goodIn_r _ [5, 6, 7, 8, 4, 9, 10, 11, 12, 13, 14, 15, 16, 17, 18, 19, 20, 21, 22, 23, 24, 25, 26, 27, 28, 29, 30, 31, 32, 33] (by decide +kernel) (by decide +kernel)
set_option maxRecDepth 20000 in
theorem gX7_pointsOn_X7_isOn : GoodIn wsX7_pointsOn (wsV RX7 76 RX7 yX7_isOn wsX7_isOn) := goodIn_app (goodIn_of _ (by decide +kernel)) ggX7_pointsOn_X7_isOn
theorem dX7_pointsOn_0 : decode cX7_pointsOn 0 = .ok (.iconst 0, 1) := by decide +kernel
theorem dX7_pointsOn_1 : decode cX7_pointsOn 1 = .ok (.istore_n 2, 1) := by decide +kernel
theorem dX7_pointsOn_2 : decode cX7_pointsOn 2 = .ok (.iconst 0, 1) := by decide +kernel
theorem dX7_pointsOn_3 : decode cX7_pointsOn 3 = .ok (.istore_n 3, 1) := by decide +kernel
theorem dX7_pointsOn_4 : decode cX7_pointsOn 4 = .ok (.iload_n 3, 1) := by decide +kernel
theorem dX7_pointsOn_5 : decode cX7_pointsOn 5 = .ok (.bipush 24, 2) := by decide +kernel
theorem dX7_pointsOn_7 : decode cX7_pointsOn 7 = .ok (.if_icmp .ge 26, 3) := by decide +kernel
theorem dX7_pointsOn_10 : decode cX7_pointsOn 10 = .ok (.iload_n 2, 1) := by decide +kernel
theorem dX7_pointsOn_11 : decode cX7_pointsOn 11 = .ok (.aload_n 0, 1) := by decide +kernel
theorem dX7_pointsOn_12 : decode cX7_pointsOn 12 = .ok (.iload_n 3, 1) := by decide +kernel
theorem dX7_pointsOn_13 : decode cX7_pointsOn 13 = .ok (.iload_n 1, 1) := by decide +kernel
theorem dX7_pointsOn_14 : decode cX7_pointsOn 14 = .ok (.invokevirtual 76, 3) := by decide +kernel
theorem dX7_pointsOn_17 : decode cX7_pointsOn 17 = .ok (.ifCond .eq 7, 3) := by decide +kernel
theorem dX7_pointsOn_20 : decode cX7_pointsOn 20 = .ok (.iconst 1, 1) := by decide +kernel
theorem dX7_pointsOn_21 : decode cX7_pointsOn 21 = .ok (.goto 4, 3) := by decide +kernel
theorem dX7_pointsOn_24 : decode cX7_pointsOn 24 = .ok (.iconst 0, 1) := by decide +kernel
theorem dX7_pointsOn_25 : decode cX7_pointsOn 25 = .ok (.iadd, 1) := by decide +kernel
theorem dX7_pointsOn_26 : decode cX7_pointsOn 26 = .ok (.istore_n 2, 1) := by decide +kernel
theorem dX7_pointsOn_27 : decode cX7_pointsOn 27 = .ok (.iinc 3 1, 3) := by decide +kernel
theorem dX7_pointsOn_30 : decode cX7_pointsOn 30 = .ok (.goto (-26), 3) := by decide +kernel
theorem dX7_pointsOn_33 : decode cX7_pointsOn 33 = .ok (.iload_n 2, 1) := by decide +kernel
theorem dX7_pointsOn_34 : decode cX7_pointsOn 34 = .ok (.ireturn, 1) := by decide +kernel
set_option maxRecDepth 20000 in
theorem ggX7_depthOf_X7_nodeAt : GoodIn wsX7_depthOf wsX7_nodeAt := goodIn_r _ [5, 6, 16, 17, 18, 19, 20, 21, 22, 23, 24, 25, 26, 27, 28, 29, 30, 31, 32, 33, 34, 35] (by decide +kernel) (by decide +kernel)
set_option maxRecDepth 20000 in
theorem gX7_depthOf_X7_nodeAt : GoodIn wsX7_depthOf (wsV RX7 86 RX7 yX7_nodeAt wsX7_nodeAt) := goodIn_app (goodIn_of _ (by decide +kernel)) ggX7_depthOf_X7_nodeAt
set_option maxRecDepth 20000 in
theorem ggX7_depthOf_X7_firstOf : GoodIn wsX7_depthOf wsX7_firstOf := goodIn_r _ [9] (by decide +kernel) (by decide +kernel)
set_option maxRecDepth 20000 in
theorem gX7_depthOf_X7_firstOf : GoodIn wsX7_depthOf (va_wsS RX7 66 yX7_firstOf wsX7_firstOf) := goodIn_app (goodIn_of _ (by decide +kernel)) ggX7_depthOf_X7_firstOf
set_option maxRecDepth 20000 in
theorem ggX7_depthOf_X7_holds : GoodIn wsX7_depthOf wsX7_holds := goodIn_r _ [12, 7, 8, 4, 9, 13, 14, 15] (by decide +kernel) (by decide +kernel)
set_option maxRecDepth 20000 in
theorem gX7_depthOf_X7_holds : GoodIn wsX7_depthOf (va_wsS RX7 172 yX7_holds wsX7_holds) := goodIn_app (goodIn_of _ (by decide +kernel)) ggX7_depthOf_X7_holds
theorem dX7_depthOf_0 : decode cX7_depthOf 0 = .ok (.iconst 0, 1) := by decide +kernel
theorem dX7_depthOf_1 : decode cX7_depthOf 1 = .ok (.istore_n 3, 1) := by decide +kernel
theorem dX7_depthOf_2 : decode cX7_depthOf 2 = .ok (.iconst 0, 1) := by decide +kernel
theorem dX7_depthOf_3 : decode cX7_depthOf 3 = .ok (.istore 4, 2) := by decide +kernel
theorem dX7_depthOf_5 : decode cX7_depthOf 5 = .ok (.iload 4, 2) := by decide +kernel
theorem dX7_depthOf_7 : decode cX7_depthOf 7 = .ok (.iload_n 2, 1) := by decide +kernel
theorem dX7_depthOf_8 : decode cX7_depthOf 8 = .ok (.if_icmp .ge 39, 3) := by decide +kernel
theorem dX7_depthOf_11 : decode cX7_depthOf 11 = .ok (.iload_n 3, 1) := by decide +kernel
theorem dX7_depthOf_12 : decode cX7_depthOf 12 = .ok (.aload_n 0, 1) := by decide +kernel
theorem dX7_depthOf_13 : decode cX7_depthOf 13 = .ok (.iload_n 1, 1) := by decide +kernel
theorem dX7_depthOf_14 : decode cX7_depthOf 14 = .ok (.iload 4, 2) := by decide +kernel
theorem dX7_depthOf_16 : decode cX7_depthOf 16 = .ok (.invokevirtual 86, 3) := by decide +kernel
theorem dX7_depthOf_19 : decode cX7_depthOf 19 = .ok (.aload_n 0, 1) := by decide +kernel
theorem dX7_depthOf_20 : decode cX7_depthOf 20 = .ok (.iload_n 1, 1) := by decide +kernel
theorem dX7_depthOf_21 : decode cX7_depthOf 21 = .ok (.iload_n 2, 1) := by decide +kernel
theorem dX7_depthOf_22 : decode cX7_depthOf 22 = .ok (.invokevirtual 86, 3) := by decide +kernel
theorem dX7_depthOf_25 : decode cX7_depthOf 25 = .ok (.invokestatic 66, 3) := by decide +kernel
theorem dX7_depthOf_28 : decode cX7_depthOf 28 = .ok (.invokestatic 172, 3) := by decide +kernel
theorem dX7_depthOf_31 : decode cX7_depthOf 31 = .ok (.ifCond .eq 7, 3) := by decide +kernel
theorem dX7_depthOf_34 : decode cX7_depthOf 34 = .ok (.iconst 1, 1) := by decide +kernel
theorem dX7_depthOf_35 : decode cX7_depthOf 35 = .ok (.goto 4, 3) := by decide +kernel
theorem dX7_depthOf_38 : decode cX7_depthOf 38 = .ok (.iconst 0, 1) := by decide +kernel
theorem dX7_depthOf_39 : decode cX7_depthOf 39 = .ok (.iadd, 1) := by decide +kernel
theorem dX7_depthOf_40 : decode cX7_depthOf 40 = .ok (.istore_n 3, 1) := by decide +kernel
theorem dX7_depthOf_41 : decode cX7_depthOf 41 = .ok (.iinc 4 1, 3) := by decide +kernel
theorem dX7_depthOf_44 : decode cX7_depthOf 44 = .ok (.goto (-39), 3) := by decide +kernel
theorem dX7_depthOf_47 : decode cX7_depthOf 47 = .ok (.iload_n 3, 1) := by decide +kernel
theorem dX7_depthOf_48 : decode cX7_depthOf 48 = .ok (.ireturn, 1) := by decide +kernel
set_option maxRecDepth 20000 in
theorem ggX7_looksAt_X7_placeOf : GoodIn wsX7_looksAt wsX7_placeOf := goodIn_r _ [8, 9, 10, 11, 7, 12, 24, 25, 26, 27, 28, 29, 30, 31, 32, 33, 34, 35, 36, 37, 38, 39, 40, 41, 42, 43] (by decide +kernel) (by decide +kernel)
set_option maxRecDepth 20000 in
theorem gX7_looksAt_X7_placeOf : GoodIn wsX7_looksAt (wsV RX7 80 RX7 yX7_placeOf wsX7_placeOf) := goodIn_app (goodIn_of _ (by decide +kernel)) ggX7_looksAt_X7_placeOf
set_option maxRecDepth 20000 in
theorem ggX7_looksAt_X7_isOn : GoodIn wsX7_looksAt wsX7_isOn := goodIn_r _ [16, 17, 18, 19, 7, 20, 9, 21, 22, 23, 24, 25, 26, 27, 28, 29, 30, 31, 32, 33, 34, 35, 36, 37, 38, 39, 40, 41, 42, 43] (by decide +kernel) (by decide +kernel)
set_option maxRecDepth 20000 in
theorem gX7_looksAt_X7_isOn : GoodIn wsX7_looksAt (wsV RX7 76 RX7 yX7_isOn wsX7_isOn) := goodIn_app (goodIn_of _ (by decide +kernel)) ggX7_looksAt_X7_isOn
theorem dX7_looksAt_0 : decode cX7_looksAt 0 = .ok (.aload_n 0, 1) := by decide +kernel
theorem dX7_looksAt_1 : decode cX7_looksAt 1 = .ok (.iconst 0, 1) := by decide +kernel
theorem dX7_looksAt_2 : decode cX7_looksAt 2 = .ok (.putfield 175, 3) := by decide +kernel
theorem dX7_looksAt_5 : decode cX7_looksAt 5 = .ok (.aload_n 0, 1) := by decide +kernel
theorem dX7_looksAt_6 : decode cX7_looksAt 6 = .ok (.sipush 4096, 3) := by decide +kernel
theorem dX7_looksAt_9 : decode cX7_looksAt 9 = .ok (.putfield 178, 3) := by decide +kernel
theorem dX7_looksAt_12 : decode cX7_looksAt 12 = .ok (.aload_n 0, 1) := by decide +kernel
theorem dX7_looksAt_13 : decode cX7_looksAt 13 = .ok (.iconst (-1), 1) := by decide +kernel
theorem dX7_looksAt_14 : decode cX7_looksAt 14 = .ok (.putfield 181, 3) := by decide +kernel
theorem dX7_looksAt_17 : decode cX7_looksAt 17 = .ok (.iconst 0, 1) := by decide +kernel
theorem dX7_looksAt_18 : decode cX7_looksAt 18 = .ok (.istore 4, 2) := by decide +kernel
theorem dX7_looksAt_20 : decode cX7_looksAt 20 = .ok (.iload 4, 2) := by decide +kernel
theorem dX7_looksAt_22 : decode cX7_looksAt 22 = .ok (.bipush 24, 2) := by decide +kernel
theorem dX7_looksAt_24 : decode cX7_looksAt 24 = .ok (.if_icmp .ge 95, 3) := by decide +kernel
theorem dX7_looksAt_27 : decode cX7_looksAt 27 = .ok (.aload_n 0, 1) := by decide +kernel
theorem dX7_looksAt_28 : decode cX7_looksAt 28 = .ok (.iload 4, 2) := by decide +kernel
theorem dX7_looksAt_30 : decode cX7_looksAt 30 = .ok (.invokevirtual 80, 3) := by decide +kernel
theorem dX7_looksAt_33 : decode cX7_looksAt 33 = .ok (.istore 5, 2) := by decide +kernel
theorem dX7_looksAt_35 : decode cX7_looksAt 35 = .ok (.aload_n 0, 1) := by decide +kernel
theorem dX7_looksAt_36 : decode cX7_looksAt 36 = .ok (.iload 4, 2) := by decide +kernel
theorem dX7_looksAt_38 : decode cX7_looksAt 38 = .ok (.iload_n 1, 1) := by decide +kernel
theorem dX7_looksAt_39 : decode cX7_looksAt 39 = .ok (.invokevirtual 76, 3) := by decide +kernel
theorem dX7_looksAt_42 : decode cX7_looksAt 42 = .ok (.ifCond .eq 71, 3) := by decide +kernel
theorem dX7_looksAt_45 : decode cX7_looksAt 45 = .ok (.iload 5, 2) := by decide +kernel
theorem dX7_looksAt_47 : decode cX7_looksAt 47 = .ok (.iconst 2, 1) := by decide +kernel
theorem dX7_looksAt_48 : decode cX7_looksAt 48 = .ok (.iload_n 3, 1) := by decide +kernel
theorem dX7_looksAt_49 : decode cX7_looksAt 49 = .ok (.imul, 1) := by decide +kernel
theorem dX7_looksAt_50 : decode cX7_looksAt 50 = .ok (.ishr, 1) := by decide +kernel
theorem dX7_looksAt_51 : decode cX7_looksAt 51 = .ok (.iload_n 2, 1) := by decide +kernel
theorem dX7_looksAt_52 : decode cX7_looksAt 52 = .ok (.iconst 2, 1) := by decide +kernel
theorem dX7_looksAt_53 : decode cX7_looksAt 53 = .ok (.iload_n 3, 1) := by decide +kernel
theorem dX7_looksAt_54 : decode cX7_looksAt 54 = .ok (.imul, 1) := by decide +kernel
theorem dX7_looksAt_55 : decode cX7_looksAt 55 = .ok (.ishr, 1) := by decide +kernel
theorem dX7_looksAt_56 : decode cX7_looksAt 56 = .ok (.if_icmp .ne 57, 3) := by decide +kernel
theorem dX7_looksAt_59 : decode cX7_looksAt 59 = .ok (.aload_n 0, 1) := by decide +kernel
theorem dX7_looksAt_60 : decode cX7_looksAt 60 = .ok (.dup, 1) := by decide +kernel
theorem dX7_looksAt_61 : decode cX7_looksAt 61 = .ok (.getfield 175, 3) := by decide +kernel
theorem dX7_looksAt_64 : decode cX7_looksAt 64 = .ok (.iconst 1, 1) := by decide +kernel
theorem dX7_looksAt_65 : decode cX7_looksAt 65 = .ok (.iadd, 1) := by decide +kernel
theorem dX7_looksAt_66 : decode cX7_looksAt 66 = .ok (.putfield 175, 3) := by decide +kernel
theorem dX7_looksAt_69 : decode cX7_looksAt 69 = .ok (.aload_n 0, 1) := by decide +kernel
theorem dX7_looksAt_70 : decode cX7_looksAt 70 = .ok (.iload 5, 2) := by decide +kernel
theorem dX7_looksAt_72 : decode cX7_looksAt 72 = .ok (.aload_n 0, 1) := by decide +kernel
theorem dX7_looksAt_73 : decode cX7_looksAt 73 = .ok (.getfield 178, 3) := by decide +kernel
theorem dX7_looksAt_76 : decode cX7_looksAt 76 = .ok (.if_icmp .ge 8, 3) := by decide +kernel
theorem dX7_looksAt_79 : decode cX7_looksAt 79 = .ok (.iload 5, 2) := by decide +kernel
theorem dX7_looksAt_81 : decode cX7_looksAt 81 = .ok (.goto 7, 3) := by decide +kernel
theorem dX7_looksAt_84 : decode cX7_looksAt 84 = .ok (.aload_n 0, 1) := by decide +kernel
theorem dX7_looksAt_85 : decode cX7_looksAt 85 = .ok (.getfield 178, 3) := by decide +kernel
theorem dX7_looksAt_88 : decode cX7_looksAt 88 = .ok (.putfield 178, 3) := by decide +kernel
theorem dX7_looksAt_91 : decode cX7_looksAt 91 = .ok (.aload_n 0, 1) := by decide +kernel
theorem dX7_looksAt_92 : decode cX7_looksAt 92 = .ok (.iload 5, 2) := by decide +kernel
theorem dX7_looksAt_94 : decode cX7_looksAt 94 = .ok (.aload_n 0, 1) := by decide +kernel
theorem dX7_looksAt_95 : decode cX7_looksAt 95 = .ok (.getfield 181, 3) := by decide +kernel
theorem dX7_looksAt_98 : decode cX7_looksAt 98 = .ok (.if_icmp .le 8, 3) := by decide +kernel
theorem dX7_looksAt_101 : decode cX7_looksAt 101 = .ok (.iload 5, 2) := by decide +kernel
theorem dX7_looksAt_103 : decode cX7_looksAt 103 = .ok (.goto 7, 3) := by decide +kernel
theorem dX7_looksAt_106 : decode cX7_looksAt 106 = .ok (.aload_n 0, 1) := by decide +kernel
theorem dX7_looksAt_107 : decode cX7_looksAt 107 = .ok (.getfield 181, 3) := by decide +kernel
theorem dX7_looksAt_110 : decode cX7_looksAt 110 = .ok (.putfield 181, 3) := by decide +kernel
theorem dX7_looksAt_113 : decode cX7_looksAt 113 = .ok (.iinc 4 1, 3) := by decide +kernel
theorem dX7_looksAt_116 : decode cX7_looksAt 116 = .ok (.goto (-96), 3) := by decide +kernel
theorem dX7_looksAt_119 : decode cX7_looksAt 119 = .ok (.return_, 1) := by decide +kernel
set_option maxRecDepth 20000 in
theorem ggX7_childOf_X7_span : GoodIn wsX7_childOf wsX7_span := goodIn_r _ [8] (by decide +kernel) (by decide +kernel)
set_option maxRecDepth 20000 in
theorem gX7_childOf_X7_span : GoodIn wsX7_childOf (va_wsS RX7 69 yX7_span wsX7_span) := goodIn_app (goodIn_of _ (by decide +kernel)) ggX7_childOf_X7_span
set_option maxRecDepth 20000 in
theorem ggX7_childOf_X7_firstOf : GoodIn wsX7_childOf wsX7_firstOf := goodIn_r _ [11] (by decide +kernel) (by decide +kernel)
set_option maxRecDepth 20000 in
theorem gX7_childOf_X7_firstOf : GoodIn wsX7_childOf (va_wsS RX7 66 yX7_firstOf wsX7_firstOf) := goodIn_app (goodIn_of _ (by decide +kernel)) ggX7_childOf_X7_firstOf
set_option maxRecDepth 20000 in
theorem ggX7_childOf_X7_looksAt : GoodIn wsX7_childOf wsX7_looksAt := goodIn_r _ [15, 1, 2, 3, 16, 17, 18, 7, 19, 20, 21, 22, 23, 24, 25, 26, 27, 28, 29, 30, 31, 32, 33, 34, 38, 39, 40, 41, 42, 43, 44, 45, 46, 47, 48, 49, 50, 51, 52, 53, 54, 55, 56, 57] (by decide +kernel) (by decide +kernel)
set_option maxRecDepth 20000 in
theorem gX7_childOf_X7_looksAt : GoodIn wsX7_childOf (wsV RX7 184 RX7 yX7_looksAt wsX7_looksAt) := goodIn_app (goodIn_of _ (by decide +kernel)) ggX7_childOf_X7_looksAt
set_option maxRecDepth 20000 in
theorem ggX7_childOf_X7_spanOf : GoodIn wsX7_childOf wsX7_spanOf := goodIn_r _ [37] (by decide +kernel) (by decide +kernel)
set_option maxRecDepth 20000 in
theorem gX7_childOf_X7_spanOf : GoodIn wsX7_childOf (va_wsS RX7 83 yX7_spanOf wsX7_spanOf) := goodIn_app (goodIn_of _ (by decide +kernel)) ggX7_childOf_X7_spanOf
theorem dX7_childOf_0 : decode cX7_childOf 0 = .ok (.iload_n 2, 1) := by decide +kernel
theorem dX7_childOf_1 : decode cX7_childOf 1 = .ok (.invokestatic 69, 3) := by decide +kernel
theorem dX7_childOf_4 : decode cX7_childOf 4 = .ok (.iconst 1, 1) := by decide +kernel
theorem dX7_childOf_5 : decode cX7_childOf 5 = .ok (.isub, 1) := by decide +kernel
theorem dX7_childOf_6 : decode cX7_childOf 6 = .ok (.istore 4, 2) := by decide +kernel
theorem dX7_childOf_8 : decode cX7_childOf 8 = .ok (.aload_n 0, 1) := by decide +kernel
theorem dX7_childOf_9 : decode cX7_childOf 9 = .ok (.iload_n 1, 1) := by decide +kernel
theorem dX7_childOf_10 : decode cX7_childOf 10 = .ok (.iload_n 2, 1) := by decide +kernel
theorem dX7_childOf_11 : decode cX7_childOf 11 = .ok (.invokestatic 66, 3) := by decide +kernel
theorem dX7_childOf_14 : decode cX7_childOf 14 = .ok (.iload_n 3, 1) := by decide +kernel
theorem dX7_childOf_15 : decode cX7_childOf 15 = .ok (.iconst 2, 1) := by decide +kernel
theorem dX7_childOf_16 : decode cX7_childOf 16 = .ok (.iload 4, 2) := by decide +kernel
theorem dX7_childOf_18 : decode cX7_childOf 18 = .ok (.imul, 1) := by decide +kernel
theorem dX7_childOf_19 : decode cX7_childOf 19 = .ok (.ishl, 1) := by decide +kernel
theorem dX7_childOf_20 : decode cX7_childOf 20 = .ok (.iadd, 1) := by decide +kernel
theorem dX7_childOf_21 : decode cX7_childOf 21 = .ok (.iload 4, 2) := by decide +kernel
theorem dX7_childOf_23 : decode cX7_childOf 23 = .ok (.invokevirtual 184, 3) := by decide +kernel
theorem dX7_childOf_26 : decode cX7_childOf 26 = .ok (.aload_n 0, 1) := by decide +kernel
theorem dX7_childOf_27 : decode cX7_childOf 27 = .ok (.getfield 175, 3) := by decide +kernel
theorem dX7_childOf_30 : decode cX7_childOf 30 = .ok (.ifCond .ne 5, 3) := by decide +kernel
theorem dX7_childOf_33 : decode cX7_childOf 33 = .ok (.iconst (-1), 1) := by decide +kernel
theorem dX7_childOf_34 : decode cX7_childOf 34 = .ok (.ireturn, 1) := by decide +kernel
theorem dX7_childOf_35 : decode cX7_childOf 35 = .ok (.aload_n 0, 1) := by decide +kernel
theorem dX7_childOf_36 : decode cX7_childOf 36 = .ok (.getfield 178, 3) := by decide +kernel
theorem dX7_childOf_39 : decode cX7_childOf 39 = .ok (.aload_n 0, 1) := by decide +kernel
theorem dX7_childOf_40 : decode cX7_childOf 40 = .ok (.getfield 181, 3) := by decide +kernel
theorem dX7_childOf_43 : decode cX7_childOf 43 = .ok (.if_icmp .ne 11, 3) := by decide +kernel
theorem dX7_childOf_46 : decode cX7_childOf 46 = .ok (.ldc 187, 2) := by decide +kernel
theorem dX7_childOf_48 : decode cX7_childOf 48 = .ok (.aload_n 0, 1) := by decide +kernel
theorem dX7_childOf_49 : decode cX7_childOf 49 = .ok (.getfield 178, 3) := by decide +kernel
theorem dX7_childOf_52 : decode cX7_childOf 52 = .ok (.iadd, 1) := by decide +kernel
theorem dX7_childOf_53 : decode cX7_childOf 53 = .ok (.ireturn, 1) := by decide +kernel
theorem dX7_childOf_54 : decode cX7_childOf 54 = .ok (.aload_n 0, 1) := by decide +kernel
theorem dX7_childOf_55 : decode cX7_childOf 55 = .ok (.getfield 178, 3) := by decide +kernel
theorem dX7_childOf_58 : decode cX7_childOf 58 = .ok (.aload_n 0, 1) := by decide +kernel
theorem dX7_childOf_59 : decode cX7_childOf 59 = .ok (.getfield 181, 3) := by decide +kernel
theorem dX7_childOf_62 : decode cX7_childOf 62 = .ok (.invokestatic 83, 3) := by decide +kernel
theorem dX7_childOf_65 : decode cX7_childOf 65 = .ok (.istore 5, 2) := by decide +kernel
theorem dX7_childOf_67 : decode cX7_childOf 67 = .ok (.bipush 8, 2) := by decide +kernel
theorem dX7_childOf_69 : decode cX7_childOf 69 = .ok (.aload_n 0, 1) := by decide +kernel
theorem dX7_childOf_70 : decode cX7_childOf 70 = .ok (.getfield 178, 3) := by decide +kernel
theorem dX7_childOf_73 : decode cX7_childOf 73 = .ok (.iconst 2, 1) := by decide +kernel
theorem dX7_childOf_74 : decode cX7_childOf 74 = .ok (.iload 5, 2) := by decide +kernel
theorem dX7_childOf_76 : decode cX7_childOf 76 = .ok (.imul, 1) := by decide +kernel
theorem dX7_childOf_77 : decode cX7_childOf 77 = .ok (.ishr, 1) := by decide +kernel
theorem dX7_childOf_78 : decode cX7_childOf 78 = .ok (.iconst 2, 1) := by decide +kernel
theorem dX7_childOf_79 : decode cX7_childOf 79 = .ok (.iload 5, 2) := by decide +kernel
theorem dX7_childOf_81 : decode cX7_childOf 81 = .ok (.imul, 1) := by decide +kernel
theorem dX7_childOf_82 : decode cX7_childOf 82 = .ok (.ishl, 1) := by decide +kernel
theorem dX7_childOf_83 : decode cX7_childOf 83 = .ok (.imul, 1) := by decide +kernel
theorem dX7_childOf_84 : decode cX7_childOf 84 = .ok (.bipush 6, 2) := by decide +kernel
theorem dX7_childOf_86 : decode cX7_childOf 86 = .ok (.iadd, 1) := by decide +kernel
theorem dX7_childOf_87 : decode cX7_childOf 87 = .ok (.iload 5, 2) := by decide +kernel
theorem dX7_childOf_89 : decode cX7_childOf 89 = .ok (.isub, 1) := by decide +kernel
theorem dX7_childOf_90 : decode cX7_childOf 90 = .ok (.ireturn, 1) := by decide +kernel
set_option maxRecDepth 20000 in
theorem ggX7_tellChild_X7_nodeAt : GoodIn wsX7_tellChild wsX7_nodeAt := goodIn_r _ [6, 7, 57, 58, 59, 60, 61, 62, 63, 64, 65, 66, 67, 68, 69, 70, 71, 72, 73, 74, 75, 76] (by decide +kernel) (by decide +kernel)
set_option maxRecDepth 20000 in
theorem gX7_tellChild_X7_nodeAt : GoodIn wsX7_tellChild (wsV RX7 86 RX7 yX7_nodeAt wsX7_nodeAt) := goodIn_app (goodIn_of _ (by decide +kernel)) ggX7_tellChild_X7_nodeAt
set_option maxRecDepth 20000 in
theorem ggX7_tellChild_X7_childOf : GoodIn wsX7_tellChild wsX7_childOf := goodIn_r _ [11, 12, 13, 14, 1, 15, 16, 5, 17, 18, 19, 20, 21, 22, 23, 24, 25, 26, 27, 28, 29, 30, 31, 32, 33, 34, 35, 36, 37, 38, 39, 40, 41, 42, 43, 44, 45, 46, 57, 58, 59, 60, 61, 62, 63, 64, 65, 66, 67, 68, 69, 70, 71, 72, 73, 74, 75, 76] (by decide +kernel) (by decide +kernel)
set_option maxRecDepth 20000 in
theorem gX7_tellChild_X7_childOf : GoodIn wsX7_tellChild (wsV RX7 188 RX7 yX7_childOf wsX7_childOf) := goodIn_app (goodIn_of _ (by decide +kernel)) ggX7_tellChild_X7_childOf
set_option maxRecDepth 20000 in
theorem ggX7_tellChild_X7_indexOf : GoodIn wsX7_tellChild wsX7_indexOf := goodIn_r _ [50, 2, 3, 4, 5, 6, 7, 57, 58, 59, 60, 61, 62, 63, 64, 65, 66, 67, 68, 69, 70, 71, 72, 73, 74, 75, 76] (by decide +kernel) (by decide +kernel)
set_option maxRecDepth 20000 in
theorem gX7_tellChild_X7_indexOf : GoodIn wsX7_tellChild (wsV RX7 191 RX7 yX7_indexOf wsX7_indexOf) := goodIn_app (goodIn_of _ (by decide +kernel)) ggX7_tellChild_X7_indexOf
set_option maxRecDepth 20000 in
theorem ggX7_tellChild_X7_yOf : GoodIn wsX7_tellChild wsX7_yOf := goodIn_r _ [53, 54, 55, 5, 56] (by decide +kernel) (by decide +kernel)
set_option maxRecDepth 20000 in
theorem gX7_tellChild_X7_yOf : GoodIn wsX7_tellChild (va_wsS RX7 194 yX7_yOf wsX7_yOf) := goodIn_app (goodIn_of _ (by decide +kernel)) ggX7_tellChild_X7_yOf
set_option maxRecDepth 20000 in
theorem ggX7_tellChild_X7_xOf : GoodIn wsX7_tellChild wsX7_xOf := goodIn_r _ [56] (by decide +kernel) (by decide +kernel)
set_option maxRecDepth 20000 in
theorem gX7_tellChild_X7_xOf : GoodIn wsX7_tellChild (va_wsS RX7 59 yX7_xOf wsX7_xOf) := goodIn_app (goodIn_of _ (by decide +kernel)) ggX7_tellChild_X7_xOf
theorem dX7_tellChild_0 : decode cX7_tellChild 0 = .ok (.aload_n 0, 1) := by decide +kernel
theorem dX7_tellChild_1 : decode cX7_tellChild 1 = .ok (.iload_n 1, 1) := by decide +kernel
theorem dX7_tellChild_2 : decode cX7_tellChild 2 = .ok (.aload_n 0, 1) := by decide +kernel
theorem dX7_tellChild_3 : decode cX7_tellChild 3 = .ok (.iload_n 1, 1) := by decide +kernel
theorem dX7_tellChild_4 : decode cX7_tellChild 4 = .ok (.iload_n 2, 1) := by decide +kernel
theorem dX7_tellChild_5 : decode cX7_tellChild 5 = .ok (.invokevirtual 86, 3) := by decide +kernel
theorem dX7_tellChild_8 : decode cX7_tellChild 8 = .ok (.iload_n 3, 1) := by decide +kernel
theorem dX7_tellChild_9 : decode cX7_tellChild 9 = .ok (.invokevirtual 188, 3) := by decide +kernel
theorem dX7_tellChild_12 : decode cX7_tellChild 12 = .ok (.istore 4, 2) := by decide +kernel
theorem dX7_tellChild_14 : decode cX7_tellChild 14 = .ok (.iload 4, 2) := by decide +kernel
theorem dX7_tellChild_16 : decode cX7_tellChild 16 = .ok (.iconst (-1), 1) := by decide +kernel
theorem dX7_tellChild_17 : decode cX7_tellChild 17 = .ok (.if_icmp .ne 5, 3) := by decide +kernel
theorem dX7_tellChild_20 : decode cX7_tellChild 20 = .ok (.iconst (-1), 1) := by decide +kernel
theorem dX7_tellChild_21 : decode cX7_tellChild 21 = .ok (.ireturn, 1) := by decide +kernel
theorem dX7_tellChild_22 : decode cX7_tellChild 22 = .ok (.iload 4, 2) := by decide +kernel
theorem dX7_tellChild_24 : decode cX7_tellChild 24 = .ok (.ldc 187, 2) := by decide +kernel
theorem dX7_tellChild_26 : decode cX7_tellChild 26 = .ok (.if_icmp .ge 13, 3) := by decide +kernel
theorem dX7_tellChild_29 : decode cX7_tellChild 29 = .ok (.aload_n 0, 1) := by decide +kernel
theorem dX7_tellChild_30 : decode cX7_tellChild 30 = .ok (.iload_n 1, 1) := by decide +kernel
theorem dX7_tellChild_31 : decode cX7_tellChild 31 = .ok (.iload 4, 2) := by decide +kernel
theorem dX7_tellChild_33 : decode cX7_tellChild 33 = .ok (.invokevirtual 191, 3) := by decide +kernel
theorem dX7_tellChild_36 : decode cX7_tellChild 36 = .ok (.goto 27, 3) := by decide +kernel
theorem dX7_tellChild_39 : decode cX7_tellChild 39 = .ok (.sipush 1000, 3) := by decide +kernel
theorem dX7_tellChild_42 : decode cX7_tellChild 42 = .ok (.bipush 64, 2) := by decide +kernel
theorem dX7_tellChild_44 : decode cX7_tellChild 44 = .ok (.iload 4, 2) := by decide +kernel
theorem dX7_tellChild_46 : decode cX7_tellChild 46 = .ok (.ldc 187, 2) := by decide +kernel
theorem dX7_tellChild_48 : decode cX7_tellChild 48 = .ok (.isub, 1) := by decide +kernel
theorem dX7_tellChild_49 : decode cX7_tellChild 49 = .ok (.invokestatic 194, 3) := by decide +kernel
theorem dX7_tellChild_52 : decode cX7_tellChild 52 = .ok (.imul, 1) := by decide +kernel
theorem dX7_tellChild_53 : decode cX7_tellChild 53 = .ok (.iadd, 1) := by decide +kernel
theorem dX7_tellChild_54 : decode cX7_tellChild 54 = .ok (.iload 4, 2) := by decide +kernel
theorem dX7_tellChild_56 : decode cX7_tellChild 56 = .ok (.ldc 187, 2) := by decide +kernel
theorem dX7_tellChild_58 : decode cX7_tellChild 58 = .ok (.isub, 1) := by decide +kernel
theorem dX7_tellChild_59 : decode cX7_tellChild 59 = .ok (.invokestatic 59, 3) := by decide +kernel
theorem dX7_tellChild_62 : decode cX7_tellChild 62 = .ok (.iadd, 1) := by decide +kernel
theorem dX7_tellChild_63 : decode cX7_tellChild 63 = .ok (.ireturn, 1) := by decide +kernel
set_option maxRecDepth 20000 in
theorem ggX7_different_X7_isOn : GoodIn wsX7_different wsX7_isOn := goodIn_r _ [5, 6, 7, 8, 4, 9, 10, 11, 12, 13, 21, 22, 23, 24, 25, 26, 27, 28, 29, 30, 31, 32, 33, 34, 35, 36, 37, 38, 39, 40] (by decide +kernel) (by decide +kernel)
set_option maxRecDepth 20000 in
theorem gX7_different_X7_isOn : GoodIn wsX7_different (wsV RX7 76 RX7 yX7_isOn wsX7_isOn) := goodIn_app (goodIn_of _ (by decide +kernel)) ggX7_different_X7_isOn
set_option maxRecDepth 20000 in
theorem ggX7_different_X7_placeOf : GoodIn wsX7_different wsX7_placeOf := goodIn_r _ [17, 10, 18, 19, 4, 20, 21, 22, 23, 24, 25, 26, 27, 28, 29, 30, 31, 32, 33, 34, 35, 36, 37, 38, 39, 40] (by decide +kernel) (by decide +kernel)
set_option maxRecDepth 20000 in
theorem gX7_different_X7_placeOf : GoodIn wsX7_different (wsV RX7 80 RX7 yX7_placeOf wsX7_placeOf) := goodIn_app (goodIn_of _ (by decide +kernel)) ggX7_different_X7_placeOf
theorem dX7_different_0 : decode cX7_different 0 = .ok (.iconst 0, 1) := by decide +kernel
theorem dX7_different_1 : decode cX7_different 1 = .ok (.istore_n 2, 1) := by decide +kernel
theorem dX7_different_2 : decode cX7_different 2 = .ok (.iconst 0, 1) := by decide +kernel
theorem dX7_different_3 : decode cX7_different 3 = .ok (.istore_n 3, 1) := by decide +kernel
theorem dX7_different_4 : decode cX7_different 4 = .ok (.iload_n 3, 1) := by decide +kernel
theorem dX7_different_5 : decode cX7_different 5 = .ok (.bipush 24, 2) := by decide +kernel
theorem dX7_different_7 : decode cX7_different 7 = .ok (.if_icmp .ge 81, 3) := by decide +kernel
theorem dX7_different_10 : decode cX7_different 10 = .ok (.aload_n 0, 1) := by decide +kernel
theorem dX7_different_11 : decode cX7_different 11 = .ok (.iload_n 3, 1) := by decide +kernel
theorem dX7_different_12 : decode cX7_different 12 = .ok (.iload_n 1, 1) := by decide +kernel
theorem dX7_different_13 : decode cX7_different 13 = .ok (.invokevirtual 76, 3) := by decide +kernel
theorem dX7_different_16 : decode cX7_different 16 = .ok (.istore 4, 2) := by decide +kernel
theorem dX7_different_18 : decode cX7_different 18 = .ok (.iconst 0, 1) := by decide +kernel
theorem dX7_different_19 : decode cX7_different 19 = .ok (.istore 5, 2) := by decide +kernel
theorem dX7_different_21 : decode cX7_different 21 = .ok (.iload 5, 2) := by decide +kernel
theorem dX7_different_23 : decode cX7_different 23 = .ok (.iload_n 3, 1) := by decide +kernel
theorem dX7_different_24 : decode cX7_different 24 = .ok (.if_icmp .ge 45, 3) := by decide +kernel
theorem dX7_different_27 : decode cX7_different 27 = .ok (.iload 4, 2) := by decide +kernel
theorem dX7_different_29 : decode cX7_different 29 = .ok (.ifCond .eq 40, 3) := by decide +kernel
theorem dX7_different_32 : decode cX7_different 32 = .ok (.aload_n 0, 1) := by decide +kernel
theorem dX7_different_33 : decode cX7_different 33 = .ok (.iload 5, 2) := by decide +kernel
theorem dX7_different_35 : decode cX7_different 35 = .ok (.iload_n 1, 1) := by decide +kernel
theorem dX7_different_36 : decode cX7_different 36 = .ok (.invokevirtual 76, 3) := by decide +kernel
theorem dX7_different_39 : decode cX7_different 39 = .ok (.ifCond .eq 17, 3) := by decide +kernel
theorem dX7_different_42 : decode cX7_different 42 = .ok (.aload_n 0, 1) := by decide +kernel
theorem dX7_different_43 : decode cX7_different 43 = .ok (.iload_n 3, 1) := by decide +kernel
theorem dX7_different_44 : decode cX7_different 44 = .ok (.invokevirtual 80, 3) := by decide +kernel
theorem dX7_different_47 : decode cX7_different 47 = .ok (.aload_n 0, 1) := by decide +kernel
theorem dX7_different_48 : decode cX7_different 48 = .ok (.iload 5, 2) := by decide +kernel
theorem dX7_different_50 : decode cX7_different 50 = .ok (.invokevirtual 80, 3) := by decide +kernel
theorem dX7_different_53 : decode cX7_different 53 = .ok (.if_icmp .eq 7, 3) := by decide +kernel
theorem dX7_different_56 : decode cX7_different 56 = .ok (.iconst 1, 1) := by decide +kernel
theorem dX7_different_57 : decode cX7_different 57 = .ok (.goto 4, 3) := by decide +kernel
theorem dX7_different_60 : decode cX7_different 60 = .ok (.iconst 0, 1) := by decide +kernel
theorem dX7_different_61 : decode cX7_different 61 = .ok (.istore 4, 2) := by decide +kernel
theorem dX7_different_63 : decode cX7_different 63 = .ok (.iinc 5 1, 3) := by decide +kernel
theorem dX7_different_66 : decode cX7_different 66 = .ok (.goto (-45), 3) := by decide +kernel
theorem dX7_different_69 : decode cX7_different 69 = .ok (.iload_n 2, 1) := by decide +kernel
theorem dX7_different_70 : decode cX7_different 70 = .ok (.iload 4, 2) := by decide +kernel
theorem dX7_different_72 : decode cX7_different 72 = .ok (.ifCond .eq 7, 3) := by decide +kernel
theorem dX7_different_75 : decode cX7_different 75 = .ok (.iconst 1, 1) := by decide +kernel
theorem dX7_different_76 : decode cX7_different 76 = .ok (.goto 4, 3) := by decide +kernel
theorem dX7_different_79 : decode cX7_different 79 = .ok (.iconst 0, 1) := by decide +kernel
theorem dX7_different_80 : decode cX7_different 80 = .ok (.iadd, 1) := by decide +kernel
theorem dX7_different_81 : decode cX7_different 81 = .ok (.istore_n 2, 1) := by decide +kernel
theorem dX7_different_82 : decode cX7_different 82 = .ok (.iinc 3 1, 3) := by decide +kernel
theorem dX7_different_85 : decode cX7_different 85 = .ok (.goto (-81), 3) := by decide +kernel
theorem dX7_different_88 : decode cX7_different 88 = .ok (.iload_n 2, 1) := by decide +kernel
theorem dX7_different_89 : decode cX7_different 89 = .ok (.ireturn, 1) := by decide +kernel
