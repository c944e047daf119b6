set_option maxRecDepth 20000 in
theorem ggX6_search_X6_isPosition : GoodIn wsX6_search wsX6_isPosition := goodIn_r _ [7, 8, 9, 6, 10] (by decide +kernel) (by decide +kernel)
set_option maxRecDepth 20000 in
theorem gX6_search_X6_isPosition : GoodIn wsX6_search (va_wsS RX6 181 yX6_isPosition wsX6_isPosition) := goodIn_app (goodIn_of _ (by decide +kernel)) ggX6_search_X6_isPosition
set_option maxRecDepth 20000 in
theorem ggX6_search_X6_inside : GoodIn wsX6_search wsX6_inside := goodIn_r _ [10] (by decide +kernel) (by decide +kernel)
set_option maxRecDepth 20000 in
theorem gX6_search_X6_inside : GoodIn wsX6_search (va_wsS RX6 185 yX6_inside wsX6_inside) := goodIn_app (goodIn_of _ (by decide +kernel)) ggX6_search_X6_inside
set_option maxRecDepth 20000 in
theorem ggX6_search_X6_throwIf : GoodIn wsX6_search wsX6_throwIf := goodIn_ca (goodIn_ca (goodIn_ca (goodIn_r _ [13, 14, 15, 16, 17, 18, 19] (by decide +kernel) (by decide +kernel)) (goodIn_sub (fun _ h => List.mem_cons_of_mem _ (List.mem_append_left _ (List.mem_append_left _ (List.mem_append_right _ h)))) (by decide +kernel))) (goodIn_sub (fun _ h => List.mem_cons_of_mem _ (List.mem_append_left _ (List.mem_append_right _ h))) (by decide +kernel))) (goodIn_sub (fun _ h => List.mem_cons_of_mem _ (List.mem_append_right _ h)) (by decide +kernel))
set_option maxRecDepth 20000 in
theorem gX6_search_X6_throwIf : GoodIn wsX6_search (va_wsS RX6 44 yX6_throwIf wsX6_throwIf) := goodIn_app (goodIn_of _ (by decide +kernel)) ggX6_search_X6_throwIf
set_option maxRecDepth 20000 in
theorem ggX6_search_X0_find : GoodIn wsX6_search wsX0_find := goodIn_r _ [24, 25, 26, 27, 28, 29, 30, 31, 32, 33, 34, 35, 36, 37, 23, 38, 39, 40, 41, 42, 43, 44, 45, 46, 47, 48, 49, 50, 51, 52, 53, 54, 55, 56, 57, 58, 59, 60, 61, 62, 63, 64, 65, 66, 67, 68, 69, 70, 71, 72, 73, 74, 75, 76, 77, 78, 79, 80, 81, 90, 91, 92, 93, 94, 95] (by decide +kernel) (by decide +kernel)
set_option maxRecDepth 20000 in
theorem gX6_search_X0_find : GoodIn wsX6_search (wsV RX6 189 RX0 yX0_find wsX0_find) := goodIn_app (goodIn_of _ (by decide +kernel)) ggX6_search_X0_find
set_option maxRecDepth 20000 in
theorem ggX6_search_X3_size : GoodIn wsX6_search wsX3_size := goodIn_r _ [84, 49, 50, 29, 51] (by decide +kernel) (by decide +kernel)
set_option maxRecDepth 20000 in
theorem gX6_search_X3_size : GoodIn wsX6_search (va_wsS RX6 165 yX3_size wsX3_size) := goodIn_app (goodIn_of _ (by decide +kernel)) ggX6_search_X3_size
theorem dX6_search_0 : decode cX6_search 0 = .ok (.iload_n 1, 1) := by decide +kernel
theorem dX6_search_1 : decode cX6_search 1 = .ok (.iload_n 2, 1) := by decide +kernel
theorem dX6_search_2 : decode cX6_search 2 = .ok (.invokestatic 181, 3) := by decide +kernel
theorem dX6_search_5 : decode cX6_search 5 = .ok (.ifCond .eq 17, 3) := by decide +kernel
theorem dX6_search_8 : decode cX6_search 8 = .ok (.iload 4, 2) := by decide +kernel
theorem dX6_search_10 : decode cX6_search 10 = .ok (.iconst 0, 1) := by decide +kernel
theorem dX6_search_11 : decode cX6_search 11 = .ok (.iconst 2, 1) := by decide +kernel
theorem dX6_search_12 : decode cX6_search 12 = .ok (.invokestatic 185, 3) := by decide +kernel
theorem dX6_search_15 : decode cX6_search 15 = .ok (.ifCond .eq 7, 3) := by decide +kernel
theorem dX6_search_18 : decode cX6_search 18 = .ok (.iconst 0, 1) := by decide +kernel
theorem dX6_search_19 : decode cX6_search 19 = .ok (.goto 4, 3) := by decide +kernel
theorem dX6_search_22 : decode cX6_search 22 = .ok (.iconst 2, 1) := by decide +kernel
theorem dX6_search_23 : decode cX6_search 23 = .ok (.invokestatic 44, 3) := by decide +kernel
theorem dX6_search_26 : decode cX6_search 26 = .ok (.aload_n 0, 1) := by decide +kernel
theorem dX6_search_27 : decode cX6_search 27 = .ok (.getfield 33, 3) := by decide +kernel
theorem dX6_search_30 : decode cX6_search 30 = .ok (.iload_n 1, 1) := by decide +kernel
theorem dX6_search_31 : decode cX6_search 31 = .ok (.iload_n 2, 1) := by decide +kernel
theorem dX6_search_32 : decode cX6_search 32 = .ok (.iload_n 3, 1) := by decide +kernel
theorem dX6_search_33 : decode cX6_search 33 = .ok (.invokevirtual 189, 3) := by decide +kernel
theorem dX6_search_36 : decode cX6_search 36 = .ok (.istore 5, 2) := by decide +kernel
theorem dX6_search_38 : decode cX6_search 38 = .ok (.iload 4, 2) := by decide +kernel
theorem dX6_search_40 : decode cX6_search 40 = .ok (.lookupswitch 40 #[(0, 28), (1, 34)], 28) := by decide +kernel
theorem dX6_search_68 : decode cX6_search 68 = .ok (.iload 5, 2) := by decide +kernel
theorem dX6_search_70 : decode cX6_search 70 = .ok (.bipush 32, 2) := by decide +kernel
theorem dX6_search_72 : decode cX6_search 72 = .ok (.idiv, 1) := by decide +kernel
theorem dX6_search_73 : decode cX6_search 73 = .ok (.ireturn, 1) := by decide +kernel
theorem dX6_search_74 : decode cX6_search 74 = .ok (.iload 5, 2) := by decide +kernel
theorem dX6_search_76 : decode cX6_search 76 = .ok (.bipush 32, 2) := by decide +kernel
theorem dX6_search_78 : decode cX6_search 78 = .ok (.irem, 1) := by decide +kernel
theorem dX6_search_79 : decode cX6_search 79 = .ok (.ireturn, 1) := by decide +kernel
theorem dX6_search_80 : decode cX6_search 80 = .ok (.aload_n 0, 1) := by decide +kernel
theorem dX6_search_81 : decode cX6_search 81 = .ok (.getfield 33, 3) := by decide +kernel
theorem dX6_search_84 : decode cX6_search 84 = .ok (.getfield 126, 3) := by decide +kernel
theorem dX6_search_87 : decode cX6_search 87 = .ok (.iconst 0, 1) := by decide +kernel
theorem dX6_search_88 : decode cX6_search 88 = .ok (.aaload, 1) := by decide +kernel
theorem dX6_search_89 : decode cX6_search 89 = .ok (.getfield 151, 3) := by decide +kernel
theorem dX6_search_92 : decode cX6_search 92 = .ok (.iload 5, 2) := by decide +kernel
theorem dX6_search_94 : decode cX6_search 94 = .ok (.bipush 32, 2) := by decide +kernel
theorem dX6_search_96 : decode cX6_search 96 = .ok (.irem, 1) := by decide +kernel
theorem dX6_search_97 : decode cX6_search 97 = .ok (.iaload, 1) := by decide +kernel
theorem dX6_search_98 : decode cX6_search 98 = .ok (.invokestatic 165, 3) := by decide +kernel
theorem dX6_search_101 : decode cX6_search 101 = .ok (.ireturn, 1) := by decide +kernel
set_option maxRecDepth 20000 in
theorem ggX6_worst_X0_find : GoodIn wsX6_worst wsX0_find := goodIn_r _ [14, 15, 16, 17, 18, 19, 20, 21, 22, 23, 24, 25, 26, 27, 13, 28, 29, 30, 31, 32, 33, 34, 35, 36, 37, 38, 39, 40, 41, 42, 43, 44, 45, 46, 47, 48, 49, 50, 51, 52, 53, 54, 55, 56, 57, 58, 59, 60, 61, 62, 63, 64, 65, 66, 67, 68, 69, 70, 71, 86, 87, 88, 89, 90, 91] (by decide +kernel) (by decide +kernel)
set_option maxRecDepth 20000 in
theorem gX6_worst_X0_find : GoodIn wsX6_worst (wsV RX6 189 RX0 yX0_find wsX0_find) := goodIn_app (goodIn_of _ (by decide +kernel)) ggX6_worst_X0_find
theorem dX6_worst_0 : decode cX6_worst 0 = .ok (.iconst 0, 1) := by decide +kernel
theorem dX6_worst_1 : decode cX6_worst 1 = .ok (.istore_n 2, 1) := by decide +kernel
theorem dX6_worst_2 : decode cX6_worst 2 = .ok (.iconst 0, 1) := by decide +kernel
theorem dX6_worst_3 : decode cX6_worst 3 = .ok (.istore_n 3, 1) := by decide +kernel
theorem dX6_worst_4 : decode cX6_worst 4 = .ok (.iload_n 3, 1) := by decide +kernel
theorem dX6_worst_5 : decode cX6_worst 5 = .ok (.bipush 24, 2) := by decide +kernel
theorem dX6_worst_7 : decode cX6_worst 7 = .ok (.if_icmp .ge 55, 3) := by decide +kernel
theorem dX6_worst_10 : decode cX6_worst 10 = .ok (.aload_n 0, 1) := by decide +kernel
theorem dX6_worst_11 : decode cX6_worst 11 = .ok (.getfield 10, 3) := by decide +kernel
theorem dX6_worst_14 : decode cX6_worst 14 = .ok (.getfield 113, 3) := by decide +kernel
theorem dX6_worst_17 : decode cX6_worst 17 = .ok (.iload_n 3, 1) := by decide +kernel
theorem dX6_worst_18 : decode cX6_worst 18 = .ok (.baload, 1) := by decide +kernel
theorem dX6_worst_19 : decode cX6_worst 19 = .ok (.ifCond .eq 37, 3) := by decide +kernel
theorem dX6_worst_22 : decode cX6_worst 22 = .ok (.iload_n 2, 1) := by decide +kernel
theorem dX6_worst_23 : decode cX6_worst 23 = .ok (.aload_n 0, 1) := by decide +kernel
theorem dX6_worst_24 : decode cX6_worst 24 = .ok (.getfield 33, 3) := by decide +kernel
theorem dX6_worst_27 : decode cX6_worst 27 = .ok (.aload_n 0, 1) := by decide +kernel
theorem dX6_worst_28 : decode cX6_worst 28 = .ok (.getfield 10, 3) := by decide +kernel
theorem dX6_worst_31 : decode cX6_worst 31 = .ok (.getfield 117, 3) := by decide +kernel
theorem dX6_worst_34 : decode cX6_worst 34 = .ok (.iload_n 3, 1) := by decide +kernel
theorem dX6_worst_35 : decode cX6_worst 35 = .ok (.iaload, 1) := by decide +kernel
theorem dX6_worst_36 : decode cX6_worst 36 = .ok (.aload_n 0, 1) := by decide +kernel
theorem dX6_worst_37 : decode cX6_worst 37 = .ok (.getfield 10, 3) := by decide +kernel
theorem dX6_worst_40 : decode cX6_worst 40 = .ok (.getfield 120, 3) := by decide +kernel
theorem dX6_worst_43 : decode cX6_worst 43 = .ok (.iload_n 3, 1) := by decide +kernel
theorem dX6_worst_44 : decode cX6_worst 44 = .ok (.iaload, 1) := by decide +kernel
theorem dX6_worst_45 : decode cX6_worst 45 = .ok (.iload_n 1, 1) := by decide +kernel
theorem dX6_worst_46 : decode cX6_worst 46 = .ok (.invokevirtual 189, 3) := by decide +kernel
theorem dX6_worst_49 : decode cX6_worst 49 = .ok (.bipush 32, 2) := by decide +kernel
theorem dX6_worst_51 : decode cX6_worst 51 = .ok (.idiv, 1) := by decide +kernel
theorem dX6_worst_52 : decode cX6_worst 52 = .ok (.invokestatic 193, 3) := by decide +kernel
theorem dX6_worst_55 : decode cX6_worst 55 = .ok (.istore_n 2, 1) := by decide +kernel
theorem dX6_worst_56 : decode cX6_worst 56 = .ok (.iinc 3 1, 3) := by decide +kernel
theorem dX6_worst_59 : decode cX6_worst 59 = .ok (.goto (-55), 3) := by decide +kernel
theorem dX6_worst_62 : decode cX6_worst 62 = .ok (.iload_n 2, 1) := by decide +kernel
theorem dX6_worst_63 : decode cX6_worst 63 = .ok (.ireturn, 1) := by decide +kernel
set_option maxRecDepth 20000 in
theorem ggX6_wouldTouch_X6_refusalOfPlace : GoodIn wsX6_wouldTouch wsX6_refusalOfPlace := goodIn_r _ [10, 1, 11, 12, 13, 9, 14, 15, 16, 17, 18, 19, 20, 106, 107, 108, 109, 110, 111, 112, 113, 114, 115, 116, 117, 118, 119] (by decide +kernel) (by decide +kernel)
set_option maxRecDepth 20000 in
theorem gX6_wouldTouch_X6_refusalOfPlace : GoodIn wsX6_wouldTouch (wsV RX6 40 RX6 yX6_refusalOfPlace wsX6_refusalOfPlace) := goodIn_app (goodIn_of _ (by decide +kernel)) ggX6_wouldTouch_X6_refusalOfPlace
set_option maxRecDepth 20000 in
theorem ggX6_wouldTouch_X6_throwIf : GoodIn wsX6_wouldTouch wsX6_throwIf := goodIn_ca (goodIn_ca (goodIn_ca (goodIn_r _ [23, 24, 25, 26, 27, 28, 29] (by decide +kernel) (by decide +kernel)) (goodIn_sub (fun _ h => List.mem_cons_of_mem _ (List.mem_append_left _ (List.mem_append_left _ (List.mem_append_right _ h)))) (by decide +kernel))) (goodIn_sub (fun _ h => List.mem_cons_of_mem _ (List.mem_append_left _ (List.mem_append_right _ h))) (by decide +kernel))) (goodIn_sub (fun _ h => List.mem_cons_of_mem _ (List.mem_append_right _ h)) (by decide +kernel))
set_option maxRecDepth 20000 in
theorem gX6_wouldTouch_X6_throwIf : GoodIn wsX6_wouldTouch (va_wsS RX6 44 yX6_throwIf wsX6_throwIf) := goodIn_app (goodIn_of _ (by decide +kernel)) ggX6_wouldTouch_X6_throwIf
set_option maxRecDepth 20000 in
theorem ggX6_wouldTouch_X4_put : GoodIn wsX6_wouldTouch wsX4_put := goodIn_r _ [34, 35, 36, 37, 111, 112, 113, 114, 115, 116, 117, 118, 119] (by decide +kernel) (by decide +kernel)
set_option maxRecDepth 20000 in
theorem gX6_wouldTouch_X4_put : GoodIn wsX6_wouldTouch (wsV RX6 100 RX4 yX4_put wsX4_put) := goodIn_app (goodIn_of _ (by decide +kernel)) ggX6_wouldTouch_X4_put
set_option maxRecDepth 20000 in
theorem ggX6_wouldTouch_X0_plant : GoodIn wsX6_wouldTouch wsX0_plant := goodIn_r _ [42, 43, 44, 45, 46, 47, 41, 48, 49, 50, 51, 52, 53, 54, 55, 56, 57, 58, 59, 60, 61, 62, 63, 64, 65, 66, 67, 68, 69, 70, 71, 9, 72, 73, 74, 75, 76, 77, 78, 79, 80, 81, 82, 83, 84, 85, 86, 87, 88, 89, 90, 91, 92, 93, 94, 95, 96, 97, 120, 121, 111, 112, 113, 114, 115, 116, 117, 118, 119, 122, 123, 124, 125] (by decide +kernel) (by decide +kernel)
set_option maxRecDepth 20000 in
theorem gX6_wouldTouch_X0_plant : GoodIn wsX6_wouldTouch (wsV RX6 196 RX0 yX0_plant wsX0_plant) := goodIn_app (goodIn_of _ (by decide +kernel)) ggX6_wouldTouch_X0_plant
set_option maxRecDepth 20000 in
theorem ggX6_wouldTouch_X0_differences : GoodIn wsX6_wouldTouch wsX0_differences := goodIn_r _ [101, 43, 102, 103, 104, 67, 105, 70, 97, 120, 121, 122, 123, 124, 125] (by decide +kernel) (by decide +kernel)
set_option maxRecDepth 20000 in
theorem gX6_wouldTouch_X0_differences : GoodIn wsX6_wouldTouch (wsV RX6 199 RX0 yX0_differences wsX0_differences) := goodIn_app (goodIn_of _ (by decide +kernel)) ggX6_wouldTouch_X0_differences
theorem dX6_wouldTouch_0 : decode cX6_wouldTouch 0 = .ok (.aload_n 0, 1) := by decide +kernel
theorem dX6_wouldTouch_1 : decode cX6_wouldTouch 1 = .ok (.iload_n 1, 1) := by decide +kernel
theorem dX6_wouldTouch_2 : decode cX6_wouldTouch 2 = .ok (.iload_n 2, 1) := by decide +kernel
theorem dX6_wouldTouch_3 : decode cX6_wouldTouch 3 = .ok (.iload_n 3, 1) := by decide +kernel
theorem dX6_wouldTouch_4 : decode cX6_wouldTouch 4 = .ok (.iconst 1, 1) := by decide +kernel
theorem dX6_wouldTouch_5 : decode cX6_wouldTouch 5 = .ok (.invokevirtual 40, 3) := by decide +kernel
theorem dX6_wouldTouch_8 : decode cX6_wouldTouch 8 = .ok (.invokestatic 44, 3) := by decide +kernel
theorem dX6_wouldTouch_11 : decode cX6_wouldTouch 11 = .ok (.aload_n 0, 1) := by decide +kernel
theorem dX6_wouldTouch_12 : decode cX6_wouldTouch 12 = .ok (.getfield 10, 3) := by decide +kernel
theorem dX6_wouldTouch_15 : decode cX6_wouldTouch 15 = .ok (.getfield 117, 3) := by decide +kernel
theorem dX6_wouldTouch_18 : decode cX6_wouldTouch 18 = .ok (.iload_n 1, 1) := by decide +kernel
theorem dX6_wouldTouch_19 : decode cX6_wouldTouch 19 = .ok (.iaload, 1) := by decide +kernel
theorem dX6_wouldTouch_20 : decode cX6_wouldTouch 20 = .ok (.istore 4, 2) := by decide +kernel
theorem dX6_wouldTouch_22 : decode cX6_wouldTouch 22 = .ok (.aload_n 0, 1) := by decide +kernel
theorem dX6_wouldTouch_23 : decode cX6_wouldTouch 23 = .ok (.getfield 10, 3) := by decide +kernel
theorem dX6_wouldTouch_26 : decode cX6_wouldTouch 26 = .ok (.getfield 120, 3) := by decide +kernel
theorem dX6_wouldTouch_29 : decode cX6_wouldTouch 29 = .ok (.iload_n 1, 1) := by decide +kernel
theorem dX6_wouldTouch_30 : decode cX6_wouldTouch 30 = .ok (.iaload, 1) := by decide +kernel
theorem dX6_wouldTouch_31 : decode cX6_wouldTouch 31 = .ok (.istore 5, 2) := by decide +kernel
theorem dX6_wouldTouch_33 : decode cX6_wouldTouch 33 = .ok (.aload_n 0, 1) := by decide +kernel
theorem dX6_wouldTouch_34 : decode cX6_wouldTouch 34 = .ok (.getfield 10, 3) := by decide +kernel
theorem dX6_wouldTouch_37 : decode cX6_wouldTouch 37 = .ok (.iload_n 1, 1) := by decide +kernel
theorem dX6_wouldTouch_38 : decode cX6_wouldTouch 38 = .ok (.iload_n 2, 1) := by decide +kernel
theorem dX6_wouldTouch_39 : decode cX6_wouldTouch 39 = .ok (.iload_n 3, 1) := by decide +kernel
theorem dX6_wouldTouch_40 : decode cX6_wouldTouch 40 = .ok (.invokevirtual 100, 3) := by decide +kernel
theorem dX6_wouldTouch_43 : decode cX6_wouldTouch 43 = .ok (.aload_n 0, 1) := by decide +kernel
theorem dX6_wouldTouch_44 : decode cX6_wouldTouch 44 = .ok (.getfield 37, 3) := by decide +kernel
theorem dX6_wouldTouch_47 : decode cX6_wouldTouch 47 = .ok (.aload_n 0, 1) := by decide +kernel
theorem dX6_wouldTouch_48 : decode cX6_wouldTouch 48 = .ok (.getfield 10, 3) := by decide +kernel
theorem dX6_wouldTouch_51 : decode cX6_wouldTouch 51 = .ok (.invokevirtual 196, 3) := by decide +kernel
theorem dX6_wouldTouch_54 : decode cX6_wouldTouch 54 = .ok (.aload_n 0, 1) := by decide +kernel
theorem dX6_wouldTouch_55 : decode cX6_wouldTouch 55 = .ok (.getfield 10, 3) := by decide +kernel
theorem dX6_wouldTouch_58 : decode cX6_wouldTouch 58 = .ok (.iload_n 1, 1) := by decide +kernel
theorem dX6_wouldTouch_59 : decode cX6_wouldTouch 59 = .ok (.iload 4, 2) := by decide +kernel
theorem dX6_wouldTouch_61 : decode cX6_wouldTouch 61 = .ok (.iload 5, 2) := by decide +kernel
theorem dX6_wouldTouch_63 : decode cX6_wouldTouch 63 = .ok (.invokevirtual 100, 3) := by decide +kernel
theorem dX6_wouldTouch_66 : decode cX6_wouldTouch 66 = .ok (.aload_n 0, 1) := by decide +kernel
theorem dX6_wouldTouch_67 : decode cX6_wouldTouch 67 = .ok (.getfield 33, 3) := by decide +kernel
theorem dX6_wouldTouch_70 : decode cX6_wouldTouch 70 = .ok (.aload_n 0, 1) := by decide +kernel
theorem dX6_wouldTouch_71 : decode cX6_wouldTouch 71 = .ok (.getfield 37, 3) := by decide +kernel
theorem dX6_wouldTouch_74 : decode cX6_wouldTouch 74 = .ok (.invokevirtual 199, 3) := by decide +kernel
theorem dX6_wouldTouch_77 : decode cX6_wouldTouch 77 = .ok (.ireturn, 1) := by decide +kernel
set_option maxRecDepth 20000 in
theorem ggX6_open_X6_refusalOfOpen : GoodIn wsX6_open wsX6_refusalOfOpen := goodIn_r _ [9, 10, 11, 8, 12, 13, 14, 15] (by decide +kernel) (by decide +kernel)
set_option maxRecDepth 20000 in
theorem gX6_open_X6_refusalOfOpen : GoodIn wsX6_open (va_wsS RX6 203 yX6_refusalOfOpen wsX6_refusalOfOpen) := goodIn_app (goodIn_of _ (by decide +kernel)) ggX6_open_X6_refusalOfOpen
set_option maxRecDepth 20000 in
theorem ggX6_open_X6_throwIf : GoodIn wsX6_open wsX6_throwIf := goodIn_ca (goodIn_ca (goodIn_ca (goodIn_r _ [18, 19, 20, 21, 22, 23, 24] (by decide +kernel) (by decide +kernel)) (goodIn_sub (fun _ h => List.mem_cons_of_mem _ (List.mem_append_left _ (List.mem_append_left _ (List.mem_append_right _ h)))) (by decide +kernel))) (goodIn_sub (fun _ h => List.mem_cons_of_mem _ (List.mem_append_left _ (List.mem_append_right _ h))) (by decide +kernel))) (goodIn_sub (fun _ h => List.mem_cons_of_mem _ (List.mem_append_right _ h)) (by decide +kernel))
set_option maxRecDepth 20000 in
theorem gX6_open_X6_throwIf : GoodIn wsX6_open (va_wsS RX6 44 yX6_throwIf wsX6_throwIf) := goodIn_app (goodIn_of _ (by decide +kernel)) ggX6_open_X6_throwIf
set_option maxRecDepth 20000 in
theorem ggX6_open_X5_push : GoodIn wsX6_open wsX5_push := goodIn_r _ [29, 30, 31, 32, 33, 34, 35, 36, 37, 38, 39, 40, 41, 42, 43, 44, 45, 46, 47, 48, 49, 50, 69, 70, 71, 60, 61, 62, 63, 64, 65, 66, 67, 68] (by decide +kernel) (by decide +kernel)
set_option maxRecDepth 20000 in
theorem gX6_open_X5_push : GoodIn wsX6_open (wsV RX6 48 RX5 yX5_push wsX5_push) := goodIn_app (goodIn_of _ (by decide +kernel)) ggX6_open_X5_push
set_option maxRecDepth 20000 in
theorem ggX6_open_X4_count : GoodIn wsX6_open wsX4_count := goodIn_r _ [54, 42, 60, 61, 62, 63, 64, 65, 66, 67, 68] (by decide +kernel) (by decide +kernel)
set_option maxRecDepth 20000 in
theorem gX6_open_X4_count : GoodIn wsX6_open (wsV RX6 107 RX4 yX4_count wsX4_count) := goodIn_app (goodIn_of _ (by decide +kernel)) ggX6_open_X4_count
theorem dX6_open_0 : decode cX6_open 0 = .ok (.iload_n 1, 1) := by decide +kernel
theorem dX6_open_1 : decode cX6_open 1 = .ok (.iload_n 2, 1) := by decide +kernel
theorem dX6_open_2 : decode cX6_open 2 = .ok (.iload_n 3, 1) := by decide +kernel
theorem dX6_open_3 : decode cX6_open 3 = .ok (.invokestatic 203, 3) := by decide +kernel
theorem dX6_open_6 : decode cX6_open 6 = .ok (.invokestatic 44, 3) := by decide +kernel
theorem dX6_open_9 : decode cX6_open 9 = .ok (.aload_n 0, 1) := by decide +kernel
theorem dX6_open_10 : decode cX6_open 10 = .ok (.getfield 19, 3) := by decide +kernel
theorem dX6_open_13 : decode cX6_open 13 = .ok (.aload_n 0, 1) := by decide +kernel
theorem dX6_open_14 : decode cX6_open 14 = .ok (.getfield 10, 3) := by decide +kernel
theorem dX6_open_17 : decode cX6_open 17 = .ok (.invokevirtual 48, 3) := by decide +kernel
theorem dX6_open_20 : decode cX6_open 20 = .ok (.aload_n 0, 1) := by decide +kernel
theorem dX6_open_21 : decode cX6_open 21 = .ok (.getfield 10, 3) := by decide +kernel
theorem dX6_open_24 : decode cX6_open 24 = .ok (.getfield 206, 3) := by decide +kernel
theorem dX6_open_27 : decode cX6_open 27 = .ok (.iload_n 1, 1) := by decide +kernel
theorem dX6_open_28 : decode cX6_open 28 = .ok (.iload_n 2, 1) := by decide +kernel
theorem dX6_open_29 : decode cX6_open 29 = .ok (.iastore, 1) := by decide +kernel
theorem dX6_open_30 : decode cX6_open 30 = .ok (.aload_n 0, 1) := by decide +kernel
theorem dX6_open_31 : decode cX6_open 31 = .ok (.getfield 10, 3) := by decide +kernel
theorem dX6_open_34 : decode cX6_open 34 = .ok (.getfield 209, 3) := by decide +kernel
theorem dX6_open_37 : decode cX6_open 37 = .ok (.iload_n 1, 1) := by decide +kernel
theorem dX6_open_38 : decode cX6_open 38 = .ok (.iload_n 3, 1) := by decide +kernel
theorem dX6_open_39 : decode cX6_open 39 = .ok (.iastore, 1) := by decide +kernel
theorem dX6_open_40 : decode cX6_open 40 = .ok (.aload_n 0, 1) := by decide +kernel
theorem dX6_open_41 : decode cX6_open 41 = .ok (.getfield 10, 3) := by decide +kernel
theorem dX6_open_44 : decode cX6_open 44 = .ok (.getfield 212, 3) := by decide +kernel
theorem dX6_open_47 : decode cX6_open 47 = .ok (.iload_n 1, 1) := by decide +kernel
theorem dX6_open_48 : decode cX6_open 48 = .ok (.iconst (-1), 1) := by decide +kernel
theorem dX6_open_49 : decode cX6_open 49 = .ok (.iastore, 1) := by decide +kernel
theorem dX6_open_50 : decode cX6_open 50 = .ok (.aload_n 0, 1) := by decide +kernel
theorem dX6_open_51 : decode cX6_open 51 = .ok (.getfield 10, 3) := by decide +kernel
theorem dX6_open_54 : decode cX6_open 54 = .ok (.invokevirtual 107, 3) := by decide +kernel
theorem dX6_open_57 : decode cX6_open 57 = .ok (.ireturn, 1) := by decide +kernel
set_option maxRecDepth 20000 in
theorem ggX6_next_X6_inside : GoodIn wsX6_next wsX6_inside := goodIn_r _ [9] (by decide +kernel) (by decide +kernel)
set_option maxRecDepth 20000 in
theorem gX6_next_X6_inside : GoodIn wsX6_next (va_wsS RX6 185 yX6_inside wsX6_inside) := goodIn_app (goodIn_of _ (by decide +kernel)) ggX6_next_X6_inside
set_option maxRecDepth 20000 in
theorem ggX6_next_X6_throwIf : GoodIn wsX6_next wsX6_throwIf := goodIn_ca (goodIn_ca (goodIn_ca (goodIn_r _ [12, 13, 14, 15, 16, 17, 18] (by decide +kernel) (by decide +kernel)) (goodIn_sub (fun _ h => List.mem_cons_of_mem _ (List.mem_append_left _ (List.mem_append_left _ (List.mem_append_right _ h)))) (by decide +kernel))) (goodIn_sub (fun _ h => List.mem_cons_of_mem _ (List.mem_append_left _ (List.mem_append_right _ h))) (by decide +kernel))) (goodIn_sub (fun _ h => List.mem_cons_of_mem _ (List.mem_append_right _ h)) (by decide +kernel))
set_option maxRecDepth 20000 in
theorem gX6_next_X6_throwIf : GoodIn wsX6_next (va_wsS RX6 44 yX6_throwIf wsX6_throwIf) := goodIn_app (goodIn_of _ (by decide +kernel)) ggX6_next_X6_throwIf
set_option maxRecDepth 20000 in
theorem ggX6_next_X5_push : GoodIn wsX6_next wsX5_push := goodIn_r _ [23, 24, 25, 26, 27, 28, 29, 30, 31, 32, 33, 34, 35, 36, 37, 38, 39, 40, 41, 42, 43, 44, 69, 70, 71, 60, 61, 62, 63, 64, 65, 66, 67, 68] (by decide +kernel) (by decide +kernel)
set_option maxRecDepth 20000 in
theorem gX6_next_X5_push : GoodIn wsX6_next (wsV RX6 48 RX5 yX5_push wsX5_push) := goodIn_app (goodIn_of _ (by decide +kernel)) ggX6_next_X5_push
set_option maxRecDepth 20000 in
theorem ggX6_next_X4_pairAfter : GoodIn wsX6_next wsX4_pairAfter := goodIn_r _ [48, 36, 49, 50, 51, 34, 52, 37, 38, 53, 8, 54, 60, 61, 62, 63, 64, 65, 66, 67, 68] (by decide +kernel) (by decide +kernel)
set_option maxRecDepth 20000 in
theorem gX6_next_X4_pairAfter : GoodIn wsX6_next (wsV RX6 215 RX4 yX4_pairAfter wsX4_pairAfter) := goodIn_app (goodIn_of _ (by decide +kernel)) ggX6_next_X4_pairAfter
theorem dX6_next_0 : decode cX6_next 0 = .ok (.iload_n 1, 1) := by decide +kernel
theorem dX6_next_1 : decode cX6_next 1 = .ok (.iconst 0, 1) := by decide +kernel
theorem dX6_next_2 : decode cX6_next 2 = .ok (.iconst 3, 1) := by decide +kernel
theorem dX6_next_3 : decode cX6_next 3 = .ok (.invokestatic 185, 3) := by decide +kernel
theorem dX6_next_6 : decode cX6_next 6 = .ok (.ifCond .eq 7, 3) := by decide +kernel
theorem dX6_next_9 : decode cX6_next 9 = .ok (.iconst 0, 1) := by decide +kernel
theorem dX6_next_10 : decode cX6_next 10 = .ok (.goto 4, 3) := by decide +kernel
theorem dX6_next_13 : decode cX6_next 13 = .ok (.iconst 1, 1) := by decide +kernel
theorem dX6_next_14 : decode cX6_next 14 = .ok (.invokestatic 44, 3) := by decide +kernel
theorem dX6_next_17 : decode cX6_next 17 = .ok (.aload_n 0, 1) := by decide +kernel
theorem dX6_next_18 : decode cX6_next 18 = .ok (.getfield 19, 3) := by decide +kernel
theorem dX6_next_21 : decode cX6_next 21 = .ok (.aload_n 0, 1) := by decide +kernel
theorem dX6_next_22 : decode cX6_next 22 = .ok (.getfield 10, 3) := by decide +kernel
theorem dX6_next_25 : decode cX6_next 25 = .ok (.invokevirtual 48, 3) := by decide +kernel
theorem dX6_next_28 : decode cX6_next 28 = .ok (.aload_n 0, 1) := by decide +kernel
theorem dX6_next_29 : decode cX6_next 29 = .ok (.getfield 10, 3) := by decide +kernel
theorem dX6_next_32 : decode cX6_next 32 = .ok (.aload_n 0, 1) := by decide +kernel
theorem dX6_next_33 : decode cX6_next 33 = .ok (.getfield 10, 3) := by decide +kernel
theorem dX6_next_36 : decode cX6_next 36 = .ok (.getfield 212, 3) := by decide +kernel
theorem dX6_next_39 : decode cX6_next 39 = .ok (.iload_n 1, 1) := by decide +kernel
theorem dX6_next_40 : decode cX6_next 40 = .ok (.iaload, 1) := by decide +kernel
theorem dX6_next_41 : decode cX6_next 41 = .ok (.aload_n 0, 1) := by decide +kernel
theorem dX6_next_42 : decode cX6_next 42 = .ok (.getfield 10, 3) := by decide +kernel
theorem dX6_next_45 : decode cX6_next 45 = .ok (.getfield 206, 3) := by decide +kernel
theorem dX6_next_48 : decode cX6_next 48 = .ok (.iload_n 1, 1) := by decide +kernel
theorem dX6_next_49 : decode cX6_next 49 = .ok (.iaload, 1) := by decide +kernel
theorem dX6_next_50 : decode cX6_next 50 = .ok (.aload_n 0, 1) := by decide +kernel
theorem dX6_next_51 : decode cX6_next 51 = .ok (.getfield 10, 3) := by decide +kernel
theorem dX6_next_54 : decode cX6_next 54 = .ok (.getfield 209, 3) := by decide +kernel
theorem dX6_next_57 : decode cX6_next 57 = .ok (.iload_n 1, 1) := by decide +kernel
theorem dX6_next_58 : decode cX6_next 58 = .ok (.iaload, 1) := by decide +kernel
theorem dX6_next_59 : decode cX6_next 59 = .ok (.invokevirtual 215, 3) := by decide +kernel
theorem dX6_next_62 : decode cX6_next 62 = .ok (.istore_n 2, 1) := by decide +kernel
theorem dX6_next_63 : decode cX6_next 63 = .ok (.iload_n 2, 1) := by decide +kernel
theorem dX6_next_64 : decode cX6_next 64 = .ok (.iconst (-1), 1) := by decide +kernel
theorem dX6_next_65 : decode cX6_next 65 = .ok (.if_icmp .ne 5, 3) := by decide +kernel
theorem dX6_next_68 : decode cX6_next 68 = .ok (.iconst (-1), 1) := by decide +kernel
theorem dX6_next_69 : decode cX6_next 69 = .ok (.ireturn, 1) := by decide +kernel
theorem dX6_next_70 : decode cX6_next 70 = .ok (.aload_n 0, 1) := by decide +kernel
theorem dX6_next_71 : decode cX6_next 71 = .ok (.getfield 10, 3) := by decide +kernel
theorem dX6_next_74 : decode cX6_next 74 = .ok (.getfield 212, 3) := by decide +kernel
theorem dX6_next_77 : decode cX6_next 77 = .ok (.iload_n 1, 1) := by decide +kernel
theorem dX6_next_78 : decode cX6_next 78 = .ok (.iload_n 2, 1) := by decide +kernel
theorem dX6_next_79 : decode cX6_next 79 = .ok (.iastore, 1) := by decide +kernel
theorem dX6_next_80 : decode cX6_next 80 = .ok (.iload_n 2, 1) := by decide +kernel
theorem dX6_next_81 : decode cX6_next 81 = .ok (.bipush 32, 2) := by decide +kernel
theorem dX6_next_83 : decode cX6_next 83 = .ok (.irem, 1) := by decide +kernel
theorem dX6_next_84 : decode cX6_next 84 = .ok (.ireturn, 1) := by decide +kernel
set_option maxRecDepth 20000 in
theorem ggX6_cursor_X6_refusalOfValue : GoodIn wsX6_cursor wsX6_refusalOfValue := goodIn_r _ [10, 11, 12, 9, 13] (by decide +kernel) (by decide +kernel)
set_option maxRecDepth 20000 in
theorem gX6_cursor_X6_refusalOfValue : GoodIn wsX6_cursor (va_wsS RX6 110 yX6_refusalOfValue wsX6_refusalOfValue) := goodIn_app (goodIn_of _ (by decide +kernel)) ggX6_cursor_X6_refusalOfValue
set_option maxRecDepth 20000 in
theorem ggX6_cursor_X6_throwIf : GoodIn wsX6_cursor wsX6_throwIf := goodIn_ca (goodIn_ca (goodIn_ca (goodIn_r _ [16, 17, 18, 19, 20, 21, 22] (by decide +kernel) (by decide +kernel)) (goodIn_sub (fun _ h => List.mem_cons_of_mem _ (List.mem_append_left _ (List.mem_append_left _ (List.mem_append_right _ h)))) (by decide +kernel))) (goodIn_sub (fun _ h => List.mem_cons_of_mem _ (List.mem_append_left _ (List.mem_append_right _ h))) (by decide +kernel))) (goodIn_sub (fun _ h => List.mem_cons_of_mem _ (List.mem_append_right _ h)) (by decide +kernel))
set_option maxRecDepth 20000 in
theorem gX6_cursor_X6_throwIf : GoodIn wsX6_cursor (va_wsS RX6 44 yX6_throwIf wsX6_throwIf) := goodIn_app (goodIn_of _ (by decide +kernel)) ggX6_cursor_X6_throwIf
set_option maxRecDepth 20000 in
theorem ggX6_cursor_X4_pairsAfter : GoodIn wsX6_cursor wsX4_pairsAfter := goodIn_r _ [27, 28, 29, 30, 31, 26, 32, 33, 34, 35, 9, 36, 78, 79, 80, 81, 82, 83, 84, 85, 86] (by decide +kernel) (by decide +kernel)
set_option maxRecDepth 20000 in
theorem gX6_cursor_X4_pairsAfter : GoodIn wsX6_cursor (wsV RX6 218 RX4 yX4_pairsAfter wsX4_pairsAfter) := goodIn_app (goodIn_of _ (by decide +kernel)) ggX6_cursor_X4_pairsAfter
set_option maxRecDepth 20000 in
theorem ggX6_cursor_X1_nodesWithin : GoodIn wsX6_cursor wsX1_nodesWithin := goodIn_r _ [41, 42, 43, 44, 45, 46, 47, 48, 49, 50, 51, 52, 53, 54, 55, 56, 57, 58, 59, 60, 61, 62, 63, 64, 65, 66, 67, 68, 69, 70, 71, 72, 35, 9, 36, 89, 90, 91, 92] (by decide +kernel) (by decide +kernel)
set_option maxRecDepth 20000 in
theorem gX6_cursor_X1_nodesWithin : GoodIn wsX6_cursor (wsV RX6 221 RX1 yX1_nodesWithin wsX1_nodesWithin) := goodIn_app (goodIn_of _ (by decide +kernel)) ggX6_cursor_X1_nodesWithin
theorem dX6_cursor_0 : decode cX6_cursor 0 = .ok (.iload_n 1, 1) := by decide +kernel
theorem dX6_cursor_1 : decode cX6_cursor 1 = .ok (.iconst 4, 1) := by decide +kernel
theorem dX6_cursor_2 : decode cX6_cursor 2 = .ok (.iload_n 2, 1) := by decide +kernel
theorem dX6_cursor_3 : decode cX6_cursor 3 = .ok (.iconst 5, 1) := by decide +kernel
theorem dX6_cursor_4 : decode cX6_cursor 4 = .ok (.invokestatic 110, 3) := by decide +kernel
theorem dX6_cursor_7 : decode cX6_cursor 7 = .ok (.invokestatic 44, 3) := by decide +kernel
theorem dX6_cursor_10 : decode cX6_cursor 10 = .ok (.aload_n 0, 1) := by decide +kernel
theorem dX6_cursor_11 : decode cX6_cursor 11 = .ok (.getfield 10, 3) := by decide +kernel
theorem dX6_cursor_14 : decode cX6_cursor 14 = .ok (.getfield 206, 3) := by decide +kernel
theorem dX6_cursor_17 : decode cX6_cursor 17 = .ok (.iload_n 1, 1) := by decide +kernel
theorem dX6_cursor_18 : decode cX6_cursor 18 = .ok (.iaload, 1) := by decide +kernel
theorem dX6_cursor_19 : decode cX6_cursor 19 = .ok (.istore_n 3, 1) := by decide +kernel
theorem dX6_cursor_20 : decode cX6_cursor 20 = .ok (.aload_n 0, 1) := by decide +kernel
theorem dX6_cursor_21 : decode cX6_cursor 21 = .ok (.getfield 10, 3) := by decide +kernel
theorem dX6_cursor_24 : decode cX6_cursor 24 = .ok (.getfield 209, 3) := by decide +kernel
theorem dX6_cursor_27 : decode cX6_cursor 27 = .ok (.iload_n 1, 1) := by decide +kernel
theorem dX6_cursor_28 : decode cX6_cursor 28 = .ok (.iaload, 1) := by decide +kernel
theorem dX6_cursor_29 : decode cX6_cursor 29 = .ok (.istore 4, 2) := by decide +kernel
theorem dX6_cursor_31 : decode cX6_cursor 31 = .ok (.aload_n 0, 1) := by decide +kernel
theorem dX6_cursor_32 : decode cX6_cursor 32 = .ok (.getfield 10, 3) := by decide +kernel
theorem dX6_cursor_35 : decode cX6_cursor 35 = .ok (.getfield 212, 3) := by decide +kernel
theorem dX6_cursor_38 : decode cX6_cursor 38 = .ok (.iload_n 1, 1) := by decide +kernel
theorem dX6_cursor_39 : decode cX6_cursor 39 = .ok (.iaload, 1) := by decide +kernel
theorem dX6_cursor_40 : decode cX6_cursor 40 = .ok (.istore 5, 2) := by decide +kernel
theorem dX6_cursor_42 : decode cX6_cursor 42 = .ok (.iload_n 2, 1) := by decide +kernel
theorem dX6_cursor_43 : decode cX6_cursor 43 = .ok (.tableswitch 83 0 4 #[33, 35, 38, 54, 70], 33) := by decide +kernel
theorem dX6_cursor_76 : decode cX6_cursor 76 = .ok (.iload_n 3, 1) := by decide +kernel
theorem dX6_cursor_77 : decode cX6_cursor 77 = .ok (.ireturn, 1) := by decide +kernel
theorem dX6_cursor_78 : decode cX6_cursor 78 = .ok (.iload 4, 2) := by decide +kernel
theorem dX6_cursor_80 : decode cX6_cursor 80 = .ok (.ireturn, 1) := by decide +kernel
theorem dX6_cursor_81 : decode cX6_cursor 81 = .ok (.iload 5, 2) := by decide +kernel
theorem dX6_cursor_83 : decode cX6_cursor 83 = .ok (.iconst (-1), 1) := by decide +kernel
theorem dX6_cursor_84 : decode cX6_cursor 84 = .ok (.if_icmp .ne 7, 3) := by decide +kernel
theorem dX6_cursor_87 : decode cX6_cursor 87 = .ok (.iconst (-1), 1) := by decide +kernel
theorem dX6_cursor_88 : decode cX6_cursor 88 = .ok (.goto 8, 3) := by decide +kernel
theorem dX6_cursor_91 : decode cX6_cursor 91 = .ok (.iload 5, 2) := by decide +kernel
theorem dX6_cursor_93 : decode cX6_cursor 93 = .ok (.bipush 32, 2) := by decide +kernel
theorem dX6_cursor_95 : decode cX6_cursor 95 = .ok (.idiv, 1) := by decide +kernel
theorem dX6_cursor_96 : decode cX6_cursor 96 = .ok (.ireturn, 1) := by decide +kernel
theorem dX6_cursor_97 : decode cX6_cursor 97 = .ok (.iload 5, 2) := by decide +kernel
theorem dX6_cursor_99 : decode cX6_cursor 99 = .ok (.iconst (-1), 1) := by decide +kernel
theorem dX6_cursor_100 : decode cX6_cursor 100 = .ok (.if_icmp .ne 7, 3) := by decide +kernel
theorem dX6_cursor_103 : decode cX6_cursor 103 = .ok (.iconst (-1), 1) := by decide +kernel
theorem dX6_cursor_104 : decode cX6_cursor 104 = .ok (.goto 8, 3) := by decide +kernel
theorem dX6_cursor_107 : decode cX6_cursor 107 = .ok (.iload 5, 2) := by decide +kernel
theorem dX6_cursor_109 : decode cX6_cursor 109 = .ok (.bipush 32, 2) := by decide +kernel
theorem dX6_cursor_111 : decode cX6_cursor 111 = .ok (.irem, 1) := by decide +kernel
theorem dX6_cursor_112 : decode cX6_cursor 112 = .ok (.ireturn, 1) := by decide +kernel
theorem dX6_cursor_113 : decode cX6_cursor 113 = .ok (.aload_n 0, 1) := by decide +kernel
theorem dX6_cursor_114 : decode cX6_cursor 114 = .ok (.getfield 10, 3) := by decide +kernel
theorem dX6_cursor_117 : decode cX6_cursor 117 = .ok (.iload 5, 2) := by decide +kernel
theorem dX6_cursor_119 : decode cX6_cursor 119 = .ok (.iload_n 3, 1) := by decide +kernel
theorem dX6_cursor_120 : decode cX6_cursor 120 = .ok (.iload 4, 2) := by decide +kernel
theorem dX6_cursor_122 : decode cX6_cursor 122 = .ok (.invokevirtual 218, 3) := by decide +kernel
theorem dX6_cursor_125 : decode cX6_cursor 125 = .ok (.ireturn, 1) := by decide +kernel
theorem dX6_cursor_126 : decode cX6_cursor 126 = .ok (.iload 5, 2) := by decide +kernel
theorem dX6_cursor_128 : decode cX6_cursor 128 = .ok (.iconst (-1), 1) := by decide +kernel
theorem dX6_cursor_129 : decode cX6_cursor 129 = .ok (.if_icmp .ne 7, 3) := by decide +kernel
theorem dX6_cursor_132 : decode cX6_cursor 132 = .ok (.iconst 0, 1) := by decide +kernel
theorem dX6_cursor_133 : decode cX6_cursor 133 = .ok (.goto 23, 3) := by decide +kernel
theorem dX6_cursor_136 : decode cX6_cursor 136 = .ok (.aload_n 0, 1) := by decide +kernel
theorem dX6_cursor_137 : decode cX6_cursor 137 = .ok (.getfield 33, 3) := by decide +kernel
theorem dX6_cursor_140 : decode cX6_cursor 140 = .ok (.getfield 126, 3) := by decide +kernel
theorem dX6_cursor_143 : decode cX6_cursor 143 = .ok (.iconst 0, 1) := by decide +kernel
theorem dX6_cursor_144 : decode cX6_cursor 144 = .ok (.aaload, 1) := by decide +kernel
theorem dX6_cursor_145 : decode cX6_cursor 145 = .ok (.iload 5, 2) := by decide +kernel
theorem dX6_cursor_147 : decode cX6_cursor 147 = .ok (.bipush 32, 2) := by decide +kernel
theorem dX6_cursor_149 : decode cX6_cursor 149 = .ok (.idiv, 1) := by decide +kernel
theorem dX6_cursor_150 : decode cX6_cursor 150 = .ok (.iload_n 3, 1) := by decide +kernel
theorem dX6_cursor_151 : decode cX6_cursor 151 = .ok (.iload 4, 2) := by decide +kernel
theorem dX6_cursor_153 : decode cX6_cursor 153 = .ok (.invokevirtual 221, 3) := by decide +kernel
theorem dX6_cursor_156 : decode cX6_cursor 156 = .ok (.ireturn, 1) := by decide +kernel
set_option maxRecDepth 20000 in
theorem ggX6_nearest_X6_isPosition : GoodIn wsX6_nearest wsX6_isPosition := goodIn_r _ [5, 6, 7, 4, 8] (by decide +kernel) (by decide +kernel)
set_option maxRecDepth 20000 in
theorem gX6_nearest_X6_isPosition : GoodIn wsX6_nearest (va_wsS RX6 181 yX6_isPosition wsX6_isPosition) := goodIn_app (goodIn_of _ (by decide +kernel)) ggX6_nearest_X6_isPosition
set_option maxRecDepth 20000 in
theorem ggX6_nearest_X6_throwIf : GoodIn wsX6_nearest wsX6_throwIf := goodIn_ca (goodIn_ca (goodIn_ca (goodIn_r _ [11, 12, 13, 14, 15, 16, 17] (by decide +kernel) (by decide +kernel)) (goodIn_sub (fun _ h => List.mem_cons_of_mem _ (List.mem_append_left _ (List.mem_append_left _ (List.mem_append_right _ h)))) (by decide +kernel))) (goodIn_sub (fun _ h => List.mem_cons_of_mem _ (List.mem_append_left _ (List.mem_append_right _ h))) (by decide +kernel))) (goodIn_sub (fun _ h => List.mem_cons_of_mem _ (List.mem_append_right _ h)) (by decide +kernel))
set_option maxRecDepth 20000 in
theorem gX6_nearest_X6_throwIf : GoodIn wsX6_nearest (va_wsS RX6 44 yX6_throwIf wsX6_throwIf) := goodIn_app (goodIn_of _ (by decide +kernel)) ggX6_nearest_X6_throwIf
set_option maxRecDepth 20000 in
theorem ggX6_nearest_X4_count : GoodIn wsX6_nearest wsX4_count := goodIn_r _ [22, 23, 41, 42, 43, 44, 45, 46, 47, 48, 49] (by decide +kernel) (by decide +kernel)
set_option maxRecDepth 20000 in
theorem gX6_nearest_X4_count : GoodIn wsX6_nearest (wsV RX6 107 RX4 yX4_count wsX4_count) := goodIn_app (goodIn_of _ (by decide +kernel)) ggX6_nearest_X4_count
set_option maxRecDepth 20000 in
theorem ggX6_nearest_X4_pairAfter : GoodIn wsX6_nearest wsX4_pairAfter := goodIn_r _ [27, 23, 28, 29, 30, 21, 31, 32, 33, 34, 4, 35, 41, 42, 43, 44, 45, 46, 47, 48, 49] (by decide +kernel) (by decide +kernel)
set_option maxRecDepth 20000 in
theorem gX6_nearest_X4_pairAfter : GoodIn wsX6_nearest (wsV RX6 215 RX4 yX4_pairAfter wsX4_pairAfter) := goodIn_app (goodIn_of _ (by decide +kernel)) ggX6_nearest_X4_pairAfter
theorem dX6_nearest_0 : decode cX6_nearest 0 = .ok (.iload_n 1, 1) := by decide +kernel
theorem dX6_nearest_1 : decode cX6_nearest 1 = .ok (.iload_n 2, 1) := by decide +kernel
theorem dX6_nearest_2 : decode cX6_nearest 2 = .ok (.invokestatic 181, 3) := by decide +kernel
theorem dX6_nearest_5 : decode cX6_nearest 5 = .ok (.ifCond .eq 11, 3) := by decide +kernel
theorem dX6_nearest_8 : decode cX6_nearest 8 = .ok (.iload_n 3, 1) := by decide +kernel
theorem dX6_nearest_9 : decode cX6_nearest 9 = .ok (.ifCond .lt 7, 3) := by decide +kernel
theorem dX6_nearest_12 : decode cX6_nearest 12 = .ok (.iconst 0, 1) := by decide +kernel
theorem dX6_nearest_13 : decode cX6_nearest 13 = .ok (.goto 4, 3) := by decide +kernel
theorem dX6_nearest_16 : decode cX6_nearest 16 = .ok (.iconst 2, 1) := by decide +kernel
theorem dX6_nearest_17 : decode cX6_nearest 17 = .ok (.invokestatic 44, 3) := by decide +kernel
theorem dX6_nearest_20 : decode cX6_nearest 20 = .ok (.iload_n 3, 1) := by decide +kernel
theorem dX6_nearest_21 : decode cX6_nearest 21 = .ok (.aload_n 0, 1) := by decide +kernel
theorem dX6_nearest_22 : decode cX6_nearest 22 = .ok (.getfield 10, 3) := by decide +kernel
theorem dX6_nearest_25 : decode cX6_nearest 25 = .ok (.invokevirtual 107, 3) := by decide +kernel
theorem dX6_nearest_28 : decode cX6_nearest 28 = .ok (.if_icmp .lt 5, 3) := by decide +kernel
theorem dX6_nearest_31 : decode cX6_nearest 31 = .ok (.iconst (-1), 1) := by decide +kernel
theorem dX6_nearest_32 : decode cX6_nearest 32 = .ok (.ireturn, 1) := by decide +kernel
theorem dX6_nearest_33 : decode cX6_nearest 33 = .ok (.aload_n 0, 1) := by decide +kernel
theorem dX6_nearest_34 : decode cX6_nearest 34 = .ok (.getfield 10, 3) := by decide +kernel
theorem dX6_nearest_37 : decode cX6_nearest 37 = .ok (.iconst (-1), 1) := by decide +kernel
theorem dX6_nearest_38 : decode cX6_nearest 38 = .ok (.iload_n 1, 1) := by decide +kernel
theorem dX6_nearest_39 : decode cX6_nearest 39 = .ok (.iload_n 2, 1) := by decide +kernel
theorem dX6_nearest_40 : decode cX6_nearest 40 = .ok (.invokevirtual 215, 3) := by decide +kernel
theorem dX6_nearest_43 : decode cX6_nearest 43 = .ok (.istore 4, 2) := by decide +kernel
theorem dX6_nearest_45 : decode cX6_nearest 45 = .ok (.iconst 0, 1) := by decide +kernel
theorem dX6_nearest_46 : decode cX6_nearest 46 = .ok (.istore 5, 2) := by decide +kernel
theorem dX6_nearest_48 : decode cX6_nearest 48 = .ok (.iload 5, 2) := by decide +kernel
theorem dX6_nearest_50 : decode cX6_nearest 50 = .ok (.iload_n 3, 1) := by decide +kernel
theorem dX6_nearest_51 : decode cX6_nearest 51 = .ok (.if_icmp .ge 22, 3) := by decide +kernel
theorem dX6_nearest_54 : decode cX6_nearest 54 = .ok (.aload_n 0, 1) := by decide +kernel
theorem dX6_nearest_55 : decode cX6_nearest 55 = .ok (.getfield 10, 3) := by decide +kernel
theorem dX6_nearest_58 : decode cX6_nearest 58 = .ok (.iload 4, 2) := by decide +kernel
theorem dX6_nearest_60 : decode cX6_nearest 60 = .ok (.iload_n 1, 1) := by decide +kernel
theorem dX6_nearest_61 : decode cX6_nearest 61 = .ok (.iload_n 2, 1) := by decide +kernel
theorem dX6_nearest_62 : decode cX6_nearest 62 = .ok (.invokevirtual 215, 3) := by decide +kernel
theorem dX6_nearest_65 : decode cX6_nearest 65 = .ok (.istore 4, 2) := by decide +kernel
theorem dX6_nearest_67 : decode cX6_nearest 67 = .ok (.iinc 5 1, 3) := by decide +kernel
theorem dX6_nearest_70 : decode cX6_nearest 70 = .ok (.goto (-22), 3) := by decide +kernel
theorem dX6_nearest_73 : decode cX6_nearest 73 = .ok (.iload 4, 2) := by decide +kernel
theorem dX6_nearest_75 : decode cX6_nearest 75 = .ok (.bipush 32, 2) := by decide +kernel
theorem dX6_nearest_77 : decode cX6_nearest 77 = .ok (.irem, 1) := by decide +kernel
theorem dX6_nearest_78 : decode cX6_nearest 78 = .ok (.ireturn, 1) := by decide +kernel
set_option maxRecDepth 20000 in
theorem ggX6_within_X6_isPosition : GoodIn wsX6_within wsX6_isPosition := goodIn_r _ [8, 9, 10, 7, 11] (by decide +kernel) (by decide +kernel)
set_option maxRecDepth 20000 in
theorem gX6_within_X6_isPosition : GoodIn wsX6_within (va_wsS RX6 181 yX6_isPosition wsX6_isPosition) := goodIn_app (goodIn_of _ (by decide +kernel)) ggX6_within_X6_isPosition
set_option maxRecDepth 20000 in
theorem ggX6_within_X6_throwIf : GoodIn wsX6_within wsX6_throwIf := goodIn_ca (goodIn_ca (goodIn_ca (goodIn_r _ [14, 15, 16, 17, 18, 19, 20] (by decide +kernel) (by decide +kernel)) (goodIn_sub (fun _ h => List.mem_cons_of_mem _ (List.mem_append_left _ (List.mem_append_left _ (List.mem_append_right _ h)))) (by decide +kernel))) (goodIn_sub (fun _ h => List.mem_cons_of_mem _ (List.mem_append_left _ (List.mem_append_right _ h))) (by decide +kernel))) (goodIn_sub (fun _ h => List.mem_cons_of_mem _ (List.mem_append_right _ h)) (by decide +kernel))
set_option maxRecDepth 20000 in
theorem gX6_within_X6_throwIf : GoodIn wsX6_within (va_wsS RX6 44 yX6_throwIf wsX6_throwIf) := goodIn_app (goodIn_of _ (by decide +kernel)) ggX6_within_X6_throwIf
set_option maxRecDepth 20000 in
theorem ggX6_within_X6_inside : GoodIn wsX6_within wsX6_inside := goodIn_r _ [11] (by decide +kernel) (by decide +kernel)
set_option maxRecDepth 20000 in
theorem gX6_within_X6_inside : GoodIn wsX6_within (va_wsS RX6 185 yX6_inside wsX6_inside) := goodIn_app (goodIn_of _ (by decide +kernel)) ggX6_within_X6_inside
theorem dX6_within_0 : decode cX6_within 0 = .ok (.iload_n 1, 1) := by decide +kernel
theorem dX6_within_1 : decode cX6_within 1 = .ok (.iload_n 2, 1) := by decide +kernel
theorem dX6_within_2 : decode cX6_within 2 = .ok (.invokestatic 181, 3) := by decide +kernel
theorem dX6_within_5 : decode cX6_within 5 = .ok (.ifCond .eq 16, 3) := by decide +kernel
theorem dX6_within_8 : decode cX6_within 8 = .ok (.iload_n 3, 1) := by decide +kernel
theorem dX6_within_9 : decode cX6_within 9 = .ok (.iload 4, 2) := by decide +kernel
theorem dX6_within_11 : decode cX6_within 11 = .ok (.invokestatic 181, 3) := by decide +kernel
theorem dX6_within_14 : decode cX6_within 14 = .ok (.ifCond .eq 7, 3) := by decide +kernel
theorem dX6_within_17 : decode cX6_within 17 = .ok (.iconst 0, 1) := by decide +kernel
theorem dX6_within_18 : decode cX6_within 18 = .ok (.goto 4, 3) := by decide +kernel
theorem dX6_within_21 : decode cX6_within 21 = .ok (.iconst 2, 1) := by decide +kernel
theorem dX6_within_22 : decode cX6_within 22 = .ok (.invokestatic 44, 3) := by decide +kernel
theorem dX6_within_25 : decode cX6_within 25 = .ok (.iconst 0, 1) := by decide +kernel
theorem dX6_within_26 : decode cX6_within 26 = .ok (.istore 5, 2) := by decide +kernel
theorem dX6_within_28 : decode cX6_within 28 = .ok (.iconst 0, 1) := by decide +kernel
theorem dX6_within_29 : decode cX6_within 29 = .ok (.istore 6, 2) := by decide +kernel
theorem dX6_within_31 : decode cX6_within 31 = .ok (.iload 6, 2) := by decide +kernel
theorem dX6_within_33 : decode cX6_within 33 = .ok (.bipush 24, 2) := by decide +kernel
theorem dX6_within_35 : decode cX6_within 35 = .ok (.if_icmp .ge 62, 3) := by decide +kernel
theorem dX6_within_38 : decode cX6_within 38 = .ok (.aload_n 0, 1) := by decide +kernel
theorem dX6_within_39 : decode cX6_within 39 = .ok (.getfield 10, 3) := by decide +kernel
theorem dX6_within_42 : decode cX6_within 42 = .ok (.getfield 113, 3) := by decide +kernel
theorem dX6_within_45 : decode cX6_within 45 = .ok (.iload 6, 2) := by decide +kernel
theorem dX6_within_47 : decode cX6_within 47 = .ok (.baload, 1) := by decide +kernel
theorem dX6_within_48 : decode cX6_within 48 = .ok (.ifCond .eq 43, 3) := by decide +kernel
theorem dX6_within_51 : decode cX6_within 51 = .ok (.aload_n 0, 1) := by decide +kernel
theorem dX6_within_52 : decode cX6_within 52 = .ok (.getfield 10, 3) := by decide +kernel
theorem dX6_within_55 : decode cX6_within 55 = .ok (.getfield 117, 3) := by decide +kernel
theorem dX6_within_58 : decode cX6_within 58 = .ok (.iload 6, 2) := by decide +kernel
theorem dX6_within_60 : decode cX6_within 60 = .ok (.iaload, 1) := by decide +kernel
theorem dX6_within_61 : decode cX6_within 61 = .ok (.iload_n 1, 1) := by decide +kernel
theorem dX6_within_62 : decode cX6_within 62 = .ok (.iload_n 3, 1) := by decide +kernel
theorem dX6_within_63 : decode cX6_within 63 = .ok (.invokestatic 185, 3) := by decide +kernel
theorem dX6_within_66 : decode cX6_within 66 = .ok (.ifCond .eq 25, 3) := by decide +kernel
theorem dX6_within_69 : decode cX6_within 69 = .ok (.aload_n 0, 1) := by decide +kernel
theorem dX6_within_70 : decode cX6_within 70 = .ok (.getfield 10, 3) := by decide +kernel
theorem dX6_within_73 : decode cX6_within 73 = .ok (.getfield 120, 3) := by decide +kernel
theorem dX6_within_76 : decode cX6_within 76 = .ok (.iload 6, 2) := by decide +kernel
theorem dX6_within_78 : decode cX6_within 78 = .ok (.iaload, 1) := by decide +kernel
theorem dX6_within_79 : decode cX6_within 79 = .ok (.iload_n 2, 1) := by decide +kernel
theorem dX6_within_80 : decode cX6_within 80 = .ok (.iload 4, 2) := by decide +kernel
theorem dX6_within_82 : decode cX6_within 82 = .ok (.invokestatic 185, 3) := by decide +kernel
theorem dX6_within_85 : decode cX6_within 85 = .ok (.ifCond .eq 6, 3) := by decide +kernel
theorem dX6_within_88 : decode cX6_within 88 = .ok (.iinc 5 1, 3) := by decide +kernel
theorem dX6_within_91 : decode cX6_within 91 = .ok (.iinc 6 1, 3) := by decide +kernel
theorem dX6_within_94 : decode cX6_within 94 = .ok (.goto (-63), 3) := by decide +kernel
theorem dX6_within_97 : decode cX6_within 97 = .ok (.iload 5, 2) := by decide +kernel
theorem dX6_within_99 : decode cX6_within 99 = .ok (.ireturn, 1) := by decide +kernel
set_option maxRecDepth 20000 in
theorem ggX6_closest_X6_inside : GoodIn wsX6_closest wsX6_inside := goodIn_r _ [5] (by decide +kernel) (by decide +kernel)
set_option maxRecDepth 20000 in
theorem gX6_closest_X6_inside : GoodIn wsX6_closest (va_wsS RX6 185 yX6_inside wsX6_inside) := goodIn_app (goodIn_of _ (by decide +kernel)) ggX6_closest_X6_inside
set_option maxRecDepth 20000 in
theorem ggX6_closest_X6_throwIf : GoodIn wsX6_closest wsX6_throwIf := goodIn_ca (goodIn_ca (goodIn_ca (goodIn_r _ [8, 9, 10, 11, 12, 13, 14] (by decide +kernel) (by decide +kernel)) (goodIn_sub (fun _ h => List.mem_cons_of_mem _ (List.mem_append_left _ (List.mem_append_left _ (List.mem_append_right _ h)))) (by decide +kernel))) (goodIn_sub (fun _ h => List.mem_cons_of_mem _ (List.mem_append_left _ (List.mem_append_right _ h))) (by decide +kernel))) (goodIn_sub (fun _ h => List.mem_cons_of_mem _ (List.mem_append_right _ h)) (by decide +kernel))
set_option maxRecDepth 20000 in
theorem gX6_closest_X6_throwIf : GoodIn wsX6_closest (va_wsS RX6 44 yX6_throwIf wsX6_throwIf) := goodIn_app (goodIn_of _ (by decide +kernel)) ggX6_closest_X6_throwIf
set_option maxRecDepth 20000 in
theorem ggX6_closest_X4_closestCouple : GoodIn wsX6_closest wsX4_closestCouple := goodIn_r _ [19, 20, 21, 22, 23, 24, 25, 18, 26, 27, 4, 28, 34, 35, 36, 37, 38, 39, 40, 41, 42] (by decide +kernel) (by decide +kernel)
set_option maxRecDepth 20000 in
theorem gX6_closest_X4_closestCouple : GoodIn wsX6_closest (wsV RX6 224 RX4 yX4_closestCouple wsX4_closestCouple) := goodIn_app (goodIn_of _ (by decide +kernel)) ggX6_closest_X4_closestCouple
theorem dX6_closest_0 : decode cX6_closest 0 = .ok (.iload_n 1, 1) := by decide +kernel
theorem dX6_closest_1 : decode cX6_closest 1 = .ok (.iconst 0, 1) := by decide +kernel
theorem dX6_closest_2 : decode cX6_closest 2 = .ok (.iconst 2, 1) := by decide +kernel
theorem dX6_closest_3 : decode cX6_closest 3 = .ok (.invokestatic 185, 3) := by decide +kernel
theorem dX6_closest_6 : decode cX6_closest 6 = .ok (.ifCond .eq 7, 3) := by decide +kernel
theorem dX6_closest_9 : decode cX6_closest 9 = .ok (.iconst 0, 1) := by decide +kernel
theorem dX6_closest_10 : decode cX6_closest 10 = .ok (.goto 4, 3) := by decide +kernel
theorem dX6_closest_13 : decode cX6_closest 13 = .ok (.iconst 2, 1) := by decide +kernel
theorem dX6_closest_14 : decode cX6_closest 14 = .ok (.invokestatic 44, 3) := by decide +kernel
theorem dX6_closest_17 : decode cX6_closest 17 = .ok (.aload_n 0, 1) := by decide +kernel
theorem dX6_closest_18 : decode cX6_closest 18 = .ok (.getfield 10, 3) := by decide +kernel
theorem dX6_closest_21 : decode cX6_closest 21 = .ok (.invokevirtual 224, 3) := by decide +kernel
theorem dX6_closest_24 : decode cX6_closest 24 = .ok (.istore_n 2, 1) := by decide +kernel
theorem dX6_closest_25 : decode cX6_closest 25 = .ok (.iload_n 2, 1) := by decide +kernel
theorem dX6_closest_26 : decode cX6_closest 26 = .ok (.iconst (-1), 1) := by decide +kernel
theorem dX6_closest_27 : decode cX6_closest 27 = .ok (.if_icmp .ne 5, 3) := by decide +kernel
theorem dX6_closest_30 : decode cX6_closest 30 = .ok (.iconst (-1), 1) := by decide +kernel
theorem dX6_closest_31 : decode cX6_closest 31 = .ok (.ireturn, 1) := by decide +kernel
theorem dX6_closest_32 : decode cX6_closest 32 = .ok (.iload_n 1, 1) := by decide +kernel
theorem dX6_closest_33 : decode cX6_closest 33 = .ok (.lookupswitch 41 #[(0, 27), (1, 33)], 27) := by decide +kernel
theorem dX6_closest_60 : decode cX6_closest 60 = .ok (.iload_n 2, 1) := by decide +kernel
theorem dX6_closest_61 : decode cX6_closest 61 = .ok (.sipush 1024, 3) := by decide +kernel
theorem dX6_closest_64 : decode cX6_closest 64 = .ok (.idiv, 1) := by decide +kernel
theorem dX6_closest_65 : decode cX6_closest 65 = .ok (.ireturn, 1) := by decide +kernel
theorem dX6_closest_66 : decode cX6_closest 66 = .ok (.iload_n 2, 1) := by decide +kernel
theorem dX6_closest_67 : decode cX6_closest 67 = .ok (.bipush 32, 2) := by decide +kernel
theorem dX6_closest_69 : decode cX6_closest 69 = .ok (.idiv, 1) := by decide +kernel
theorem dX6_closest_70 : decode cX6_closest 70 = .ok (.bipush 32, 2) := by decide +kernel
theorem dX6_closest_72 : decode cX6_closest 72 = .ok (.irem, 1) := by decide +kernel
theorem dX6_closest_73 : decode cX6_closest 73 = .ok (.ireturn, 1) := by decide +kernel
theorem dX6_closest_74 : decode cX6_closest 74 = .ok (.iload_n 2, 1) := by decide +kernel
theorem dX6_closest_75 : decode cX6_closest 75 = .ok (.bipush 32, 2) := by decide +kernel
theorem dX6_closest_77 : decode cX6_closest 77 = .ok (.irem, 1) := by decide +kernel
theorem dX6_closest_78 : decode cX6_closest 78 = .ok (.ireturn, 1) := by decide +kernel
set_option maxRecDepth 20000 in
theorem ggX6_type_X6_refusalOfByte : GoodIn wsX6_type wsX6_refusalOfByte := goodIn_r _ [7, 1, 2, 8, 9, 6, 10, 27, 28, 29, 30, 31, 32, 33, 34, 35, 36, 37] (by decide +kernel) (by decide +kernel)
set_option maxRecDepth 20000 in
theorem gX6_type_X6_refusalOfByte : GoodIn wsX6_type (wsV RX6 227 RX6 yX6_refusalOfByte wsX6_refusalOfByte) := goodIn_app (goodIn_of _ (by decide +kernel)) ggX6_type_X6_refusalOfByte
set_option maxRecDepth 20000 in
theorem ggX6_type_X6_throwIf : GoodIn wsX6_type wsX6_throwIf := goodIn_ca (goodIn_ca (goodIn_ca (goodIn_r _ [13, 14, 15, 16, 17, 18, 19] (by decide +kernel) (by decide +kernel)) (goodIn_sub (fun _ h => List.mem_cons_of_mem _ (List.mem_append_left _ (List.mem_append_left _ (List.mem_append_right _ h)))) (by decide +kernel))) (goodIn_sub (fun _ h => List.mem_cons_of_mem _ (List.mem_append_left _ (List.mem_append_right _ h))) (by decide +kernel))) (goodIn_sub (fun _ h => List.mem_cons_of_mem _ (List.mem_append_right _ h)) (by decide +kernel))
set_option maxRecDepth 20000 in
theorem gX6_type_X6_throwIf : GoodIn wsX6_type (va_wsS RX6 44 yX6_throwIf wsX6_throwIf) := goodIn_app (goodIn_of _ (by decide +kernel)) ggX6_type_X6_throwIf
set_option maxRecDepth 20000 in
theorem ggX6_type_X2_append : GoodIn wsX6_type wsX2_append := goodIn_r _ [24, 25, 26, 32, 33, 34, 35, 36, 37] (by decide +kernel) (by decide +kernel)
set_option maxRecDepth 20000 in
theorem gX6_type_X2_append : GoodIn wsX6_type (wsV RX6 230 RX2 yX2_append wsX2_append) := goodIn_app (goodIn_of _ (by decide +kernel)) ggX6_type_X2_append
theorem dX6_type_0 : decode cX6_type 0 = .ok (.aload_n 0, 1) := by decide +kernel
theorem dX6_type_1 : decode cX6_type 1 = .ok (.iload_n 1, 1) := by decide +kernel
theorem dX6_type_2 : decode cX6_type 2 = .ok (.invokevirtual 227, 3) := by decide +kernel
theorem dX6_type_5 : decode cX6_type 5 = .ok (.invokestatic 44, 3) := by decide +kernel
theorem dX6_type_8 : decode cX6_type 8 = .ok (.aload_n 0, 1) := by decide +kernel
theorem dX6_type_9 : decode cX6_type 9 = .ok (.getfield 26, 3) := by decide +kernel
theorem dX6_type_12 : decode cX6_type 12 = .ok (.iload_n 1, 1) := by decide +kernel
theorem dX6_type_13 : decode cX6_type 13 = .ok (.invokevirtual 230, 3) := by decide +kernel
theorem dX6_type_16 : decode cX6_type 16 = .ok (.aload_n 0, 1) := by decide +kernel
theorem dX6_type_17 : decode cX6_type 17 = .ok (.getfield 26, 3) := by decide +kernel
theorem dX6_type_20 : decode cX6_type 20 = .ok (.getfield 233, 3) := by decide +kernel
theorem dX6_type_23 : decode cX6_type 23 = .ok (.ireturn, 1) := by decide +kernel
theorem dX6_clearScript_0 : decode cX6_clearScript 0 = .ok (.aload_n 0, 1) := by decide +kernel
theorem dX6_clearScript_1 : decode cX6_clearScript 1 = .ok (.getfield 26, 3) := by decide +kernel
theorem dX6_clearScript_4 : decode cX6_clearScript 4 = .ok (.getfield 233, 3) := by decide +kernel
theorem dX6_clearScript_7 : decode cX6_clearScript 7 = .ok (.istore_n 1, 1) := by decide +kernel
theorem dX6_clearScript_8 : decode cX6_clearScript 8 = .ok (.aload_n 0, 1) := by decide +kernel
theorem dX6_clearScript_9 : decode cX6_clearScript 9 = .ok (.getfield 26, 3) := by decide +kernel
theorem dX6_clearScript_12 : decode cX6_clearScript 12 = .ok (.iconst 0, 1) := by decide +kernel
theorem dX6_clearScript_13 : decode cX6_clearScript 13 = .ok (.putfield 233, 3) := by decide +kernel
theorem dX6_clearScript_16 : decode cX6_clearScript 16 = .ok (.iload_n 1, 1) := by decide +kernel
theorem dX6_clearScript_17 : decode cX6_clearScript 17 = .ok (.ireturn, 1) := by decide +kernel
set_option maxRecDepth 20000 in
theorem ggX6_run_X2_findFault : GoodIn wsX6_run wsX2_findFault := goodIn_r _ [10, 11, 12, 13, 14, 9, 15, 16, 17, 18, 19, 20, 21, 22, 23, 24, 25, 26, 27, 28, 29, 30, 31, 32, 33, 34, 35, 36, 37, 38, 39, 40, 41, 42, 43, 44, 45, 46, 47, 48, 49, 50, 51, 52, 53, 54, 55, 56, 57, 58, 59, 60, 61, 62, 63, 64, 65, 66, 67, 68, 69, 70, 71, 72, 73, 74, 75, 76, 77, 78, 79, 80, 81, 82, 83, 84, 85, 86, 87, 88, 89, 90, 91, 92, 93, 94, 95, 96, 97, 98, 99, 100, 101, 102, 103, 104, 105, 106, 107, 108, 109, 110, 111, 112, 113, 285, 286, 287, 288, 289, 290] (by decide +kernel) (by decide +kernel)
set_option maxRecDepth 20000 in
theorem gX6_run_X2_findFault : GoodIn wsX6_run (wsV RX6 236 RX2 yX2_findFault wsX2_findFault) := goodIn_app (goodIn_of _ (by decide +kernel)) ggX6_run_X2_findFault
set_option maxRecDepth 20000 in
theorem ggX6_run_X5_push : GoodIn wsX6_run wsX5_push := goodIn_r _ [118, 119, 120, 121, 122, 123, 124, 125, 126, 127, 128, 129, 130, 131, 132, 133, 134, 135, 136, 137, 138, 139, 291, 292, 293, 294, 295, 296, 297, 298, 299, 300, 301, 302] (by decide +kernel) (by decide +kernel)
set_option maxRecDepth 20000 in
theorem gX6_run_X5_push : GoodIn wsX6_run (wsV RX6 48 RX5 yX5_push wsX5_push) := goodIn_app (goodIn_of _ (by decide +kernel)) ggX6_run_X5_push
set_option maxRecDepth 20000 in
theorem ggX6_run_X2_rewind : GoodIn wsX6_run wsX2_rewind := goodIn_r _ [15, 16, 11, 285, 286, 287, 288, 289, 290] (by decide +kernel) (by decide +kernel)
set_option maxRecDepth 20000 in
theorem gX6_run_X2_rewind : GoodIn wsX6_run (wsV RX6 239 RX2 yX2_rewind wsX2_rewind) := goodIn_app (goodIn_of _ (by decide +kernel)) ggX6_run_X2_rewind
set_option maxRecDepth 20000 in
theorem ggX6_run_X2_readCommand : GoodIn wsX6_run wsX2_readCommand := goodIn_r _ [20, 16, 21, 22, 23, 24, 25, 9, 26, 27, 28, 29, 30, 31, 32, 33, 34, 35, 36, 37, 38, 39, 40, 41, 42, 43, 44, 45, 46, 47, 48, 49, 50, 51, 52, 53, 54, 55, 56, 57, 58, 59, 60, 61, 62, 63, 64, 65, 66, 67, 68, 69, 70, 71, 72, 73, 74, 75, 76, 77, 78, 79, 80, 81, 82, 83, 84, 85, 86, 87, 88, 89, 90, 91, 92, 93, 94, 11, 95, 96, 97, 98, 99, 100, 101, 102, 103, 104, 105, 106, 107, 108, 109, 110, 111, 112, 113, 285, 286, 287, 288, 289, 290] (by decide +kernel) (by decide +kernel)
set_option maxRecDepth 20000 in
theorem gX6_run_X2_readCommand : GoodIn wsX6_run (wsV RX6 242 RX2 yX2_readCommand wsX2_readCommand) := goodIn_app (goodIn_of _ (by decide +kernel)) ggX6_run_X2_readCommand
set_option maxRecDepth 20000 in
theorem ggX6_run_X6_refusalOfCommand : GoodIn wsX6_run wsX6_refusalOfCommand := goodIn_r _ [145, 146, 147, 148, 33, 149, 3, 150, 151, 152, 153, 154, 32, 34, 155, 156, 157, 158, 159, 160, 161, 162, 163, 164, 165, 166, 167, 168, 280, 281, 282, 283, 284, 294, 295, 296, 297, 298, 299, 300, 301, 302] (by decide +kernel) (by decide +kernel)
set_option maxRecDepth 20000 in
theorem gX6_run_X6_refusalOfCommand : GoodIn wsX6_run (wsV RX6 252 RX6 yX6_refusalOfCommand wsX6_refusalOfCommand) := goodIn_app (goodIn_of _ (by decide +kernel)) ggX6_run_X6_refusalOfCommand
set_option maxRecDepth 20000 in
theorem ggX6_run_X6_carryOut : GoodIn wsX6_run wsX6_carryOut := goodIn_r _ [172, 173, 174, 175, 33, 176, 3, 177, 178, 179, 129, 180, 131, 132, 133, 181, 182, 183, 184, 185, 186, 187, 188, 189, 190, 191, 192, 193, 194, 195, 196, 197, 198, 199, 200, 201, 202, 203, 204, 205, 206, 207, 208, 209, 210, 211, 212, 213, 214, 215, 216, 217, 218, 219, 220, 221, 222, 223, 224, 225, 226, 227, 228, 229, 230, 231, 232, 233, 234, 235, 236, 237, 238, 239, 240, 241, 242, 243, 244, 245, 246, 247, 248, 249, 250, 251, 252, 253, 254, 255, 256, 257, 258, 259, 260, 261, 262, 134, 135, 263, 264, 265, 266, 267, 268, 269, 270, 271, 272, 273, 274, 275, 276, 139, 277, 278, 279, 280, 281, 282, 283, 284, 294, 295, 296, 297, 298, 299, 300, 301, 302, 303, 304, 305, 306, 307, 308] (by decide +kernel) (by decide +kernel)
set_option maxRecDepth 20000 in
theorem gX6_run_X6_carryOut : GoodIn wsX6_run (wsV RX6 256 RX6 yX6_carryOut wsX6_carryOut) := goodIn_app (goodIn_of _ (by decide +kernel)) ggX6_run_X6_carryOut
theorem dX6_run_0 : decode cX6_run 0 = .ok (.aload_n 0, 1) := by decide +kernel
theorem dX6_run_1 : decode cX6_run 1 = .ok (.getfield 26, 3) := by decide +kernel
theorem dX6_run_4 : decode cX6_run 4 = .ok (.invokevirtual 236, 3) := by decide +kernel
theorem dX6_run_7 : decode cX6_run 7 = .ok (.istore_n 1, 1) := by decide +kernel
theorem dX6_run_8 : decode cX6_run 8 = .ok (.iload_n 1, 1) := by decide +kernel
theorem dX6_run_9 : decode cX6_run 9 = .ok (.iconst (-1), 1) := by decide +kernel
theorem dX6_run_10 : decode cX6_run 10 = .ok (.if_icmp .eq 8, 3) := by decide +kernel
theorem dX6_run_13 : decode cX6_run 13 = .ok (.bipush (-10), 2) := by decide +kernel
theorem dX6_run_15 : decode cX6_run 15 = .ok (.iload_n 1, 1) := by decide +kernel
theorem dX6_run_16 : decode cX6_run 16 = .ok (.isub, 1) := by decide +kernel
theorem dX6_run_17 : decode cX6_run 17 = .ok (.ireturn, 1) := by decide +kernel
theorem dX6_run_18 : decode cX6_run 18 = .ok (.aload_n 0, 1) := by decide +kernel
theorem dX6_run_19 : decode cX6_run 19 = .ok (.getfield 19, 3) := by decide +kernel
theorem dX6_run_22 : decode cX6_run 22 = .ok (.aload_n 0, 1) := by decide +kernel
theorem dX6_run_23 : decode cX6_run 23 = .ok (.getfield 10, 3) := by decide +kernel
theorem dX6_run_26 : decode cX6_run 26 = .ok (.invokevirtual 48, 3) := by decide +kernel
theorem dX6_run_29 : decode cX6_run 29 = .ok (.aload_n 0, 1) := by decide +kernel
theorem dX6_run_30 : decode cX6_run 30 = .ok (.getfield 26, 3) := by decide +kernel
theorem dX6_run_33 : decode cX6_run 33 = .ok (.invokevirtual 239, 3) := by decide +kernel
theorem dX6_run_36 : decode cX6_run 36 = .ok (.iconst 0, 1) := by decide +kernel
theorem dX6_run_37 : decode cX6_run 37 = .ok (.istore_n 2, 1) := by decide +kernel
theorem dX6_run_38 : decode cX6_run 38 = .ok (.iload_n 2, 1) := by decide +kernel
theorem dX6_run_39 : decode cX6_run 39 = .ok (.bipush 120, 2) := by decide +kernel
theorem dX6_run_41 : decode cX6_run 41 = .ok (.if_icmp .ge 58, 3) := by decide +kernel
theorem dX6_run_44 : decode cX6_run 44 = .ok (.aload_n 0, 1) := by decide +kernel
theorem dX6_run_45 : decode cX6_run 45 = .ok (.getfield 26, 3) := by decide +kernel
theorem dX6_run_48 : decode cX6_run 48 = .ok (.invokevirtual 242, 3) := by decide +kernel
theorem dX6_run_51 : decode cX6_run 51 = .ok (.ifCond .eq 48, 3) := by decide +kernel
theorem dX6_run_54 : decode cX6_run 54 = .ok (.aload_n 0, 1) := by decide +kernel
theorem dX6_run_55 : decode cX6_run 55 = .ok (.aload_n 0, 1) := by decide +kernel
theorem dX6_run_56 : decode cX6_run 56 = .ok (.getfield 26, 3) := by decide +kernel
theorem dX6_run_59 : decode cX6_run 59 = .ok (.getfield 246, 3) := by decide +kernel
theorem dX6_run_62 : decode cX6_run 62 = .ok (.aload_n 0, 1) := by decide +kernel
theorem dX6_run_63 : decode cX6_run 63 = .ok (.getfield 26, 3) := by decide +kernel
theorem dX6_run_66 : decode cX6_run 66 = .ok (.getfield 249, 3) := by decide +kernel
theorem dX6_run_69 : decode cX6_run 69 = .ok (.invokevirtual 252, 3) := by decide +kernel
theorem dX6_run_72 : decode cX6_run 72 = .ok (.ifCond .ne 27, 3) := by decide +kernel
theorem dX6_run_75 : decode cX6_run 75 = .ok (.aload_n 0, 1) := by decide +kernel
theorem dX6_run_76 : decode cX6_run 76 = .ok (.aload_n 0, 1) := by decide +kernel
theorem dX6_run_77 : decode cX6_run 77 = .ok (.getfield 26, 3) := by decide +kernel
theorem dX6_run_80 : decode cX6_run 80 = .ok (.getfield 246, 3) := by decide +kernel
theorem dX6_run_83 : decode cX6_run 83 = .ok (.aload_n 0, 1) := by decide +kernel
theorem dX6_run_84 : decode cX6_run 84 = .ok (.getfield 26, 3) := by decide +kernel
theorem dX6_run_87 : decode cX6_run 87 = .ok (.getfield 249, 3) := by decide +kernel
theorem dX6_run_90 : decode cX6_run 90 = .ok (.invokevirtual 256, 3) := by decide +kernel
theorem dX6_run_93 : decode cX6_run 93 = .ok (.iinc 2 1, 3) := by decide +kernel
theorem dX6_run_96 : decode cX6_run 96 = .ok (.goto (-58), 3) := by decide +kernel
theorem dX6_run_99 : decode cX6_run 99 = .ok (.iload_n 2, 1) := by decide +kernel
theorem dX6_run_100 : decode cX6_run 100 = .ok (.ireturn, 1) := by decide +kernel
theorem dX6_time_0 : decode cX6_time 0 = .ok (.aload_n 0, 1) := by decide +kernel
theorem dX6_time_1 : decode cX6_time 1 = .ok (.getfield 10, 3) := by decide +kernel
theorem dX6_time_4 : decode cX6_time 4 = .ok (.getfield 260, 3) := by decide +kernel
theorem dX6_time_7 : decode cX6_time 7 = .ok (.ireturn, 1) := by decide +kernel
set_option maxRecDepth 20000 in
theorem ggX6_undo_X6_throwIf : GoodIn wsX6_undo wsX6_throwIf := goodIn_ca (goodIn_ca (goodIn_ca (goodIn_r _ [8, 9, 10, 11, 12, 13, 14] (by decide +kernel) (by decide +kernel)) (goodIn_sub (fun _ h => List.mem_cons_of_mem _ (List.mem_append_left _ (List.mem_append_left _ (List.mem_append_right _ h)))) (by decide +kernel))) (goodIn_sub (fun _ h => List.mem_cons_of_mem _ (List.mem_append_left _ (List.mem_append_right _ h))) (by decide +kernel))) (goodIn_sub (fun _ h => List.mem_cons_of_mem _ (List.mem_append_right _ h)) (by decide +kernel))
set_option maxRecDepth 20000 in
theorem gX6_undo_X6_throwIf : GoodIn wsX6_undo (va_wsS RX6 44 yX6_throwIf wsX6_throwIf) := goodIn_app (goodIn_of _ (by decide +kernel)) ggX6_undo_X6_throwIf
set_option maxRecDepth 20000 in
theorem ggX6_undo_X5_pop : GoodIn wsX6_undo wsX5_pop := goodIn_r _ [19, 20, 21, 22, 23, 24, 25, 26, 27, 28, 29, 30, 31, 32, 33, 34, 35, 36, 102, 103, 104, 105, 106, 107, 108, 109, 110, 111, 112, 113] (by decide +kernel) (by decide +kernel)
set_option maxRecDepth 20000 in
theorem gX6_undo_X5_pop : GoodIn wsX6_undo (wsV RX6 265 RX5 yX5_pop wsX5_pop) := goodIn_app (goodIn_of _ (by decide +kernel)) ggX6_undo_X5_pop
set_option maxRecDepth 20000 in
theorem ggX6_undo_X0_plant : GoodIn wsX6_undo wsX0_plant := goodIn_r _ [41, 42, 43, 44, 45, 46, 40, 47, 48, 49, 50, 51, 52, 53, 54, 55, 56, 57, 58, 59, 60, 61, 62, 63, 64, 65, 66, 67, 68, 69, 70, 7, 71, 72, 73, 74, 75, 76, 77, 78, 79, 80, 81, 82, 83, 84, 85, 86, 87, 88, 89, 90, 91, 92, 93, 94, 95, 96, 114, 115, 105, 106, 107, 108, 109, 110, 111, 112, 113, 116, 117, 118, 119] (by decide +kernel) (by decide +kernel)
set_option maxRecDepth 20000 in
theorem gX6_undo_X0_plant : GoodIn wsX6_undo (wsV RX6 196 RX0 yX0_plant wsX0_plant) := goodIn_app (goodIn_of _ (by decide +kernel)) ggX6_undo_X0_plant
theorem dX6_undo_0 : decode cX6_undo 0 = .ok (.aload_n 0, 1) := by decide +kernel
theorem dX6_undo_1 : decode cX6_undo 1 = .ok (.getfield 19, 3) := by decide +kernel
theorem dX6_undo_4 : decode cX6_undo 4 = .ok (.getfield 263, 3) := by decide +kernel
theorem dX6_undo_7 : decode cX6_undo 7 = .ok (.ifCond .le 7, 3) := by decide +kernel
theorem dX6_undo_10 : decode cX6_undo 10 = .ok (.iconst 0, 1) := by decide +kernel
theorem dX6_undo_11 : decode cX6_undo 11 = .ok (.goto 4, 3) := by decide +kernel
theorem dX6_undo_14 : decode cX6_undo 14 = .ok (.iconst 3, 1) := by decide +kernel
theorem dX6_undo_15 : decode cX6_undo 15 = .ok (.invokestatic 44, 3) := by decide +kernel
theorem dX6_undo_18 : decode cX6_undo 18 = .ok (.aload_n 0, 1) := by decide +kernel
theorem dX6_undo_19 : decode cX6_undo 19 = .ok (.getfield 19, 3) := by decide +kernel
theorem dX6_undo_22 : decode cX6_undo 22 = .ok (.aload_n 0, 1) := by decide +kernel
theorem dX6_undo_23 : decode cX6_undo 23 = .ok (.getfield 10, 3) := by decide +kernel
theorem dX6_undo_26 : decode cX6_undo 26 = .ok (.invokevirtual 265, 3) := by decide +kernel
theorem dX6_undo_29 : decode cX6_undo 29 = .ok (.aload_n 0, 1) := by decide +kernel
theorem dX6_undo_30 : decode cX6_undo 30 = .ok (.getfield 33, 3) := by decide +kernel
theorem dX6_undo_33 : decode cX6_undo 33 = .ok (.aload_n 0, 1) := by decide +kernel
theorem dX6_undo_34 : decode cX6_undo 34 = .ok (.getfield 10, 3) := by decide +kernel
theorem dX6_undo_37 : decode cX6_undo 37 = .ok (.invokevirtual 196, 3) := by decide +kernel
theorem dX6_undo_40 : decode cX6_undo 40 = .ok (.aload_n 0, 1) := by decide +kernel
theorem dX6_undo_41 : decode cX6_undo 41 = .ok (.getfield 19, 3) := by decide +kernel
theorem dX6_undo_44 : decode cX6_undo 44 = .ok (.getfield 263, 3) := by decide +kernel
theorem dX6_undo_47 : decode cX6_undo 47 = .ok (.ireturn, 1) := by decide +kernel
set_option maxRecDepth 20000 in
theorem ggX6_digest_X6_time : GoodIn wsX6_digest wsX6_time := goodIn_r _ [11, 12, 13, 228, 229, 230, 231, 232, 242, 243, 244, 245, 246, 247, 248, 249, 250] (by decide +kernel) (by decide +kernel)
set_option maxRecDepth 20000 in
theorem gX6_digest_X6_time : GoodIn wsX6_digest (wsV RX6 272 RX6 yX6_time wsX6_time) := goodIn_app (goodIn_of _ (by decide +kernel)) ggX6_digest_X6_time
set_option maxRecDepth 20000 in
theorem ggX6_digest_X6_mixPoints : GoodIn wsX6_digest wsX6_mixPoints := goodIn_ca (goodIn_ca (goodIn_ca (goodIn_r _ [17, 2, 18, 19, 20, 10, 21, 12, 22, 23, 24, 25, 26, 27, 28, 29, 30, 31, 32, 33, 34, 35, 36, 37, 38, 39, 40, 41, 42, 43, 44, 228, 229, 230, 231, 232, 242, 243, 244, 245, 246, 247, 248, 249, 250] (by decide +kernel) (by decide +kernel)) (goodIn_sub (fun _ h => List.mem_cons_of_mem _ (List.mem_append_left _ (List.mem_append_left _ (List.mem_append_right _ h)))) (by decide +kernel))) (goodIn_sub (fun _ h => List.mem_cons_of_mem _ (List.mem_append_left _ (List.mem_append_right _ h))) (by decide +kernel))) (goodIn_sub (fun _ h => List.mem_cons_of_mem _ (List.mem_append_right _ h)) (by decide +kernel))
set_option maxRecDepth 20000 in
theorem gX6_digest_X6_mixPoints : GoodIn wsX6_digest (wsV RX6 274 RX6 yX6_mixPoints wsX6_mixPoints) := goodIn_app (goodIn_of _ (by decide +kernel)) ggX6_digest_X6_mixPoints
set_option maxRecDepth 20000 in
theorem ggX6_digest_X6_mixLevel : GoodIn wsX6_digest wsX6_mixLevel := goodIn_ca (goodIn_ca (goodIn_ca (goodIn_r _ [48, 2, 49, 50, 51, 52, 53, 54, 10, 55, 56, 27, 28, 29, 30, 31, 32, 33, 34, 35, 36, 37, 38, 39, 40, 41, 57, 58, 59, 60, 61, 62, 63, 64, 65, 66, 67, 68, 69, 70, 71, 72, 73, 74, 75, 76, 77, 78, 79, 80, 81, 82, 83, 84, 85, 86, 87, 88, 89, 90, 91, 92, 93, 94, 95, 96, 97, 98, 99, 100, 101, 102, 103, 104, 105, 106, 107, 108, 109, 110, 111, 112, 113, 114, 115, 116, 117, 118, 119, 120, 121, 122, 123, 124, 125, 126, 127, 128, 129, 130, 131, 132, 133, 134, 135, 136, 137, 138, 139, 140, 141, 142, 143, 144, 145, 146, 147, 148, 228, 229, 230, 231, 232, 251, 252, 253, 254, 255, 256] (by decide +kernel) (by decide +kernel)) (goodIn_sub (fun _ h => List.mem_cons_of_mem _ (List.mem_append_left _ (List.mem_append_left _ (List.mem_append_right _ h)))) (by decide +kernel))) (goodIn_sub (fun _ h => List.mem_cons_of_mem _ (List.mem_append_left _ (List.mem_append_right _ h))) (by decide +kernel))) (goodIn_sub (fun _ h => List.mem_cons_of_mem _ (List.mem_append_right _ h)) (by decide +kernel))
set_option maxRecDepth 20000 in
theorem gX6_digest_X6_mixLevel : GoodIn wsX6_digest (wsV RX6 277 RX6 yX6_mixLevel wsX6_mixLevel) := goodIn_app (goodIn_of _ (by decide +kernel)) ggX6_digest_X6_mixLevel
set_option maxRecDepth 20000 in
theorem ggX6_digest_X6_worst : GoodIn wsX6_digest wsX6_worst := goodIn_r _ [152, 12, 22, 49, 23, 24, 153, 64, 65, 66, 154, 155, 156, 157, 158, 159, 160, 161, 162, 74, 163, 164, 165, 166, 167, 168, 169, 170, 171, 172, 173, 174, 175, 60, 176, 71, 93, 94, 95, 80, 81, 82, 87, 88, 89, 90, 91, 92, 76, 77, 78, 79, 73, 75, 96, 97, 98, 99, 100, 101, 102, 103, 104, 105, 106, 107, 108, 62, 177, 178, 179, 180, 228, 229, 230, 231, 232, 242, 243, 244, 245, 246, 247, 248, 249, 250, 251, 252, 253, 254, 255, 256] (by decide +kernel) (by decide +kernel)
set_option maxRecDepth 20000 in
theorem gX6_digest_X6_worst : GoodIn wsX6_digest (wsV RX6 281 RX6 yX6_worst wsX6_worst) := goodIn_app (goodIn_of _ (by decide +kernel)) ggX6_digest_X6_worst
set_option maxRecDepth 20000 in
theorem ggX6_digest_X6_mixCursors : GoodIn wsX6_digest wsX6_mixCursors := goodIn_ca (goodIn_ca (goodIn_ca (goodIn_r _ [184, 2, 185, 186, 187, 10, 188, 12, 189, 190, 191, 49, 50, 27, 28, 29, 30, 31, 32, 33, 34, 35, 36, 37, 38, 39, 40, 41, 192, 193, 194, 195, 196, 197, 198, 199, 200, 201, 202, 203, 204, 205, 206, 207, 208, 60, 209, 62, 71, 210, 211, 74, 212, 213, 214, 65, 215, 216, 64, 66, 79, 73, 75, 217, 103, 104, 99, 100, 101, 218, 97, 98, 219, 126, 127, 80, 81, 82, 228, 229, 230, 231, 232, 242, 243, 244, 245, 246, 247, 248, 249, 250, 251, 252, 253, 254, 255, 256] (by decide +kernel) (by decide +kernel)) (goodIn_sub (fun _ h => List.mem_cons_of_mem _ (List.mem_append_left _ (List.mem_append_left _ (List.mem_append_right _ h)))) (by decide +kernel))) (goodIn_sub (fun _ h => List.mem_cons_of_mem _ (List.mem_append_left _ (List.mem_append_right _ h))) (by decide +kernel))) (goodIn_sub (fun _ h => List.mem_cons_of_mem _ (List.mem_append_right _ h)) (by decide +kernel))
set_option maxRecDepth 20000 in
theorem gX6_digest_X6_mixCursors : GoodIn wsX6_digest (wsV RX6 285 RX6 yX6_mixCursors wsX6_mixCursors) := goodIn_app (goodIn_of _ (by decide +kernel)) ggX6_digest_X6_mixCursors
set_option maxRecDepth 20000 in
theorem ggX6_digest_X6_closest : GoodIn wsX6_digest wsX6_closest := goodIn_ca (goodIn_ca (goodIn_ca (goodIn_r _ [223, 12, 30, 31, 10, 32, 33, 34, 35, 36, 37, 38, 39, 40, 41, 224, 225, 226, 195, 227, 197, 202, 203, 198, 199, 200, 201, 204, 205, 228, 229, 230, 231, 232, 242, 243, 244, 245, 246, 247, 248, 249, 250] (by decide +kernel) (by decide +kernel)) (goodIn_sub (fun _ h => List.mem_cons_of_mem _ (List.mem_append_left _ (List.mem_append_left _ (List.mem_append_right _ h)))) (by decide +kernel))) (goodIn_sub (fun _ h => List.mem_cons_of_mem _ (List.mem_append_left _ (List.mem_append_right _ h))) (by decide +kernel))) (goodIn_sub (fun _ h => List.mem_cons_of_mem _ (List.mem_append_right _ h)) (by decide +kernel))
set_option maxRecDepth 20000 in
theorem gX6_digest_X6_closest : GoodIn wsX6_digest (wsV RX6 288 RX6 yX6_closest wsX6_closest) := goodIn_app (goodIn_of _ (by decide +kernel)) ggX6_digest_X6_closest
theorem dX6_digest_0 : decode cX6_digest 0 = .ok (.ldc2_w 268, 3) := by decide +kernel
theorem dX6_digest_3 : decode cX6_digest 3 = .ok (.lstore_n 1, 1) := by decide +kernel
theorem dX6_digest_4 : decode cX6_digest 4 = .ok (.ldc2_w 270, 3) := by decide +kernel
theorem dX6_digest_7 : decode cX6_digest 7 = .ok (.lload_n 1, 1) := by decide +kernel
theorem dX6_digest_8 : decode cX6_digest 8 = .ok (.lmul, 1) := by decide +kernel
theorem dX6_digest_9 : decode cX6_digest 9 = .ok (.aload_n 0, 1) := by decide +kernel
theorem dX6_digest_10 : decode cX6_digest 10 = .ok (.getfield 19, 3) := by decide +kernel
theorem dX6_digest_13 : decode cX6_digest 13 = .ok (.getfield 263, 3) := by decide +kernel
theorem dX6_digest_16 : decode cX6_digest 16 = .ok (.i2l, 1) := by decide +kernel
theorem dX6_digest_17 : decode cX6_digest 17 = .ok (.ladd, 1) := by decide +kernel
theorem dX6_digest_18 : decode cX6_digest 18 = .ok (.lstore_n 1, 1) := by decide +kernel
theorem dX6_digest_19 : decode cX6_digest 19 = .ok (.ldc2_w 270, 3) := by decide +kernel
theorem dX6_digest_22 : decode cX6_digest 22 = .ok (.lload_n 1, 1) := by decide +kernel
theorem dX6_digest_23 : decode cX6_digest 23 = .ok (.lmul, 1) := by decide +kernel
theorem dX6_digest_24 : decode cX6_digest 24 = .ok (.aload_n 0, 1) := by decide +kernel
theorem dX6_digest_25 : decode cX6_digest 25 = .ok (.getfield 26, 3) := by decide +kernel
theorem dX6_digest_28 : decode cX6_digest 28 = .ok (.getfield 233, 3) := by decide +kernel
theorem dX6_digest_31 : decode cX6_digest 31 = .ok (.i2l, 1) := by decide +kernel
theorem dX6_digest_32 : decode cX6_digest 32 = .ok (.ladd, 1) := by decide +kernel
theorem dX6_digest_33 : decode cX6_digest 33 = .ok (.lstore_n 1, 1) := by decide +kernel
theorem dX6_digest_34 : decode cX6_digest 34 = .ok (.ldc2_w 270, 3) := by decide +kernel
theorem dX6_digest_37 : decode cX6_digest 37 = .ok (.lload_n 1, 1) := by decide +kernel
theorem dX6_digest_38 : decode cX6_digest 38 = .ok (.lmul, 1) := by decide +kernel
theorem dX6_digest_39 : decode cX6_digest 39 = .ok (.aload_n 0, 1) := by decide +kernel
theorem dX6_digest_40 : decode cX6_digest 40 = .ok (.invokevirtual 272, 3) := by decide +kernel
theorem dX6_digest_43 : decode cX6_digest 43 = .ok (.i2l, 1) := by decide +kernel
theorem dX6_digest_44 : decode cX6_digest 44 = .ok (.ladd, 1) := by decide +kernel
theorem dX6_digest_45 : decode cX6_digest 45 = .ok (.lstore_n 1, 1) := by decide +kernel
theorem dX6_digest_46 : decode cX6_digest 46 = .ok (.aload_n 0, 1) := by decide +kernel
theorem dX6_digest_47 : decode cX6_digest 47 = .ok (.lload_n 1, 1) := by decide +kernel
theorem dX6_digest_48 : decode cX6_digest 48 = .ok (.invokevirtual 274, 3) := by decide +kernel
theorem dX6_digest_51 : decode cX6_digest 51 = .ok (.lstore_n 1, 1) := by decide +kernel
theorem dX6_digest_52 : decode cX6_digest 52 = .ok (.iconst 0, 1) := by decide +kernel
theorem dX6_digest_53 : decode cX6_digest 53 = .ok (.istore_n 3, 1) := by decide +kernel
theorem dX6_digest_54 : decode cX6_digest 54 = .ok (.iload_n 3, 1) := by decide +kernel
theorem dX6_digest_55 : decode cX6_digest 55 = .ok (.iconst 5, 1) := by decide +kernel
theorem dX6_digest_56 : decode cX6_digest 56 = .ok (.if_icmp .ge 16, 3) := by decide +kernel
theorem dX6_digest_59 : decode cX6_digest 59 = .ok (.aload_n 0, 1) := by decide +kernel
theorem dX6_digest_60 : decode cX6_digest 60 = .ok (.lload_n 1, 1) := by decide +kernel
theorem dX6_digest_61 : decode cX6_digest 61 = .ok (.iload_n 3, 1) := by decide +kernel
theorem dX6_digest_62 : decode cX6_digest 62 = .ok (.invokevirtual 277, 3) := by decide +kernel
theorem dX6_digest_65 : decode cX6_digest 65 = .ok (.lstore_n 1, 1) := by decide +kernel
theorem dX6_digest_66 : decode cX6_digest 66 = .ok (.iinc 3 1, 3) := by decide +kernel
theorem dX6_digest_69 : decode cX6_digest 69 = .ok (.goto (-15), 3) := by decide +kernel
theorem dX6_digest_72 : decode cX6_digest 72 = .ok (.ldc2_w 270, 3) := by decide +kernel
theorem dX6_digest_75 : decode cX6_digest 75 = .ok (.lload_n 1, 1) := by decide +kernel
theorem dX6_digest_76 : decode cX6_digest 76 = .ok (.lmul, 1) := by decide +kernel
theorem dX6_digest_77 : decode cX6_digest 77 = .ok (.aload_n 0, 1) := by decide +kernel
theorem dX6_digest_78 : decode cX6_digest 78 = .ok (.iconst 1, 1) := by decide +kernel
theorem dX6_digest_79 : decode cX6_digest 79 = .ok (.invokevirtual 281, 3) := by decide +kernel
theorem dX6_digest_82 : decode cX6_digest 82 = .ok (.i2l, 1) := by decide +kernel
theorem dX6_digest_83 : decode cX6_digest 83 = .ok (.ladd, 1) := by decide +kernel
theorem dX6_digest_84 : decode cX6_digest 84 = .ok (.lstore_n 1, 1) := by decide +kernel
theorem dX6_digest_85 : decode cX6_digest 85 = .ok (.ldc2_w 270, 3) := by decide +kernel
theorem dX6_digest_88 : decode cX6_digest 88 = .ok (.lload_n 1, 1) := by decide +kernel
theorem dX6_digest_89 : decode cX6_digest 89 = .ok (.lmul, 1) := by decide +kernel
theorem dX6_digest_90 : decode cX6_digest 90 = .ok (.aload_n 0, 1) := by decide +kernel
theorem dX6_digest_91 : decode cX6_digest 91 = .ok (.iconst 0, 1) := by decide +kernel
theorem dX6_digest_92 : decode cX6_digest 92 = .ok (.invokevirtual 281, 3) := by decide +kernel
theorem dX6_digest_95 : decode cX6_digest 95 = .ok (.i2l, 1) := by decide +kernel
theorem dX6_digest_96 : decode cX6_digest 96 = .ok (.ladd, 1) := by decide +kernel
theorem dX6_digest_97 : decode cX6_digest 97 = .ok (.lstore_n 1, 1) := by decide +kernel
theorem dX6_digest_98 : decode cX6_digest 98 = .ok (.aload_n 0, 1) := by decide +kernel
theorem dX6_digest_99 : decode cX6_digest 99 = .ok (.lload_n 1, 1) := by decide +kernel
theorem dX6_digest_100 : decode cX6_digest 100 = .ok (.invokevirtual 285, 3) := by decide +kernel
theorem dX6_digest_103 : decode cX6_digest 103 = .ok (.lstore_n 1, 1) := by decide +kernel
theorem dX6_digest_104 : decode cX6_digest 104 = .ok (.iconst 0, 1) := by decide +kernel
theorem dX6_digest_105 : decode cX6_digest 105 = .ok (.istore_n 3, 1) := by decide +kernel
theorem dX6_digest_106 : decode cX6_digest 106 = .ok (.iload_n 3, 1) := by decide +kernel
theorem dX6_digest_107 : decode cX6_digest 107 = .ok (.iconst 2, 1) := by decide +kernel
theorem dX6_digest_108 : decode cX6_digest 108 = .ok (.if_icmp .gt 22, 3) := by decide +kernel
theorem dX6_digest_111 : decode cX6_digest 111 = .ok (.ldc2_w 270, 3) := by decide +kernel
theorem dX6_digest_114 : decode cX6_digest 114 = .ok (.lload_n 1, 1) := by decide +kernel
theorem dX6_digest_115 : decode cX6_digest 115 = .ok (.lmul, 1) := by decide +kernel
theorem dX6_digest_116 : decode cX6_digest 116 = .ok (.aload_n 0, 1) := by decide +kernel
theorem dX6_digest_117 : decode cX6_digest 117 = .ok (.iload_n 3, 1) := by decide +kernel
theorem dX6_digest_118 : decode cX6_digest 118 = .ok (.invokevirtual 288, 3) := by decide +kernel
theorem dX6_digest_121 : decode cX6_digest 121 = .ok (.i2l, 1) := by decide +kernel
theorem dX6_digest_122 : decode cX6_digest 122 = .ok (.ladd, 1) := by decide +kernel
theorem dX6_digest_123 : decode cX6_digest 123 = .ok (.lstore_n 1, 1) := by decide +kernel
theorem dX6_digest_124 : decode cX6_digest 124 = .ok (.iinc 3 1, 3) := by decide +kernel
theorem dX6_digest_127 : decode cX6_digest 127 = .ok (.goto (-21), 3) := by decide +kernel
theorem dX6_digest_130 : decode cX6_digest 130 = .ok (.lload_n 1, 1) := by decide +kernel
theorem dX6_digest_131 : decode cX6_digest 131 = .ok (.lreturn, 1) := by decide +kernel
set_option maxRecDepth 20000 in
theorem ggX6_mixPoints_X6_point : GoodIn wsX6_mixPoints wsX6_point := goodIn_ca (goodIn_ca (goodIn_ca (goodIn_r _ [6, 7, 8, 9, 10, 11, 12, 13, 14, 5, 15, 16, 17, 18, 19, 20, 21, 22, 23, 24, 25, 26, 27, 28, 29, 30, 31, 32, 33, 34, 35, 36, 37, 38, 39, 40, 41, 42, 43, 44] (by decide +kernel) (by decide +kernel)) (goodIn_sub (fun _ h => List.mem_cons_of_mem _ (List.mem_append_left _ (List.mem_append_left _ (List.mem_append_right _ h)))) (by decide +kernel))) (goodIn_sub (fun _ h => List.mem_cons_of_mem _ (List.mem_append_left _ (List.mem_append_right _ h))) (by decide +kernel))) (goodIn_sub (fun _ h => List.mem_cons_of_mem _ (List.mem_append_right _ h)) (by decide +kernel))
set_option maxRecDepth 20000 in
theorem gX6_mixPoints_X6_point : GoodIn wsX6_mixPoints (wsV RX6 291 RX6 yX6_point wsX6_point) := goodIn_app (goodIn_of _ (by decide +kernel)) ggX6_mixPoints_X6_point
theorem dX6_mixPoints_0 : decode cX6_mixPoints 0 = .ok (.lload_n 1, 1) := by decide +kernel
theorem dX6_mixPoints_1 : decode cX6_mixPoints 1 = .ok (.lstore_n 3, 1) := by decide +kernel
theorem dX6_mixPoints_2 : decode cX6_mixPoints 2 = .ok (.iconst 0, 1) := by decide +kernel
theorem dX6_mixPoints_3 : decode cX6_mixPoints 3 = .ok (.istore 5, 2) := by decide +kernel
theorem dX6_mixPoints_5 : decode cX6_mixPoints 5 = .ok (.iload 5, 2) := by decide +kernel
theorem dX6_mixPoints_7 : decode cX6_mixPoints 7 = .ok (.bipush 24, 2) := by decide +kernel
theorem dX6_mixPoints_9 : decode cX6_mixPoints 9 = .ok (.if_icmp .ge 40, 3) := by decide +kernel
theorem dX6_mixPoints_12 : decode cX6_mixPoints 12 = .ok (.iconst 0, 1) := by decide +kernel
theorem dX6_mixPoints_13 : decode cX6_mixPoints 13 = .ok (.istore 6, 2) := by decide +kernel
theorem dX6_mixPoints_15 : decode cX6_mixPoints 15 = .ok (.iload 6, 2) := by decide +kernel
theorem dX6_mixPoints_17 : decode cX6_mixPoints 17 = .ok (.iconst 5, 1) := by decide +kernel
theorem dX6_mixPoints_18 : decode cX6_mixPoints 18 = .ok (.if_icmp .gt 25, 3) := by decide +kernel
theorem dX6_mixPoints_21 : decode cX6_mixPoints 21 = .ok (.ldc2_w 270, 3) := by decide +kernel
theorem dX6_mixPoints_24 : decode cX6_mixPoints 24 = .ok (.lload_n 3, 1) := by decide +kernel
theorem dX6_mixPoints_25 : decode cX6_mixPoints 25 = .ok (.lmul, 1) := by decide +kernel
theorem dX6_mixPoints_26 : decode cX6_mixPoints 26 = .ok (.aload_n 0, 1) := by decide +kernel
theorem dX6_mixPoints_27 : decode cX6_mixPoints 27 = .ok (.iload 5, 2) := by decide +kernel
theorem dX6_mixPoints_29 : decode cX6_mixPoints 29 = .ok (.iload 6, 2) := by decide +kernel
theorem dX6_mixPoints_31 : decode cX6_mixPoints 31 = .ok (.invokevirtual 291, 3) := by decide +kernel
theorem dX6_mixPoints_34 : decode cX6_mixPoints 34 = .ok (.i2l, 1) := by decide +kernel
theorem dX6_mixPoints_35 : decode cX6_mixPoints 35 = .ok (.ladd, 1) := by decide +kernel
theorem dX6_mixPoints_36 : decode cX6_mixPoints 36 = .ok (.lstore_n 3, 1) := by decide +kernel
theorem dX6_mixPoints_37 : decode cX6_mixPoints 37 = .ok (.iinc 6 1, 3) := by decide +kernel
theorem dX6_mixPoints_40 : decode cX6_mixPoints 40 = .ok (.goto (-25), 3) := by decide +kernel
theorem dX6_mixPoints_43 : decode cX6_mixPoints 43 = .ok (.iinc 5 1, 3) := by decide +kernel
theorem dX6_mixPoints_46 : decode cX6_mixPoints 46 = .ok (.goto (-41), 3) := by decide +kernel
theorem dX6_mixPoints_49 : decode cX6_mixPoints 49 = .ok (.lload_n 3, 1) := by decide +kernel
theorem dX6_mixPoints_50 : decode cX6_mixPoints 50 = .ok (.lreturn, 1) := by decide +kernel
set_option maxRecDepth 20000 in
theorem ggX6_mixLevel_X6_level : GoodIn wsX6_mixLevel wsX6_level := goodIn_ca (goodIn_ca (goodIn_ca (goodIn_r _ [9, 2, 3, 10, 4, 11, 12, 8, 13, 14, 15, 16, 17, 18, 19, 20, 21, 22, 23, 24, 25, 26, 27, 28, 29, 30, 31, 32, 33, 34, 35, 36, 37, 38, 39, 40, 41, 42, 43, 44, 45, 46, 47, 48, 49, 50, 51, 52, 53, 54, 55, 56, 57, 58, 59, 60, 61, 62, 63, 64, 65, 66, 67, 68, 69, 70, 71, 72, 73, 74, 75, 76, 77, 78, 79, 80, 81, 118, 119, 120, 121, 122, 123, 124, 125, 126, 127, 128] (by decide +kernel) (by decide +kernel)) (goodIn_sub (fun _ h => List.mem_cons_of_mem _ (List.mem_append_left _ (List.mem_append_left _ (List.mem_append_right _ h)))) (by decide +kernel))) (goodIn_sub (fun _ h => List.mem_cons_of_mem _ (List.mem_append_left _ (List.mem_append_right _ h))) (by decide +kernel))) (goodIn_sub (fun _ h => List.mem_cons_of_mem _ (List.mem_append_right _ h)) (by decide +kernel))
set_option maxRecDepth 20000 in
theorem gX6_mixLevel_X6_level : GoodIn wsX6_mixLevel (wsV RX6 294 RX6 yX6_level wsX6_level) := goodIn_app (goodIn_of _ (by decide +kernel)) ggX6_mixLevel_X6_level
set_option maxRecDepth 20000 in
theorem ggX6_mixLevel_X6_node : GoodIn wsX6_mixLevel wsX6_node := goodIn_ca (goodIn_ca (goodIn_ca (goodIn_r _ [85, 2, 3, 86, 87, 88, 89, 8, 90, 4, 14, 15, 16, 11, 12, 13, 17, 18, 19, 20, 21, 22, 23, 24, 25, 91, 42, 43, 44, 92, 72, 73, 68, 69, 70, 93, 66, 67, 94, 95, 96, 49, 50, 51, 97, 37, 38, 29, 39, 40, 41, 45, 46, 47, 48, 98, 99, 100, 101, 60, 61, 102, 103, 104, 105, 62, 63, 64, 106, 107, 108, 109, 110, 111, 112, 118, 119, 120, 121, 122, 123, 124, 125, 126, 127, 128] (by decide +kernel) (by decide +kernel)) (goodIn_sub (fun _ h => List.mem_cons_of_mem _ (List.mem_append_left _ (List.mem_append_left _ (List.mem_append_right _ h)))) (by decide +kernel))) (goodIn_sub (fun _ h => List.mem_cons_of_mem _ (List.mem_append_left _ (List.mem_append_right _ h))) (by decide +kernel))) (goodIn_sub (fun _ h => List.mem_cons_of_mem _ (List.mem_append_right _ h)) (by decide +kernel))
set_option maxRecDepth 20000 in
theorem gX6_mixLevel_X6_node : GoodIn wsX6_mixLevel (wsV RX6 297 RX6 yX6_node wsX6_node) := goodIn_app (goodIn_of _ (by decide +kernel)) ggX6_mixLevel_X6_node
set_option maxRecDepth 20000 in
theorem ggX6_mixLevel_X6_child : GoodIn wsX6_mixLevel wsX6_child := goodIn_ca (goodIn_ca (goodIn_ca (goodIn_r _ [116, 2, 3, 87, 88, 89, 8, 90, 4, 14, 15, 16, 11, 12, 13, 17, 18, 19, 20, 21, 22, 23, 24, 25, 117, 57, 58, 29, 59, 40, 60, 61, 45, 46, 43, 47, 48, 42, 44, 49, 50, 51, 62, 63, 64, 65, 66, 67, 68, 69, 70, 71, 72, 73, 74, 75, 76, 77, 31, 118, 119, 120, 121, 122, 123, 124, 125, 126, 127, 128] (by decide +kernel) (by decide +kernel)) (goodIn_sub (fun _ h => List.mem_cons_of_mem _ (List.mem_append_left _ (List.mem_append_left _ (List.mem_append_right _ h)))) (by decide +kernel))) (goodIn_sub (fun _ h => List.mem_cons_of_mem _ (List.mem_append_left _ (List.mem_append_right _ h))) (by decide +kernel))) (goodIn_sub (fun _ h => List.mem_cons_of_mem _ (List.mem_append_right _ h)) (by decide +kernel))
set_option maxRecDepth 20000 in
theorem gX6_mixLevel_X6_child : GoodIn wsX6_mixLevel (wsV RX6 300 RX6 yX6_child wsX6_child) := goodIn_app (goodIn_of _ (by decide +kernel)) ggX6_mixLevel_X6_child
theorem dX6_mixLevel_0 : decode cX6_mixLevel 0 = .ok (.lload_n 1, 1) := by decide +kernel
theorem dX6_mixLevel_1 : decode cX6_mixLevel 1 = .ok (.lstore 4, 2) := by decide +kernel
theorem dX6_mixLevel_3 : decode cX6_mixLevel 3 = .ok (.iconst 0, 1) := by decide +kernel
theorem dX6_mixLevel_4 : decode cX6_mixLevel 4 = .ok (.istore 6, 2) := by decide +kernel
theorem dX6_mixLevel_6 : decode cX6_mixLevel 6 = .ok (.iload 6, 2) := by decide +kernel
theorem dX6_mixLevel_8 : decode cX6_mixLevel 8 = .ok (.iconst 4, 1) := by decide +kernel
theorem dX6_mixLevel_9 : decode cX6_mixLevel 9 = .ok (.if_icmp .gt 26, 3) := by decide +kernel
theorem dX6_mixLevel_12 : decode cX6_mixLevel 12 = .ok (.ldc2_w 270, 3) := by decide +kernel
theorem dX6_mixLevel_15 : decode cX6_mixLevel 15 = .ok (.lload 4, 2) := by decide +kernel
theorem dX6_mixLevel_17 : decode cX6_mixLevel 17 = .ok (.lmul, 1) := by decide +kernel
theorem dX6_mixLevel_18 : decode cX6_mixLevel 18 = .ok (.aload_n 0, 1) := by decide +kernel
theorem dX6_mixLevel_19 : decode cX6_mixLevel 19 = .ok (.iload_n 3, 1) := by decide +kernel
theorem dX6_mixLevel_20 : decode cX6_mixLevel 20 = .ok (.iload 6, 2) := by decide +kernel
theorem dX6_mixLevel_22 : decode cX6_mixLevel 22 = .ok (.invokevirtual 294, 3) := by decide +kernel
theorem dX6_mixLevel_25 : decode cX6_mixLevel 25 = .ok (.i2l, 1) := by decide +kernel
theorem dX6_mixLevel_26 : decode cX6_mixLevel 26 = .ok (.ladd, 1) := by decide +kernel
theorem dX6_mixLevel_27 : decode cX6_mixLevel 27 = .ok (.lstore 4, 2) := by decide +kernel
theorem dX6_mixLevel_29 : decode cX6_mixLevel 29 = .ok (.iinc 6 1, 3) := by decide +kernel
theorem dX6_mixLevel_32 : decode cX6_mixLevel 32 = .ok (.goto (-26), 3) := by decide +kernel
theorem dX6_mixLevel_35 : decode cX6_mixLevel 35 = .ok (.iconst 0, 1) := by decide +kernel
theorem dX6_mixLevel_36 : decode cX6_mixLevel 36 = .ok (.istore 6, 2) := by decide +kernel
theorem dX6_mixLevel_38 : decode cX6_mixLevel 38 = .ok (.iload 6, 2) := by decide +kernel
theorem dX6_mixLevel_40 : decode cX6_mixLevel 40 = .ok (.aload_n 0, 1) := by decide +kernel
theorem dX6_mixLevel_41 : decode cX6_mixLevel 41 = .ok (.getfield 33, 3) := by decide +kernel
theorem dX6_mixLevel_44 : decode cX6_mixLevel 44 = .ok (.getfield 126, 3) := by decide +kernel
theorem dX6_mixLevel_47 : decode cX6_mixLevel 47 = .ok (.iload_n 3, 1) := by decide +kernel
theorem dX6_mixLevel_48 : decode cX6_mixLevel 48 = .ok (.aaload, 1) := by decide +kernel
theorem dX6_mixLevel_49 : decode cX6_mixLevel 49 = .ok (.getfield 136, 3) := by decide +kernel
theorem dX6_mixLevel_52 : decode cX6_mixLevel 52 = .ok (.if_icmp .ge 77, 3) := by decide +kernel
theorem dX6_mixLevel_55 : decode cX6_mixLevel 55 = .ok (.iconst 0, 1) := by decide +kernel
theorem dX6_mixLevel_56 : decode cX6_mixLevel 56 = .ok (.istore 7, 2) := by decide +kernel
theorem dX6_mixLevel_58 : decode cX6_mixLevel 58 = .ok (.iload 7, 2) := by decide +kernel
theorem dX6_mixLevel_60 : decode cX6_mixLevel 60 = .ok (.iconst 5, 1) := by decide +kernel
theorem dX6_mixLevel_61 : decode cX6_mixLevel 61 = .ok (.if_icmp .gt 28, 3) := by decide +kernel
theorem dX6_mixLevel_64 : decode cX6_mixLevel 64 = .ok (.ldc2_w 270, 3) := by decide +kernel
theorem dX6_mixLevel_67 : decode cX6_mixLevel 67 = .ok (.lload 4, 2) := by decide +kernel
theorem dX6_mixLevel_69 : decode cX6_mixLevel 69 = .ok (.lmul, 1) := by decide +kernel
theorem dX6_mixLevel_70 : decode cX6_mixLevel 70 = .ok (.aload_n 0, 1) := by decide +kernel
theorem dX6_mixLevel_71 : decode cX6_mixLevel 71 = .ok (.iload_n 3, 1) := by decide +kernel
theorem dX6_mixLevel_72 : decode cX6_mixLevel 72 = .ok (.iload 6, 2) := by decide +kernel
theorem dX6_mixLevel_74 : decode cX6_mixLevel 74 = .ok (.iload 7, 2) := by decide +kernel
theorem dX6_mixLevel_76 : decode cX6_mixLevel 76 = .ok (.invokevirtual 297, 3) := by decide +kernel
theorem dX6_mixLevel_79 : decode cX6_mixLevel 79 = .ok (.i2l, 1) := by decide +kernel
theorem dX6_mixLevel_80 : decode cX6_mixLevel 80 = .ok (.ladd, 1) := by decide +kernel
theorem dX6_mixLevel_81 : decode cX6_mixLevel 81 = .ok (.lstore 4, 2) := by decide +kernel
theorem dX6_mixLevel_83 : decode cX6_mixLevel 83 = .ok (.iinc 7 1, 3) := by decide +kernel
theorem dX6_mixLevel_86 : decode cX6_mixLevel 86 = .ok (.goto (-28), 3) := by decide +kernel
theorem dX6_mixLevel_89 : decode cX6_mixLevel 89 = .ok (.iconst 0, 1) := by decide +kernel
theorem dX6_mixLevel_90 : decode cX6_mixLevel 90 = .ok (.istore 7, 2) := by decide +kernel
theorem dX6_mixLevel_92 : decode cX6_mixLevel 92 = .ok (.iload 7, 2) := by decide +kernel
theorem dX6_mixLevel_94 : decode cX6_mixLevel 94 = .ok (.iconst 4, 1) := by decide +kernel
theorem dX6_mixLevel_95 : decode cX6_mixLevel 95 = .ok (.if_icmp .ge 28, 3) := by decide +kernel
theorem dX6_mixLevel_98 : decode cX6_mixLevel 98 = .ok (.ldc2_w 270, 3) := by decide +kernel
theorem dX6_mixLevel_101 : decode cX6_mixLevel 101 = .ok (.lload 4, 2) := by decide +kernel
theorem dX6_mixLevel_103 : decode cX6_mixLevel 103 = .ok (.lmul, 1) := by decide +kernel
theorem dX6_mixLevel_104 : decode cX6_mixLevel 104 = .ok (.aload_n 0, 1) := by decide +kernel
theorem dX6_mixLevel_105 : decode cX6_mixLevel 105 = .ok (.iload_n 3, 1) := by decide +kernel
theorem dX6_mixLevel_106 : decode cX6_mixLevel 106 = .ok (.iload 6, 2) := by decide +kernel
theorem dX6_mixLevel_108 : decode cX6_mixLevel 108 = .ok (.iload 7, 2) := by decide +kernel
theorem dX6_mixLevel_110 : decode cX6_mixLevel 110 = .ok (.invokevirtual 300, 3) := by decide +kernel
theorem dX6_mixLevel_113 : decode cX6_mixLevel 113 = .ok (.i2l, 1) := by decide +kernel
theorem dX6_mixLevel_114 : decode cX6_mixLevel 114 = .ok (.ladd, 1) := by decide +kernel
theorem dX6_mixLevel_115 : decode cX6_mixLevel 115 = .ok (.lstore 4, 2) := by decide +kernel
theorem dX6_mixLevel_117 : decode cX6_mixLevel 117 = .ok (.iinc 7 1, 3) := by decide +kernel
theorem dX6_mixLevel_120 : decode cX6_mixLevel 120 = .ok (.goto (-28), 3) := by decide +kernel
theorem dX6_mixLevel_123 : decode cX6_mixLevel 123 = .ok (.iinc 6 1, 3) := by decide +kernel
theorem dX6_mixLevel_126 : decode cX6_mixLevel 126 = .ok (.goto (-88), 3) := by decide +kernel
theorem dX6_mixLevel_129 : decode cX6_mixLevel 129 = .ok (.lload 4, 2) := by decide +kernel
theorem dX6_mixLevel_131 : decode cX6_mixLevel 131 = .ok (.lreturn, 1) := by decide +kernel
set_option maxRecDepth 20000 in
theorem ggX6_mixCursors_X6_cursor : GoodIn wsX6_mixCursors wsX6_cursor := goodIn_ca (goodIn_ca (goodIn_ca (goodIn_r _ [6, 7, 8, 9, 10, 11, 12, 13, 14, 5, 15, 16, 17, 18, 19, 20, 21, 22, 23, 24, 25, 26, 27, 28, 29, 30, 31, 32, 33, 34, 35, 36, 37, 38, 39, 40, 41, 42, 43, 44, 45, 46, 47, 48, 49, 50, 51, 52, 53, 54, 55, 56, 57, 58, 59, 60, 61, 62, 63, 64, 65, 66, 67, 68, 69, 70, 71, 72, 73, 74, 75, 76, 77, 78, 79, 80, 81, 82, 83, 84, 85, 86, 87, 88, 89, 90, 91, 92, 93, 94, 95, 96, 97] (by decide +kernel) (by decide +kernel)) (goodIn_sub (fun _ h => List.mem_cons_of_mem _ (List.mem_append_left _ (List.mem_append_left _ (List.mem_append_right _ h)))) (by decide +kernel))) (goodIn_sub (fun _ h => List.mem_cons_of_mem _ (List.mem_append_left _ (List.mem_append_right _ h))) (by decide +kernel))) (goodIn_sub (fun _ h => List.mem_cons_of_mem _ (List.mem_append_right _ h)) (by decide +kernel))
set_option maxRecDepth 20000 in
theorem gX6_mixCursors_X6_cursor : GoodIn wsX6_mixCursors (wsV RX6 303 RX6 yX6_cursor wsX6_cursor) := goodIn_app (goodIn_of _ (by decide +kernel)) ggX6_mixCursors_X6_cursor
theorem dX6_mixCursors_0 : decode cX6_mixCursors 0 = .ok (.lload_n 1, 1) := by decide +kernel
theorem dX6_mixCursors_1 : decode cX6_mixCursors 1 = .ok (.lstore_n 3, 1) := by decide +kernel
theorem dX6_mixCursors_2 : decode cX6_mixCursors 2 = .ok (.iconst 0, 1) := by decide +kernel
theorem dX6_mixCursors_3 : decode cX6_mixCursors 3 = .ok (.istore 5, 2) := by decide +kernel
theorem dX6_mixCursors_5 : decode cX6_mixCursors 5 = .ok (.iload 5, 2) := by decide +kernel
theorem dX6_mixCursors_7 : decode cX6_mixCursors 7 = .ok (.iconst 4, 1) := by decide +kernel
theorem dX6_mixCursors_8 : decode cX6_mixCursors 8 = .ok (.if_icmp .ge 40, 3) := by decide +kernel
theorem dX6_mixCursors_11 : decode cX6_mixCursors 11 = .ok (.iconst 0, 1) := by decide +kernel
theorem dX6_mixCursors_12 : decode cX6_mixCursors 12 = .ok (.istore 6, 2) := by decide +kernel
theorem dX6_mixCursors_14 : decode cX6_mixCursors 14 = .ok (.iload 6, 2) := by decide +kernel
theorem dX6_mixCursors_16 : decode cX6_mixCursors 16 = .ok (.iconst 5, 1) := by decide +kernel
theorem dX6_mixCursors_17 : decode cX6_mixCursors 17 = .ok (.if_icmp .gt 25, 3) := by decide +kernel
theorem dX6_mixCursors_20 : decode cX6_mixCursors 20 = .ok (.ldc2_w 270, 3) := by decide +kernel
theorem dX6_mixCursors_23 : decode cX6_mixCursors 23 = .ok (.lload_n 3, 1) := by decide +kernel
theorem dX6_mixCursors_24 : decode cX6_mixCursors 24 = .ok (.lmul, 1) := by decide +kernel
theorem dX6_mixCursors_25 : decode cX6_mixCursors 25 = .ok (.aload_n 0, 1) := by decide +kernel
theorem dX6_mixCursors_26 : decode cX6_mixCursors 26 = .ok (.iload 5, 2) := by decide +kernel
theorem dX6_mixCursors_28 : decode cX6_mixCursors 28 = .ok (.iload 6, 2) := by decide +kernel
theorem dX6_mixCursors_30 : decode cX6_mixCursors 30 = .ok (.invokevirtual 303, 3) := by decide +kernel
theorem dX6_mixCursors_33 : decode cX6_mixCursors 33 = .ok (.i2l, 1) := by decide +kernel
theorem dX6_mixCursors_34 : decode cX6_mixCursors 34 = .ok (.ladd, 1) := by decide +kernel
theorem dX6_mixCursors_35 : decode cX6_mixCursors 35 = .ok (.lstore_n 3, 1) := by decide +kernel
theorem dX6_mixCursors_36 : decode cX6_mixCursors 36 = .ok (.iinc 6 1, 3) := by decide +kernel
theorem dX6_mixCursors_39 : decode cX6_mixCursors 39 = .ok (.goto (-25), 3) := by decide +kernel
theorem dX6_mixCursors_42 : decode cX6_mixCursors 42 = .ok (.iinc 5 1, 3) := by decide +kernel
theorem dX6_mixCursors_45 : decode cX6_mixCursors 45 = .ok (.goto (-40), 3) := by decide +kernel
theorem dX6_mixCursors_48 : decode cX6_mixCursors 48 = .ok (.lload_n 3, 1) := by decide +kernel
theorem dX6_mixCursors_49 : decode cX6_mixCursors 49 = .ok (.lreturn, 1) := by decide +kernel
set_option maxRecDepth 20000 in
theorem ggX6_refusalOfPlace_X6_isId : GoodIn wsX6_refusalOfPlace wsX6_isId := goodIn_r _ [6, 7, 8, 5, 9] (by decide +kernel) (by decide +kernel)
set_option maxRecDepth 20000 in
theorem gX6_refusalOfPlace_X6_isId : GoodIn wsX6_refusalOfPlace (va_wsS RX6 306 yX6_isId wsX6_isId) := goodIn_app (goodIn_of _ (by decide +kernel)) ggX6_refusalOfPlace_X6_isId
set_option maxRecDepth 20000 in
theorem ggX6_refusalOfPlace_X6_isPosition : GoodIn wsX6_refusalOfPlace wsX6_isPosition := goodIn_r _ [12, 7, 8, 5, 9] (by decide +kernel) (by decide +kernel)
set_option maxRecDepth 20000 in
theorem gX6_refusalOfPlace_X6_isPosition : GoodIn wsX6_refusalOfPlace (va_wsS RX6 181 yX6_isPosition wsX6_isPosition) := goodIn_app (goodIn_of _ (by decide +kernel)) ggX6_refusalOfPlace_X6_isPosition
theorem dX6_refusalOfPlace_0 : decode cX6_refusalOfPlace 0 = .ok (.iload_n 1, 1) := by decide +kernel
theorem dX6_refusalOfPlace_1 : decode cX6_refusalOfPlace 1 = .ok (.invokestatic 306, 3) := by decide +kernel
theorem dX6_refusalOfPlace_4 : decode cX6_refusalOfPlace 4 = .ok (.ifCond .ne 5, 3) := by decide +kernel
theorem dX6_refusalOfPlace_7 : decode cX6_refusalOfPlace 7 = .ok (.iconst 1, 1) := by decide +kernel
theorem dX6_refusalOfPlace_8 : decode cX6_refusalOfPlace 8 = .ok (.ireturn, 1) := by decide +kernel
theorem dX6_refusalOfPlace_9 : decode cX6_refusalOfPlace 9 = .ok (.iload_n 2, 1) := by decide +kernel
theorem dX6_refusalOfPlace_10 : decode cX6_refusalOfPlace 10 = .ok (.iload_n 3, 1) := by decide +kernel
theorem dX6_refusalOfPlace_11 : decode cX6_refusalOfPlace 11 = .ok (.invokestatic 181, 3) := by decide +kernel
theorem dX6_refusalOfPlace_14 : decode cX6_refusalOfPlace 14 = .ok (.ifCond .ne 5, 3) := by decide +kernel
theorem dX6_refusalOfPlace_17 : decode cX6_refusalOfPlace 17 = .ok (.iconst 2, 1) := by decide +kernel
theorem dX6_refusalOfPlace_18 : decode cX6_refusalOfPlace 18 = .ok (.ireturn, 1) := by decide +kernel
theorem dX6_refusalOfPlace_19 : decode cX6_refusalOfPlace 19 = .ok (.aload_n 0, 1) := by decide +kernel
theorem dX6_refusalOfPlace_20 : decode cX6_refusalOfPlace 20 = .ok (.getfield 10, 3) := by decide +kernel
theorem dX6_refusalOfPlace_23 : decode cX6_refusalOfPlace 23 = .ok (.getfield 113, 3) := by decide +kernel
theorem dX6_refusalOfPlace_26 : decode cX6_refusalOfPlace 26 = .ok (.iload_n 1, 1) := by decide +kernel
theorem dX6_refusalOfPlace_27 : decode cX6_refusalOfPlace 27 = .ok (.baload, 1) := by decide +kernel
theorem dX6_refusalOfPlace_28 : decode cX6_refusalOfPlace 28 = .ok (.iload 4, 2) := by decide +kernel
theorem dX6_refusalOfPlace_30 : decode cX6_refusalOfPlace 30 = .ok (.if_icmp .ne 7, 3) := by decide +kernel
theorem dX6_refusalOfPlace_33 : decode cX6_refusalOfPlace 33 = .ok (.iconst 0, 1) := by decide +kernel
theorem dX6_refusalOfPlace_34 : decode cX6_refusalOfPlace 34 = .ok (.goto 4, 3) := by decide +kernel
theorem dX6_refusalOfPlace_37 : decode cX6_refusalOfPlace 37 = .ok (.iconst 3, 1) := by decide +kernel
theorem dX6_refusalOfPlace_38 : decode cX6_refusalOfPlace 38 = .ok (.ireturn, 1) := by decide +kernel
set_option maxRecDepth 20000 in
theorem ggX6_refusalOfDrop_X6_isId : GoodIn wsX6_refusalOfDrop wsX6_isId := goodIn_r _ [6, 7, 8, 5, 9] (by decide +kernel) (by decide +kernel)
set_option maxRecDepth 20000 in
theorem gX6_refusalOfDrop_X6_isId : GoodIn wsX6_refusalOfDrop (va_wsS RX6 306 yX6_isId wsX6_isId) := goodIn_app (goodIn_of _ (by decide +kernel)) ggX6_refusalOfDrop_X6_isId
theorem dX6_refusalOfDrop_0 : decode cX6_refusalOfDrop 0 = .ok (.iload_n 1, 1) := by decide +kernel
theorem dX6_refusalOfDrop_1 : decode cX6_refusalOfDrop 1 = .ok (.invokestatic 306, 3) := by decide +kernel
theorem dX6_refusalOfDrop_4 : decode cX6_refusalOfDrop 4 = .ok (.ifCond .ne 5, 3) := by decide +kernel
theorem dX6_refusalOfDrop_7 : decode cX6_refusalOfDrop 7 = .ok (.iconst 1, 1) := by decide +kernel
theorem dX6_refusalOfDrop_8 : decode cX6_refusalOfDrop 8 = .ok (.ireturn, 1) := by decide +kernel
theorem dX6_refusalOfDrop_9 : decode cX6_refusalOfDrop 9 = .ok (.aload_n 0, 1) := by decide +kernel
theorem dX6_refusalOfDrop_10 : decode cX6_refusalOfDrop 10 = .ok (.getfield 10, 3) := by decide +kernel
theorem dX6_refusalOfDrop_13 : decode cX6_refusalOfDrop 13 = .ok (.getfield 113, 3) := by decide +kernel
theorem dX6_refusalOfDrop_16 : decode cX6_refusalOfDrop 16 = .ok (.iload_n 1, 1) := by decide +kernel
theorem dX6_refusalOfDrop_17 : decode cX6_refusalOfDrop 17 = .ok (.baload, 1) := by decide +kernel
theorem dX6_refusalOfDrop_18 : decode cX6_refusalOfDrop 18 = .ok (.ifCond .eq 7, 3) := by decide +kernel
theorem dX6_refusalOfDrop_21 : decode cX6_refusalOfDrop 21 = .ok (.iconst 0, 1) := by decide +kernel
theorem dX6_refusalOfDrop_22 : decode cX6_refusalOfDrop 22 = .ok (.goto 4, 3) := by decide +kernel
theorem dX6_refusalOfDrop_25 : decode cX6_refusalOfDrop 25 = .ok (.iconst 3, 1) := by decide +kernel
theorem dX6_refusalOfDrop_26 : decode cX6_refusalOfDrop 26 = .ok (.ireturn, 1) := by decide +kernel
set_option maxRecDepth 20000 in
theorem ggX6_refusalOfSpeed_X6_isId : GoodIn wsX6_refusalOfSpeed wsX6_isId := goodIn_r _ [6, 7, 8, 5, 9] (by decide +kernel) (by decide +kernel)
set_option maxRecDepth 20000 in
theorem gX6_refusalOfSpeed_X6_isId : GoodIn wsX6_refusalOfSpeed (va_wsS RX6 306 yX6_isId wsX6_isId) := goodIn_app (goodIn_of _ (by decide +kernel)) ggX6_refusalOfSpeed_X6_isId
set_option maxRecDepth 20000 in
theorem ggX6_refusalOfSpeed_X6_inside : GoodIn wsX6_refusalOfSpeed wsX6_inside := goodIn_r _ [9] (by decide +kernel) (by decide +kernel)
set_option maxRecDepth 20000 in
theorem gX6_refusalOfSpeed_X6_inside : GoodIn wsX6_refusalOfSpeed (va_wsS RX6 185 yX6_inside wsX6_inside) := goodIn_app (goodIn_of _ (by decide +kernel)) ggX6_refusalOfSpeed_X6_inside
theorem dX6_refusalOfSpeed_0 : decode cX6_refusalOfSpeed 0 = .ok (.iload_n 1, 1) := by decide +kernel
theorem dX6_refusalOfSpeed_1 : decode cX6_refusalOfSpeed 1 = .ok (.invokestatic 306, 3) := by decide +kernel
theorem dX6_refusalOfSpeed_4 : decode cX6_refusalOfSpeed 4 = .ok (.ifCond .ne 5, 3) := by decide +kernel
theorem dX6_refusalOfSpeed_7 : decode cX6_refusalOfSpeed 7 = .ok (.iconst 1, 1) := by decide +kernel
theorem dX6_refusalOfSpeed_8 : decode cX6_refusalOfSpeed 8 = .ok (.ireturn, 1) := by decide +kernel
theorem dX6_refusalOfSpeed_9 : decode cX6_refusalOfSpeed 9 = .ok (.iload_n 2, 1) := by decide +kernel
theorem dX6_refusalOfSpeed_10 : decode cX6_refusalOfSpeed 10 = .ok (.bipush (-9), 2) := by decide +kernel
theorem dX6_refusalOfSpeed_12 : decode cX6_refusalOfSpeed 12 = .ok (.bipush 9, 2) := by decide +kernel
theorem dX6_refusalOfSpeed_14 : decode cX6_refusalOfSpeed 14 = .ok (.invokestatic 185, 3) := by decide +kernel
theorem dX6_refusalOfSpeed_17 : decode cX6_refusalOfSpeed 17 = .ok (.ifCond .eq 14, 3) := by decide +kernel
theorem dX6_refusalOfSpeed_20 : decode cX6_refusalOfSpeed 20 = .ok (.iload_n 3, 1) := by decide +kernel
theorem dX6_refusalOfSpeed_21 : decode cX6_refusalOfSpeed 21 = .ok (.bipush (-9), 2) := by decide +kernel
theorem dX6_refusalOfSpeed_23 : decode cX6_refusalOfSpeed 23 = .ok (.bipush 9, 2) := by decide +kernel
theorem dX6_refusalOfSpeed_25 : decode cX6_refusalOfSpeed 25 = .ok (.invokestatic 185, 3) := by decide +kernel
theorem dX6_refusalOfSpeed_28 : decode cX6_refusalOfSpeed 28 = .ok (.ifCond .ne 5, 3) := by decide +kernel
theorem dX6_refusalOfSpeed_31 : decode cX6_refusalOfSpeed 31 = .ok (.iconst 2, 1) := by decide +kernel
theorem dX6_refusalOfSpeed_32 : decode cX6_refusalOfSpeed 32 = .ok (.ireturn, 1) := by decide +kernel
theorem dX6_refusalOfSpeed_33 : decode cX6_refusalOfSpeed 33 = .ok (.aload_n 0, 1) := by decide +kernel
theorem dX6_refusalOfSpeed_34 : decode cX6_refusalOfSpeed 34 = .ok (.getfield 10, 3) := by decide +kernel
theorem dX6_refusalOfSpeed_37 : decode cX6_refusalOfSpeed 37 = .ok (.getfield 113, 3) := by decide +kernel
theorem dX6_refusalOfSpeed_40 : decode cX6_refusalOfSpeed 40 = .ok (.iload_n 1, 1) := by decide +kernel
theorem dX6_refusalOfSpeed_41 : decode cX6_refusalOfSpeed 41 = .ok (.baload, 1) := by decide +kernel
theorem dX6_refusalOfSpeed_42 : decode cX6_refusalOfSpeed 42 = .ok (.ifCond .eq 7, 3) := by decide +kernel
theorem dX6_refusalOfSpeed_45 : decode cX6_refusalOfSpeed 45 = .ok (.iconst 0, 1) := by decide +kernel
theorem dX6_refusalOfSpeed_46 : decode cX6_refusalOfSpeed 46 = .ok (.goto 4, 3) := by decide +kernel
theorem dX6_refusalOfSpeed_49 : decode cX6_refusalOfSpeed 49 = .ok (.iconst 3, 1) := by decide +kernel
theorem dX6_refusalOfSpeed_50 : decode cX6_refusalOfSpeed 50 = .ok (.ireturn, 1) := by decide +kernel
set_option maxRecDepth 20000 in
theorem ggX6_refusalOfTicks_X6_inside : GoodIn wsX6_refusalOfTicks wsX6_inside := goodIn_r _ [4] (by decide +kernel) (by decide +kernel)
set_option maxRecDepth 20000 in
theorem gX6_refusalOfTicks_X6_inside : GoodIn wsX6_refusalOfTicks (va_wsS RX6 185 yX6_inside wsX6_inside) := goodIn_app (goodIn_of _ (by decide +kernel)) ggX6_refusalOfTicks_X6_inside
theorem dX6_refusalOfTicks_0 : decode cX6_refusalOfTicks 0 = .ok (.iload_n 0, 1) := by decide +kernel
theorem dX6_refusalOfTicks_1 : decode cX6_refusalOfTicks 1 = .ok (.iconst 1, 1) := by decide +kernel
theorem dX6_refusalOfTicks_2 : decode cX6_refusalOfTicks 2 = .ok (.bipush 50, 2) := by decide +kernel
theorem dX6_refusalOfTicks_4 : decode cX6_refusalOfTicks 4 = .ok (.invokestatic 185, 3) := by decide +kernel
theorem dX6_refusalOfTicks_7 : decode cX6_refusalOfTicks 7 = .ok (.ifCond .eq 7, 3) := by decide +kernel
theorem dX6_refusalOfTicks_10 : decode cX6_refusalOfTicks 10 = .ok (.iconst 0, 1) := by decide +kernel
theorem dX6_refusalOfTicks_11 : decode cX6_refusalOfTicks 11 = .ok (.goto 4, 3) := by decide +kernel
theorem dX6_refusalOfTicks_14 : decode cX6_refusalOfTicks 14 = .ok (.iconst 2, 1) := by decide +kernel
theorem dX6_refusalOfTicks_15 : decode cX6_refusalOfTicks 15 = .ok (.ireturn, 1) := by decide +kernel
set_option maxRecDepth 20000 in
theorem ggX6_refusalOfScatter_X6_isId : GoodIn wsX6_refusalOfScatter wsX6_isId := goodIn_r _ [5, 6, 7, 4, 8] (by decide +kernel) (by decide +kernel)
set_option maxRecDepth 20000 in
theorem gX6_refusalOfScatter_X6_isId : GoodIn wsX6_refusalOfScatter (va_wsS RX6 306 yX6_isId wsX6_isId) := goodIn_app (goodIn_of _ (by decide +kernel)) ggX6_refusalOfScatter_X6_isId
set_option maxRecDepth 20000 in
theorem ggX6_refusalOfScatter_X6_inside : GoodIn wsX6_refusalOfScatter wsX6_inside := goodIn_r _ [8] (by decide +kernel) (by decide +kernel)
set_option maxRecDepth 20000 in
theorem gX6_refusalOfScatter_X6_inside : GoodIn wsX6_refusalOfScatter (va_wsS RX6 185 yX6_inside wsX6_inside) := goodIn_app (goodIn_of _ (by decide +kernel)) ggX6_refusalOfScatter_X6_inside
theorem dX6_refusalOfScatter_0 : decode cX6_refusalOfScatter 0 = .ok (.iload_n 0, 1) := by decide +kernel
theorem dX6_refusalOfScatter_1 : decode cX6_refusalOfScatter 1 = .ok (.invokestatic 306, 3) := by decide +kernel
theorem dX6_refusalOfScatter_4 : decode cX6_refusalOfScatter 4 = .ok (.ifCond .ne 5, 3) := by decide +kernel
theorem dX6_refusalOfScatter_7 : decode cX6_refusalOfScatter 7 = .ok (.iconst 1, 1) := by decide +kernel
theorem dX6_refusalOfScatter_8 : decode cX6_refusalOfScatter 8 = .ok (.ireturn, 1) := by decide +kernel
theorem dX6_refusalOfScatter_9 : decode cX6_refusalOfScatter 9 = .ok (.iload_n 1, 1) := by decide +kernel
theorem dX6_refusalOfScatter_10 : decode cX6_refusalOfScatter 10 = .ok (.iconst 1, 1) := by decide +kernel
theorem dX6_refusalOfScatter_11 : decode cX6_refusalOfScatter 11 = .ok (.bipush 24, 2) := by decide +kernel
theorem dX6_refusalOfScatter_13 : decode cX6_refusalOfScatter 13 = .ok (.iload_n 0, 1) := by decide +kernel
theorem dX6_refusalOfScatter_14 : decode cX6_refusalOfScatter 14 = .ok (.isub, 1) := by decide +kernel
theorem dX6_refusalOfScatter_15 : decode cX6_refusalOfScatter 15 = .ok (.invokestatic 185, 3) := by decide +kernel
theorem dX6_refusalOfScatter_18 : decode cX6_refusalOfScatter 18 = .ok (.ifCond .eq 28, 3) := by decide +kernel
theorem dX6_refusalOfScatter_21 : decode cX6_refusalOfScatter 21 = .ok (.iload_n 2, 1) := by decide +kernel
theorem dX6_refusalOfScatter_22 : decode cX6_refusalOfScatter 22 = .ok (.iconst 1, 1) := by decide +kernel
theorem dX6_refusalOfScatter_23 : decode cX6_refusalOfScatter 23 = .ok (.bipush 64, 2) := by decide +kernel
theorem dX6_refusalOfScatter_25 : decode cX6_refusalOfScatter 25 = .ok (.invokestatic 185, 3) := by decide +kernel
theorem dX6_refusalOfScatter_28 : decode cX6_refusalOfScatter 28 = .ok (.ifCond .eq 18, 3) := by decide +kernel
theorem dX6_refusalOfScatter_31 : decode cX6_refusalOfScatter 31 = .ok (.iload_n 3, 1) := by decide +kernel
theorem dX6_refusalOfScatter_32 : decode cX6_refusalOfScatter 32 = .ok (.iconst 0, 1) := by decide +kernel
theorem dX6_refusalOfScatter_33 : decode cX6_refusalOfScatter 33 = .ok (.ldc_w 310, 3) := by decide +kernel
theorem dX6_refusalOfScatter_36 : decode cX6_refusalOfScatter 36 = .ok (.invokestatic 185, 3) := by decide +kernel
theorem dX6_refusalOfScatter_39 : decode cX6_refusalOfScatter 39 = .ok (.ifCond .eq 7, 3) := by decide +kernel
theorem dX6_refusalOfScatter_42 : decode cX6_refusalOfScatter 42 = .ok (.iconst 1, 1) := by decide +kernel
theorem dX6_refusalOfScatter_43 : decode cX6_refusalOfScatter 43 = .ok (.goto 4, 3) := by decide +kernel
theorem dX6_refusalOfScatter_46 : decode cX6_refusalOfScatter 46 = .ok (.iconst 0, 1) := by decide +kernel
theorem dX6_refusalOfScatter_47 : decode cX6_refusalOfScatter 47 = .ok (.istore 4, 2) := by decide +kernel
theorem dX6_refusalOfScatter_49 : decode cX6_refusalOfScatter 49 = .ok (.iload 4, 2) := by decide +kernel
theorem dX6_refusalOfScatter_51 : decode cX6_refusalOfScatter 51 = .ok (.ifCond .eq 7, 3) := by decide +kernel
theorem dX6_refusalOfScatter_54 : decode cX6_refusalOfScatter 54 = .ok (.iconst 0, 1) := by decide +kernel
theorem dX6_refusalOfScatter_55 : decode cX6_refusalOfScatter 55 = .ok (.goto 4, 3) := by decide +kernel
theorem dX6_refusalOfScatter_58 : decode cX6_refusalOfScatter 58 = .ok (.iconst 2, 1) := by decide +kernel
theorem dX6_refusalOfScatter_59 : decode cX6_refusalOfScatter 59 = .ok (.ireturn, 1) := by decide +kernel
set_option maxRecDepth 20000 in
theorem ggX6_refusalOfValue_X6_inside : GoodIn wsX6_refusalOfValue wsX6_inside := goodIn_r _ [4] (by decide +kernel) (by decide +kernel)
set_option maxRecDepth 20000 in
theorem gX6_refusalOfValue_X6_inside : GoodIn wsX6_refusalOfValue (va_wsS RX6 185 yX6_inside wsX6_inside) := goodIn_app (goodIn_of _ (by decide +kernel)) ggX6_refusalOfValue_X6_inside
theorem dX6_refusalOfValue_0 : decode cX6_refusalOfValue 0 = .ok (.iload_n 0, 1) := by decide +kernel
theorem dX6_refusalOfValue_1 : decode cX6_refusalOfValue 1 = .ok (.iconst 0, 1) := by decide +kernel
theorem dX6_refusalOfValue_2 : decode cX6_refusalOfValue 2 = .ok (.iload_n 1, 1) := by decide +kernel
theorem dX6_refusalOfValue_3 : decode cX6_refusalOfValue 3 = .ok (.iconst 1, 1) := by decide +kernel
theorem dX6_refusalOfValue_4 : decode cX6_refusalOfValue 4 = .ok (.isub, 1) := by decide +kernel
theorem dX6_refusalOfValue_5 : decode cX6_refusalOfValue 5 = .ok (.invokestatic 185, 3) := by decide +kernel
theorem dX6_refusalOfValue_8 : decode cX6_refusalOfValue 8 = .ok (.ifCond .ne 5, 3) := by decide +kernel
theorem dX6_refusalOfValue_11 : decode cX6_refusalOfValue 11 = .ok (.iconst 1, 1) := by decide +kernel
theorem dX6_refusalOfValue_12 : decode cX6_refusalOfValue 12 = .ok (.ireturn, 1) := by decide +kernel
theorem dX6_refusalOfValue_13 : decode cX6_refusalOfValue 13 = .ok (.iload_n 2, 1) := by decide +kernel
theorem dX6_refusalOfValue_14 : decode cX6_refusalOfValue 14 = .ok (.iconst 0, 1) := by decide +kernel
theorem dX6_refusalOfValue_15 : decode cX6_refusalOfValue 15 = .ok (.iload_n 3, 1) := by decide +kernel
theorem dX6_refusalOfValue_16 : decode cX6_refusalOfValue 16 = .ok (.invokestatic 185, 3) := by decide +kernel
theorem dX6_refusalOfValue_19 : decode cX6_refusalOfValue 19 = .ok (.ifCond .eq 7, 3) := by decide +kernel
theorem dX6_refusalOfValue_22 : decode cX6_refusalOfValue 22 = .ok (.iconst 0, 1) := by decide +kernel
theorem dX6_refusalOfValue_23 : decode cX6_refusalOfValue 23 = .ok (.goto 4, 3) := by decide +kernel
theorem dX6_refusalOfValue_26 : decode cX6_refusalOfValue 26 = .ok (.iconst 2, 1) := by decide +kernel
theorem dX6_refusalOfValue_27 : decode cX6_refusalOfValue 27 = .ok (.ireturn, 1) := by decide +kernel
set_option maxRecDepth 20000 in
theorem ggX6_refusalOfNode_X6_inside : GoodIn wsX6_refusalOfNode wsX6_inside := goodIn_r _ [7] (by decide +kernel) (by decide +kernel)
set_option maxRecDepth 20000 in
theorem gX6_refusalOfNode_X6_inside : GoodIn wsX6_refusalOfNode (va_wsS RX6 185 yX6_inside wsX6_inside) := goodIn_app (goodIn_of _ (by decide +kernel)) ggX6_refusalOfNode_X6_inside
set_option maxRecDepth 20000 in
theorem ggX6_refusalOfNode_X6_refusalOfValue : GoodIn wsX6_refusalOfNode wsX6_refusalOfValue := goodIn_r _ [10, 4, 5, 6, 7] (by decide +kernel) (by decide +kernel)
set_option maxRecDepth 20000 in
theorem gX6_refusalOfNode_X6_refusalOfValue : GoodIn wsX6_refusalOfNode (va_wsS RX6 110 yX6_refusalOfValue wsX6_refusalOfValue) := goodIn_app (goodIn_of _ (by decide +kernel)) ggX6_refusalOfNode_X6_refusalOfValue
theorem dX6_refusalOfNode_0 : decode cX6_refusalOfNode 0 = .ok (.iload_n 1, 1) := by decide +kernel
theorem dX6_refusalOfNode_1 : decode cX6_refusalOfNode 1 = .ok (.iconst 0, 1) := by decide +kernel
theorem dX6_refusalOfNode_2 : decode cX6_refusalOfNode 2 = .ok (.iconst 4, 1) := by decide +kernel
theorem dX6_refusalOfNode_3 : decode cX6_refusalOfNode 3 = .ok (.invokestatic 185, 3) := by decide +kernel
theorem dX6_refusalOfNode_6 : decode cX6_refusalOfNode 6 = .ok (.ifCond .ne 5, 3) := by decide +kernel
theorem dX6_refusalOfNode_9 : decode cX6_refusalOfNode 9 = .ok (.iconst 1, 1) := by decide +kernel
theorem dX6_refusalOfNode_10 : decode cX6_refusalOfNode 10 = .ok (.ireturn, 1) := by decide +kernel
theorem dX6_refusalOfNode_11 : decode cX6_refusalOfNode 11 = .ok (.iload_n 2, 1) := by decide +kernel
theorem dX6_refusalOfNode_12 : decode cX6_refusalOfNode 12 = .ok (.aload_n 0, 1) := by decide +kernel
theorem dX6_refusalOfNode_13 : decode cX6_refusalOfNode 13 = .ok (.getfield 33, 3) := by decide +kernel
theorem dX6_refusalOfNode_16 : decode cX6_refusalOfNode 16 = .ok (.getfield 126, 3) := by decide +kernel
theorem dX6_refusalOfNode_19 : decode cX6_refusalOfNode 19 = .ok (.iload_n 1, 1) := by decide +kernel
theorem dX6_refusalOfNode_20 : decode cX6_refusalOfNode 20 = .ok (.aaload, 1) := by decide +kernel
theorem dX6_refusalOfNode_21 : decode cX6_refusalOfNode 21 = .ok (.getfield 136, 3) := by decide +kernel
theorem dX6_refusalOfNode_24 : decode cX6_refusalOfNode 24 = .ok (.iload_n 3, 1) := by decide +kernel
theorem dX6_refusalOfNode_25 : decode cX6_refusalOfNode 25 = .ok (.iload 4, 2) := by decide +kernel
theorem dX6_refusalOfNode_27 : decode cX6_refusalOfNode 27 = .ok (.invokestatic 110, 3) := by decide +kernel
theorem dX6_refusalOfNode_30 : decode cX6_refusalOfNode 30 = .ok (.ireturn, 1) := by decide +kernel
set_option maxRecDepth 20000 in
theorem ggX6_refusalOfOpen_X6_inside : GoodIn wsX6_refusalOfOpen wsX6_inside := goodIn_r _ [4] (by decide +kernel) (by decide +kernel)
set_option maxRecDepth 20000 in
theorem gX6_refusalOfOpen_X6_inside : GoodIn wsX6_refusalOfOpen (va_wsS RX6 185 yX6_inside wsX6_inside) := goodIn_app (goodIn_of _ (by decide +kernel)) ggX6_refusalOfOpen_X6_inside
set_option maxRecDepth 20000 in
theorem ggX6_refusalOfOpen_X6_isPosition : GoodIn wsX6_refusalOfOpen wsX6_isPosition := goodIn_r _ [7, 1, 2, 3, 4] (by decide +kernel) (by decide +kernel)
set_option maxRecDepth 20000 in
theorem gX6_refusalOfOpen_X6_isPosition : GoodIn wsX6_refusalOfOpen (va_wsS RX6 181 yX6_isPosition wsX6_isPosition) := goodIn_app (goodIn_of _ (by decide +kernel)) ggX6_refusalOfOpen_X6_isPosition
theorem dX6_refusalOfOpen_0 : decode cX6_refusalOfOpen 0 = .ok (.iload_n 0, 1) := by decide +kernel
theorem dX6_refusalOfOpen_1 : decode cX6_refusalOfOpen 1 = .ok (.iconst 0, 1) := by decide +kernel
theorem dX6_refusalOfOpen_2 : decode cX6_refusalOfOpen 2 = .ok (.iconst 3, 1) := by decide +kernel
theorem dX6_refusalOfOpen_3 : decode cX6_refusalOfOpen 3 = .ok (.invokestatic 185, 3) := by decide +kernel
theorem dX6_refusalOfOpen_6 : decode cX6_refusalOfOpen 6 = .ok (.ifCond .ne 5, 3) := by decide +kernel
theorem dX6_refusalOfOpen_9 : decode cX6_refusalOfOpen 9 = .ok (.iconst 1, 1) := by decide +kernel
theorem dX6_refusalOfOpen_10 : decode cX6_refusalOfOpen 10 = .ok (.ireturn, 1) := by decide +kernel
theorem dX6_refusalOfOpen_11 : decode cX6_refusalOfOpen 11 = .ok (.iload_n 1, 1) := by decide +kernel
theorem dX6_refusalOfOpen_12 : decode cX6_refusalOfOpen 12 = .ok (.iload_n 2, 1) := by decide +kernel
theorem dX6_refusalOfOpen_13 : decode cX6_refusalOfOpen 13 = .ok (.invokestatic 181, 3) := by decide +kernel
theorem dX6_refusalOfOpen_16 : decode cX6_refusalOfOpen 16 = .ok (.ifCond .eq 7, 3) := by decide +kernel
theorem dX6_refusalOfOpen_19 : decode cX6_refusalOfOpen 19 = .ok (.iconst 0, 1) := by decide +kernel
theorem dX6_refusalOfOpen_20 : decode cX6_refusalOfOpen 20 = .ok (.goto 4, 3) := by decide +kernel
theorem dX6_refusalOfOpen_23 : decode cX6_refusalOfOpen 23 = .ok (.iconst 2, 1) := by decide +kernel
theorem dX6_refusalOfOpen_24 : decode cX6_refusalOfOpen 24 = .ok (.ireturn, 1) := by decide +kernel
set_option maxRecDepth 20000 in
theorem ggX6_refusalOfByte_X6_inside : GoodIn wsX6_refusalOfByte wsX6_inside := goodIn_r _ [6] (by decide +kernel) (by decide +kernel)
set_option maxRecDepth 20000 in
theorem gX6_refusalOfByte_X6_inside : GoodIn wsX6_refusalOfByte (va_wsS RX6 185 yX6_inside wsX6_inside) := goodIn_app (goodIn_of _ (by decide +kernel)) ggX6_refusalOfByte_X6_inside
theorem dX6_refusalOfByte_0 : decode cX6_refusalOfByte 0 = .ok (.iload_n 1, 1) := by decide +kernel
theorem dX6_refusalOfByte_1 : decode cX6_refusalOfByte 1 = .ok (.iconst 0, 1) := by decide +kernel
theorem dX6_refusalOfByte_2 : decode cX6_refusalOfByte 2 = .ok (.bipush 127, 2) := by decide +kernel
theorem dX6_refusalOfByte_4 : decode cX6_refusalOfByte 4 = .ok (.invokestatic 185, 3) := by decide +kernel
theorem dX6_refusalOfByte_7 : decode cX6_refusalOfByte 7 = .ok (.ifCond .ne 5, 3) := by decide +kernel
theorem dX6_refusalOfByte_10 : decode cX6_refusalOfByte 10 = .ok (.iconst 2, 1) := by decide +kernel
theorem dX6_refusalOfByte_11 : decode cX6_refusalOfByte 11 = .ok (.ireturn, 1) := by decide +kernel
theorem dX6_refusalOfByte_12 : decode cX6_refusalOfByte 12 = .ok (.aload_n 0, 1) := by decide +kernel
theorem dX6_refusalOfByte_13 : decode cX6_refusalOfByte 13 = .ok (.getfield 26, 3) := by decide +kernel
theorem dX6_refusalOfByte_16 : decode cX6_refusalOfByte 16 = .ok (.getfield 233, 3) := by decide +kernel
theorem dX6_refusalOfByte_19 : decode cX6_refusalOfByte 19 = .ok (.bipush 120, 2) := by decide +kernel
theorem dX6_refusalOfByte_21 : decode cX6_refusalOfByte 21 = .ok (.if_icmp .ge 7, 3) := by decide +kernel
theorem dX6_refusalOfByte_24 : decode cX6_refusalOfByte 24 = .ok (.iconst 0, 1) := by decide +kernel
theorem dX6_refusalOfByte_25 : decode cX6_refusalOfByte 25 = .ok (.goto 4, 3) := by decide +kernel
theorem dX6_refusalOfByte_28 : decode cX6_refusalOfByte 28 = .ok (.iconst 3, 1) := by decide +kernel
theorem dX6_refusalOfByte_29 : decode cX6_refusalOfByte 29 = .ok (.ireturn, 1) := by decide +kernel
theorem dX6_throwIf_0 : decode cX6_throwIf 0 = .ok (.iload_n 0, 1) := by decide +kernel
theorem dX6_throwIf_1 : decode cX6_throwIf 1 = .ok (.iconst 1, 1) := by decide +kernel
theorem dX6_throwIf_2 : decode cX6_throwIf 2 = .ok (.if_icmp .ne 14, 3) := by decide +kernel
theorem dX6_throwIf_5 : decode cX6_throwIf 5 = .ok (.new 311, 3) := by decide +kernel
theorem dX6_throwIf_8 : decode cX6_throwIf 8 = .ok (.dup, 1) := by decide +kernel
theorem dX6_throwIf_9 : decode cX6_throwIf 9 = .ok (.ldc_w 313, 3) := by decide +kernel
theorem dX6_throwIf_12 : decode cX6_throwIf 12 = .ok (.invokespecial 315, 3) := by decide +kernel
theorem dX6_throwIf_15 : decode cX6_throwIf 15 = .ok (.athrow, 1) := by decide +kernel
theorem dX6_throwIf_16 : decode cX6_throwIf 16 = .ok (.iload_n 0, 1) := by decide +kernel
theorem dX6_throwIf_17 : decode cX6_throwIf 17 = .ok (.iconst 2, 1) := by decide +kernel
theorem dX6_throwIf_18 : decode cX6_throwIf 18 = .ok (.if_icmp .ne 14, 3) := by decide +kernel
theorem dX6_throwIf_21 : decode cX6_throwIf 21 = .ok (.new 318, 3) := by decide +kernel
theorem dX6_throwIf_24 : decode cX6_throwIf 24 = .ok (.dup, 1) := by decide +kernel
theorem dX6_throwIf_25 : decode cX6_throwIf 25 = .ok (.ldc_w 320, 3) := by decide +kernel
theorem dX6_throwIf_28 : decode cX6_throwIf 28 = .ok (.invokespecial 322, 3) := by decide +kernel
theorem dX6_throwIf_31 : decode cX6_throwIf 31 = .ok (.athrow, 1) := by decide +kernel
theorem dX6_throwIf_32 : decode cX6_throwIf 32 = .ok (.iload_n 0, 1) := by decide +kernel
theorem dX6_throwIf_33 : decode cX6_throwIf 33 = .ok (.iconst 3, 1) := by decide +kernel
theorem dX6_throwIf_34 : decode cX6_throwIf 34 = .ok (.if_icmp .ne 14, 3) := by decide +kernel
theorem dX6_throwIf_37 : decode cX6_throwIf 37 = .ok (.new 323, 3) := by decide +kernel
theorem dX6_throwIf_40 : decode cX6_throwIf 40 = .ok (.dup, 1) := by decide +kernel
theorem dX6_throwIf_41 : decode cX6_throwIf 41 = .ok (.ldc_w 325, 3) := by decide +kernel
theorem dX6_throwIf_44 : decode cX6_throwIf 44 = .ok (.invokespecial 327, 3) := by decide +kernel
theorem dX6_throwIf_47 : decode cX6_throwIf 47 = .ok (.athrow, 1) := by decide +kernel
theorem dX6_throwIf_48 : decode cX6_throwIf 48 = .ok (.return_, 1) := by decide +kernel
theorem dX6_inside_0 : decode cX6_inside 0 = .ok (.iload_n 0, 1) := by decide +kernel
theorem dX6_inside_1 : decode cX6_inside 1 = .ok (.iload_n 1, 1) := by decide +kernel
theorem dX6_inside_2 : decode cX6_inside 2 = .ok (.if_icmp .lt 12, 3) := by decide +kernel
theorem dX6_inside_5 : decode cX6_inside 5 = .ok (.iload_n 0, 1) := by decide +kernel
theorem dX6_inside_6 : decode cX6_inside 6 = .ok (.iload_n 2, 1) := by decide +kernel
theorem dX6_inside_7 : decode cX6_inside 7 = .ok (.if_icmp .gt 7, 3) := by decide +kernel
theorem dX6_inside_10 : decode cX6_inside 10 = .ok (.iconst 1, 1) := by decide +kernel
theorem dX6_inside_11 : decode cX6_inside 11 = .ok (.goto 4, 3) := by decide +kernel
theorem dX6_inside_14 : decode cX6_inside 14 = .ok (.iconst 0, 1) := by decide +kernel
theorem dX6_inside_15 : decode cX6_inside 15 = .ok (.ireturn, 1) := by decide +kernel
set_option maxRecDepth 20000 in
theorem ggX6_isId_X6_inside : GoodIn wsX6_isId wsX6_inside := goodIn_r _ [4] (by decide +kernel) (by decide +kernel)
set_option maxRecDepth 20000 in
theorem gX6_isId_X6_inside : GoodIn wsX6_isId (va_wsS RX6 185 yX6_inside wsX6_inside) := goodIn_app (goodIn_of _ (by decide +kernel)) ggX6_isId_X6_inside
theorem dX6_isId_0 : decode cX6_isId 0 = .ok (.iload_n 0, 1) := by decide +kernel
theorem dX6_isId_1 : decode cX6_isId 1 = .ok (.iconst 0, 1) := by decide +kernel
theorem dX6_isId_2 : decode cX6_isId 2 = .ok (.bipush 23, 2) := by decide +kernel
theorem dX6_isId_4 : decode cX6_isId 4 = .ok (.invokestatic 185, 3) := by decide +kernel
theorem dX6_isId_7 : decode cX6_isId 7 = .ok (.ireturn, 1) := by decide +kernel
set_option maxRecDepth 20000 in
theorem ggX6_isPosition_X6_inside : GoodIn wsX6_isPosition wsX6_inside := goodIn_r _ [4] (by decide +kernel) (by decide +kernel)
set_option maxRecDepth 20000 in
theorem gX6_isPosition_X6_inside : GoodIn wsX6_isPosition (va_wsS RX6 185 yX6_inside wsX6_inside) := goodIn_app (goodIn_of _ (by decide +kernel)) ggX6_isPosition_X6_inside
theorem dX6_isPosition_0 : decode cX6_isPosition 0 = .ok (.iload_n 0, 1) := by decide +kernel
theorem dX6_isPosition_1 : decode cX6_isPosition 1 = .ok (.iconst 0, 1) := by decide +kernel
theorem dX6_isPosition_2 : decode cX6_isPosition 2 = .ok (.bipush 63, 2) := by decide +kernel
theorem dX6_isPosition_4 : decode cX6_isPosition 4 = .ok (.invokestatic 185, 3) := by decide +kernel
theorem dX6_isPosition_7 : decode cX6_isPosition 7 = .ok (.ifCond .eq 17, 3) := by decide +kernel
theorem dX6_isPosition_10 : decode cX6_isPosition 10 = .ok (.iload_n 1, 1) := by decide +kernel
theorem dX6_isPosition_11 : decode cX6_isPosition 11 = .ok (.iconst 0, 1) := by decide +kernel
theorem dX6_isPosition_12 : decode cX6_isPosition 12 = .ok (.bipush 63, 2) := by decide +kernel
theorem dX6_isPosition_14 : decode cX6_isPosition 14 = .ok (.invokestatic 185, 3) := by decide +kernel
theorem dX6_isPosition_17 : decode cX6_isPosition 17 = .ok (.ifCond .eq 7, 3) := by decide +kernel
theorem dX6_isPosition_20 : decode cX6_isPosition 20 = .ok (.iconst 1, 1) := by decide +kernel
theorem dX6_isPosition_21 : decode cX6_isPosition 21 = .ok (.goto 4, 3) := by decide +kernel
theorem dX6_isPosition_24 : decode cX6_isPosition 24 = .ok (.iconst 0, 1) := by decide +kernel
theorem dX6_isPosition_25 : decode cX6_isPosition 25 = .ok (.ireturn, 1) := by decide +kernel
set_option maxRecDepth 20000 in
theorem ggX6_place_X4_put : GoodIn wsX6_place wsX4_put := goodIn_r _ [6, 7, 8, 9, 90, 91, 92, 93, 94, 95, 96, 97, 98] (by decide +kernel) (by decide +kernel)
set_option maxRecDepth 20000 in
theorem gX6_place_X4_put : GoodIn wsX6_place (wsV RX6 100 RX4 yX4_put wsX4_put) := goodIn_app (goodIn_of _ (by decide +kernel)) ggX6_place_X4_put
set_option maxRecDepth 20000 in
theorem ggX6_place_X6_settle : GoodIn wsX6_place wsX6_settle := goodIn_r _ [14, 15, 1, 16, 17, 18, 19, 20, 21, 22, 23, 24, 25, 26, 27, 28, 29, 30, 31, 32, 33, 34, 35, 36, 37, 38, 39, 40, 41, 42, 43, 44, 45, 46, 47, 48, 49, 50, 13, 51, 52, 53, 54, 55, 56, 57, 58, 59, 60, 61, 62, 63, 64, 65, 66, 67, 68, 69, 70, 71, 72, 73, 74, 75, 76, 77, 78, 79, 80, 81, 82, 83, 84, 85, 86, 87, 88, 89, 99, 100, 90, 91, 92, 93, 94, 95, 96, 97, 98, 101, 102, 103, 104] (by decide +kernel) (by decide +kernel)
set_option maxRecDepth 20000 in
theorem gX6_place_X6_settle : GoodIn wsX6_place (wsV RX6 103 RX6 yX6_settle wsX6_settle) := goodIn_app (goodIn_of _ (by decide +kernel)) ggX6_place_X6_settle
theorem dX6_place_0 : decode cX6_place 0 = .ok (.aload_n 0, 1) := by decide +kernel
theorem dX6_place_1 : decode cX6_place 1 = .ok (.getfield 10, 3) := by decide +kernel
theorem dX6_place_4 : decode cX6_place 4 = .ok (.iload_n 1, 1) := by decide +kernel
theorem dX6_place_5 : decode cX6_place 5 = .ok (.iload_n 2, 1) := by decide +kernel
theorem dX6_place_6 : decode cX6_place 6 = .ok (.iload_n 3, 1) := by decide +kernel
theorem dX6_place_7 : decode cX6_place 7 = .ok (.invokevirtual 100, 3) := by decide +kernel
theorem dX6_place_10 : decode cX6_place 10 = .ok (.aload_n 0, 1) := by decide +kernel
theorem dX6_place_11 : decode cX6_place 11 = .ok (.invokevirtual 103, 3) := by decide +kernel
theorem dX6_place_14 : decode cX6_place 14 = .ok (.ireturn, 1) := by decide +kernel
set_option maxRecDepth 20000 in
theorem ggX6_takeOut_X4_clear : GoodIn wsX6_takeOut wsX4_clear := goodIn_r _ [6, 7, 8, 9, 10, 11, 92, 93, 94, 95, 96, 97, 98, 99, 100] (by decide +kernel) (by decide +kernel)
set_option maxRecDepth 20000 in
theorem gX6_takeOut_X4_clear : GoodIn wsX6_takeOut (wsV RX6 328 RX4 yX4_clear wsX4_clear) := goodIn_app (goodIn_of _ (by decide +kernel)) ggX6_takeOut_X4_clear
set_option maxRecDepth 20000 in
theorem ggX6_takeOut_X6_settle : GoodIn wsX6_takeOut wsX6_settle := goodIn_r _ [16, 17, 1, 18, 19, 20, 21, 22, 23, 24, 25, 26, 27, 28, 29, 30, 31, 32, 33, 34, 35, 36, 37, 38, 39, 40, 41, 42, 43, 44, 45, 46, 47, 48, 49, 50, 51, 52, 15, 53, 54, 55, 56, 57, 58, 59, 60, 61, 62, 63, 64, 65, 66, 67, 68, 69, 70, 71, 72, 73, 74, 75, 76, 77, 78, 79, 80, 81, 82, 83, 84, 85, 86, 87, 88, 89, 90, 91, 101, 102, 92, 93, 94, 95, 96, 97, 98, 99, 100, 103, 104, 105, 106] (by decide +kernel) (by decide +kernel)
set_option maxRecDepth 20000 in
theorem gX6_takeOut_X6_settle : GoodIn wsX6_takeOut (wsV RX6 103 RX6 yX6_settle wsX6_settle) := goodIn_app (goodIn_of _ (by decide +kernel)) ggX6_takeOut_X6_settle
theorem dX6_takeOut_0 : decode cX6_takeOut 0 = .ok (.aload_n 0, 1) := by decide +kernel
theorem dX6_takeOut_1 : decode cX6_takeOut 1 = .ok (.getfield 10, 3) := by decide +kernel
theorem dX6_takeOut_4 : decode cX6_takeOut 4 = .ok (.iload_n 1, 1) := by decide +kernel
theorem dX6_takeOut_5 : decode cX6_takeOut 5 = .ok (.invokevirtual 328, 3) := by decide +kernel
theorem dX6_takeOut_8 : decode cX6_takeOut 8 = .ok (.aload_n 0, 1) := by decide +kernel
theorem dX6_takeOut_9 : decode cX6_takeOut 9 = .ok (.invokevirtual 103, 3) := by decide +kernel
theorem dX6_takeOut_12 : decode cX6_takeOut 12 = .ok (.ireturn, 1) := by decide +kernel
theorem dX6_setSpeed_0 : decode cX6_setSpeed 0 = .ok (.aload_n 0, 1) := by decide +kernel
theorem dX6_setSpeed_1 : decode cX6_setSpeed 1 = .ok (.getfield 10, 3) := by decide +kernel
theorem dX6_setSpeed_4 : decode cX6_setSpeed 4 = .ok (.getfield 66, 3) := by decide +kernel
theorem dX6_setSpeed_7 : decode cX6_setSpeed 7 = .ok (.iload_n 1, 1) := by decide +kernel
theorem dX6_setSpeed_8 : decode cX6_setSpeed 8 = .ok (.iload_n 2, 1) := by decide +kernel
theorem dX6_setSpeed_9 : decode cX6_setSpeed 9 = .ok (.iastore, 1) := by decide +kernel
theorem dX6_setSpeed_10 : decode cX6_setSpeed 10 = .ok (.aload_n 0, 1) := by decide +kernel
theorem dX6_setSpeed_11 : decode cX6_setSpeed 11 = .ok (.getfield 10, 3) := by decide +kernel
theorem dX6_setSpeed_14 : decode cX6_setSpeed 14 = .ok (.getfield 75, 3) := by decide +kernel
theorem dX6_setSpeed_17 : decode cX6_setSpeed 17 = .ok (.iload_n 1, 1) := by decide +kernel
theorem dX6_setSpeed_18 : decode cX6_setSpeed 18 = .ok (.iload_n 3, 1) := by decide +kernel
theorem dX6_setSpeed_19 : decode cX6_setSpeed 19 = .ok (.iastore, 1) := by decide +kernel
theorem dX6_setSpeed_20 : decode cX6_setSpeed 20 = .ok (.return_, 1) := by decide +kernel
set_option maxRecDepth 20000 in
theorem ggX6_letPass_X4_step : GoodIn wsX6_letPass wsX4_step := goodIn_r _ [6, 7, 8, 9, 10, 11, 12, 13, 5, 14, 95, 96, 97, 98, 99, 100, 101, 102, 103] (by decide +kernel) (by decide +kernel)
set_option maxRecDepth 20000 in
theorem gX6_letPass_X4_step : GoodIn wsX6_letPass (wsV RX6 331 RX4 yX4_step wsX4_step) := goodIn_app (goodIn_of _ (by decide +kernel)) ggX6_letPass_X4_step
set_option maxRecDepth 20000 in
theorem ggX6_letPass_X6_settle : GoodIn wsX6_letPass wsX6_settle := goodIn_r _ [19, 20, 1, 21, 22, 23, 24, 25, 26, 27, 28, 29, 30, 31, 32, 33, 34, 35, 36, 37, 38, 39, 40, 41, 42, 43, 44, 45, 46, 47, 48, 49, 50, 51, 52, 53, 54, 55, 18, 56, 57, 58, 59, 60, 61, 62, 63, 64, 65, 66, 67, 68, 69, 70, 71, 72, 73, 74, 75, 76, 77, 78, 79, 80, 81, 82, 83, 84, 85, 86, 87, 88, 89, 90, 91, 92, 93, 94, 104, 105, 95, 96, 97, 98, 99, 100, 101, 102, 103, 106, 107, 108, 109] (by decide +kernel) (by decide +kernel)
set_option maxRecDepth 20000 in
theorem gX6_letPass_X6_settle : GoodIn wsX6_letPass (wsV RX6 103 RX6 yX6_settle wsX6_settle) := goodIn_app (goodIn_of _ (by decide +kernel)) ggX6_letPass_X6_settle
theorem dX6_letPass_0 : decode cX6_letPass 0 = .ok (.iconst 0, 1) := by decide +kernel
theorem dX6_letPass_1 : decode cX6_letPass 1 = .ok (.istore_n 2, 1) := by decide +kernel
theorem dX6_letPass_2 : decode cX6_letPass 2 = .ok (.iconst 0, 1) := by decide +kernel
theorem dX6_letPass_3 : decode cX6_letPass 3 = .ok (.istore_n 3, 1) := by decide +kernel
theorem dX6_letPass_4 : decode cX6_letPass 4 = .ok (.iload_n 3, 1) := by decide +kernel
theorem dX6_letPass_5 : decode cX6_letPass 5 = .ok (.iload_n 1, 1) := by decide +kernel
theorem dX6_letPass_6 : decode cX6_letPass 6 = .ok (.if_icmp .ge 23, 3) := by decide +kernel
theorem dX6_letPass_9 : decode cX6_letPass 9 = .ok (.aload_n 0, 1) := by decide +kernel
theorem dX6_letPass_10 : decode cX6_letPass 10 = .ok (.getfield 10, 3) := by decide +kernel
theorem dX6_letPass_13 : decode cX6_letPass 13 = .ok (.invokevirtual 331, 3) := by decide +kernel
theorem dX6_letPass_16 : decode cX6_letPass 16 = .ok (.iload_n 2, 1) := by decide +kernel
theorem dX6_letPass_17 : decode cX6_letPass 17 = .ok (.aload_n 0, 1) := by decide +kernel
theorem dX6_letPass_18 : decode cX6_letPass 18 = .ok (.invokevirtual 103, 3) := by decide +kernel
theorem dX6_letPass_21 : decode cX6_letPass 21 = .ok (.iadd, 1) := by decide +kernel
theorem dX6_letPass_22 : decode cX6_letPass 22 = .ok (.istore_n 2, 1) := by decide +kernel
theorem dX6_letPass_23 : decode cX6_letPass 23 = .ok (.iinc 3 1, 3) := by decide +kernel
theorem dX6_letPass_26 : decode cX6_letPass 26 = .ok (.goto (-22), 3) := by decide +kernel
theorem dX6_letPass_29 : decode cX6_letPass 29 = .ok (.iload_n 2, 1) := by decide +kernel
theorem dX6_letPass_30 : decode cX6_letPass 30 = .ok (.ireturn, 1) := by decide +kernel
set_option maxRecDepth 20000 in
theorem ggX6_settle_X0_plant : GoodIn wsX6_settle wsX0_plant := goodIn_r _ [8, 9, 10, 11, 12, 13, 7, 14, 15, 16, 17, 18, 19, 20, 21, 22, 23, 24, 25, 26, 27, 28, 29, 30, 31, 32, 33, 34, 35, 36, 37, 38, 39, 40, 41, 42, 43, 44, 45, 46, 47, 48, 49, 50, 51, 52, 53, 54, 55, 56, 57, 58, 59, 60, 61, 62, 63, 64, 78, 79, 80, 81, 82, 83, 84, 85, 86, 87, 88, 89, 90, 91, 92] (by decide +kernel) (by decide +kernel)
set_option maxRecDepth 20000 in
theorem gX6_settle_X0_plant : GoodIn wsX6_settle (wsV RX6 196 RX0 yX0_plant wsX0_plant) := goodIn_app (goodIn_of _ (by decide +kernel)) ggX6_settle_X0_plant
set_option maxRecDepth 20000 in
theorem ggX6_settle_X0_differences : GoodIn wsX6_settle wsX0_differences := goodIn_r _ [68, 9, 69, 70, 71, 33, 72, 36, 64, 78, 79, 89, 90, 91, 92] (by decide +kernel) (by decide +kernel)
set_option maxRecDepth 20000 in
theorem gX6_settle_X0_differences : GoodIn wsX6_settle (wsV RX6 199 RX0 yX0_differences wsX0_differences) := goodIn_app (goodIn_of _ (by decide +kernel)) ggX6_settle_X0_differences
theorem dX6_settle_0 : decode cX6_settle 0 = .ok (.aload_n 0, 1) := by decide +kernel
theorem dX6_settle_1 : decode cX6_settle 1 = .ok (.getfield 37, 3) := by decide +kernel
theorem dX6_settle_4 : decode cX6_settle 4 = .ok (.aload_n 0, 1) := by decide +kernel
theorem dX6_settle_5 : decode cX6_settle 5 = .ok (.getfield 10, 3) := by decide +kernel
theorem dX6_settle_8 : decode cX6_settle 8 = .ok (.invokevirtual 196, 3) := by decide +kernel
theorem dX6_settle_11 : decode cX6_settle 11 = .ok (.aload_n 0, 1) := by decide +kernel
theorem dX6_settle_12 : decode cX6_settle 12 = .ok (.getfield 33, 3) := by decide +kernel
theorem dX6_settle_15 : decode cX6_settle 15 = .ok (.aload_n 0, 1) := by decide +kernel
theorem dX6_settle_16 : decode cX6_settle 16 = .ok (.getfield 37, 3) := by decide +kernel
theorem dX6_settle_19 : decode cX6_settle 19 = .ok (.invokevirtual 199, 3) := by decide +kernel
theorem dX6_settle_22 : decode cX6_settle 22 = .ok (.istore_n 1, 1) := by decide +kernel
theorem dX6_settle_23 : decode cX6_settle 23 = .ok (.aload_n 0, 1) := by decide +kernel
theorem dX6_settle_24 : decode cX6_settle 24 = .ok (.getfield 33, 3) := by decide +kernel
theorem dX6_settle_27 : decode cX6_settle 27 = .ok (.astore_n 2, 1) := by decide +kernel
theorem dX6_settle_28 : decode cX6_settle 28 = .ok (.aload_n 0, 1) := by decide +kernel
theorem dX6_settle_29 : decode cX6_settle 29 = .ok (.aload_n 0, 1) := by decide +kernel
theorem dX6_settle_30 : decode cX6_settle 30 = .ok (.getfield 37, 3) := by decide +kernel
theorem dX6_settle_33 : decode cX6_settle 33 = .ok (.putfield 33, 3) := by decide +kernel
theorem dX6_settle_36 : decode cX6_settle 36 = .ok (.aload_n 0, 1) := by decide +kernel
theorem dX6_settle_37 : decode cX6_settle 37 = .ok (.aload_n 2, 1) := by decide +kernel
theorem dX6_settle_38 : decode cX6_settle 38 = .ok (.putfield 37, 3) := by decide +kernel
theorem dX6_settle_41 : decode cX6_settle 41 = .ok (.iload_n 1, 1) := by decide +kernel
theorem dX6_settle_42 : decode cX6_settle 42 = .ok (.ireturn, 1) := by decide +kernel
set_option maxRecDepth 20000 in
theorem ggX6_refusalOfCommand_X6_refusalOfPlace : GoodIn wsX6_refusalOfCommand wsX6_refusalOfPlace := goodIn_r _ [5, 6, 7, 8, 9, 4, 10, 11, 12, 13, 14, 15, 16, 28, 29, 30, 31, 32, 33, 34, 35, 36, 37, 38, 39, 40, 41] (by decide +kernel) (by decide +kernel)
set_option maxRecDepth 20000 in
theorem gX6_refusalOfCommand_X6_refusalOfPlace : GoodIn wsX6_refusalOfCommand (wsV RX6 40 RX6 yX6_refusalOfPlace wsX6_refusalOfPlace) := goodIn_app (goodIn_of _ (by decide +kernel)) ggX6_refusalOfCommand_X6_refusalOfPlace
set_option maxRecDepth 20000 in
theorem ggX6_refusalOfCommand_X6_refusalOfDrop : GoodIn wsX6_refusalOfCommand wsX6_refusalOfDrop := goodIn_r _ [20, 6, 7, 8, 9, 4, 10, 11, 12, 13, 28, 29, 30, 31, 32, 33, 34, 35, 36, 37, 38, 39, 40, 41] (by decide +kernel) (by decide +kernel)
set_option maxRecDepth 20000 in
theorem gX6_refusalOfCommand_X6_refusalOfDrop : GoodIn wsX6_refusalOfCommand (wsV RX6 56 RX6 yX6_refusalOfDrop wsX6_refusalOfDrop) := goodIn_app (goodIn_of _ (by decide +kernel)) ggX6_refusalOfCommand_X6_refusalOfDrop
set_option maxRecDepth 20000 in
theorem ggX6_refusalOfCommand_X6_refusalOfSpeed : GoodIn wsX6_refusalOfCommand wsX6_refusalOfSpeed := goodIn_r _ [24, 6, 7, 8, 9, 4, 10, 11, 12, 13, 28, 29, 30, 31, 32, 33, 34, 35, 36, 37, 38, 39, 40, 41] (by decide +kernel) (by decide +kernel)
set_option maxRecDepth 20000 in
theorem gX6_refusalOfCommand_X6_refusalOfSpeed : GoodIn wsX6_refusalOfCommand (wsV RX6 63 RX6 yX6_refusalOfSpeed wsX6_refusalOfSpeed) := goodIn_app (goodIn_of _ (by decide +kernel)) ggX6_refusalOfCommand_X6_refusalOfSpeed
set_option maxRecDepth 20000 in
theorem ggX6_refusalOfCommand_X6_refusalOfTicks : GoodIn wsX6_refusalOfCommand wsX6_refusalOfTicks := goodIn_r _ [27, 11, 12, 4, 13] (by decide +kernel) (by decide +kernel)
set_option maxRecDepth 20000 in
theorem gX6_refusalOfCommand_X6_refusalOfTicks : GoodIn wsX6_refusalOfCommand (va_wsS RX6 82 yX6_refusalOfTicks wsX6_refusalOfTicks) := goodIn_app (goodIn_of _ (by decide +kernel)) ggX6_refusalOfCommand_X6_refusalOfTicks
theorem dX6_refusalOfCommand_0 : decode cX6_refusalOfCommand 0 = .ok (.iload_n 1, 1) := by decide +kernel
theorem dX6_refusalOfCommand_1 : decode cX6_refusalOfCommand 1 = .ok (.tableswitch 83 0 3 #[31, 46, 61, 69], 31) := by decide +kernel
theorem dX6_refusalOfCommand_32 : decode cX6_refusalOfCommand 32 = .ok (.aload_n 0, 1) := by decide +kernel
theorem dX6_refusalOfCommand_33 : decode cX6_refusalOfCommand 33 = .ok (.aload_n 2, 1) := by decide +kernel
theorem dX6_refusalOfCommand_34 : decode cX6_refusalOfCommand 34 = .ok (.iconst 0, 1) := by decide +kernel
theorem dX6_refusalOfCommand_35 : decode cX6_refusalOfCommand 35 = .ok (.iaload, 1) := by decide +kernel
theorem dX6_refusalOfCommand_36 : decode cX6_refusalOfCommand 36 = .ok (.aload_n 2, 1) := by decide +kernel
theorem dX6_refusalOfCommand_37 : decode cX6_refusalOfCommand 37 = .ok (.iconst 1, 1) := by decide +kernel
theorem dX6_refusalOfCommand_38 : decode cX6_refusalOfCommand 38 = .ok (.iaload, 1) := by decide +kernel
theorem dX6_refusalOfCommand_39 : decode cX6_refusalOfCommand 39 = .ok (.aload_n 2, 1) := by decide +kernel
theorem dX6_refusalOfCommand_40 : decode cX6_refusalOfCommand 40 = .ok (.iconst 2, 1) := by decide +kernel
theorem dX6_refusalOfCommand_41 : decode cX6_refusalOfCommand 41 = .ok (.iaload, 1) := by decide +kernel
theorem dX6_refusalOfCommand_42 : decode cX6_refusalOfCommand 42 = .ok (.iconst 0, 1) := by decide +kernel
theorem dX6_refusalOfCommand_43 : decode cX6_refusalOfCommand 43 = .ok (.invokevirtual 40, 3) := by decide +kernel
theorem dX6_refusalOfCommand_46 : decode cX6_refusalOfCommand 46 = .ok (.ireturn, 1) := by decide +kernel
theorem dX6_refusalOfCommand_47 : decode cX6_refusalOfCommand 47 = .ok (.aload_n 0, 1) := by decide +kernel
theorem dX6_refusalOfCommand_48 : decode cX6_refusalOfCommand 48 = .ok (.aload_n 2, 1) := by decide +kernel
theorem dX6_refusalOfCommand_49 : decode cX6_refusalOfCommand 49 = .ok (.iconst 0, 1) := by decide +kernel
theorem dX6_refusalOfCommand_50 : decode cX6_refusalOfCommand 50 = .ok (.iaload, 1) := by decide +kernel
theorem dX6_refusalOfCommand_51 : decode cX6_refusalOfCommand 51 = .ok (.aload_n 2, 1) := by decide +kernel
theorem dX6_refusalOfCommand_52 : decode cX6_refusalOfCommand 52 = .ok (.iconst 1, 1) := by decide +kernel
theorem dX6_refusalOfCommand_53 : decode cX6_refusalOfCommand 53 = .ok (.iaload, 1) := by decide +kernel
theorem dX6_refusalOfCommand_54 : decode cX6_refusalOfCommand 54 = .ok (.aload_n 2, 1) := by decide +kernel
theorem dX6_refusalOfCommand_55 : decode cX6_refusalOfCommand 55 = .ok (.iconst 2, 1) := by decide +kernel
theorem dX6_refusalOfCommand_56 : decode cX6_refusalOfCommand 56 = .ok (.iaload, 1) := by decide +kernel
theorem dX6_refusalOfCommand_57 : decode cX6_refusalOfCommand 57 = .ok (.iconst 1, 1) := by decide +kernel
theorem dX6_refusalOfCommand_58 : decode cX6_refusalOfCommand 58 = .ok (.invokevirtual 40, 3) := by decide +kernel
theorem dX6_refusalOfCommand_61 : decode cX6_refusalOfCommand 61 = .ok (.ireturn, 1) := by decide +kernel
theorem dX6_refusalOfCommand_62 : decode cX6_refusalOfCommand 62 = .ok (.aload_n 0, 1) := by decide +kernel
theorem dX6_refusalOfCommand_63 : decode cX6_refusalOfCommand 63 = .ok (.aload_n 2, 1) := by decide +kernel
theorem dX6_refusalOfCommand_64 : decode cX6_refusalOfCommand 64 = .ok (.iconst 0, 1) := by decide +kernel
theorem dX6_refusalOfCommand_65 : decode cX6_refusalOfCommand 65 = .ok (.iaload, 1) := by decide +kernel
theorem dX6_refusalOfCommand_66 : decode cX6_refusalOfCommand 66 = .ok (.invokevirtual 56, 3) := by decide +kernel
theorem dX6_refusalOfCommand_69 : decode cX6_refusalOfCommand 69 = .ok (.ireturn, 1) := by decide +kernel
theorem dX6_refusalOfCommand_70 : decode cX6_refusalOfCommand 70 = .ok (.aload_n 0, 1) := by decide +kernel
theorem dX6_refusalOfCommand_71 : decode cX6_refusalOfCommand 71 = .ok (.aload_n 2, 1) := by decide +kernel
theorem dX6_refusalOfCommand_72 : decode cX6_refusalOfCommand 72 = .ok (.iconst 0, 1) := by decide +kernel
theorem dX6_refusalOfCommand_73 : decode cX6_refusalOfCommand 73 = .ok (.iaload, 1) := by decide +kernel
theorem dX6_refusalOfCommand_74 : decode cX6_refusalOfCommand 74 = .ok (.aload_n 2, 1) := by decide +kernel
theorem dX6_refusalOfCommand_75 : decode cX6_refusalOfCommand 75 = .ok (.iconst 1, 1) := by decide +kernel
theorem dX6_refusalOfCommand_76 : decode cX6_refusalOfCommand 76 = .ok (.iaload, 1) := by decide +kernel
theorem dX6_refusalOfCommand_77 : decode cX6_refusalOfCommand 77 = .ok (.aload_n 2, 1) := by decide +kernel
theorem dX6_refusalOfCommand_78 : decode cX6_refusalOfCommand 78 = .ok (.iconst 2, 1) := by decide +kernel
theorem dX6_refusalOfCommand_79 : decode cX6_refusalOfCommand 79 = .ok (.iaload, 1) := by decide +kernel
theorem dX6_refusalOfCommand_80 : decode cX6_refusalOfCommand 80 = .ok (.invokevirtual 63, 3) := by decide +kernel
theorem dX6_refusalOfCommand_83 : decode cX6_refusalOfCommand 83 = .ok (.ireturn, 1) := by decide +kernel
theorem dX6_refusalOfCommand_84 : decode cX6_refusalOfCommand 84 = .ok (.aload_n 2, 1) := by decide +kernel
theorem dX6_refusalOfCommand_85 : decode cX6_refusalOfCommand 85 = .ok (.iconst 0, 1) := by decide +kernel
theorem dX6_refusalOfCommand_86 : decode cX6_refusalOfCommand 86 = .ok (.iaload, 1) := by decide +kernel
theorem dX6_refusalOfCommand_87 : decode cX6_refusalOfCommand 87 = .ok (.invokestatic 82, 3) := by decide +kernel
theorem dX6_refusalOfCommand_90 : decode cX6_refusalOfCommand 90 = .ok (.ireturn, 1) := by decide +kernel
set_option maxRecDepth 20000 in
theorem ggX6_carryOut_X6_place : GoodIn wsX6_carryOut wsX6_place := goodIn_r _ [5, 6, 7, 8, 9, 10, 11, 12, 13, 14, 15, 16, 17, 4, 18, 19, 20, 21, 22, 23, 24, 25, 26, 27, 28, 29, 30, 31, 32, 33, 34, 35, 36, 37, 38, 39, 40, 41, 42, 43, 44, 45, 46, 47, 48, 49, 50, 51, 52, 53, 54, 55, 56, 57, 58, 59, 60, 61, 62, 63, 64, 65, 66, 67, 68, 69, 70, 71, 72, 73, 74, 75, 76, 77, 78, 79, 80, 81, 82, 83, 84, 85, 86, 87, 88, 117, 118, 119, 120, 121, 122, 123, 124, 125, 126, 127, 128, 129, 130, 131, 132, 133, 134, 135, 136] (by decide +kernel) (by decide +kernel)
set_option maxRecDepth 20000 in
theorem gX6_carryOut_X6_place : GoodIn wsX6_carryOut (wsV RX6 52 RX6 yX6_place wsX6_place) := goodIn_app (goodIn_of _ (by decide +kernel)) ggX6_carryOut_X6_place
set_option maxRecDepth 20000 in
theorem ggX6_carryOut_X6_takeOut : GoodIn wsX6_carryOut wsX6_takeOut := goodIn_r _ [92, 6, 93, 94, 95, 10, 96, 12, 13, 14, 97, 98, 15, 16, 17, 4, 18, 19, 20, 21, 22, 23, 24, 25, 26, 27, 28, 29, 30, 31, 32, 33, 34, 35, 36, 37, 38, 39, 40, 41, 42, 43, 44, 45, 46, 47, 48, 49, 50, 51, 52, 53, 54, 55, 56, 57, 58, 59, 60, 61, 62, 63, 64, 65, 66, 67, 68, 69, 70, 71, 72, 73, 74, 75, 76, 77, 78, 79, 80, 81, 82, 83, 84, 85, 86, 87, 88, 117, 118, 119, 120, 121, 122, 123, 124, 125, 126, 127, 128, 129, 130, 131, 132, 133, 134, 135, 136] (by decide +kernel) (by decide +kernel)
set_option maxRecDepth 20000 in
theorem gX6_carryOut_X6_takeOut : GoodIn wsX6_carryOut (wsV RX6 60 RX6 yX6_takeOut wsX6_takeOut) := goodIn_app (goodIn_of _ (by decide +kernel)) ggX6_carryOut_X6_takeOut
set_option maxRecDepth 20000 in
theorem ggX6_carryOut_X6_setSpeed : GoodIn wsX6_carryOut wsX6_setSpeed := goodIn_r _ [102, 6, 103, 104, 117, 118, 119, 120, 121, 122, 123, 124, 125, 126, 127, 128, 129, 130] (by decide +kernel) (by decide +kernel)
set_option maxRecDepth 20000 in
theorem gX6_carryOut_X6_setSpeed : GoodIn wsX6_carryOut (wsV RX6 78 RX6 yX6_setSpeed wsX6_setSpeed) := goodIn_app (goodIn_of _ (by decide +kernel)) ggX6_carryOut_X6_setSpeed
set_option maxRecDepth 20000 in
theorem ggX6_carryOut_X6_letPass : GoodIn wsX6_carryOut wsX6_letPass := goodIn_r _ [108, 6, 109, 110, 111, 10, 112, 13, 97, 14, 98, 113, 114, 115, 116, 15, 16, 17, 4, 18, 19, 20, 21, 22, 23, 24, 25, 26, 27, 28, 29, 30, 31, 32, 33, 34, 35, 36, 37, 38, 39, 40, 41, 42, 43, 44, 45, 46, 47, 48, 49, 50, 51, 52, 53, 54, 55, 56, 57, 58, 59, 60, 61, 62, 63, 64, 65, 66, 67, 68, 69, 70, 71, 72, 73, 74, 75, 76, 77, 78, 79, 80, 81, 82, 83, 84, 85, 86, 87, 88, 117, 118, 119, 120, 121, 122, 123, 124, 125, 126, 127, 128, 129, 130, 131, 132, 133, 134, 135, 136] (by decide +kernel) (by decide +kernel)
set_option maxRecDepth 20000 in
theorem gX6_carryOut_X6_letPass : GoodIn wsX6_carryOut (wsV RX6 85 RX6 yX6_letPass wsX6_letPass) := goodIn_app (goodIn_of _ (by decide +kernel)) ggX6_carryOut_X6_letPass
theorem dX6_carryOut_0 : decode cX6_carryOut 0 = .ok (.iload_n 1, 1) := by decide +kernel
theorem dX6_carryOut_1 : decode cX6_carryOut 1 = .ok (.tableswitch 75 0 3 #[31, 31, 48, 59], 31) := by decide +kernel
theorem dX6_carryOut_32 : decode cX6_carryOut 32 = .ok (.aload_n 0, 1) := by decide +kernel
theorem dX6_carryOut_33 : decode cX6_carryOut 33 = .ok (.aload_n 2, 1) := by decide +kernel
theorem dX6_carryOut_34 : decode cX6_carryOut 34 = .ok (.iconst 0, 1) := by decide +kernel
theorem dX6_carryOut_35 : decode cX6_carryOut 35 = .ok (.iaload, 1) := by decide +kernel
theorem dX6_carryOut_36 : decode cX6_carryOut 36 = .ok (.aload_n 2, 1) := by decide +kernel
theorem dX6_carryOut_37 : decode cX6_carryOut 37 = .ok (.iconst 1, 1) := by decide +kernel
theorem dX6_carryOut_38 : decode cX6_carryOut 38 = .ok (.iaload, 1) := by decide +kernel
theorem dX6_carryOut_39 : decode cX6_carryOut 39 = .ok (.aload_n 2, 1) := by decide +kernel
theorem dX6_carryOut_40 : decode cX6_carryOut 40 = .ok (.iconst 2, 1) := by decide +kernel
theorem dX6_carryOut_41 : decode cX6_carryOut 41 = .ok (.iaload, 1) := by decide +kernel
theorem dX6_carryOut_42 : decode cX6_carryOut 42 = .ok (.invokevirtual 52, 3) := by decide +kernel
theorem dX6_carryOut_45 : decode cX6_carryOut 45 = .ok (.pop, 1) := by decide +kernel
theorem dX6_carryOut_46 : decode cX6_carryOut 46 = .ok (.goto 38, 3) := by decide +kernel
theorem dX6_carryOut_49 : decode cX6_carryOut 49 = .ok (.aload_n 0, 1) := by decide +kernel
theorem dX6_carryOut_50 : decode cX6_carryOut 50 = .ok (.aload_n 2, 1) := by decide +kernel
theorem dX6_carryOut_51 : decode cX6_carryOut 51 = .ok (.iconst 0, 1) := by decide +kernel
theorem dX6_carryOut_52 : decode cX6_carryOut 52 = .ok (.iaload, 1) := by decide +kernel
theorem dX6_carryOut_53 : decode cX6_carryOut 53 = .ok (.invokevirtual 60, 3) := by decide +kernel
theorem dX6_carryOut_56 : decode cX6_carryOut 56 = .ok (.pop, 1) := by decide +kernel
theorem dX6_carryOut_57 : decode cX6_carryOut 57 = .ok (.goto 27, 3) := by decide +kernel
theorem dX6_carryOut_60 : decode cX6_carryOut 60 = .ok (.aload_n 0, 1) := by decide +kernel
theorem dX6_carryOut_61 : decode cX6_carryOut 61 = .ok (.aload_n 2, 1) := by decide +kernel
theorem dX6_carryOut_62 : decode cX6_carryOut 62 = .ok (.iconst 0, 1) := by decide +kernel
theorem dX6_carryOut_63 : decode cX6_carryOut 63 = .ok (.iaload, 1) := by decide +kernel
theorem dX6_carryOut_64 : decode cX6_carryOut 64 = .ok (.aload_n 2, 1) := by decide +kernel
theorem dX6_carryOut_65 : decode cX6_carryOut 65 = .ok (.iconst 1, 1) := by decide +kernel
theorem dX6_carryOut_66 : decode cX6_carryOut 66 = .ok (.iaload, 1) := by decide +kernel
theorem dX6_carryOut_67 : decode cX6_carryOut 67 = .ok (.aload_n 2, 1) := by decide +kernel
theorem dX6_carryOut_68 : decode cX6_carryOut 68 = .ok (.iconst 2, 1) := by decide +kernel
theorem dX6_carryOut_69 : decode cX6_carryOut 69 = .ok (.iaload, 1) := by decide +kernel
theorem dX6_carryOut_70 : decode cX6_carryOut 70 = .ok (.invokevirtual 78, 3) := by decide +kernel
theorem dX6_carryOut_73 : decode cX6_carryOut 73 = .ok (.goto 11, 3) := by decide +kernel
theorem dX6_carryOut_76 : decode cX6_carryOut 76 = .ok (.aload_n 0, 1) := by decide +kernel
theorem dX6_carryOut_77 : decode cX6_carryOut 77 = .ok (.aload_n 2, 1) := by decide +kernel
theorem dX6_carryOut_78 : decode cX6_carryOut 78 = .ok (.iconst 0, 1) := by decide +kernel
theorem dX6_carryOut_79 : decode cX6_carryOut 79 = .ok (.iaload, 1) := by decide +kernel
theorem dX6_carryOut_80 : decode cX6_carryOut 80 = .ok (.invokevirtual 85, 3) := by decide +kernel
theorem dX6_carryOut_83 : decode cX6_carryOut 83 = .ok (.pop, 1) := by decide +kernel
theorem dX6_carryOut_84 : decode cX6_carryOut 84 = .ok (.return_, 1) := by decide +kernel
theorem dX6_nextRandom_0 : decode cX6_nextRandom 0 = .ok (.ldc2_w 334, 3) := by decide +kernel
theorem dX6_nextRandom_3 : decode cX6_nextRandom 3 = .ok (.lload_n 0, 1) := by decide +kernel
theorem dX6_nextRandom_4 : decode cX6_nextRandom 4 = .ok (.lmul, 1) := by decide +kernel
theorem dX6_nextRandom_5 : decode cX6_nextRandom 5 = .ok (.ldc2_w 336, 3) := by decide +kernel
theorem dX6_nextRandom_8 : decode cX6_nextRandom 8 = .ok (.ladd, 1) := by decide +kernel
theorem dX6_nextRandom_9 : decode cX6_nextRandom 9 = .ok (.ldc2_w 338, 3) := by decide +kernel
theorem dX6_nextRandom_12 : decode cX6_nextRandom 12 = .ok (.lrem, 1) := by decide +kernel
theorem dX6_nextRandom_13 : decode cX6_nextRandom 13 = .ok (.lreturn, 1) := by decide +kernel
theorem dX6_placeIn_0 : decode cX6_placeIn 0 = .ok (.iload_n 2, 1) := by decide +kernel
theorem dX6_placeIn_1 : decode cX6_placeIn 1 = .ok (.ifCond .le 15, 3) := by decide +kernel
theorem dX6_placeIn_4 : decode cX6_placeIn 4 = .ok (.lload_n 0, 1) := by decide +kernel
theorem dX6_placeIn_5 : decode cX6_placeIn 5 = .ok (.ldc2_w 340, 3) := by decide +kernel
theorem dX6_placeIn_8 : decode cX6_placeIn 8 = .ok (.ldiv, 1) := by decide +kernel
theorem dX6_placeIn_9 : decode cX6_placeIn 9 = .ok (.iload_n 2, 1) := by decide +kernel
theorem dX6_placeIn_10 : decode cX6_placeIn 10 = .ok (.i2l, 1) := by decide +kernel
theorem dX6_placeIn_11 : decode cX6_placeIn 11 = .ok (.lrem, 1) := by decide +kernel
theorem dX6_placeIn_12 : decode cX6_placeIn 12 = .ok (.l2i, 1) := by decide +kernel
theorem dX6_placeIn_13 : decode cX6_placeIn 13 = .ok (.goto 4, 3) := by decide +kernel
theorem dX6_placeIn_16 : decode cX6_placeIn 16 = .ok (.iconst 0, 1) := by decide +kernel
theorem dX6_placeIn_17 : decode cX6_placeIn 17 = .ok (.ireturn, 1) := by decide +kernel
theorem dX6_heightOf_0 : decode cX6_heightOf 0 = .ok (.iconst 0, 1) := by decide +kernel
theorem dX6_heightOf_1 : decode cX6_heightOf 1 = .ok (.istore_n 1, 1) := by decide +kernel
theorem dX6_heightOf_2 : decode cX6_heightOf 2 = .ok (.iload_n 0, 1) := by decide +kernel
theorem dX6_heightOf_3 : decode cX6_heightOf 3 = .ok (.iconst 1, 1) := by decide +kernel
theorem dX6_heightOf_4 : decode cX6_heightOf 4 = .ok (.iadd, 1) := by decide +kernel
theorem dX6_heightOf_5 : decode cX6_heightOf 5 = .ok (.istore_n 2, 1) := by decide +kernel
theorem dX6_heightOf_6 : decode cX6_heightOf 6 = .ok (.iload_n 1, 1) := by decide +kernel
theorem dX6_heightOf_7 : decode cX6_heightOf 7 = .ok (.iconst 4, 1) := by decide +kernel
theorem dX6_heightOf_8 : decode cX6_heightOf 8 = .ok (.if_icmp .ge 19, 3) := by decide +kernel
theorem dX6_heightOf_11 : decode cX6_heightOf 11 = .ok (.iload_n 2, 1) := by decide +kernel
theorem dX6_heightOf_12 : decode cX6_heightOf 12 = .ok (.iconst 2, 1) := by decide +kernel
theorem dX6_heightOf_13 : decode cX6_heightOf 13 = .ok (.irem, 1) := by decide +kernel
theorem dX6_heightOf_14 : decode cX6_heightOf 14 = .ok (.ifCond .ne 13, 3) := by decide +kernel
theorem dX6_heightOf_17 : decode cX6_heightOf 17 = .ok (.iinc 1 1, 3) := by decide +kernel
theorem dX6_heightOf_20 : decode cX6_heightOf 20 = .ok (.iload_n 2, 1) := by decide +kernel
theorem dX6_heightOf_21 : decode cX6_heightOf 21 = .ok (.iconst 2, 1) := by decide +kernel
theorem dX6_heightOf_22 : decode cX6_heightOf 22 = .ok (.idiv, 1) := by decide +kernel
theorem dX6_heightOf_23 : decode cX6_heightOf 23 = .ok (.istore_n 2, 1) := by decide +kernel
theorem dX6_heightOf_24 : decode cX6_heightOf 24 = .ok (.goto (-18), 3) := by decide +kernel
theorem dX6_heightOf_27 : decode cX6_heightOf 27 = .ok (.iload_n 1, 1) := by decide +kernel
theorem dX6_heightOf_28 : decode cX6_heightOf 28 = .ok (.ireturn, 1) := by decide +kernel
theorem dX6_distance_0 : decode cX6_distance 0 = .ok (.iload_n 0, 1) := by decide +kernel
theorem dX6_distance_1 : decode cX6_distance 1 = .ok (.iload_n 2, 1) := by decide +kernel
theorem dX6_distance_2 : decode cX6_distance 2 = .ok (.isub, 1) := by decide +kernel
theorem dX6_distance_3 : decode cX6_distance 3 = .ok (.iload_n 0, 1) := by decide +kernel
theorem dX6_distance_4 : decode cX6_distance 4 = .ok (.iload_n 2, 1) := by decide +kernel
theorem dX6_distance_5 : decode cX6_distance 5 = .ok (.isub, 1) := by decide +kernel
theorem dX6_distance_6 : decode cX6_distance 6 = .ok (.imul, 1) := by decide +kernel
theorem dX6_distance_7 : decode cX6_distance 7 = .ok (.iload_n 1, 1) := by decide +kernel
theorem dX6_distance_8 : decode cX6_distance 8 = .ok (.iload_n 3, 1) := by decide +kernel
theorem dX6_distance_9 : decode cX6_distance 9 = .ok (.isub, 1) := by decide +kernel
theorem dX6_distance_10 : decode cX6_distance 10 = .ok (.iload_n 1, 1) := by decide +kernel
theorem dX6_distance_11 : decode cX6_distance 11 = .ok (.iload_n 3, 1) := by decide +kernel
theorem dX6_distance_12 : decode cX6_distance 12 = .ok (.isub, 1) := by decide +kernel
theorem dX6_distance_13 : decode cX6_distance 13 = .ok (.imul, 1) := by decide +kernel
theorem dX6_distance_14 : decode cX6_distance 14 = .ok (.iadd, 1) := by decide +kernel
theorem dX6_distance_15 : decode cX6_distance 15 = .ok (.ireturn, 1) := by decide +kernel
