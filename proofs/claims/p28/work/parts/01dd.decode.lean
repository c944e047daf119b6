set_option maxRecDepth 20000 in
theorem gX6_node_X6_refusalOfNode : GoodIn wsX6_node (wsV RX6 148 RX6 yX6_refusalOfNode wsX6_refusalOfNode) := goodIn_app (goodIn_of _ (by decide +kernel)) ggX6_node_X6_refusalOfNode
set_option maxRecDepth 20000 in
theorem ggX6_node_X6_throwIf : GoodIn wsX6_node wsX6_throwIf := goodIn_ca (goodIn_ca (goodIn_ca (goodIn_r _ [18, 19, 20, 21, 22, 23, 24] (by decide +kernel) (by decide +kernel)) (goodIn_sub (fun _ h => List.mem_cons_of_mem _ (List.mem_append_left _ (List.mem_append_left _ (List.mem_append_right _ h)))) (by decide +kernel))) (goodIn_sub (fun _ h => List.mem_cons_of_mem _ (List.mem_append_left _ (List.mem_append_right _ h))) (by decide +kernel))) (goodIn_sub (fun _ h => List.mem_cons_of_mem _ (List.mem_append_right _ h)) (by decide +kernel))
set_option maxRecDepth 20000 in
theorem gX6_node_X6_throwIf : GoodIn wsX6_node (va_wsS RX6 44 yX6_throwIf wsX6_throwIf) := goodIn_app (goodIn_of _ (by decide +kernel)) ggX6_node_X6_throwIf
set_option maxRecDepth 20000 in
theorem ggX6_node_X3_corner : GoodIn wsX6_node wsX3_corner := goodIn_r _ [28] (by decide +kernel) (by decide +kernel)
set_option maxRecDepth 20000 in
theorem gX6_node_X3_corner : GoodIn wsX6_node (va_wsS RX6 154 yX3_corner wsX3_corner) := goodIn_app (goodIn_of _ (by decide +kernel)) ggX6_node_X3_corner
set_option maxRecDepth 20000 in
theorem ggX6_node_X3_xOf : GoodIn wsX6_node wsX3_xOf := goodIn_r _ [31, 32, 33, 27, 34] (by decide +kernel) (by decide +kernel)
set_option maxRecDepth 20000 in
theorem gX6_node_X3_xOf : GoodIn wsX6_node (va_wsS RX6 159 yX3_xOf wsX3_xOf) := goodIn_app (goodIn_of _ (by decide +kernel)) ggX6_node_X3_xOf
set_option maxRecDepth 20000 in
theorem ggX6_node_X3_yOf : GoodIn wsX6_node wsX3_yOf := goodIn_r _ [37, 32, 33, 27, 34] (by decide +kernel) (by decide +kernel)
set_option maxRecDepth 20000 in
theorem gX6_node_X3_yOf : GoodIn wsX6_node (va_wsS RX6 162 yX3_yOf wsX3_yOf) := goodIn_app (goodIn_of _ (by decide +kernel)) ggX6_node_X3_yOf
set_option maxRecDepth 20000 in
theorem ggX6_node_X3_size : GoodIn wsX6_node wsX3_size := goodIn_r _ [40, 41, 42, 27, 43] (by decide +kernel) (by decide +kernel)
set_option maxRecDepth 20000 in
theorem gX6_node_X3_size : GoodIn wsX6_node (va_wsS RX6 165 yX3_size wsX3_size) := goodIn_app (goodIn_of _ (by decide +kernel)) ggX6_node_X3_size
set_option maxRecDepth 20000 in
theorem ggX6_node_X1_depthOf : GoodIn wsX6_node wsX1_depthOf := goodIn_r _ [48, 49, 50, 26, 27, 28, 51, 52, 53, 54, 41, 42, 43, 82, 83, 84, 85] (by decide +kernel) (by decide +kernel)
set_option maxRecDepth 20000 in
theorem gX6_node_X1_depthOf : GoodIn wsX6_node (wsV RX6 168 RX1 yX1_depthOf wsX1_depthOf) := goodIn_app (goodIn_of _ (by decide +kernel)) ggX6_node_X1_depthOf
set_option maxRecDepth 20000 in
theorem ggX6_node_X1_pointsIn : GoodIn wsX6_node wsX1_pointsIn := goodIn_r _ [58, 59, 60, 51, 52, 27, 53, 54, 26, 28, 41, 42, 43, 82, 83, 84, 85] (by decide +kernel) (by decide +kernel)
set_option maxRecDepth 20000 in
theorem gX6_node_X1_pointsIn : GoodIn wsX6_node (wsV RX6 171 RX1 yX1_pointsIn wsX1_pointsIn) := goodIn_app (goodIn_of _ (by decide +kernel)) ggX6_node_X1_pointsIn
set_option maxRecDepth 20000 in
theorem ggX6_node_X1_quadrantsIn : GoodIn wsX6_node wsX1_quadrantsIn := goodIn_r _ [64, 59, 60, 51, 52, 27, 53, 54, 26, 28, 41, 42, 43, 65, 66, 67, 68, 69, 70, 71, 72, 73, 74, 82, 83, 84, 85] (by decide +kernel) (by decide +kernel)
set_option maxRecDepth 20000 in
theorem gX6_node_X1_quadrantsIn : GoodIn wsX6_node (wsV RX6 174 RX1 yX1_quadrantsIn wsX1_quadrantsIn) := goodIn_app (goodIn_of _ (by decide +kernel)) ggX6_node_X1_quadrantsIn
theorem dX6_node_0 : decode cX6_node 0 = .ok (.aload_n 0, 1) := by decide +kernel
theorem dX6_node_1 : decode cX6_node 1 = .ok (.iload_n 1, 1) := by decide +kernel
theorem dX6_node_2 : decode cX6_node 2 = .ok (.iload_n 2, 1) := by decide +kernel
theorem dX6_node_3 : decode cX6_node 3 = .ok (.iload_n 3, 1) := by decide +kernel
theorem dX6_node_4 : decode cX6_node 4 = .ok (.iconst 5, 1) := by decide +kernel
theorem dX6_node_5 : decode cX6_node 5 = .ok (.invokevirtual 148, 3) := by decide +kernel
theorem dX6_node_8 : decode cX6_node 8 = .ok (.invokestatic 44, 3) := by decide +kernel
theorem dX6_node_11 : decode cX6_node 11 = .ok (.aload_n 0, 1) := by decide +kernel
theorem dX6_node_12 : decode cX6_node 12 = .ok (.getfield 33, 3) := by decide +kernel
theorem dX6_node_15 : decode cX6_node 15 = .ok (.getfield 126, 3) := by decide +kernel
theorem dX6_node_18 : decode cX6_node 18 = .ok (.iload_n 1, 1) := by decide +kernel
theorem dX6_node_19 : decode cX6_node 19 = .ok (.aaload, 1) := by decide +kernel
theorem dX6_node_20 : decode cX6_node 20 = .ok (.astore 4, 2) := by decide +kernel
theorem dX6_node_22 : decode cX6_node 22 = .ok (.aload 4, 2) := by decide +kernel
theorem dX6_node_24 : decode cX6_node 24 = .ok (.getfield 151, 3) := by decide +kernel
theorem dX6_node_27 : decode cX6_node 27 = .ok (.iload_n 2, 1) := by decide +kernel
theorem dX6_node_28 : decode cX6_node 28 = .ok (.iaload, 1) := by decide +kernel
theorem dX6_node_29 : decode cX6_node 29 = .ok (.istore 5, 2) := by decide +kernel
theorem dX6_node_31 : decode cX6_node 31 = .ok (.iload_n 3, 1) := by decide +kernel
theorem dX6_node_32 : decode cX6_node 32 = .ok (.tableswitch 75 0 4 #[36, 45, 54, 60, 67], 36) := by decide +kernel
theorem dX6_node_68 : decode cX6_node 68 = .ok (.iload 5, 2) := by decide +kernel
theorem dX6_node_70 : decode cX6_node 70 = .ok (.invokestatic 154, 3) := by decide +kernel
theorem dX6_node_73 : decode cX6_node 73 = .ok (.invokestatic 159, 3) := by decide +kernel
theorem dX6_node_76 : decode cX6_node 76 = .ok (.ireturn, 1) := by decide +kernel
theorem dX6_node_77 : decode cX6_node 77 = .ok (.iload 5, 2) := by decide +kernel
theorem dX6_node_79 : decode cX6_node 79 = .ok (.invokestatic 154, 3) := by decide +kernel
theorem dX6_node_82 : decode cX6_node 82 = .ok (.invokestatic 162, 3) := by decide +kernel
theorem dX6_node_85 : decode cX6_node 85 = .ok (.ireturn, 1) := by decide +kernel
theorem dX6_node_86 : decode cX6_node 86 = .ok (.iload 5, 2) := by decide +kernel
theorem dX6_node_88 : decode cX6_node 88 = .ok (.invokestatic 165, 3) := by decide +kernel
theorem dX6_node_91 : decode cX6_node 91 = .ok (.ireturn, 1) := by decide +kernel
theorem dX6_node_92 : decode cX6_node 92 = .ok (.aload 4, 2) := by decide +kernel
theorem dX6_node_94 : decode cX6_node 94 = .ok (.iload_n 2, 1) := by decide +kernel
theorem dX6_node_95 : decode cX6_node 95 = .ok (.invokevirtual 168, 3) := by decide +kernel
theorem dX6_node_98 : decode cX6_node 98 = .ok (.ireturn, 1) := by decide +kernel
theorem dX6_node_99 : decode cX6_node 99 = .ok (.aload 4, 2) := by decide +kernel
theorem dX6_node_101 : decode cX6_node 101 = .ok (.iload 5, 2) := by decide +kernel
theorem dX6_node_103 : decode cX6_node 103 = .ok (.invokevirtual 171, 3) := by decide +kernel
theorem dX6_node_106 : decode cX6_node 106 = .ok (.ireturn, 1) := by decide +kernel
theorem dX6_node_107 : decode cX6_node 107 = .ok (.aload 4, 2) := by decide +kernel
theorem dX6_node_109 : decode cX6_node 109 = .ok (.iload 5, 2) := by decide +kernel
theorem dX6_node_111 : decode cX6_node 111 = .ok (.invokevirtual 174, 3) := by decide +kernel
theorem dX6_node_114 : decode cX6_node 114 = .ok (.ireturn, 1) := by decide +kernel
set_option maxRecDepth 20000 in
theorem ggX6_child_X6_refusalOfNode : GoodIn wsX6_child wsX6_refusalOfNode := goodIn_r _ [7, 1, 2, 8, 9, 10, 6, 11, 12, 13, 14, 59, 60, 61, 62, 63, 64, 65, 66, 67, 68, 69] (by decide +kernel) (by decide +kernel)
set_option maxRecDepth 20000 in
theorem gX6_child_X6_refusalOfNode : GoodIn wsX6_child (wsV RX6 148 RX6 yX6_refusalOfNode wsX6_refusalOfNode) := goodIn_app (goodIn_of _ (by decide +kernel)) ggX6_child_X6_refusalOfNode
set_option maxRecDepth 20000 in
theorem ggX6_child_X6_throwIf : GoodIn wsX6_child wsX6_throwIf := goodIn_ca (goodIn_ca (goodIn_ca (goodIn_r _ [17, 18, 19, 20, 21, 22, 23] (by decide +kernel) (by decide +kernel)) (goodIn_sub (fun _ h => List.mem_cons_of_mem _ (List.mem_append_left _ (List.mem_append_left _ (List.mem_append_right _ h)))) (by decide +kernel))) (goodIn_sub (fun _ h => List.mem_cons_of_mem _ (List.mem_append_left _ (List.mem_append_right _ h))) (by decide +kernel))) (goodIn_sub (fun _ h => List.mem_cons_of_mem _ (List.mem_append_right _ h)) (by decide +kernel))
set_option maxRecDepth 20000 in
theorem gX6_child_X6_throwIf : GoodIn wsX6_child (va_wsS RX6 44 yX6_throwIf wsX6_throwIf) := goodIn_app (goodIn_of _ (by decide +kernel)) ggX6_child_X6_throwIf
set_option maxRecDepth 20000 in
theorem ggX6_child_X1_childOf : GoodIn wsX6_child wsX1_childOf := goodIn_r _ [28, 29, 30, 31, 32, 33, 34, 35, 36, 37, 38, 39, 40, 41, 42, 43, 44, 45, 46, 47, 48, 49, 50, 51, 52, 53, 54, 55, 56, 27, 57, 58, 66, 67, 68, 69] (by decide +kernel) (by decide +kernel)
set_option maxRecDepth 20000 in
theorem gX6_child_X1_childOf : GoodIn wsX6_child (wsV RX6 177 RX1 yX1_childOf wsX1_childOf) := goodIn_app (goodIn_of _ (by decide +kernel)) ggX6_child_X1_childOf
theorem dX6_child_0 : decode cX6_child 0 = .ok (.aload_n 0, 1) := by decide +kernel
theorem dX6_child_1 : decode cX6_child 1 = .ok (.iload_n 1, 1) := by decide +kernel
theorem dX6_child_2 : decode cX6_child 2 = .ok (.iload_n 2, 1) := by decide +kernel
theorem dX6_child_3 : decode cX6_child 3 = .ok (.iload_n 3, 1) := by decide +kernel
theorem dX6_child_4 : decode cX6_child 4 = .ok (.iconst 3, 1) := by decide +kernel
theorem dX6_child_5 : decode cX6_child 5 = .ok (.invokevirtual 148, 3) := by decide +kernel
theorem dX6_child_8 : decode cX6_child 8 = .ok (.invokestatic 44, 3) := by decide +kernel
theorem dX6_child_11 : decode cX6_child 11 = .ok (.aload_n 0, 1) := by decide +kernel
theorem dX6_child_12 : decode cX6_child 12 = .ok (.getfield 33, 3) := by decide +kernel
theorem dX6_child_15 : decode cX6_child 15 = .ok (.getfield 126, 3) := by decide +kernel
theorem dX6_child_18 : decode cX6_child 18 = .ok (.iload_n 1, 1) := by decide +kernel
theorem dX6_child_19 : decode cX6_child 19 = .ok (.aaload, 1) := by decide +kernel
theorem dX6_child_20 : decode cX6_child 20 = .ok (.iload_n 2, 1) := by decide +kernel
theorem dX6_child_21 : decode cX6_child 21 = .ok (.iload_n 3, 1) := by decide +kernel
theorem dX6_child_22 : decode cX6_child 22 = .ok (.invokevirtual 177, 3) := by decide +kernel
theorem dX6_child_25 : decode cX6_child 25 = .ok (.ireturn, 1) := by decide +kernel
set_option maxRecDepth 20000 in
theorem ggX6_search_X6_isPosition : GoodIn wsX6_search wsX6_isPosition := goodIn_r _ [7, 8, 9, 6, 10] (by decide +kernel) (by decide +kernel)
set_option maxRecDepth 20000 in
theorem gX6_search_X6_isPosition : GoodIn wsX6_search (va_wsS RX6 181 yX6_isPosition wsX6_isPosition) := goodIn_app (goodIn_of _ (by decide +kernel)) ggX6_search_X6_isPosition
set_option maxRecDepth 20000 in
theorem ggX6_search_X6_inside : GoodIn wsX6_search wsX6_inside := goodIn_r _ [10] (by decide +kernel) (by decide +kernel)
set_option maxRecDepth 20000 in
theorem gX6_search_X6_inside : GoodIn wsX6_search (va_wsS RX6 185 yX6_inside wsX6_inside) := goodIn_app (goodIn_of _ (by decide +kernel)) ggX6_search_X6_inside
set_option maxRecDepth 20000 in
theorem ggX6_search_X6_throwIf : GoodIn wsX6_search wsX6_throwIf := goodIn_ca (goodIn_ca (goodIn_ca (goodIn_r _ [13, 14, 15, 16, 17, 18, 19] (by decide +kernel) (by decide +kernel)) (goodIn_sub (fun _ h => List.mem_cons_of_mem _ (List.mem_append_left _ (List.mem_append_left _ (List.mem_append_right _ h)))) (by decide +kernel))) (goodIn_sub (fun _ h => List.mem_cons_of_mem _ (List.mem_append_left _ (List.mem_append_right _ h))) (by decide +kernel))) (goodIn_sub (fun _ h => List.mem_cons_of_mem _ (List.mem_append_right _ h)) (by decide +kernel))
set_option maxRecDepth 20000 in
theorem gX6_search_X6_throwIf : GoodIn wsX6_search (va_wsS RX6 44 yX6_throwIf wsX6_throwIf) := goodIn_app (goodIn_of _ (by decide +kernel)) ggX6_search_X6_throwIf
set_option maxRecDepth 20000 in
theorem ggX6_search_X0_find : GoodIn wsX6_search wsX0_find := goodIn_r _ [24, 25, 26, 27, 28, 29, 30, 31, 32, 33, 34, 35, 36, 37, 23, 38, 39, 40, 41, 42, 43, 44, 45, 46, 47, 48, 49, 50, 51, 52, 53, 54, 55, 56, 57, 58, 59, 60, 61, 62, 63, 64, 65, 66, 67, 68, 69, 70, 71, 72, 73, 74, 75, 76, 77, 78, 79, 80, 81, 90, 91, 92, 93, 94, 95] (by decide +kernel) (by decide +kernel)
set_option maxRecDepth 20000 in
theorem gX6_search_X0_find : GoodIn wsX6_search (wsV RX6 189 RX0 yX0_find wsX0_find) := goodIn_app (goodIn_of _ (by decide +kernel)) ggX6_search_X0_find
set_option maxRecDepth 20000 in
theorem ggX6_search_X3_size : GoodIn wsX6_search wsX3_size := goodIn_r _ [84, 49, 50, 29, 51] (by decide +kernel) (by decide +kernel)
set_option maxRecDepth 20000 in
theorem gX6_search_X3_size : GoodIn wsX6_search (va_wsS RX6 165 yX3_size wsX3_size) := goodIn_app (goodIn_of _ (by decide +kernel)) ggX6_search_X3_size
theorem dX6_search_0 : decode cX6_search 0 = .ok (.iload_n 1, 1) := by decide +kernel
theorem dX6_search_1 : decode cX6_search 1 = .ok (.iload_n 2, 1) := by decide +kernel
theorem dX6_search_2 : decode cX6_search 2 = .ok (.invokestatic 181, 3) := by decide +kernel
theorem dX6_search_5 : decode cX6_search 5 = .ok (.ifCond .eq 17, 3) := by decide +kernel
theorem dX6_search_8 : decode cX6_search 8 = .ok (.iload 4, 2) := by decide +kernel
theorem dX6_search_10 : decode cX6_search 10 = .ok (.iconst 0, 1) := by decide +kernel
theorem dX6_search_11 : decode cX6_search 11 = .ok (.iconst 2, 1) := by decide +kernel
theorem dX6_search_12 : decode cX6_search 12 = .ok (.invokestatic 185, 3) := by decide +kernel
theorem dX6_search_15 : decode cX6_search 15 = .ok (.ifCond .eq 7, 3) := by decide +kernel
theorem dX6_search_18 : decode cX6_search 18 = .ok (.iconst 0, 1) := by decide +kernel
theorem dX6_search_19 : decode cX6_search 19 = .ok (.goto 4, 3) := by decide +kernel
theorem dX6_search_22 : decode cX6_search 22 = .ok (.iconst 2, 1) := by decide +kernel
theorem dX6_search_23 : decode cX6_search 23 = .ok (.invokestatic 44, 3) := by decide +kernel
theorem dX6_search_26 : decode cX6_search 26 = .ok (.aload_n 0, 1) := by decide +kernel
theorem dX6_search_27 : decode cX6_search 27 = .ok (.getfield 33, 3) := by decide +kernel
theorem dX6_search_30 : decode cX6_search 30 = .ok (.iload_n 1, 1) := by decide +kernel
theorem dX6_search_31 : decode cX6_search 31 = .ok (.iload_n 2, 1) := by decide +kernel
theorem dX6_search_32 : decode cX6_search 32 = .ok (.iload_n 3, 1) := by decide +kernel
theorem dX6_search_33 : decode cX6_search 33 = .ok (.invokevirtual 189, 3) := by decide +kernel
theorem dX6_search_36 : decode cX6_search 36 = .ok (.istore 5, 2) := by decide +kernel
theorem dX6_search_38 : decode cX6_search 38 = .ok (.iload 4, 2) := by decide +kernel
theorem dX6_search_40 : decode cX6_search 40 = .ok (.lookupswitch 40 #[(0, 28), (1, 34)], 28) := by decide +kernel
theorem dX6_search_68 : decode cX6_search 68 = .ok (.iload 5, 2) := by decide +kernel
theorem dX6_search_70 : decode cX6_search 70 = .ok (.bipush 32, 2) := by decide +kernel
theorem dX6_search_72 : decode cX6_search 72 = .ok (.idiv, 1) := by decide +kernel
theorem dX6_search_73 : decode cX6_search 73 = .ok (.ireturn, 1) := by decide +kernel
theorem dX6_search_74 : decode cX6_search 74 = .ok (.iload 5, 2) := by decide +kernel
theorem dX6_search_76 : decode cX6_search 76 = .ok (.bipush 32, 2) := by decide +kernel
theorem dX6_search_78 : decode cX6_search 78 = .ok (.irem, 1) := by decide +kernel
theorem dX6_search_79 : decode cX6_search 79 = .ok (.ireturn, 1) := by decide +kernel
theorem dX6_search_80 : decode cX6_search 80 = .ok (.aload_n 0, 1) := by decide +kernel
theorem dX6_search_81 : decode cX6_search 81 = .ok (.getfield 33, 3) := by decide +kernel
theorem dX6_search_84 : decode cX6_search 84 = .ok (.getfield 126, 3) := by decide +kernel
theorem dX6_search_87 : decode cX6_search 87 = .ok (.iconst 0, 1) := by decide +kernel
theorem dX6_search_88 : decode cX6_search 88 = .ok (.aaload, 1) := by decide +kernel
theorem dX6_search_89 : decode cX6_search 89 = .ok (.getfield 151, 3) := by decide +kernel
theorem dX6_search_92 : decode cX6_search 92 = .ok (.iload 5, 2) := by decide +kernel
theorem dX6_search_94 : decode cX6_search 94 = .ok (.bipush 32, 2) := by decide +kernel
theorem dX6_search_96 : decode cX6_search 96 = .ok (.irem, 1) := by decide +kernel
theorem dX6_search_97 : decode cX6_search 97 = .ok (.iaload, 1) := by decide +kernel
theorem dX6_search_98 : decode cX6_search 98 = .ok (.invokestatic 165, 3) := by decide +kernel
theorem dX6_search_101 : decode cX6_search 101 = .ok (.ireturn, 1) := by decide +kernel
set_option maxRecDepth 20000 in
theorem ggX6_worst_X0_find : GoodIn wsX6_worst wsX0_find := goodIn_r _ [14, 15, 16, 17, 18, 19, 20, 21, 22, 23, 24, 25, 26, 27, 13, 28, 29, 30, 31, 32, 33, 34, 35, 36, 37, 38, 39, 40, 41, 42, 43, 44, 45, 46, 47, 48, 49, 50, 51, 52, 53, 54, 55, 56, 57, 58, 59, 60, 61, 62, 63, 64, 65, 66, 67, 68, 69, 70, 71, 86, 87, 88, 89, 90, 91] (by decide +kernel) (by decide +kernel)
set_option maxRecDepth 20000 in
theorem gX6_worst_X0_find : GoodIn wsX6_worst (wsV RX6 189 RX0 yX0_find wsX0_find) := goodIn_app (goodIn_of _ (by decide +kernel)) ggX6_worst_X0_find
theorem dX6_worst_0 : decode cX6_worst 0 = .ok (.iconst 0, 1) := by decide +kernel
theorem dX6_worst_1 : decode cX6_worst 1 = .ok (.istore_n 2, 1) := by decide +kernel
theorem dX6_worst_2 : decode cX6_worst 2 = .ok (.iconst 0, 1) := by decide +kernel
theorem dX6_worst_3 : decode cX6_worst 3 = .ok (.istore_n 3, 1) := by decide +kernel
theorem dX6_worst_4 : decode cX6_worst 4 = .ok (.iload_n 3, 1) := by decide +kernel
theorem dX6_worst_5 : decode cX6_worst 5 = .ok (.bipush 24, 2) := by decide +kernel
theorem dX6_worst_7 : decode cX6_worst 7 = .ok (.if_icmp .ge 55, 3) := by decide +kernel
theorem dX6_worst_10 : decode cX6_worst 10 = .ok (.aload_n 0, 1) := by decide +kernel
theorem dX6_worst_11 : decode cX6_worst 11 = .ok (.getfield 10, 3) := by decide +kernel
theorem dX6_worst_14 : decode cX6_worst 14 = .ok (.getfield 113, 3) := by decide +kernel
theorem dX6_worst_17 : decode cX6_worst 17 = .ok (.iload_n 3, 1) := by decide +kernel
theorem dX6_worst_18 : decode cX6_worst 18 = .ok (.baload, 1) := by decide +kernel
theorem dX6_worst_19 : decode cX6_worst 19 = .ok (.ifCond .eq 37, 3) := by decide +kernel
theorem dX6_worst_22 : decode cX6_worst 22 = .ok (.iload_n 2, 1) := by decide +kernel
theorem dX6_worst_23 : decode cX6_worst 23 = .ok (.aload_n 0, 1) := by decide +kernel
theorem dX6_worst_24 : decode cX6_worst 24 = .ok (.getfield 33, 3) := by decide +kernel
theorem dX6_worst_27 : decode cX6_worst 27 = .ok (.aload_n 0, 1) := by decide +kernel
theorem dX6_worst_28 : decode cX6_worst 28 = .ok (.getfield 10, 3) := by decide +kernel
theorem dX6_worst_31 : decode cX6_worst 31 = .ok (.getfield 117, 3) := by decide +kernel
theorem dX6_worst_34 : decode cX6_worst 34 = .ok (.iload_n 3, 1) := by decide +kernel
theorem dX6_worst_35 : decode cX6_worst 35 = .ok (.iaload, 1) := by decide +kernel
theorem dX6_worst_36 : decode cX6_worst 36 = .ok (.aload_n 0, 1) := by decide +kernel
theorem dX6_worst_37 : decode cX6_worst 37 = .ok (.getfield 10, 3) := by decide +kernel
theorem dX6_worst_40 : decode cX6_worst 40 = .ok (.getfield 120, 3) := by decide +kernel
theorem dX6_worst_43 : decode cX6_worst 43 = .ok (.iload_n 3, 1) := by decide +kernel
theorem dX6_worst_44 : decode cX6_worst 44 = .ok (.iaload, 1) := by decide +kernel
theorem dX6_worst_45 : decode cX6_worst 45 = .ok (.iload_n 1, 1) := by decide +kernel
theorem dX6_worst_46 : decode cX6_worst 46 = .ok (.invokevirtual 189, 3) := by decide +kernel
theorem dX6_worst_49 : decode cX6_worst 49 = .ok (.bipush 32, 2) := by decide +kernel
theorem dX6_worst_51 : decode cX6_worst 51 = .ok (.idiv, 1) := by decide +kernel
theorem dX6_worst_52 : decode cX6_worst 52 = .ok (.invokestatic 193, 3) := by decide +kernel
theorem dX6_worst_55 : decode cX6_worst 55 = .ok (.istore_n 2, 1) := by decide +kernel
theorem dX6_worst_56 : decode cX6_worst 56 = .ok (.iinc 3 1, 3) := by decide +kernel
theorem dX6_worst_59 : decode cX6_worst 59 = .ok (.goto (-55), 3) := by decide +kernel
theorem dX6_worst_62 : decode cX6_worst 62 = .ok (.iload_n 2, 1) := by decide +kernel
theorem dX6_worst_63 : decode cX6_worst 63 = .ok (.ireturn, 1) := by decide +kernel
set_option maxRecDepth 20000 in
theorem ggX6_wouldTouch_X6_refusalOfPlace : GoodIn wsX6_wouldTouch wsX6_refusalOfPlace := goodIn_r _ [10, 1, 11, 12, 13, 9, 14, 15, 16, 17, 18, 19, 20, 106, 107, 108, 109, 110, 111, 112, 113, 114, 115, 116, 117, 118, 119] (by decide +kernel) (by decide +kernel)
set_option maxRecDepth 20000 in
theorem gX6_wouldTouch_X6_refusalOfPlace : GoodIn wsX6_wouldTouch (wsV RX6 40 RX6 yX6_refusalOfPlace wsX6_refusalOfPlace) := goodIn_app (goodIn_of _ (by decide +kernel)) ggX6_wouldTouch_X6_refusalOfPlace
set_option maxRecDepth 20000 in
theorem ggX6_wouldTouch_X6_throwIf : GoodIn wsX6_wouldTouch wsX6_throwIf := goodIn_ca (goodIn_ca (goodIn_ca (goodIn_r _ [23, 24, 25, 26, 27, 28, 29] (by decide +kernel) (by decide +kernel)) (goodIn_sub (fun _ h => List.mem_cons_of_mem _ (List.mem_append_left _ (List.mem_append_left _ (List.mem_append_right _ h)))) (by decide +kernel))) (goodIn_sub (fun _ h => List.mem_cons_of_mem _ (List.mem_append_left _ (List.mem_append_right _ h))) (by decide +kernel))) (goodIn_sub (fun _ h => List.mem_cons_of_mem _ (List.mem_append_right _ h)) (by decide +kernel))
set_option maxRecDepth 20000 in
theorem gX6_wouldTouch_X6_throwIf : GoodIn wsX6_wouldTouch (va_wsS RX6 44 yX6_throwIf wsX6_throwIf) := goodIn_app (goodIn_of _ (by decide +kernel)) ggX6_wouldTouch_X6_throwIf
set_option maxRecDepth 20000 in
theorem ggX6_wouldTouch_X4_put : GoodIn wsX6_wouldTouch wsX4_put := goodIn_r _ [34, 35, 36, 37, 111, 112, 113, 114, 115, 116, 117, 118, 119] (by decide +kernel) (by decide +kernel)
set_option maxRecDepth 20000 in
theorem gX6_wouldTouch_X4_put : GoodIn wsX6_wouldTouch (wsV RX6 100 RX4 yX4_put wsX4_put) := goodIn_app (goodIn_of _ (by decide +kernel)) ggX6_wouldTouch_X4_put
set_option maxRecDepth 20000 in
theorem ggX6_wouldTouch_X0_plant : GoodIn wsX6_wouldTouch wsX0_plant := goodIn_r _ [42, 43, 44, 45, 46, 47, 41, 48, 49, 50, 51, 52, 53, 54, 55, 56, 57, 58, 59, 60, 61, 62, 63, 64, 65, 66, 67, 68, 69, 70, 71, 9, 72, 73, 74, 75, 76, 77, 78, 79, 80, 81, 82, 83, 84, 85, 86, 87, 88, 89, 90, 91, 92, 93, 94, 95, 96, 97, 120, 121, 111, 112, 113, 114, 115, 116, 117, 118, 119, 122, 123, 124, 125] (by decide +kernel) (by decide +kernel)
set_option maxRecDepth 20000 in
theorem gX6_wouldTouch_X0_plant : GoodIn wsX6_wouldTouch (wsV RX6 196 RX0 yX0_plant wsX0_plant) := goodIn_app (goodIn_of _ (by decide +kernel)) ggX6_wouldTouch_X0_plant
set_option maxRecDepth 20000 in
theorem ggX6_wouldTouch_X0_differences : GoodIn wsX6_wouldTouch wsX0_differences := goodIn_r _ [101, 43, 102, 103, 104, 67, 105, 70, 97, 120, 121, 122, 123, 124, 125] (by decide +kernel) (by decide +kernel)
set_option maxRecDepth 20000 in
theorem gX6_wouldTouch_X0_differences : GoodIn wsX6_wouldTouch (wsV RX6 199 RX0 yX0_differences wsX0_differences) := goodIn_app (goodIn_of _ (by decide +kernel)) ggX6_wouldTouch_X0_differences
theorem dX6_wouldTouch_0 : decode cX6_wouldTouch 0 = .ok (.aload_n 0, 1) := by decide +kernel
theorem dX6_wouldTouch_1 : decode cX6_wouldTouch 1 = .ok (.iload_n 1, 1) := by decide +kernel
theorem dX6_wouldTouch_2 : decode cX6_wouldTouch 2 = .ok (.iload_n 2, 1) := by decide +kernel
theorem dX6_wouldTouch_3 : decode cX6_wouldTouch 3 = .ok (.iload_n 3, 1) := by decide +kernel
theorem dX6_wouldTouch_4 : decode cX6_wouldTouch 4 = .ok (.iconst 1, 1) := by decide +kernel
theorem dX6_wouldTouch_5 : decode cX6_wouldTouch 5 = .ok (.invokevirtual 40, 3) := by decide +kernel
theorem dX6_wouldTouch_8 : decode cX6_wouldTouch 8 = .ok (.invokestatic 44, 3) := by decide +kernel
theorem dX6_wouldTouch_11 : decode cX6_wouldTouch 11 = .ok (.aload_n 0, 1) := by decide +kernel
theorem dX6_wouldTouch_12 : decode cX6_wouldTouch 12 = .ok (.getfield 10, 3) := by decide +kernel
theorem dX6_wouldTouch_15 : decode cX6_wouldTouch 15 = .ok (.getfield 117, 3) := by decide +kernel
theorem dX6_wouldTouch_18 : decode cX6_wouldTouch 18 = .ok (.iload_n 1, 1) := by decide +kernel
theorem dX6_wouldTouch_19 : decode cX6_wouldTouch 19 = .ok (.iaload, 1) := by decide +kernel
theorem dX6_wouldTouch_20 : decode cX6_wouldTouch 20 = .ok (.istore 4, 2) := by decide +kernel
theorem dX6_wouldTouch_22 : decode cX6_wouldTouch 22 = .ok (.aload_n 0, 1) := by decide +kernel
theorem dX6_wouldTouch_23 : decode cX6_wouldTouch 23 = .ok (.getfield 10, 3) := by decide +kernel
theorem dX6_wouldTouch_26 : decode cX6_wouldTouch 26 = .ok (.getfield 120, 3) := by decide +kernel
theorem dX6_wouldTouch_29 : decode cX6_wouldTouch 29 = .ok (.iload_n 1, 1) := by decide +kernel
theorem dX6_wouldTouch_30 : decode cX6_wouldTouch 30 = .ok (.iaload, 1) := by decide +kernel
theorem dX6_wouldTouch_31 : decode cX6_wouldTouch 31 = .ok (.istore 5, 2) := by decide +kernel
theorem dX6_wouldTouch_33 : decode cX6_wouldTouch 33 = .ok (.aload_n 0, 1) := by decide +kernel
theorem dX6_wouldTouch_34 : decode cX6_wouldTouch 34 = .ok (.getfield 10, 3) := by decide +kernel
theorem dX6_wouldTouch_37 : decode cX6_wouldTouch 37 = .ok (.iload_n 1, 1) := by decide +kernel
theorem dX6_wouldTouch_38 : decode cX6_wouldTouch 38 = .ok (.iload_n 2, 1) := by decide +kernel
theorem dX6_wouldTouch_39 : decode cX6_wouldTouch 39 = .ok (.iload_n 3, 1) := by decide +kernel
theorem dX6_wouldTouch_40 : decode cX6_wouldTouch 40 = .ok (.invokevirtual 100, 3) := by decide +kernel
theorem dX6_wouldTouch_43 : decode cX6_wouldTouch 43 = .ok (.aload_n 0, 1) := by decide +kernel
theorem dX6_wouldTouch_44 : decode cX6_wouldTouch 44 = .ok (.getfield 37, 3) := by decide +kernel
theorem dX6_wouldTouch_47 : decode cX6_wouldTouch 47 = .ok (.aload_n 0, 1) := by decide +kernel
theorem dX6_wouldTouch_48 : decode cX6_wouldTouch 48 = .ok (.getfield 10, 3) := by decide +kernel
theorem dX6_wouldTouch_51 : decode cX6_wouldTouch 51 = .ok (.invokevirtual 196, 3) := by decide +kernel
theorem dX6_wouldTouch_54 : decode cX6_wouldTouch 54 = .ok (.aload_n 0, 1) := by decide +kernel
theorem dX6_wouldTouch_55 : decode cX6_wouldTouch 55 = .ok (.getfield 10, 3) := by decide +kernel
theorem dX6_wouldTouch_58 : decode cX6_wouldTouch 58 = .ok (.iload_n 1, 1) := by decide +kernel
theorem dX6_wouldTouch_59 : decode cX6_wouldTouch 59 = .ok (.iload 4, 2) := by decide +kernel
theorem dX6_wouldTouch_61 : decode cX6_wouldTouch 61 = .ok (.iload 5, 2) := by decide +kernel
theorem dX6_wouldTouch_63 : decode cX6_wouldTouch 63 = .ok (.invokevirtual 100, 3) := by decide +kernel
theorem dX6_wouldTouch_66 : decode cX6_wouldTouch 66 = .ok (.aload_n 0, 1) := by decide +kernel
theorem dX6_wouldTouch_67 : decode cX6_wouldTouch 67 = .ok (.getfield 33, 3) := by decide +kernel
theorem dX6_wouldTouch_70 : decode cX6_wouldTouch 70 = .ok (.aload_n 0, 1) := by decide +kernel
theorem dX6_wouldTouch_71 : decode cX6_wouldTouch 71 = .ok (.getfield 37, 3) := by decide +kernel
theorem dX6_wouldTouch_74 : decode cX6_wouldTouch 74 = .ok (.invokevirtual 199, 3) := by decide +kernel
theorem dX6_wouldTouch_77 : decode cX6_wouldTouch 77 = .ok (.ireturn, 1) := by decide +kernel
set_option maxRecDepth 20000 in
theorem ggX6_open_X6_refusalOfOpen : GoodIn wsX6_open wsX6_refusalOfOpen := goodIn_r _ [9, 10, 11, 8, 12, 13, 14, 15] (by decide +kernel) (by decide +kernel)
set_option maxRecDepth 20000 in
theorem gX6_open_X6_refusalOfOpen : GoodIn wsX6_open (va_wsS RX6 203 yX6_refusalOfOpen wsX6_refusalOfOpen) := goodIn_app (goodIn_of _ (by decide +kernel)) ggX6_open_X6_refusalOfOpen
set_option maxRecDepth 20000 in
theorem ggX6_open_X6_throwIf : GoodIn wsX6_open wsX6_throwIf := goodIn_ca (goodIn_ca (goodIn_ca (goodIn_r _ [18, 19, 20, 21, 22, 23, 24] (by decide +kernel) (by decide +kernel)) (goodIn_sub (fun _ h => List.mem_cons_of_mem _ (List.mem_append_left _ (List.mem_append_left _ (List.mem_append_right _ h)))) (by decide +kernel))) (goodIn_sub (fun _ h => List.mem_cons_of_mem _ (List.mem_append_left _ (List.mem_append_right _ h))) (by decide +kernel))) (goodIn_sub (fun _ h => List.mem_cons_of_mem _ (List.mem_append_right _ h)) (by decide +kernel))
set_option maxRecDepth 20000 in
theorem gX6_open_X6_throwIf : GoodIn wsX6_open (va_wsS RX6 44 yX6_throwIf wsX6_throwIf) := goodIn_app (goodIn_of _ (by decide +kernel)) ggX6_open_X6_throwIf
set_option maxRecDepth 20000 in
theorem ggX6_open_X5_push : GoodIn wsX6_open wsX5_push := goodIn_r _ [29, 30, 31, 32, 33, 34, 35, 36, 37, 38, 39, 40, 41, 42, 43, 44, 45, 46, 47, 48, 49, 50, 69, 70, 71, 60, 61, 62, 63, 64, 65, 66, 67, 68] (by decide +kernel) (by decide +kernel)
set_option maxRecDepth 20000 in
theorem gX6_open_X5_push : GoodIn wsX6_open (wsV RX6 48 RX5 yX5_push wsX5_push) := goodIn_app (goodIn_of _ (by decide +kernel)) ggX6_open_X5_push
set_option maxRecDepth 20000 in
theorem ggX6_open_X4_count : GoodIn wsX6_open wsX4_count := goodIn_r _ [54, 42, 60, 61, 62, 63, 64, 65, 66, 67, 68] (by decide +kernel) (by decide +kernel)
set_option maxRecDepth 20000 in
theorem gX6_open_X4_count : GoodIn wsX6_open (wsV RX6 107 RX4 yX4_count wsX4_count) := goodIn_app (goodIn_of _ (by decide +kernel)) ggX6_open_X4_count
theorem dX6_open_0 : decode cX6_open 0 = .ok (.iload_n 1, 1) := by decide +kernel
theorem dX6_open_1 : decode cX6_open 1 = .ok (.iload_n 2, 1) := by decide +kernel
theorem dX6_open_2 : decode cX6_open 2 = .ok (.iload_n 3, 1) := by decide +kernel
theorem dX6_open_3 : decode cX6_open 3 = .ok (.invokestatic 203, 3) := by decide +kernel
theorem dX6_open_6 : decode cX6_open 6 = .ok (.invokestatic 44, 3) := by decide +kernel
theorem dX6_open_9 : decode cX6_open 9 = .ok (.aload_n 0, 1) := by decide +kernel
theorem dX6_open_10 : decode cX6_open 10 = .ok (.getfield 19, 3) := by decide +kernel
theorem dX6_open_13 : decode cX6_open 13 = .ok (.aload_n 0, 1) := by decide +kernel
theorem dX6_open_14 : decode cX6_open 14 = .ok (.getfield 10, 3) := by decide +kernel
theorem dX6_open_17 : decode cX6_open 17 = .ok (.invokevirtual 48, 3) := by decide +kernel
theorem dX6_open_20 : decode cX6_open 20 = .ok (.aload_n 0, 1) := by decide +kernel
theorem dX6_open_21 : decode cX6_open 21 = .ok (.getfield 10, 3) := by decide +kernel
theorem dX6_open_24 : decode cX6_open 24 = .ok (.getfield 206, 3) := by decide +kernel
theorem dX6_open_27 : decode cX6_open 27 = .ok (.iload_n 1, 1) := by decide +kernel
theorem dX6_open_28 : decode cX6_open 28 = .ok (.iload_n 2, 1) := by decide +kernel
theorem dX6_open_29 : decode cX6_open 29 = .ok (.iastore, 1) := by decide +kernel
theorem dX6_open_30 : decode cX6_open 30 = .ok (.aload_n 0, 1) := by decide +kernel
theorem dX6_open_31 : decode cX6_open 31 = .ok (.getfield 10, 3) := by decide +kernel
theorem dX6_open_34 : decode cX6_open 34 = .ok (.getfield 209, 3) := by decide +kernel
theorem dX6_open_37 : decode cX6_open 37 = .ok (.iload_n 1, 1) := by decide +kernel
theorem dX6_open_38 : decode cX6_open 38 = .ok (.iload_n 3, 1) := by decide +kernel
theorem dX6_open_39 : decode cX6_open 39 = .ok (.iastore, 1) := by decide +kernel
theorem dX6_open_40 : decode cX6_open 40 = .ok (.aload_n 0, 1) := by decide +kernel
theorem dX6_open_41 : decode cX6_open 41 = .ok (.getfield 10, 3) := by decide +kernel
theorem dX6_open_44 : decode cX6_open 44 = .ok (.getfield 212, 3) := by decide +kernel
theorem dX6_open_47 : decode cX6_open 47 = .ok (.iload_n 1, 1) := by decide +kernel
theorem dX6_open_48 : decode cX6_open 48 = .ok (.iconst (-1), 1) := by decide +kernel
theorem dX6_open_49 : decode cX6_open 49 = .ok (.iastore, 1) := by decide +kernel
theorem dX6_open_50 : decode cX6_open 50 = .ok (.aload_n 0, 1) := by decide +kernel
theorem dX6_open_51 : decode cX6_open 51 = .ok (.getfield 10, 3) := by decide +kernel
theorem dX6_open_54 : decode cX6_open 54 = .ok (.invokevirtual 107, 3) := by decide +kernel
theorem dX6_open_57 : decode cX6_open 57 = .ok (.ireturn, 1) := by decide +kernel
set_option maxRecDepth 20000 in
theorem ggX6_next_X6_inside : GoodIn wsX6_next wsX6_inside := goodIn_r _ [9] (by decide +kernel) (by decide +kernel)
set_option maxRecDepth 20000 in
theorem gX6_next_X6_inside : GoodIn wsX6_next (va_wsS RX6 185 yX6_inside wsX6_inside) := goodIn_app (goodIn_of _ (by decide +kernel)) ggX6_next_X6_inside
set_option maxRecDepth 20000 in
theorem ggX6_next_X6_throwIf : GoodIn wsX6_next wsX6_throwIf := goodIn_ca (goodIn_ca (goodIn_ca (goodIn_r _ [12, 13, 14, 15, 16, 17, 18] (by decide +kernel) (by decide +kernel)) (goodIn_sub (fun _ h => List.mem_cons_of_mem _ (List.mem_append_left _ (List.mem_append_left _ (List.mem_append_right _ h)))) (by decide +kernel))) (goodIn_sub (fun _ h => List.mem_cons_of_mem _ (List.mem_append_left _ (List.mem_append_right _ h))) (by decide +kernel))) (goodIn_sub (fun _ h => List.mem_cons_of_mem _ (List.mem_append_right _ h)) (by decide +kernel))
set_option maxRecDepth 20000 in
theorem gX6_next_X6_throwIf : GoodIn wsX6_next (va_wsS RX6 44 yX6_throwIf wsX6_throwIf) := goodIn_app (goodIn_of _ (by decide +kernel)) ggX6_next_X6_throwIf
set_option maxRecDepth 20000 in
theorem ggX6_next_X5_push : GoodIn wsX6_next wsX5_push := goodIn_r _ [23, 24, 25, 26, 27, 28, 29, 30, 31, 32, 33, 34, 35, 36, 37, 38, 39, 40, 41, 42, 43, 44, 69, 70, 71, 60, 61, 62, 63, 64, 65, 66, 67, 68] (by decide +kernel) (by decide +kernel)
set_option maxRecDepth 20000 in
theorem gX6_next_X5_push : GoodIn wsX6_next (wsV RX6 48 RX5 yX5_push wsX5_push) := goodIn_app (goodIn_of _ (by decide +kernel)) ggX6_next_X5_push
set_option maxRecDepth 20000 in
theorem ggX6_next_X4_pairAfter : GoodIn wsX6_next wsX4_pairAfter := goodIn_r _ [48, 36, 49, 50, 51, 34, 52, 37, 38, 53, 8, 54, 60, 61, 62, 63, 64, 65, 66, 67, 68] (by decide +kernel) (by decide +kernel)
set_option maxRecDepth 20000 in
theorem gX6_next_X4_pairAfter : GoodIn wsX6_next (wsV RX6 215 RX4 yX4_pairAfter wsX4_pairAfter) := goodIn_app (goodIn_of _ (by decide +kernel)) ggX6_next_X4_pairAfter
theorem dX6_next_0 : decode cX6_next 0 = .ok (.iload_n 1, 1) := by decide +kernel
theorem dX6_next_1 : decode cX6_next 1 = .ok (.iconst 0, 1) := by decide +kernel
theorem dX6_next_2 : decode cX6_next 2 = .ok (.iconst 3, 1) := by decide +kernel
theorem dX6_next_3 : decode cX6_next 3 = .ok (.invokestatic 185, 3) := by decide +kernel
theorem dX6_next_6 : decode cX6_next 6 = .ok (.ifCond .eq 7, 3) := by decide +kernel
theorem dX6_next_9 : decode cX6_next 9 = .ok (.iconst 0, 1) := by decide +kernel
theorem dX6_next_10 : decode cX6_next 10 = .ok (.goto 4, 3) := by decide +kernel
theorem dX6_next_13 : decode cX6_next 13 = .ok (.iconst 1, 1) := by decide +kernel
theorem dX6_next_14 : decode cX6_next 14 = .ok (.invokestatic 44, 3) := by decide +kernel
theorem dX6_next_17 : decode cX6_next 17 = .ok (.aload_n 0, 1) := by decide +kernel
theorem dX6_next_18 : decode cX6_next 18 = .ok (.getfield 19, 3) := by decide +kernel
theorem dX6_next_21 : decode cX6_next 21 = .ok (.aload_n 0, 1) := by decide +kernel
theorem dX6_next_22 : decode cX6_next 22 = .ok (.getfield 10, 3) := by decide +kernel
theorem dX6_next_25 : decode cX6_next 25 = .ok (.invokevirtual 48, 3) := by decide +kernel
theorem dX6_next_28 : decode cX6_next 28 = .ok (.aload_n 0, 1) := by decide +kernel
theorem dX6_next_29 : decode cX6_next 29 = .ok (.getfield 10, 3) := by decide +kernel
theorem dX6_next_32 : decode cX6_next 32 = .ok (.aload_n 0, 1) := by decide +kernel
theorem dX6_next_33 : decode cX6_next 33 = .ok (.getfield 10, 3) := by decide +kernel
theorem dX6_next_36 : decode cX6_next 36 = .ok (.getfield 212, 3) := by decide +kernel
theorem dX6_next_39 : decode cX6_next 39 = .ok (.iload_n 1, 1) := by decide +kernel
theorem dX6_next_40 : decode cX6_next 40 = .ok (.iaload, 1) := by decide +kernel
theorem dX6_next_41 : decode cX6_next 41 = .ok (.aload_n 0, 1) := by decide +kernel
theorem dX6_next_42 : decode cX6_next 42 = .ok (.getfield 10, 3) := by decide +kernel
theorem dX6_next_45 : decode cX6_next 45 = .ok (.getfield 206, 3) := by decide +kernel
theorem dX6_next_48 : decode cX6_next 48 = .ok (.iload_n 1, 1) := by decide +kernel
theorem dX6_next_49 : decode cX6_next 49 = .ok (.iaload, 1) := by decide +kernel
theorem dX6_next_50 : decode cX6_next 50 = .ok (.aload_n 0, 1) := by decide +kernel
theorem dX6_next_51 : decode cX6_next 51 = .ok (.getfield 10, 3) := by decide +kernel
theorem dX6_next_54 : decode cX6_next 54 = .ok (.getfield 209, 3) := by decide +kernel
theorem dX6_next_57 : decode cX6_next 57 = .ok (.iload_n 1, 1) := by decide +kernel
theorem dX6_next_58 : decode cX6_next 58 = .ok (.iaload, 1) := by decide +kernel
theorem dX6_next_59 : decode cX6_next 59 = .ok (.invokevirtual 215, 3) := by decide +kernel
theorem dX6_next_62 : decode cX6_next 62 = .ok (.istore_n 2, 1) := by decide +kernel
theorem dX6_next_63 : decode cX6_next 63 = .ok (.iload_n 2, 1) := by decide +kernel
theorem dX6_next_64 : decode cX6_next 64 = .ok (.iconst (-1), 1) := by decide +kernel
theorem dX6_next_65 : decode cX6_next 65 = .ok (.if_icmp .ne 5, 3) := by decide +kernel
theorem dX6_next_68 : decode cX6_next 68 = .ok (.iconst (-1), 1) := by decide +kernel
theorem dX6_next_69 : decode cX6_next 69 = .ok (.ireturn, 1) := by decide +kernel
theorem dX6_next_70 : decode cX6_next 70 = .ok (.aload_n 0, 1) := by decide +kernel
theorem dX6_next_71 : decode cX6_next 71 = .ok (.getfield 10, 3) := by decide +kernel
theorem dX6_next_74 : decode cX6_next 74 = .ok (.getfield 212, 3) := by decide +kernel
theorem dX6_next_77 : decode cX6_next 77 = .ok (.iload_n 1, 1) := by decide +kernel
theorem dX6_next_78 : decode cX6_next 78 = .ok (.iload_n 2, 1) := by decide +kernel
theorem dX6_next_79 : decode cX6_next 79 = .ok (.iastore, 1) := by decide +kernel
theorem dX6_next_80 : decode cX6_next 80 = .ok (.iload_n 2, 1) := by decide +kernel
theorem dX6_next_81 : decode cX6_next 81 = .ok (.bipush 32, 2) := by decide +kernel
theorem dX6_next_83 : decode cX6_next 83 = .ok (.irem, 1) := by decide +kernel
theorem dX6_next_84 : decode cX6_next 84 = .ok (.ireturn, 1) := by decide +kernel
set_option maxRecDepth 20000 in
theorem ggX6_cursor_X6_refusalOfValue : GoodIn wsX6_cursor wsX6_refusalOfValue := goodIn_r _ [10, 11, 12, 9, 13] (by decide +kernel) (by decide +kernel)
set_option maxRecDepth 20000 in
theorem gX6_cursor_X6_refusalOfValue : GoodIn wsX6_cursor (va_wsS RX6 110 yX6_refusalOfValue wsX6_refusalOfValue) := goodIn_app (goodIn_of _ (by decide +kernel)) ggX6_cursor_X6_refusalOfValue
set_option maxRecDepth 20000 in
theorem ggX6_cursor_X6_throwIf : GoodIn wsX6_cursor wsX6_throwIf := goodIn_ca (goodIn_ca (goodIn_ca (goodIn_r _ [16, 17, 18, 19, 20, 21, 22] (by decide +kernel) (by decide +kernel)) (goodIn_sub (fun _ h => List.mem_cons_of_mem _ (List.mem_append_left _ (List.mem_append_left _ (List.mem_append_right _ h)))) (by decide +kernel))) (goodIn_sub (fun _ h => List.mem_cons_of_mem _ (List.mem_append_left _ (List.mem_append_right _ h))) (by decide +kernel))) (goodIn_sub (fun _ h => List.mem_cons_of_mem _ (List.mem_append_right _ h)) (by decide +kernel))
set_option maxRecDepth 20000 in
theorem gX6_cursor_X6_throwIf : GoodIn wsX6_cursor (va_wsS RX6 44 yX6_throwIf wsX6_throwIf) := goodIn_app (goodIn_of _ (by decide +kernel)) ggX6_cursor_X6_throwIf
set_option maxRecDepth 20000 in
theorem ggX6_cursor_X4_pairsAfter : GoodIn wsX6_cursor wsX4_pairsAfter := goodIn_r _ [27, 28, 29, 30, 31, 26, 32, 33, 34, 35, 9, 36, 78, 79, 80, 81, 82, 83, 84, 85, 86] (by decide +kernel) (by decide +kernel)
set_option maxRecDepth 20000 in
theorem gX6_cursor_X4_pairsAfter : GoodIn wsX6_cursor (wsV RX6 218 RX4 yX4_pairsAfter wsX4_pairsAfter) := goodIn_app (goodIn_of _ (by decide +kernel)) ggX6_cursor_X4_pairsAfter
set_option maxRecDepth 20000 in
theorem ggX6_cursor_X1_nodesWithin : GoodIn wsX6_cursor wsX1_nodesWithin := goodIn_r _ [41, 42, 43, 44, 45, 46, 47, 48, 49, 50, 51, 52, 53, 54, 55, 56, 57, 58, 59, 60, 61, 62, 63, 64, 65, 66, 67, 68, 69, 70, 71, 72, 35, 9, 36, 89, 90, 91, 92] (by decide +kernel) (by decide +kernel)
set_option maxRecDepth 20000 in
theorem gX6_cursor_X1_nodesWithin : GoodIn wsX6_cursor (wsV RX6 221 RX1 yX1_nodesWithin wsX1_nodesWithin) := goodIn_app (goodIn_of _ (by decide +kernel)) ggX6_cursor_X1_nodesWithin
theorem dX6_cursor_0 : decode cX6_cursor 0 = .ok (.iload_n 1, 1) := by decide +kernel
theorem dX6_cursor_1 : decode cX6_cursor 1 = .ok (.iconst 4, 1) := by decide +kernel
theorem dX6_cursor_2 : decode cX6_cursor 2 = .ok (.iload_n 2, 1) := by decide +kernel
theorem dX6_cursor_3 : decode cX6_cursor 3 = .ok (.iconst 5, 1) := by decide +kernel
theorem dX6_cursor_4 : decode cX6_cursor 4 = .ok (.invokestatic 110, 3) := by decide +kernel
theorem dX6_cursor_7 : decode cX6_cursor 7 = .ok (.invokestatic 44, 3) := by decide +kernel
theorem dX6_cursor_10 : decode cX6_cursor 10 = .ok (.aload_n 0, 1) := by decide +kernel
theorem dX6_cursor_11 : decode cX6_cursor 11 = .ok (.getfield 10, 3) := by decide +kernel
theorem dX6_cursor_14 : decode cX6_cursor 14 = .ok (.getfield 206, 3) := by decide +kernel
theorem dX6_cursor_17 : decode cX6_cursor 17 = .ok (.iload_n 1, 1) := by decide +kernel
theorem dX6_cursor_18 : decode cX6_cursor 18 = .ok (.iaload, 1) := by decide +kernel
theorem dX6_cursor_19 : decode cX6_cursor 19 = .ok (.istore_n 3, 1) := by decide +kernel
theorem dX6_cursor_20 : decode cX6_cursor 20 = .ok (.aload_n 0, 1) := by decide +kernel
theorem dX6_cursor_21 : decode cX6_cursor 21 = .ok (.getfield 10, 3) := by decide +kernel
theorem dX6_cursor_24 : decode cX6_cursor 24 = .ok (.getfield 209, 3) := by decide +kernel
theorem dX6_cursor_27 : decode cX6_cursor 27 = .ok (.iload_n 1, 1) := by decide +kernel
theorem dX6_cursor_28 : decode cX6_cursor 28 = .ok (.iaload, 1) := by decide +kernel
theorem dX6_cursor_29 : decode cX6_cursor 29 = .ok (.istore 4, 2) := by decide +kernel
theorem dX6_cursor_31 : decode cX6_cursor 31 = .ok (.aload_n 0, 1) := by decide +kernel
theorem dX6_cursor_32 : decode cX6_cursor 32 = .ok (.getfield 10, 3) := by decide +kernel
theorem dX6_cursor_35 : decode cX6_cursor 35 = .ok (.getfield 212, 3) := by decide +kernel
theorem dX6_cursor_38 : decode cX6_cursor 38 = .ok (.iload_n 1, 1) := by decide +kernel
theorem dX6_cursor_39 : decode cX6_cursor 39 = .ok (.iaload, 1) := by decide +kernel
theorem dX6_cursor_40 : decode cX6_cursor 40 = .ok (.istore 5, 2) := by decide +kernel
theorem dX6_cursor_42 : decode cX6_cursor 42 = .ok (.iload_n 2, 1) := by decide +kernel
theorem dX6_cursor_43 : decode cX6_cursor 43 = .ok (.tableswitch 83 0 4 #[33, 35, 38, 54, 70], 33) := by decide +kernel
theorem dX6_cursor_76 : decode cX6_cursor 76 = .ok (.iload_n 3, 1) := by decide +kernel
theorem dX6_cursor_77 : decode cX6_cursor 77 = .ok (.ireturn, 1) := by decide +kernel
theorem dX6_cursor_78 : decode cX6_cursor 78 = .ok (.iload 4, 2) := by decide +kernel
theorem dX6_cursor_80 : decode cX6_cursor 80 = .ok (.ireturn, 1) := by decide +kernel
theorem dX6_cursor_81 : decode cX6_cursor 81 = .ok (.iload 5, 2) := by decide +kernel
theorem dX6_cursor_83 : decode cX6_cursor 83 = .ok (.iconst (-1), 1) := by decide +kernel
theorem dX6_cursor_84 : decode cX6_cursor 84 = .ok (.if_icmp .ne 7, 3) := by decide +kernel
theorem dX6_cursor_87 : decode cX6_cursor 87 = .ok (.iconst (-1), 1) := by decide +kernel
theorem dX6_cursor_88 : decode cX6_cursor 88 = .ok (.goto 8, 3) := by decide +kernel
theorem dX6_cursor_91 : decode cX6_cursor 91 = .ok (.iload 5, 2) := by decide +kernel
theorem dX6_cursor_93 : decode cX6_cursor 93 = .ok (.bipush 32, 2) := by decide +kernel
theorem dX6_cursor_95 : decode cX6_cursor 95 = .ok (.idiv, 1) := by decide +kernel
theorem dX6_cursor_96 : decode cX6_cursor 96 = .ok (.ireturn, 1) := by decide +kernel
theorem dX6_cursor_97 : decode cX6_cursor 97 = .ok (.iload 5, 2) := by decide +kernel
theorem dX6_cursor_99 : decode cX6_cursor 99 = .ok (.iconst (-1), 1) := by decide +kernel
theorem dX6_cursor_100 : decode cX6_cursor 100 = .ok (.if_icmp .ne 7, 3) := by decide +kernel
theorem dX6_cursor_103 : decode cX6_cursor 103 = .ok (.iconst (-1), 1) := by decide +kernel
theorem dX6_cursor_104 : decode cX6_cursor 104 = .ok (.goto 8, 3) := by decide +kernel
theorem dX6_cursor_107 : decode cX6_cursor 107 = .ok (.iload 5, 2) := by decide +kernel
theorem dX6_cursor_109 : decode cX6_cursor 109 = .ok (.bipush 32, 2) := by decide +kernel
theorem dX6_cursor_111 : decode cX6_cursor 111 = .ok (.irem, 1) := by decide +kernel
theorem dX6_cursor_112 : decode cX6_cursor 112 = .ok (.ireturn, 1) := by decide +kernel
theorem dX6_cursor_113 : decode cX6_cursor 113 = .ok (.aload_n 0, 1) := by decide +kernel
theorem dX6_cursor_114 : decode cX6_cursor 114 = .ok (.getfield 10, 3) := by decide +kernel
theorem dX6_cursor_117 : decode cX6_cursor 117 = .ok (.iload 5, 2) := by decide +kernel
theorem dX6_cursor_119 : decode cX6_cursor 119 = .ok (.iload_n 3, 1) := by decide +kernel
theorem dX6_cursor_120 : decode cX6_cursor 120 = .ok (.iload 4, 2) := by decide +kernel
theorem dX6_cursor_122 : decode cX6_cursor 122 = .ok (.invokevirtual 218, 3) := by decide +kernel
theorem dX6_cursor_125 : decode cX6_cursor 125 = .ok (.ireturn, 1) := by decide +kernel
theorem dX6_cursor_126 : decode cX6_cursor 126 = .ok (.iload 5, 2) := by decide +kernel
theorem dX6_cursor_128 : decode cX6_cursor 128 = .ok (.iconst (-1), 1) := by decide +kernel
theorem dX6_cursor_129 : decode cX6_cursor 129 = .ok (.if_icmp .ne 7, 3) := by decide +kernel
theorem dX6_cursor_132 : decode cX6_cursor 132 = .ok (.iconst 0, 1) := by decide +kernel
theorem dX6_cursor_133 : decode cX6_cursor 133 = .ok (.goto 23, 3) := by decide +kernel
theorem dX6_cursor_136 : decode cX6_cursor 136 = .ok (.aload_n 0, 1) := by decide +kernel
theorem dX6_cursor_137 : decode cX6_cursor 137 = .ok (.getfield 33, 3) := by decide +kernel
theorem dX6_cursor_140 : decode cX6_cursor 140 = .ok (.getfield 126, 3) := by decide +kernel
theorem dX6_cursor_143 : decode cX6_cursor 143 = .ok (.iconst 0, 1) := by decide +kernel
theorem dX6_cursor_144 : decode cX6_cursor 144 = .ok (.aaload, 1) := by decide +kernel
theorem dX6_cursor_145 : decode cX6_cursor 145 = .ok (.iload 5, 2) := by decide +kernel
theorem dX6_cursor_147 : decode cX6_cursor 147 = .ok (.bipush 32, 2) := by decide +kernel
theorem dX6_cursor_149 : decode cX6_cursor 149 = .ok (.idiv, 1) := by decide +kernel
theorem dX6_cursor_150 : decode cX6_cursor 150 = .ok (.iload_n 3, 1) := by decide +kernel
theorem dX6_cursor_151 : decode cX6_cursor 151 = .ok (.iload 4, 2) := by decide +kernel
theorem dX6_cursor_153 : decode cX6_cursor 153 = .ok (.invokevirtual 221, 3) := by decide +kernel
theorem dX6_cursor_156 : decode cX6_cursor 156 = .ok (.ireturn, 1) := by decide +kernel
set_option maxRecDepth 20000 in
theorem ggX6_nearest_X6_isPosition : GoodIn wsX6_nearest wsX6_isPosition := goodIn_r _ [5, 6, 7, 4, 8] (by decide +kernel) (by decide +kernel)
set_option maxRecDepth 20000 in
theorem gX6_nearest_X6_isPosition : GoodIn wsX6_nearest (va_wsS RX6 181 yX6_isPosition wsX6_isPosition) := goodIn_app (goodIn_of _ (by decide +kernel)) ggX6_nearest_X6_isPosition
set_option maxRecDepth 20000 in
theorem ggX6_nearest_X6_throwIf : GoodIn wsX6_nearest wsX6_throwIf := goodIn_ca (goodIn_ca (goodIn_ca (goodIn_r _ [11, 12, 13, 14, 15, 16, 17] (by decide +kernel) (by decide +kernel)) (goodIn_sub (fun _ h => List.mem_cons_of_mem _ (List.mem_append_left _ (List.mem_append_left _ (List.mem_append_right _ h)))) (by decide +kernel))) (goodIn_sub (fun _ h => List.mem_cons_of_mem _ (List.mem_append_left _ (List.mem_append_right _ h))) (by decide +kernel))) (goodIn_sub (fun _ h => List.mem_cons_of_mem _ (List.mem_append_right _ h)) (by decide +kernel))
set_option maxRecDepth 20000 in
theorem gX6_nearest_X6_throwIf : GoodIn wsX6_nearest (va_wsS RX6 44 yX6_throwIf wsX6_throwIf) := goodIn_app (goodIn_of _ (by decide +kernel)) ggX6_nearest_X6_throwIf
set_option maxRecDepth 20000 in
theorem ggX6_nearest_X4_count : GoodIn wsX6_nearest wsX4_count := goodIn_r _ [22, 23, 41, 42, 43, 44, 45, 46, 47, 48, 49] (by decide +kernel) (by decide +kernel)
set_option maxRecDepth 20000 in
theorem gX6_nearest_X4_count : GoodIn wsX6_nearest (wsV RX6 107 RX4 yX4_count wsX4_count) := goodIn_app (goodIn_of _ (by decide +kernel)) ggX6_nearest_X4_count
set_option maxRecDepth 20000 in
theorem ggX6_nearest_X4_pairAfter : GoodIn wsX6_nearest wsX4_pairAfter := goodIn_r _ [27, 23, 28, 29, 30, 21, 31, 32, 33, 34, 4, 35, 41, 42, 43, 44, 45, 46, 47, 48, 49] (by decide +kernel) (by decide +kernel)
set_option maxRecDepth 20000 in
theorem gX6_nearest_X4_pairAfter : GoodIn wsX6_nearest (wsV RX6 215 RX4 yX4_pairAfter wsX4_pairAfter) := goodIn_app (goodIn_of _ (by decide +kernel)) ggX6_nearest_X4_pairAfter
theorem dX6_nearest_0 : decode cX6_nearest 0 = .ok (.iload_n 1, 1) := by decide +kernel
theorem dX6_nearest_1 : decode cX6_nearest 1 = .ok (.iload_n 2, 1) := by decide +kernel
theorem dX6_nearest_2 : decode cX6_nearest 2 = .ok (.invokestatic 181, 3) := by decide +kernel
theorem dX6_nearest_5 : decode cX6_nearest 5 = .ok (.ifCond .eq 11, 3) := by decide +kernel
theorem dX6_nearest_8 : decode cX6_nearest 8 = .ok (.iload_n 3, 1) := by decide +kernel
theorem dX6_nearest_9 : decode cX6_nearest 9 = .ok (.ifCond .lt 7, 3) := by decide +kernel
theorem dX6_nearest_12 : decode cX6_nearest 12 = .ok (.iconst 0, 1) := by decide +kernel
theorem dX6_nearest_13 : decode cX6_nearest 13 = .ok (.goto 4, 3) := by decide +kernel
theorem dX6_nearest_16 : decode cX6_nearest 16 = .ok (.iconst 2, 1) := by decide +kernel
theorem dX6_nearest_17 : decode cX6_nearest 17 = .ok (.invokestatic 44, 3) := by decide +kernel
theorem dX6_nearest_20 : decode cX6_nearest 20 = .ok (.iload_n 3, 1) := by decide +kernel
theorem dX6_nearest_21 : decode cX6_nearest 21 = .ok (.aload_n 0, 1) := by decide +kernel
theorem dX6_nearest_22 : decode cX6_nearest 22 = .ok (.getfield 10, 3) := by decide +kernel
theorem dX6_nearest_25 : decode cX6_nearest 25 = .ok (.invokevirtual 107, 3) := by decide +kernel
theorem dX6_nearest_28 : decode cX6_nearest 28 = .ok (.if_icmp .lt 5, 3) := by decide +kernel
theorem dX6_nearest_31 : decode cX6_nearest 31 = .ok (.iconst (-1), 1) := by decide +kernel
theorem dX6_nearest_32 : decode cX6_nearest 32 = .ok (.ireturn, 1) := by decide +kernel
theorem dX6_nearest_33 : decode cX6_nearest 33 = .ok (.aload_n 0, 1) := by decide +kernel
theorem dX6_nearest_34 : decode cX6_nearest 34 = .ok (.getfield 10, 3) := by decide +kernel
theorem dX6_nearest_37 : decode cX6_nearest 37 = .ok (.iconst (-1), 1) := by decide +kernel
theorem dX6_nearest_38 : decode cX6_nearest 38 = .ok (.iload_n 1, 1) := by decide +kernel
theorem dX6_nearest_39 : decode cX6_nearest 39 = .ok (.iload_n 2, 1) := by decide +kernel
theorem dX6_nearest_40 : decode cX6_nearest 40 = .ok (.invokevirtual 215, 3) := by decide +kernel
theorem dX6_nearest_43 : decode cX6_nearest 43 = .ok (.istore 4, 2) := by decide +kernel
theorem dX6_nearest_45 : decode cX6_nearest 45 = .ok (.iconst 0, 1) := by decide +kernel
theorem dX6_nearest_46 : decode cX6_nearest 46 = .ok (.istore 5, 2) := by decide +kernel
theorem dX6_nearest_48 : decode cX6_nearest 48 = .ok (.iload 5, 2) := by decide +kernel
theorem dX6_nearest_50 : decode cX6_nearest 50 = .ok (.iload_n 3, 1) := by decide +kernel
theorem dX6_nearest_51 : decode cX6_nearest 51 = .ok (.if_icmp .ge 22, 3) := by decide +kernel
theorem dX6_nearest_54 : decode cX6_nearest 54 = .ok (.aload_n 0, 1) := by decide +kernel
theorem dX6_nearest_55 : decode cX6_nearest 55 = .ok (.getfield 10, 3) := by decide +kernel
theorem dX6_nearest_58 : decode cX6_nearest 58 = .ok (.iload 4, 2) := by decide +kernel
theorem dX6_nearest_60 : decode cX6_nearest 60 = .ok (.iload_n 1, 1) := by decide +kernel
theorem dX6_nearest_61 : decode cX6_nearest 61 = .ok (.iload_n 2, 1) := by decide +kernel
theorem dX6_nearest_62 : decode cX6_nearest 62 = .ok (.invokevirtual 215, 3) := by decide +kernel
theorem dX6_nearest_65 : decode cX6_nearest 65 = .ok (.istore 4, 2) := by decide +kernel
theorem dX6_nearest_67 : decode cX6_nearest 67 = .ok (.iinc 5 1, 3) := by decide +kernel
theorem dX6_nearest_70 : decode cX6_nearest 70 = .ok (.goto (-22), 3) := by decide +kernel
theorem dX6_nearest_73 : decode cX6_nearest 73 = .ok (.iload 4, 2) := by decide +kernel
theorem dX6_nearest_75 : decode cX6_nearest 75 = .ok (.bipush 32, 2) := by decide +kernel
theorem dX6_nearest_77 : decode cX6_nearest 77 = .ok (.irem, 1) := by decide +kernel
theorem dX6_nearest_78 : decode cX6_nearest 78 = .ok (.ireturn, 1) := by decide +kernel
set_option maxRecDepth 20000 in
theorem ggX6_within_X6_isPosition : GoodIn wsX6_within wsX6_isPosition := goodIn_r _ [8, 9, 10, 7, 11] (by decide +kernel) (by decide +kernel)
set_option maxRecDepth 20000 in
theorem gX6_within_X6_isPosition : GoodIn wsX6_within (va_wsS RX6 181 yX6_isPosition wsX6_isPosition) := goodIn_app (goodIn_of _ (by decide +kernel)) ggX6_within_X6_isPosition
set_option maxRecDepth 20000 in
theorem ggX6_within_X6_throwIf : GoodIn wsX6_within wsX6_throwIf := goodIn_ca (goodIn_ca (goodIn_ca (goodIn_r _ [14, 15, 16, 17, 18, 19, 20] (by decide +kernel) (by decide +kernel)) (goodIn_sub (fun _ h => List.mem_cons_of_mem _ (List.mem_append_left _ (List.mem_append_left _ (List.mem_append_right _ h)))) (by decide +kernel))) (goodIn_sub (fun _ h => List.mem_cons_of_mem _ (List.mem_append_left _ (List.mem_append_right _ h))) (by decide +kernel))) (goodIn_sub (fun _ h => List.mem_cons_of_mem _ (List.mem_append_right _ h)) (by decide +kernel))
set_option maxRecDepth 20000 in
theorem gX6_within_X6_throwIf : GoodIn wsX6_within (va_wsS RX6 44 yX6_throwIf wsX6_throwIf) := goodIn_app (goodIn_of _ (by decide +kernel)) ggX6_within_X6_throwIf
set_option maxRecDepth 20000 in
theorem ggX6_within_X6_inside : GoodIn wsX6_within wsX6_inside := goodIn_r _ [11] (by decide +kernel) (by decide +kernel)
set_option maxRecDepth 20000 in
theorem gX6_within_X6_inside : GoodIn wsX6_within (va_wsS RX6 185 yX6_inside wsX6_inside) := goodIn_app (goodIn_of _ (by decide +kernel)) ggX6_within_X6_inside
theorem dX6_within_0 : decode cX6_within 0 = .ok (.iload_n 1, 1) := by decide +kernel
theorem dX6_within_1 : decode cX6_within 1 = .ok (.iload_n 2, 1) := by decide +kernel
theorem dX6_within_2 : decode cX6_within 2 = .ok (.invokestatic 181, 3) := by decide +kernel
theorem dX6_within_5 : decode cX6_within 5 = .ok (.ifCond .eq 16, 3) := by decide +kernel
theorem dX6_within_8 : decode cX6_within 8 = .ok (.iload_n 3, 1) := by decide +kernel
theorem dX6_within_9 : decode cX6_within 9 = .ok (.iload 4, 2) := by decide +kernel
theorem dX6_within_11 : decode cX6_within 11 = .ok (.invokestatic 181, 3) := by decide +kernel
theorem dX6_within_14 : decode cX6_within 14 = .ok (.ifCond .eq 7, 3) := by decide +kernel
theorem dX6_within_17 : decode cX6_within 17 = .ok (.iconst 0, 1) := by decide +kernel
theorem dX6_within_18 : decode cX6_within 18 = .ok (.goto 4, 3) := by decide +kernel
theorem dX6_within_21 : decode cX6_within 21 = .ok (.iconst 2, 1) := by decide +kernel
theorem dX6_within_22 : decode cX6_within 22 = .ok (.invokestatic 44, 3) := by decide +kernel
theorem dX6_within_25 : decode cX6_within 25 = .ok (.iconst 0, 1) := by decide +kernel
theorem dX6_within_26 : decode cX6_within 26 = .ok (.istore 5, 2) := by decide +kernel
theorem dX6_within_28 : decode cX6_within 28 = .ok (.iconst 0, 1) := by decide +kernel
theorem dX6_within_29 : decode cX6_within 29 = .ok (.istore 6, 2) := by decide +kernel
theorem dX6_within_31 : decode cX6_within 31 = .ok (.iload 6, 2) := by decide +kernel
theorem dX6_within_33 : decode cX6_within 33 = .ok (.bipush 24, 2) := by decide +kernel
theorem dX6_within_35 : decode cX6_within 35 = .ok (.if_icmp .ge 62, 3) := by decide +kernel
theorem dX6_within_38 : decode cX6_within 38 = .ok (.aload_n 0, 1) := by decide +kernel
theorem dX6_within_39 : decode cX6_within 39 = .ok (.getfield 10, 3) := by decide +kernel
theorem dX6_within_42 : decode cX6_within 42 = .ok (.getfield 113, 3) := by decide +kernel
theorem dX6_within_45 : decode cX6_within 45 = .ok (.iload 6, 2) := by decide +kernel
theorem dX6_within_47 : decode cX6_within 47 = .ok (.baload, 1) := by decide +kernel
theorem dX6_within_48 : decode cX6_within 48 = .ok (.ifCond .eq 43, 3) := by decide +kernel
theorem dX6_within_51 : decode cX6_within 51 = .ok (.aload_n 0, 1) := by decide +kernel
theorem dX6_within_52 : decode cX6_within 52 = .ok (.getfield 10, 3) := by decide +kernel
theorem dX6_within_55 : decode cX6_within 55 = .ok (.getfield 117, 3) := by decide +kernel
theorem dX6_within_58 : decode cX6_within 58 = .ok (.iload 6, 2) := by decide +kernel
theorem dX6_within_60 : decode cX6_within 60 = .ok (.iaload, 1) := by decide +kernel
theorem dX6_within_61 : decode cX6_within 61 = .ok (.iload_n 1, 1) := by decide +kernel
theorem dX6_within_62 : decode cX6_within 62 = .ok (.iload_n 3, 1) := by decide +kernel
theorem dX6_within_63 : decode cX6_within 63 = .ok (.invokestatic 185, 3) := by decide +kernel
theorem dX6_within_66 : decode cX6_within 66 = .ok (.ifCond .eq 25, 3) := by decide +kernel
theorem dX6_within_69 : decode cX6_within 69 = .ok (.aload_n 0, 1) := by decide +kernel
theorem dX6_within_70 : decode cX6_within 70 = .ok (.getfield 10, 3) := by decide +kernel
theorem dX6_within_73 : decode cX6_within 73 = .ok (.getfield 120, 3) := by decide +kernel
theorem dX6_within_76 : decode cX6_within 76 = .ok (.iload 6, 2) := by decide +kernel
theorem dX6_within_78 : decode cX6_within 78 = .ok (.iaload, 1) := by decide +kernel
theorem dX6_within_79 : decode cX6_within 79 = .ok (.iload_n 2, 1) := by decide +kernel
theorem dX6_within_80 : decode cX6_within 80 = .ok (.iload 4, 2) := by decide +kernel
theorem dX6_within_82 : decode cX6_within 82 = .ok (.invokestatic 185, 3) := by decide +kernel
theorem dX6_within_85 : decode cX6_within 85 = .ok (.ifCond .eq 6, 3) := by decide +kernel
theorem dX6_within_88 : decode cX6_within 88 = .ok (.iinc 5 1, 3) := by decide +kernel
theorem dX6_within_91 : decode cX6_within 91 = .ok (.iinc 6 1, 3) := by decide +kernel
theorem dX6_within_94 : decode cX6_within 94 = .ok (.goto (-63), 3) := by decide +kernel
theorem dX6_within_97 : decode cX6_within 97 = .ok (.iload 5, 2) := by decide +kernel
theorem dX6_within_99 : decode cX6_within 99 = .ok (.ireturn, 1) := by decide +kernel
set_option maxRecDepth 20000 in
theorem ggX6_closest_X6_inside : GoodIn wsX6_closest wsX6_inside := goodIn_r _ [5] (by decide +kernel) (by decide +kernel)
set_option maxRecDepth 20000 in
theorem gX6_closest_X6_inside : GoodIn wsX6_closest (va_wsS RX6 185 yX6_inside wsX6_inside) := goodIn_app (goodIn_of _ (by decide +kernel)) ggX6_closest_X6_inside
set_option maxRecDepth 20000 in
theorem ggX6_closest_X6_throwIf : GoodIn wsX6_closest wsX6_throwIf := goodIn_ca (goodIn_ca (goodIn_ca (goodIn_r _ [8, 9, 10, 11, 12, 13, 14] (by decide +kernel) (by decide +kernel)) (goodIn_sub (fun _ h => List.mem_cons_of_mem _ (List.mem_append_left _ (List.mem_append_left _ (List.mem_append_right _ h)))) (by decide +kernel))) (goodIn_sub (fun _ h => List.mem_cons_of_mem _ (List.mem_append_left _ (List.mem_append_right _ h))) (by decide +kernel))) (goodIn_sub (fun _ h => List.mem_cons_of_mem _ (List.mem_append_right _ h)) (by decide +kernel))
set_option maxRecDepth 20000 in
theorem gX6_closest_X6_throwIf : GoodIn wsX6_closest (va_wsS RX6 44 yX6_throwIf wsX6_throwIf) := goodIn_app (goodIn_of _ (by decide +kernel)) ggX6_closest_X6_throwIf
set_option maxRecDepth 20000 in
theorem ggX6_closest_X4_closestCouple : GoodIn wsX6_closest wsX4_closestCouple := goodIn_r _ [19, 20, 21, 22, 23, 24, 25, 18, 26, 27, 4, 28, 34, 35, 36, 37, 38, 39, 40, 41, 42] (by decide +kernel) (by decide +kernel)
