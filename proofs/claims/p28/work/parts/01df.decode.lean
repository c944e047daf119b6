theorem dL_remove_5 : decode cL_remove 5 = .ok (.istore_n 2, 1) := by decide +kernel
theorem dL_remove_6 : decode cL_remove 6 = .ok (.goto 11, 3) := by decide +kernel
theorem dL_remove_9 : decode cL_remove 9 = .ok (.astore_n 3, 1) := by decide +kernel
theorem dL_remove_10 : decode cL_remove 10 = .ok (.ldc 17, 2) := by decide +kernel
theorem dL_remove_12 : decode cL_remove 12 = .ok (.ireturn, 1) := by decide +kernel
theorem dL_remove_13 : decode cL_remove 13 = .ok (.astore_n 3, 1) := by decide +kernel
theorem dL_remove_14 : decode cL_remove 14 = .ok (.ldc 23, 2) := by decide +kernel
theorem dL_remove_16 : decode cL_remove 16 = .ok (.ireturn, 1) := by decide +kernel
theorem dL_remove_17 : decode cL_remove 17 = .ok (.iload_n 2, 1) := by decide +kernel
theorem dL_remove_18 : decode cL_remove 18 = .ok (.ireturn, 1) := by decide +kernel
set_option maxRecDepth 20000 in
theorem ggL_setVelocity_X6_setVelocity : GoodIn wsL_setVelocity wsX6_setVelocity := goodIn_ca (goodIn_ca (goodIn_ca (goodIn_r _ [11, 12, 13, 14, 15, 16, 17, 18, 19, 20, 21, 22, 10, 23, 24, 25, 26, 27, 28, 29, 30, 31, 32, 33, 34, 35, 36, 37, 38, 39, 40, 41, 42, 43, 44, 45, 46, 47, 48, 49, 50, 51, 52, 53, 54, 55, 56, 57, 58, 59, 60, 61, 62, 63, 64, 65, 66, 67, 68, 69, 70, 71, 72, 73, 74, 75, 76, 77, 78, 79, 80, 81, 82, 83, 84, 85] (by decide +kernel) (by decide +kernel)) (goodIn_sub (fun _ h => List.mem_cons_of_mem _ (List.mem_append_left _ (List.mem_append_left _ (List.mem_append_right _ h)))) (by decide +kernel))) (goodIn_sub (fun _ h => List.mem_cons_of_mem _ (List.mem_append_left _ (List.mem_append_right _ h))) (by decide +kernel))) (goodIn_sub (fun _ h => List.mem_cons_of_mem _ (List.mem_append_right _ h)) (by decide +kernel))
set_option maxRecDepth 20000 in
theorem gL_setVelocity_X6_setVelocity : GoodIn wsL_setVelocity (wsV RL 31 RX6 yX6_setVelocity wsX6_setVelocity) := goodIn_app (goodIn_of _ (by decide +kernel)) ggL_setVelocity_X6_setVelocity
theorem dL_setVelocity_0 : decode cL_setVelocity 0 = .ok (.aload_n 0, 1) := by decide +kernel
theorem dL_setVelocity_1 : decode cL_setVelocity 1 = .ok (.iload_n 1, 1) := by decide +kernel
theorem dL_setVelocity_2 : decode cL_setVelocity 2 = .ok (.iload_n 2, 1) := by decide +kernel
theorem dL_setVelocity_3 : decode cL_setVelocity 3 = .ok (.iload_n 3, 1) := by decide +kernel
theorem dL_setVelocity_4 : decode cL_setVelocity 4 = .ok (.invokevirtual 31, 3) := by decide +kernel
theorem dL_setVelocity_7 : decode cL_setVelocity 7 = .ok (.istore 4, 2) := by decide +kernel
theorem dL_setVelocity_9 : decode cL_setVelocity 9 = .ok (.goto 18, 3) := by decide +kernel
theorem dL_setVelocity_12 : decode cL_setVelocity 12 = .ok (.astore 5, 2) := by decide +kernel
theorem dL_setVelocity_14 : decode cL_setVelocity 14 = .ok (.ldc 17, 2) := by decide +kernel
theorem dL_setVelocity_16 : decode cL_setVelocity 16 = .ok (.ireturn, 1) := by decide +kernel
theorem dL_setVelocity_17 : decode cL_setVelocity 17 = .ok (.astore 5, 2) := by decide +kernel
theorem dL_setVelocity_19 : decode cL_setVelocity 19 = .ok (.ldc 20, 2) := by decide +kernel
theorem dL_setVelocity_21 : decode cL_setVelocity 21 = .ok (.ireturn, 1) := by decide +kernel
theorem dL_setVelocity_22 : decode cL_setVelocity 22 = .ok (.astore 5, 2) := by decide +kernel
theorem dL_setVelocity_24 : decode cL_setVelocity 24 = .ok (.ldc 23, 2) := by decide +kernel
theorem dL_setVelocity_26 : decode cL_setVelocity 26 = .ok (.ireturn, 1) := by decide +kernel
theorem dL_setVelocity_27 : decode cL_setVelocity 27 = .ok (.iload 4, 2) := by decide +kernel
theorem dL_setVelocity_29 : decode cL_setVelocity 29 = .ok (.ireturn, 1) := by decide +kernel
set_option maxRecDepth 20000 in
theorem ggL_tick_X6_tick : GoodIn wsL_tick wsX6_tick := goodIn_ca (goodIn_ca (goodIn_ca (goodIn_r _ [7, 8, 9, 10, 11, 6, 12, 13, 14, 15, 16, 17, 18, 19, 20, 21, 22, 23, 24, 25, 26, 27, 28, 29, 30, 31, 32, 33, 34, 35, 36, 37, 38, 39, 40, 41, 42, 43, 44, 45, 46, 47, 48, 49, 50, 51, 52, 53, 54, 55, 56, 57, 58, 59, 60, 61, 62, 63, 64, 65, 66, 67, 68, 69, 70, 71, 72, 73, 74, 75, 76, 77, 78, 79, 80, 81, 82, 83, 84, 85, 86, 87, 88, 89, 90, 91, 92, 93, 94, 95, 96, 97, 98, 99, 100, 101, 102, 103, 104, 105, 106, 107, 108, 109, 110, 111, 112, 113, 114, 115, 116, 117, 118, 119, 120, 121, 122, 123, 124, 125, 126, 127, 128, 129, 130, 131, 132, 133, 134, 135, 136, 137, 138, 139, 140, 141, 142, 143, 144, 145, 146, 147, 148, 149, 150, 151, 152, 153, 154, 155, 156, 157, 158] (by decide +kernel) (by decide +kernel)) (goodIn_sub (fun _ h => List.mem_cons_of_mem _ (List.mem_append_left _ (List.mem_append_left _ (List.mem_append_right _ h)))) (by decide +kernel))) (goodIn_sub (fun _ h => List.mem_cons_of_mem _ (List.mem_append_left _ (List.mem_append_right _ h))) (by decide +kernel))) (goodIn_sub (fun _ h => List.mem_cons_of_mem _ (List.mem_append_right _ h)) (by decide +kernel))
set_option maxRecDepth 20000 in
theorem gL_tick_X6_tick : GoodIn wsL_tick (wsV RL 34 RX6 yX6_tick wsX6_tick) := goodIn_app (goodIn_of _ (by decide +kernel)) ggL_tick_X6_tick
theorem dL_tick_0 : decode cL_tick 0 = .ok (.aload_n 0, 1) := by decide +kernel
theorem dL_tick_1 : decode cL_tick 1 = .ok (.iload_n 1, 1) := by decide +kernel
theorem dL_tick_2 : decode cL_tick 2 = .ok (.invokevirtual 34, 3) := by decide +kernel
theorem dL_tick_5 : decode cL_tick 5 = .ok (.istore_n 2, 1) := by decide +kernel
theorem dL_tick_6 : decode cL_tick 6 = .ok (.goto 7, 3) := by decide +kernel
theorem dL_tick_9 : decode cL_tick 9 = .ok (.astore_n 3, 1) := by decide +kernel
theorem dL_tick_10 : decode cL_tick 10 = .ok (.ldc 20, 2) := by decide +kernel
theorem dL_tick_12 : decode cL_tick 12 = .ok (.ireturn, 1) := by decide +kernel
theorem dL_tick_13 : decode cL_tick 13 = .ok (.iload_n 2, 1) := by decide +kernel
theorem dL_tick_14 : decode cL_tick 14 = .ok (.ireturn, 1) := by decide +kernel
set_option maxRecDepth 20000 in
theorem ggL_scatter_X6_scatter : GoodIn wsL_scatter wsX6_scatter := goodIn_ca (goodIn_ca (goodIn_ca (goodIn_r _ [9, 10, 11, 12, 13, 8, 14, 15, 16, 17, 18, 19, 20, 21, 22, 23, 24, 25, 26, 27, 28, 29, 30, 31, 32, 33, 34, 35, 36, 37, 38, 39, 40, 41, 42, 43, 44, 45, 46, 47, 48, 49, 50, 51, 52, 53, 54, 55, 56, 57, 58, 59, 60, 61, 62, 63, 64, 65, 66, 67, 68, 69, 70, 71, 72, 73, 74, 75, 76, 77, 78, 79, 80, 81, 82, 83, 84, 85, 86, 87, 88, 89, 90, 91, 92, 93, 94, 95, 96, 97, 98, 99, 100, 101, 102, 103, 104, 105, 106, 107, 108, 109, 110, 111, 112, 113, 114, 115, 116, 117, 118, 119, 120, 121, 122, 123, 124, 125, 126, 127, 128, 129, 130, 131, 132, 133, 134, 135, 136, 137, 138, 139, 140, 141, 142, 143, 144, 145, 146, 147, 148, 149, 150, 151, 152, 153, 154, 155, 156, 157, 158, 159, 160, 161, 162, 163, 164, 165, 166, 167, 168, 169, 170, 171] (by decide +kernel) (by decide +kernel)) (goodIn_sub (fun _ h => List.mem_cons_of_mem _ (List.mem_append_left _ (List.mem_append_left _ (List.mem_append_right _ h)))) (by decide +kernel))) (goodIn_sub (fun _ h => List.mem_cons_of_mem _ (List.mem_append_left _ (List.mem_append_right _ h))) (by decide +kernel))) (goodIn_sub (fun _ h => List.mem_cons_of_mem _ (List.mem_append_right _ h)) (by decide +kernel))
set_option maxRecDepth 20000 in
theorem gL_scatter_X6_scatter : GoodIn wsL_scatter (wsV RL 37 RX6 yX6_scatter wsX6_scatter) := goodIn_app (goodIn_of _ (by decide +kernel)) ggL_scatter_X6_scatter
theorem dL_scatter_0 : decode cL_scatter 0 = .ok (.aload_n 0, 1) := by decide +kernel
theorem dL_scatter_1 : decode cL_scatter 1 = .ok (.iload_n 1, 1) := by decide +kernel
theorem dL_scatter_2 : decode cL_scatter 2 = .ok (.iload_n 2, 1) := by decide +kernel
theorem dL_scatter_3 : decode cL_scatter 3 = .ok (.iload_n 3, 1) := by decide +kernel
theorem dL_scatter_4 : decode cL_scatter 4 = .ok (.iload 4, 2) := by decide +kernel
theorem dL_scatter_6 : decode cL_scatter 6 = .ok (.invokevirtual 37, 3) := by decide +kernel
theorem dL_scatter_9 : decode cL_scatter 9 = .ok (.istore 5, 2) := by decide +kernel
theorem dL_scatter_11 : decode cL_scatter 11 = .ok (.goto 13, 3) := by decide +kernel
theorem dL_scatter_14 : decode cL_scatter 14 = .ok (.astore 6, 2) := by decide +kernel
theorem dL_scatter_16 : decode cL_scatter 16 = .ok (.ldc 17, 2) := by decide +kernel
theorem dL_scatter_18 : decode cL_scatter 18 = .ok (.ireturn, 1) := by decide +kernel
theorem dL_scatter_19 : decode cL_scatter 19 = .ok (.astore 6, 2) := by decide +kernel
theorem dL_scatter_21 : decode cL_scatter 21 = .ok (.ldc 20, 2) := by decide +kernel
theorem dL_scatter_23 : decode cL_scatter 23 = .ok (.ireturn, 1) := by decide +kernel
theorem dL_scatter_24 : decode cL_scatter 24 = .ok (.iload 5, 2) := by decide +kernel
theorem dL_scatter_26 : decode cL_scatter 26 = .ok (.ireturn, 1) := by decide +kernel
set_option maxRecDepth 20000 in
theorem ggL_point_X6_point : GoodIn wsL_point wsX6_point := goodIn_ca (goodIn_ca (goodIn_ca (goodIn_r _ [9, 10, 11, 12, 13, 14, 15, 16, 17, 8, 18, 19, 20, 21, 22, 23, 24, 25, 26, 27, 28, 29, 30, 31, 32, 33, 34, 35, 36, 37, 38, 39, 40, 41, 42, 43, 44, 45, 46, 47] (by decide +kernel) (by decide +kernel)) (goodIn_sub (fun _ h => List.mem_cons_of_mem _ (List.mem_append_left _ (List.mem_append_left _ (List.mem_append_right _ h)))) (by decide +kernel))) (goodIn_sub (fun _ h => List.mem_cons_of_mem _ (List.mem_append_left _ (List.mem_append_right _ h))) (by decide +kernel))) (goodIn_sub (fun _ h => List.mem_cons_of_mem _ (List.mem_append_right _ h)) (by decide +kernel))
set_option maxRecDepth 20000 in
theorem gL_point_X6_point : GoodIn wsL_point (wsV RL 41 RX6 yX6_point wsX6_point) := goodIn_app (goodIn_of _ (by decide +kernel)) ggL_point_X6_point
theorem dL_point_0 : decode cL_point 0 = .ok (.aload_n 0, 1) := by decide +kernel
theorem dL_point_1 : decode cL_point 1 = .ok (.iload_n 1, 1) := by decide +kernel
theorem dL_point_2 : decode cL_point 2 = .ok (.iload_n 2, 1) := by decide +kernel
theorem dL_point_3 : decode cL_point 3 = .ok (.invokevirtual 41, 3) := by decide +kernel
theorem dL_point_6 : decode cL_point 6 = .ok (.istore_n 3, 1) := by decide +kernel
theorem dL_point_7 : decode cL_point 7 = .ok (.goto 13, 3) := by decide +kernel
theorem dL_point_10 : decode cL_point 10 = .ok (.astore 4, 2) := by decide +kernel
theorem dL_point_12 : decode cL_point 12 = .ok (.ldc 17, 2) := by decide +kernel
theorem dL_point_14 : decode cL_point 14 = .ok (.ireturn, 1) := by decide +kernel
theorem dL_point_15 : decode cL_point 15 = .ok (.astore 4, 2) := by decide +kernel
theorem dL_point_17 : decode cL_point 17 = .ok (.ldc 20, 2) := by decide +kernel
theorem dL_point_19 : decode cL_point 19 = .ok (.ireturn, 1) := by decide +kernel
theorem dL_point_20 : decode cL_point 20 = .ok (.iload_n 3, 1) := by decide +kernel
theorem dL_point_21 : decode cL_point 21 = .ok (.ireturn, 1) := by decide +kernel
set_option maxRecDepth 20000 in
theorem ggL_level_X6_level : GoodIn wsL_level wsX6_level := goodIn_ca (goodIn_ca (goodIn_ca (goodIn_r _ [9, 10, 11, 12, 13, 14, 15, 8, 16, 17, 18, 19, 20, 21, 22, 23, 24, 25, 26, 27, 28, 29, 30, 31, 32, 33, 34, 35, 36, 37, 38, 39, 40, 41, 42, 43, 44, 45, 46, 47, 48, 49, 50, 51, 52, 53, 54, 55, 56, 57, 58, 59, 60, 61, 62, 63, 64, 65, 66, 67, 68, 69, 70, 71, 72, 73, 74, 75, 76, 77, 78, 79, 80, 81, 82, 83, 84, 85, 86, 87, 88, 89, 90, 91, 92, 93, 94, 95] (by decide +kernel) (by decide +kernel)) (goodIn_sub (fun _ h => List.mem_cons_of_mem _ (List.mem_append_left _ (List.mem_append_left _ (List.mem_append_right _ h)))) (by decide +kernel))) (goodIn_sub (fun _ h => List.mem_cons_of_mem _ (List.mem_append_left _ (List.mem_append_right _ h))) (by decide +kernel))) (goodIn_sub (fun _ h => List.mem_cons_of_mem _ (List.mem_append_right _ h)) (by decide +kernel))
set_option maxRecDepth 20000 in
theorem gL_level_X6_level : GoodIn wsL_level (wsV RL 45 RX6 yX6_level wsX6_level) := goodIn_app (goodIn_of _ (by decide +kernel)) ggL_level_X6_level
theorem dL_level_0 : decode cL_level 0 = .ok (.aload_n 0, 1) := by decide +kernel
theorem dL_level_1 : decode cL_level 1 = .ok (.iload_n 1, 1) := by decide +kernel
theorem dL_level_2 : decode cL_level 2 = .ok (.iload_n 2, 1) := by decide +kernel
theorem dL_level_3 : decode cL_level 3 = .ok (.invokevirtual 45, 3) := by decide +kernel
theorem dL_level_6 : decode cL_level 6 = .ok (.istore_n 3, 1) := by decide +kernel
theorem dL_level_7 : decode cL_level 7 = .ok (.goto 13, 3) := by decide +kernel
theorem dL_level_10 : decode cL_level 10 = .ok (.astore 4, 2) := by decide +kernel
theorem dL_level_12 : decode cL_level 12 = .ok (.ldc 17, 2) := by decide +kernel
theorem dL_level_14 : decode cL_level 14 = .ok (.ireturn, 1) := by decide +kernel
theorem dL_level_15 : decode cL_level 15 = .ok (.astore 4, 2) := by decide +kernel
theorem dL_level_17 : decode cL_level 17 = .ok (.ldc 20, 2) := by decide +kernel
theorem dL_level_19 : decode cL_level 19 = .ok (.ireturn, 1) := by decide +kernel
theorem dL_level_20 : decode cL_level 20 = .ok (.iload_n 3, 1) := by decide +kernel
theorem dL_level_21 : decode cL_level 21 = .ok (.ireturn, 1) := by decide +kernel
set_option maxRecDepth 20000 in
theorem ggL_node_X6_node : GoodIn wsL_node wsX6_node := goodIn_ca (goodIn_ca (goodIn_ca (goodIn_r _ [9, 10, 11, 12, 13, 14, 15, 8, 16, 17, 18, 19, 20, 21, 22, 23, 24, 25, 26, 27, 28, 29, 30, 31, 32, 33, 34, 35, 36, 37, 38, 39, 40, 41, 42, 43, 44, 45, 46, 47, 48, 49, 50, 51, 52, 53, 54, 55, 56, 57, 58, 59, 60, 61, 62, 63, 64, 65, 66, 67, 68, 69, 70, 71, 72, 73, 74, 75, 76, 77, 78, 79, 80, 81, 82, 83, 84, 85, 86, 87, 88, 89, 90, 91, 92, 93] (by decide +kernel) (by decide +kernel)) (goodIn_sub (fun _ h => List.mem_cons_of_mem _ (List.mem_append_left _ (List.mem_append_left _ (List.mem_append_right _ h)))) (by decide +kernel))) (goodIn_sub (fun _ h => List.mem_cons_of_mem _ (List.mem_append_left _ (List.mem_append_right _ h))) (by decide +kernel))) (goodIn_sub (fun _ h => List.mem_cons_of_mem _ (List.mem_append_right _ h)) (by decide +kernel))
set_option maxRecDepth 20000 in
theorem gL_node_X6_node : GoodIn wsL_node (wsV RL 48 RX6 yX6_node wsX6_node) := goodIn_app (goodIn_of _ (by decide +kernel)) ggL_node_X6_node
theorem dL_node_0 : decode cL_node 0 = .ok (.aload_n 0, 1) := by decide +kernel
theorem dL_node_1 : decode cL_node 1 = .ok (.iload_n 1, 1) := by decide +kernel
theorem dL_node_2 : decode cL_node 2 = .ok (.iload_n 2, 1) := by decide +kernel
theorem dL_node_3 : decode cL_node 3 = .ok (.iload_n 3, 1) := by decide +kernel
theorem dL_node_4 : decode cL_node 4 = .ok (.invokevirtual 48, 3) := by decide +kernel
theorem dL_node_7 : decode cL_node 7 = .ok (.istore 4, 2) := by decide +kernel
theorem dL_node_9 : decode cL_node 9 = .ok (.goto 13, 3) := by decide +kernel
theorem dL_node_12 : decode cL_node 12 = .ok (.astore 5, 2) := by decide +kernel
theorem dL_node_14 : decode cL_node 14 = .ok (.ldc 17, 2) := by decide +kernel
theorem dL_node_16 : decode cL_node 16 = .ok (.ireturn, 1) := by decide +kernel
theorem dL_node_17 : decode cL_node 17 = .ok (.astore 5, 2) := by decide +kernel
theorem dL_node_19 : decode cL_node 19 = .ok (.ldc 20, 2) := by decide +kernel
theorem dL_node_21 : decode cL_node 21 = .ok (.ireturn, 1) := by decide +kernel
theorem dL_node_22 : decode cL_node 22 = .ok (.iload 4, 2) := by decide +kernel
theorem dL_node_24 : decode cL_node 24 = .ok (.ireturn, 1) := by decide +kernel
set_option maxRecDepth 20000 in
theorem ggL_child_X6_child : GoodIn wsL_child wsX6_child := goodIn_ca (goodIn_ca (goodIn_ca (goodIn_r _ [9, 10, 11, 12, 13, 14, 8, 15, 16, 17, 18, 19, 20, 21, 22, 23, 24, 25, 26, 27, 28, 29, 30, 31, 32, 33, 34, 35, 36, 37, 38, 39, 40, 41, 42, 43, 44, 45, 46, 47, 48, 49, 50, 51, 52, 53, 54, 55, 56, 57, 58, 59, 60, 61, 62, 63, 64, 65, 66, 67, 68, 69, 70, 71, 72, 73, 74, 75, 76, 77] (by decide +kernel) (by decide +kernel)) (goodIn_sub (fun _ h => List.mem_cons_of_mem _ (List.mem_append_left _ (List.mem_append_left _ (List.mem_append_right _ h)))) (by decide +kernel))) (goodIn_sub (fun _ h => List.mem_cons_of_mem _ (List.mem_append_left _ (List.mem_append_right _ h))) (by decide +kernel))) (goodIn_sub (fun _ h => List.mem_cons_of_mem _ (List.mem_append_right _ h)) (by decide +kernel))
set_option maxRecDepth 20000 in
theorem gL_child_X6_child : GoodIn wsL_child (wsV RL 51 RX6 yX6_child wsX6_child) := goodIn_app (goodIn_of _ (by decide +kernel)) ggL_child_X6_child
theorem dL_child_0 : decode cL_child 0 = .ok (.aload_n 0, 1) := by decide +kernel
theorem dL_child_1 : decode cL_child 1 = .ok (.iload_n 1, 1) := by decide +kernel
theorem dL_child_2 : decode cL_child 2 = .ok (.iload_n 2, 1) := by decide +kernel
theorem dL_child_3 : decode cL_child 3 = .ok (.iload_n 3, 1) := by decide +kernel
theorem dL_child_4 : decode cL_child 4 = .ok (.invokevirtual 51, 3) := by decide +kernel
theorem dL_child_7 : decode cL_child 7 = .ok (.istore 4, 2) := by decide +kernel
theorem dL_child_9 : decode cL_child 9 = .ok (.goto 13, 3) := by decide +kernel
theorem dL_child_12 : decode cL_child 12 = .ok (.astore 5, 2) := by decide +kernel
theorem dL_child_14 : decode cL_child 14 = .ok (.ldc 17, 2) := by decide +kernel
theorem dL_child_16 : decode cL_child 16 = .ok (.ireturn, 1) := by decide +kernel
theorem dL_child_17 : decode cL_child 17 = .ok (.astore 5, 2) := by decide +kernel
theorem dL_child_19 : decode cL_child 19 = .ok (.ldc 20, 2) := by decide +kernel
theorem dL_child_21 : decode cL_child 21 = .ok (.ireturn, 1) := by decide +kernel
theorem dL_child_22 : decode cL_child 22 = .ok (.iload 4, 2) := by decide +kernel
theorem dL_child_24 : decode cL_child 24 = .ok (.ireturn, 1) := by decide +kernel
set_option maxRecDepth 20000 in
theorem ggL_search_X6_search : GoodIn wsL_search wsX6_search := goodIn_ca (goodIn_ca (goodIn_ca (goodIn_r _ [7, 8, 9, 10, 11, 12, 6, 13, 14, 15, 16, 17, 18, 19, 20, 21, 22, 23, 24, 25, 26, 27, 28, 29, 30, 31, 32, 33, 34, 35, 36, 37, 38, 39, 40, 41, 42, 43, 44, 45, 46, 47, 48, 49, 50, 51, 52, 53, 54, 55, 56, 57, 58, 59, 60, 61, 62, 63, 64, 65, 66, 67, 68, 69, 70, 71, 72, 73, 74, 75, 76, 77, 78, 79, 80, 81, 82, 83, 84, 85, 86, 87, 88, 89, 90, 91, 92, 93, 94, 95, 96, 97, 98, 99, 100, 101] (by decide +kernel) (by decide +kernel)) (goodIn_sub (fun _ h => List.mem_cons_of_mem _ (List.mem_append_left _ (List.mem_append_left _ (List.mem_append_right _ h)))) (by decide +kernel))) (goodIn_sub (fun _ h => List.mem_cons_of_mem _ (List.mem_append_left _ (List.mem_append_right _ h))) (by decide +kernel))) (goodIn_sub (fun _ h => List.mem_cons_of_mem _ (List.mem_append_right _ h)) (by decide +kernel))
set_option maxRecDepth 20000 in
theorem gL_search_X6_search : GoodIn wsL_search (wsV RL 54 RX6 yX6_search wsX6_search) := goodIn_app (goodIn_of _ (by decide +kernel)) ggL_search_X6_search
theorem dL_search_0 : decode cL_search 0 = .ok (.aload_n 0, 1) := by decide +kernel
theorem dL_search_1 : decode cL_search 1 = .ok (.iload_n 1, 1) := by decide +kernel
theorem dL_search_2 : decode cL_search 2 = .ok (.iload_n 2, 1) := by decide +kernel
theorem dL_search_3 : decode cL_search 3 = .ok (.iload_n 3, 1) := by decide +kernel
theorem dL_search_4 : decode cL_search 4 = .ok (.iload 4, 2) := by decide +kernel
theorem dL_search_6 : decode cL_search 6 = .ok (.invokevirtual 54, 3) := by decide +kernel
theorem dL_search_9 : decode cL_search 9 = .ok (.istore 5, 2) := by decide +kernel
theorem dL_search_11 : decode cL_search 11 = .ok (.goto 8, 3) := by decide +kernel
theorem dL_search_14 : decode cL_search 14 = .ok (.astore 6, 2) := by decide +kernel
theorem dL_search_16 : decode cL_search 16 = .ok (.ldc 20, 2) := by decide +kernel
theorem dL_search_18 : decode cL_search 18 = .ok (.ireturn, 1) := by decide +kernel
theorem dL_search_19 : decode cL_search 19 = .ok (.iload 5, 2) := by decide +kernel
theorem dL_search_21 : decode cL_search 21 = .ok (.ireturn, 1) := by decide +kernel
set_option maxRecDepth 20000 in
theorem ggL_wouldTouch_X6_wouldTouch : GoodIn wsL_wouldTouch wsX6_wouldTouch := goodIn_ca (goodIn_ca (goodIn_ca (goodIn_r _ [11, 12, 13, 14, 15, 16, 17, 18, 19, 10, 20, 21, 22, 23, 24, 25, 26, 27, 28, 29, 30, 31, 32, 33, 34, 35, 36, 37, 38, 39, 40, 41, 42, 43, 44, 45, 46, 47, 48, 49, 50, 51, 52, 53, 54, 55, 56, 57, 58, 59, 60, 61, 62, 63, 64, 65, 66, 67, 68, 69, 70, 71, 72, 73, 74, 75, 76, 77, 78, 79, 80, 81, 82, 83, 84, 85, 86, 87, 88, 89, 90, 91, 92, 93, 94, 95, 96, 97, 98, 99, 100, 101, 102, 103, 104, 105, 106, 107, 108, 109, 110, 111, 112, 113, 114, 115, 116, 117, 118, 119, 120, 121, 122, 123, 124, 125, 126, 127, 128, 129, 130, 131, 132, 133, 134, 135] (by decide +kernel) (by decide +kernel)) (goodIn_sub (fun _ h => List.mem_cons_of_mem _ (List.mem_append_left _ (List.mem_append_left _ (List.mem_append_right _ h)))) (by decide +kernel))) (goodIn_sub (fun _ h => List.mem_cons_of_mem _ (List.mem_append_left _ (List.mem_append_right _ h))) (by decide +kernel))) (goodIn_sub (fun _ h => List.mem_cons_of_mem _ (List.mem_append_right _ h)) (by decide +kernel))
set_option maxRecDepth 20000 in
theorem gL_wouldTouch_X6_wouldTouch : GoodIn wsL_wouldTouch (wsV RL 58 RX6 yX6_wouldTouch wsX6_wouldTouch) := goodIn_app (goodIn_of _ (by decide +kernel)) ggL_wouldTouch_X6_wouldTouch
theorem dL_wouldTouch_0 : decode cL_wouldTouch 0 = .ok (.aload_n 0, 1) := by decide +kernel
theorem dL_wouldTouch_1 : decode cL_wouldTouch 1 = .ok (.iload_n 1, 1) := by decide +kernel
theorem dL_wouldTouch_2 : decode cL_wouldTouch 2 = .ok (.iload_n 2, 1) := by decide +kernel
theorem dL_wouldTouch_3 : decode cL_wouldTouch 3 = .ok (.iload_n 3, 1) := by decide +kernel
theorem dL_wouldTouch_4 : decode cL_wouldTouch 4 = .ok (.invokevirtual 58, 3) := by decide +kernel
theorem dL_wouldTouch_7 : decode cL_wouldTouch 7 = .ok (.istore 4, 2) := by decide +kernel
theorem dL_wouldTouch_9 : decode cL_wouldTouch 9 = .ok (.goto 18, 3) := by decide +kernel
theorem dL_wouldTouch_12 : decode cL_wouldTouch 12 = .ok (.astore 5, 2) := by decide +kernel
theorem dL_wouldTouch_14 : decode cL_wouldTouch 14 = .ok (.ldc 17, 2) := by decide +kernel
theorem dL_wouldTouch_16 : decode cL_wouldTouch 16 = .ok (.ireturn, 1) := by decide +kernel
theorem dL_wouldTouch_17 : decode cL_wouldTouch 17 = .ok (.astore 5, 2) := by decide +kernel
theorem dL_wouldTouch_19 : decode cL_wouldTouch 19 = .ok (.ldc 20, 2) := by decide +kernel
theorem dL_wouldTouch_21 : decode cL_wouldTouch 21 = .ok (.ireturn, 1) := by decide +kernel
theorem dL_wouldTouch_22 : decode cL_wouldTouch 22 = .ok (.astore 5, 2) := by decide +kernel
theorem dL_wouldTouch_24 : decode cL_wouldTouch 24 = .ok (.ldc 23, 2) := by decide +kernel
theorem dL_wouldTouch_26 : decode cL_wouldTouch 26 = .ok (.ireturn, 1) := by decide +kernel
theorem dL_wouldTouch_27 : decode cL_wouldTouch 27 = .ok (.iload 4, 2) := by decide +kernel
theorem dL_wouldTouch_29 : decode cL_wouldTouch 29 = .ok (.ireturn, 1) := by decide +kernel
set_option maxRecDepth 20000 in
theorem ggL_open_X6_open : GoodIn wsL_open wsX6_open := goodIn_ca (goodIn_ca (goodIn_ca (goodIn_r _ [9, 10, 11, 12, 13, 14, 15, 16, 8, 17, 18, 19, 20, 21, 22, 23, 24, 25, 26, 27, 28, 29, 30, 31, 32, 33, 34, 35, 36, 37, 38, 39, 40, 41, 42, 43, 44, 45, 46, 47, 48, 49, 50, 51, 52, 53, 54, 55, 56, 57, 58, 59, 60, 61, 62, 63, 64, 65, 66, 67, 68, 69, 70, 71, 72, 73, 74, 75, 76, 77, 78, 79] (by decide +kernel) (by decide +kernel)) (goodIn_sub (fun _ h => List.mem_cons_of_mem _ (List.mem_append_left _ (List.mem_append_left _ (List.mem_append_right _ h)))) (by decide +kernel))) (goodIn_sub (fun _ h => List.mem_cons_of_mem _ (List.mem_append_left _ (List.mem_append_right _ h))) (by decide +kernel))) (goodIn_sub (fun _ h => List.mem_cons_of_mem _ (List.mem_append_right _ h)) (by decide +kernel))
set_option maxRecDepth 20000 in
theorem gL_open_X6_open : GoodIn wsL_open (wsV RL 61 RX6 yX6_open wsX6_open) := goodIn_app (goodIn_of _ (by decide +kernel)) ggL_open_X6_open
theorem dL_open_0 : decode cL_open 0 = .ok (.aload_n 0, 1) := by decide +kernel
theorem dL_open_1 : decode cL_open 1 = .ok (.iload_n 1, 1) := by decide +kernel
theorem dL_open_2 : decode cL_open 2 = .ok (.iload_n 2, 1) := by decide +kernel
theorem dL_open_3 : decode cL_open 3 = .ok (.iload_n 3, 1) := by decide +kernel
theorem dL_open_4 : decode cL_open 4 = .ok (.invokevirtual 61, 3) := by decide +kernel
theorem dL_open_7 : decode cL_open 7 = .ok (.istore 4, 2) := by decide +kernel
theorem dL_open_9 : decode cL_open 9 = .ok (.goto 13, 3) := by decide +kernel
theorem dL_open_12 : decode cL_open 12 = .ok (.astore 5, 2) := by decide +kernel
theorem dL_open_14 : decode cL_open 14 = .ok (.ldc 17, 2) := by decide +kernel
theorem dL_open_16 : decode cL_open 16 = .ok (.ireturn, 1) := by decide +kernel
theorem dL_open_17 : decode cL_open 17 = .ok (.astore 5, 2) := by decide +kernel
theorem dL_open_19 : decode cL_open 19 = .ok (.ldc 20, 2) := by decide +kernel
theorem dL_open_21 : decode cL_open 21 = .ok (.ireturn, 1) := by decide +kernel
theorem dL_open_22 : decode cL_open 22 = .ok (.iload 4, 2) := by decide +kernel
theorem dL_open_24 : decode cL_open 24 = .ok (.ireturn, 1) := by decide +kernel
set_option maxRecDepth 20000 in
theorem ggL_next_X6_next : GoodIn wsL_next wsX6_next := goodIn_ca (goodIn_ca (goodIn_ca (goodIn_r _ [7, 8, 9, 10, 11, 12, 13, 14, 6, 15, 16, 17, 18, 19, 20, 21, 22, 23, 24, 25, 26, 27, 28, 29, 30, 31, 32, 33, 34, 35, 36, 37, 38, 39, 40, 41, 42, 43, 44, 45, 46, 47, 48, 49, 50, 51, 52, 53, 54, 55, 56, 57, 58, 59, 60, 61, 62, 63, 64, 65, 66, 67, 68, 69, 70, 71, 72, 73, 74, 75, 76, 77] (by decide +kernel) (by decide +kernel)) (goodIn_sub (fun _ h => List.mem_cons_of_mem _ (List.mem_append_left _ (List.mem_append_left _ (List.mem_append_right _ h)))) (by decide +kernel))) (goodIn_sub (fun _ h => List.mem_cons_of_mem _ (List.mem_append_left _ (List.mem_append_right _ h))) (by decide +kernel))) (goodIn_sub (fun _ h => List.mem_cons_of_mem _ (List.mem_append_right _ h)) (by decide +kernel))
set_option maxRecDepth 20000 in
theorem gL_next_X6_next : GoodIn wsL_next (wsV RL 64 RX6 yX6_next wsX6_next) := goodIn_app (goodIn_of _ (by decide +kernel)) ggL_next_X6_next
theorem dL_next_0 : decode cL_next 0 = .ok (.aload_n 0, 1) := by decide +kernel
theorem dL_next_1 : decode cL_next 1 = .ok (.iload_n 1, 1) := by decide +kernel
theorem dL_next_2 : decode cL_next 2 = .ok (.invokevirtual 64, 3) := by decide +kernel
theorem dL_next_5 : decode cL_next 5 = .ok (.istore_n 2, 1) := by decide +kernel
theorem dL_next_6 : decode cL_next 6 = .ok (.goto 7, 3) := by decide +kernel
theorem dL_next_9 : decode cL_next 9 = .ok (.astore_n 3, 1) := by decide +kernel
theorem dL_next_10 : decode cL_next 10 = .ok (.ldc 17, 2) := by decide +kernel
theorem dL_next_12 : decode cL_next 12 = .ok (.ireturn, 1) := by decide +kernel
theorem dL_next_13 : decode cL_next 13 = .ok (.iload_n 2, 1) := by decide +kernel
theorem dL_next_14 : decode cL_next 14 = .ok (.ireturn, 1) := by decide +kernel
set_option maxRecDepth 20000 in
theorem ggL_cursor_X6_cursor : GoodIn wsL_cursor wsX6_cursor := goodIn_ca (goodIn_ca (goodIn_ca (goodIn_r _ [9, 10, 11, 12, 13, 14, 15, 16, 17, 8, 18, 19, 20, 21, 22, 23, 24, 25, 26, 27, 28, 29, 30, 31, 32, 33, 34, 35, 36, 37, 38, 39, 40, 41, 42, 43, 44, 45, 46, 47, 48, 49, 50, 51, 52, 53, 54, 55, 56, 57, 58, 59, 60, 61, 62, 63, 64, 65, 66, 67, 68, 69, 70, 71, 72, 73, 74, 75, 76, 77, 78, 79, 80, 81, 82, 83, 84, 85, 86, 87, 88, 89, 90, 91, 92, 93, 94, 95, 96, 97, 98, 99, 100] (by decide +kernel) (by decide +kernel)) (goodIn_sub (fun _ h => List.mem_cons_of_mem _ (List.mem_append_left _ (List.mem_append_left _ (List.mem_append_right _ h)))) (by decide +kernel))) (goodIn_sub (fun _ h => List.mem_cons_of_mem _ (List.mem_append_left _ (List.mem_append_right _ h))) (by decide +kernel))) (goodIn_sub (fun _ h => List.mem_cons_of_mem _ (List.mem_append_right _ h)) (by decide +kernel))
set_option maxRecDepth 20000 in
theorem gL_cursor_X6_cursor : GoodIn wsL_cursor (wsV RL 67 RX6 yX6_cursor wsX6_cursor) := goodIn_app (goodIn_of _ (by decide +kernel)) ggL_cursor_X6_cursor
theorem dL_cursor_0 : decode cL_cursor 0 = .ok (.aload_n 0, 1) := by decide +kernel
theorem dL_cursor_1 : decode cL_cursor 1 = .ok (.iload_n 1, 1) := by decide +kernel
theorem dL_cursor_2 : decode cL_cursor 2 = .ok (.iload_n 2, 1) := by decide +kernel
theorem dL_cursor_3 : decode cL_cursor 3 = .ok (.invokevirtual 67, 3) := by decide +kernel
theorem dL_cursor_6 : decode cL_cursor 6 = .ok (.istore_n 3, 1) := by decide +kernel
theorem dL_cursor_7 : decode cL_cursor 7 = .ok (.goto 13, 3) := by decide +kernel
theorem dL_cursor_10 : decode cL_cursor 10 = .ok (.astore 4, 2) := by decide +kernel
theorem dL_cursor_12 : decode cL_cursor 12 = .ok (.ldc 17, 2) := by decide +kernel
theorem dL_cursor_14 : decode cL_cursor 14 = .ok (.ireturn, 1) := by decide +kernel
theorem dL_cursor_15 : decode cL_cursor 15 = .ok (.astore 4, 2) := by decide +kernel
theorem dL_cursor_17 : decode cL_cursor 17 = .ok (.ldc 20, 2) := by decide +kernel
theorem dL_cursor_19 : decode cL_cursor 19 = .ok (.ireturn, 1) := by decide +kernel
theorem dL_cursor_20 : decode cL_cursor 20 = .ok (.iload_n 3, 1) := by decide +kernel
theorem dL_cursor_21 : decode cL_cursor 21 = .ok (.ireturn, 1) := by decide +kernel
set_option maxRecDepth 20000 in
theorem ggL_nearest_X6_nearest : GoodIn wsL_nearest wsX6_nearest := goodIn_ca (goodIn_ca (goodIn_ca (goodIn_r _ [7, 8, 9, 10, 6, 11, 12, 13, 14, 15, 16, 17, 18, 19, 20, 21, 22, 23, 24, 25, 26, 27, 28, 29, 30, 31, 32, 33, 34, 35, 36, 37, 38, 39, 40, 41, 42, 43, 44, 45, 46, 47, 48, 49, 50, 51, 52, 53, 54, 55] (by decide +kernel) (by decide +kernel)) (goodIn_sub (fun _ h => List.mem_cons_of_mem _ (List.mem_append_left _ (List.mem_append_left _ (List.mem_append_right _ h)))) (by decide +kernel))) (goodIn_sub (fun _ h => List.mem_cons_of_mem _ (List.mem_append_left _ (List.mem_append_right _ h))) (by decide +kernel))) (goodIn_sub (fun _ h => List.mem_cons_of_mem _ (List.mem_append_right _ h)) (by decide +kernel))
set_option maxRecDepth 20000 in
theorem gL_nearest_X6_nearest : GoodIn wsL_nearest (wsV RL 70 RX6 yX6_nearest wsX6_nearest) := goodIn_app (goodIn_of _ (by decide +kernel)) ggL_nearest_X6_nearest
theorem dL_nearest_0 : decode cL_nearest 0 = .ok (.aload_n 0, 1) := by decide +kernel
theorem dL_nearest_1 : decode cL_nearest 1 = .ok (.iload_n 1, 1) := by decide +kernel
theorem dL_nearest_2 : decode cL_nearest 2 = .ok (.iload_n 2, 1) := by decide +kernel
theorem dL_nearest_3 : decode cL_nearest 3 = .ok (.iload_n 3, 1) := by decide +kernel
theorem dL_nearest_4 : decode cL_nearest 4 = .ok (.invokevirtual 70, 3) := by decide +kernel
theorem dL_nearest_7 : decode cL_nearest 7 = .ok (.istore 4, 2) := by decide +kernel
theorem dL_nearest_9 : decode cL_nearest 9 = .ok (.goto 8, 3) := by decide +kernel
theorem dL_nearest_12 : decode cL_nearest 12 = .ok (.astore 5, 2) := by decide +kernel
theorem dL_nearest_14 : decode cL_nearest 14 = .ok (.ldc 20, 2) := by decide +kernel
theorem dL_nearest_16 : decode cL_nearest 16 = .ok (.ireturn, 1) := by decide +kernel
theorem dL_nearest_17 : decode cL_nearest 17 = .ok (.iload 4, 2) := by decide +kernel
theorem dL_nearest_19 : decode cL_nearest 19 = .ok (.ireturn, 1) := by decide +kernel
set_option maxRecDepth 20000 in
theorem ggL_within_X6_within : GoodIn wsL_within wsX6_within := goodIn_ca (goodIn_ca (goodIn_ca (goodIn_r _ [7, 8, 9, 10, 11, 12, 13, 6, 14, 15, 16, 17, 18, 19, 20, 21, 22, 23, 24, 25, 26, 27, 28, 29, 30, 31, 32, 33, 34, 35, 36, 37, 38, 39, 40] (by decide +kernel) (by decide +kernel)) (goodIn_sub (fun _ h => List.mem_cons_of_mem _ (List.mem_append_left _ (List.mem_append_left _ (List.mem_append_right _ h)))) (by decide +kernel))) (goodIn_sub (fun _ h => List.mem_cons_of_mem _ (List.mem_append_left _ (List.mem_append_right _ h))) (by decide +kernel))) (goodIn_sub (fun _ h => List.mem_cons_of_mem _ (List.mem_append_right _ h)) (by decide +kernel))
set_option maxRecDepth 20000 in
theorem gL_within_X6_within : GoodIn wsL_within (wsV RL 73 RX6 yX6_within wsX6_within) := goodIn_app (goodIn_of _ (by decide +kernel)) ggL_within_X6_within
theorem dL_within_0 : decode cL_within 0 = .ok (.aload_n 0, 1) := by decide +kernel
theorem dL_within_1 : decode cL_within 1 = .ok (.iload_n 1, 1) := by decide +kernel
theorem dL_within_2 : decode cL_within 2 = .ok (.iload_n 2, 1) := by decide +kernel
theorem dL_within_3 : decode cL_within 3 = .ok (.iload_n 3, 1) := by decide +kernel
theorem dL_within_4 : decode cL_within 4 = .ok (.iload 4, 2) := by decide +kernel
theorem dL_within_6 : decode cL_within 6 = .ok (.invokevirtual 73, 3) := by decide +kernel
theorem dL_within_9 : decode cL_within 9 = .ok (.istore 5, 2) := by decide +kernel
theorem dL_within_11 : decode cL_within 11 = .ok (.goto 8, 3) := by decide +kernel
theorem dL_within_14 : decode cL_within 14 = .ok (.astore 6, 2) := by decide +kernel
theorem dL_within_16 : decode cL_within 16 = .ok (.ldc 20, 2) := by decide +kernel
theorem dL_within_18 : decode cL_within 18 = .ok (.ireturn, 1) := by decide +kernel
theorem dL_within_19 : decode cL_within 19 = .ok (.iload 5, 2) := by decide +kernel
theorem dL_within_21 : decode cL_within 21 = .ok (.ireturn, 1) := by decide +kernel
set_option maxRecDepth 20000 in
theorem ggL_closest_X6_closest : GoodIn wsL_closest wsX6_closest := goodIn_ca (goodIn_ca (goodIn_ca (goodIn_r _ [7, 8, 9, 10, 6, 11, 12, 13, 14, 15, 16, 17, 18, 19, 20, 21, 22, 23, 24, 25, 26, 27, 28, 29, 30, 31, 32, 33, 34, 35, 36, 37, 38, 39, 40, 41, 42, 43, 44, 45, 46, 47, 48] (by decide +kernel) (by decide +kernel)) (goodIn_sub (fun _ h => List.mem_cons_of_mem _ (List.mem_append_left _ (List.mem_append_left _ (List.mem_append_right _ h)))) (by decide +kernel))) (goodIn_sub (fun _ h => List.mem_cons_of_mem _ (List.mem_append_left _ (List.mem_append_right _ h))) (by decide +kernel))) (goodIn_sub (fun _ h => List.mem_cons_of_mem _ (List.mem_append_right _ h)) (by decide +kernel))
set_option maxRecDepth 20000 in
theorem gL_closest_X6_closest : GoodIn wsL_closest (wsV RL 76 RX6 yX6_closest wsX6_closest) := goodIn_app (goodIn_of _ (by decide +kernel)) ggL_closest_X6_closest
theorem dL_closest_0 : decode cL_closest 0 = .ok (.aload_n 0, 1) := by decide +kernel
theorem dL_closest_1 : decode cL_closest 1 = .ok (.iload_n 1, 1) := by decide +kernel
theorem dL_closest_2 : decode cL_closest 2 = .ok (.invokevirtual 76, 3) := by decide +kernel
theorem dL_closest_5 : decode cL_closest 5 = .ok (.istore_n 2, 1) := by decide +kernel
theorem dL_closest_6 : decode cL_closest 6 = .ok (.goto 7, 3) := by decide +kernel
theorem dL_closest_9 : decode cL_closest 9 = .ok (.astore_n 3, 1) := by decide +kernel
theorem dL_closest_10 : decode cL_closest 10 = .ok (.ldc 20, 2) := by decide +kernel
theorem dL_closest_12 : decode cL_closest 12 = .ok (.ireturn, 1) := by decide +kernel
theorem dL_closest_13 : decode cL_closest 13 = .ok (.iload_n 2, 1) := by decide +kernel
theorem dL_closest_14 : decode cL_closest 14 = .ok (.ireturn, 1) := by decide +kernel
set_option maxRecDepth 20000 in
theorem ggL_type_X6_type : GoodIn wsL_type wsX6_type := goodIn_ca (goodIn_ca (goodIn_ca (goodIn_r _ [9, 10, 11, 12, 13, 14, 8, 15, 16, 17, 18, 19, 20, 21, 22, 23, 24, 25, 26, 27, 28, 29, 30, 31, 32, 33, 34, 35, 36, 37, 38, 39, 40, 41, 42, 43, 44, 45] (by decide +kernel) (by decide +kernel)) (goodIn_sub (fun _ h => List.mem_cons_of_mem _ (List.mem_append_left _ (List.mem_append_left _ (List.mem_append_right _ h)))) (by decide +kernel))) (goodIn_sub (fun _ h => List.mem_cons_of_mem _ (List.mem_append_left _ (List.mem_append_right _ h))) (by decide +kernel))) (goodIn_sub (fun _ h => List.mem_cons_of_mem _ (List.mem_append_right _ h)) (by decide +kernel))
set_option maxRecDepth 20000 in
theorem gL_type_X6_type : GoodIn wsL_type (wsV RL 79 RX6 yX6_type wsX6_type) := goodIn_app (goodIn_of _ (by decide +kernel)) ggL_type_X6_type
theorem dL_type_0 : decode cL_type 0 = .ok (.aload_n 0, 1) := by decide +kernel
theorem dL_type_1 : decode cL_type 1 = .ok (.iload_n 1, 1) := by decide +kernel
theorem dL_type_2 : decode cL_type 2 = .ok (.invokevirtual 79, 3) := by decide +kernel
theorem dL_type_5 : decode cL_type 5 = .ok (.istore_n 2, 1) := by decide +kernel
theorem dL_type_6 : decode cL_type 6 = .ok (.goto 11, 3) := by decide +kernel
theorem dL_type_9 : decode cL_type 9 = .ok (.astore_n 3, 1) := by decide +kernel
theorem dL_type_10 : decode cL_type 10 = .ok (.ldc 20, 2) := by decide +kernel
theorem dL_type_12 : decode cL_type 12 = .ok (.ireturn, 1) := by decide +kernel
theorem dL_type_13 : decode cL_type 13 = .ok (.astore_n 3, 1) := by decide +kernel
theorem dL_type_14 : decode cL_type 14 = .ok (.ldc 23, 2) := by decide +kernel
theorem dL_type_16 : decode cL_type 16 = .ok (.ireturn, 1) := by decide +kernel
theorem dL_type_17 : decode cL_type 17 = .ok (.iload_n 2, 1) := by decide +kernel
theorem dL_type_18 : decode cL_type 18 = .ok (.ireturn, 1) := by decide +kernel
set_option maxRecDepth 20000 in
theorem ggL_undo_X6_undo : GoodIn wsL_undo wsX6_undo := goodIn_ca (goodIn_ca (goodIn_ca (goodIn_r _ [7, 8, 9, 10, 11, 12, 13, 6, 14, 15, 16, 17, 18, 19, 20, 21, 22, 23, 24, 25, 26, 27, 28, 29, 30, 31, 32, 33, 34, 35, 36, 37, 38, 39, 40, 41, 42, 43, 44, 45, 46, 47, 48, 49, 50, 51, 52, 53, 54, 55, 56, 57, 58, 59, 60, 61, 62, 63, 64, 65, 66, 67, 68, 69, 70, 71, 72, 73, 74, 75, 76, 77, 78, 79, 80, 81, 82, 83, 84, 85, 86, 87, 88, 89, 90, 91, 92, 93, 94, 95, 96, 97, 98, 99, 100, 101, 102, 103, 104, 105, 106, 107, 108, 109, 110, 111, 112, 113, 114, 115, 116, 117, 118, 119, 120, 121, 122, 123, 124, 125] (by decide +kernel) (by decide +kernel)) (goodIn_sub (fun _ h => List.mem_cons_of_mem _ (List.mem_append_left _ (List.mem_append_left _ (List.mem_append_right _ h)))) (by decide +kernel))) (goodIn_sub (fun _ h => List.mem_cons_of_mem _ (List.mem_append_left _ (List.mem_append_right _ h))) (by decide +kernel))) (goodIn_sub (fun _ h => List.mem_cons_of_mem _ (List.mem_append_right _ h)) (by decide +kernel))
set_option maxRecDepth 20000 in
theorem gL_undo_X6_undo : GoodIn wsL_undo (wsV RL 82 RX6 yX6_undo wsX6_undo) := goodIn_app (goodIn_of _ (by decide +kernel)) ggL_undo_X6_undo
theorem dL_undo_0 : decode cL_undo 0 = .ok (.aload_n 0, 1) := by decide +kernel
theorem dL_undo_1 : decode cL_undo 1 = .ok (.invokevirtual 82, 3) := by decide +kernel
theorem dL_undo_4 : decode cL_undo 4 = .ok (.istore_n 1, 1) := by decide +kernel
theorem dL_undo_5 : decode cL_undo 5 = .ok (.goto 7, 3) := by decide +kernel
theorem dL_undo_8 : decode cL_undo 8 = .ok (.astore_n 2, 1) := by decide +kernel
theorem dL_undo_9 : decode cL_undo 9 = .ok (.ldc 23, 2) := by decide +kernel
theorem dL_undo_11 : decode cL_undo 11 = .ok (.ireturn, 1) := by decide +kernel
theorem dL_undo_12 : decode cL_undo 12 = .ok (.iload_n 1, 1) := by decide +kernel
theorem dL_undo_13 : decode cL_undo 13 = .ok (.ireturn, 1) := by decide +kernel
set_option maxRecDepth 20000 in
theorem ggL_print_X6_time : GoodIn wsL_print wsX6_time := goodIn_r _ [6, 7, 8, 194, 195, 196, 197, 198, 199, 200, 201, 202, 203, 204, 205, 206, 207] (by decide +kernel) (by decide +kernel)
set_option maxRecDepth 20000 in
theorem gL_print_X6_time : GoodIn wsL_print (wsV RL 88 RX6 yX6_time wsX6_time) := goodIn_app (goodIn_of _ (by decide +kernel)) ggL_print_X6_time
set_option maxRecDepth 20000 in
theorem ggL_print_X6_worst : GoodIn wsL_print wsX6_worst := goodIn_r _ [12, 7, 13, 14, 15, 16, 17, 18, 19, 20, 21, 22, 23, 24, 25, 26, 27, 28, 29, 30, 31, 32, 33, 34, 35, 36, 37, 38, 39, 40, 41, 42, 43, 44, 45, 46, 47, 48, 49, 50, 51, 52, 53, 54, 55, 56, 57, 58, 59, 60, 61, 62, 63, 64, 65, 66, 67, 68, 69, 70, 71, 72, 73, 74, 75, 76, 77, 78, 79, 80, 81, 82, 194, 195, 196, 197, 198, 199, 200, 201, 202, 203, 204, 205, 206, 207, 208, 209, 210, 211, 212, 213] (by decide +kernel) (by decide +kernel)
set_option maxRecDepth 20000 in
theorem gL_print_X6_worst : GoodIn wsL_print (wsV RL 91 RX6 yX6_worst wsX6_worst) := goodIn_app (goodIn_of _ (by decide +kernel)) ggL_print_X6_worst
set_option maxRecDepth 20000 in
theorem ggL_print_L_point : GoodIn wsL_print wsL_point := goodIn_ca (goodIn_ca (goodIn_ca (goodIn_r _ [86, 87, 88, 89, 90, 91, 92, 93, 5, 94, 7, 13, 15, 16, 95, 96, 97, 98, 99, 100, 101, 102, 103, 104, 105, 106, 107, 108, 109, 110, 111, 112, 113, 114, 194, 195, 196, 197, 198, 199, 200, 201, 202, 203, 204, 205, 206, 207] (by decide +kernel) (by decide +kernel)) (goodIn_sub (fun _ h => List.mem_cons_of_mem _ (List.mem_append_left _ (List.mem_append_left _ (List.mem_append_right _ h)))) (by decide +kernel))) (goodIn_sub (fun _ h => List.mem_cons_of_mem _ (List.mem_append_left _ (List.mem_append_right _ h))) (by decide +kernel))) (goodIn_sub (fun _ h => List.mem_cons_of_mem _ (List.mem_append_right _ h)) (by decide +kernel))
set_option maxRecDepth 20000 in
theorem gL_print_L_point : GoodIn wsL_print (va_wsS RL 95 yL_point wsL_point) := goodIn_app (goodIn_of _ (by decide +kernel)) ggL_print_L_point
set_option maxRecDepth 20000 in
theorem ggL_print_L_cursor : GoodIn wsL_print wsL_cursor := goodIn_ca (goodIn_ca (goodIn_ca (goodIn_r _ [117, 87, 88, 89, 90, 118, 119, 120, 5, 121, 7, 122, 123, 124, 14, 125, 97, 98, 99, 100, 101, 102, 103, 104, 105, 106, 107, 108, 109, 110, 111, 126, 127, 128, 129, 130, 131, 132, 133, 134, 135, 136, 137, 138, 139, 140, 141, 142, 44, 143, 78, 46, 144, 145, 30, 146, 147, 148, 19, 149, 150, 18, 20, 62, 63, 64, 151, 72, 73, 68, 69, 70, 152, 66, 67, 153, 154, 155, 50, 51, 52, 194, 195, 196, 197, 198, 199, 200, 201, 202, 203, 204, 205, 206, 207, 208, 209, 210, 211, 212, 213] (by decide +kernel) (by decide +kernel)) (goodIn_sub (fun _ h => List.mem_cons_of_mem _ (List.mem_append_left _ (List.mem_append_left _ (List.mem_append_right _ h)))) (by decide +kernel))) (goodIn_sub (fun _ h => List.mem_cons_of_mem _ (List.mem_append_left _ (List.mem_append_right _ h))) (by decide +kernel))) (goodIn_sub (fun _ h => List.mem_cons_of_mem _ (List.mem_append_right _ h)) (by decide +kernel))
set_option maxRecDepth 20000 in
theorem gL_print_L_cursor : GoodIn wsL_print (va_wsS RL 100 yL_cursor wsL_cursor) := goodIn_app (goodIn_of _ (by decide +kernel)) ggL_print_L_cursor
set_option maxRecDepth 20000 in
theorem ggL_print_L_level : GoodIn wsL_print wsL_level := goodIn_ca (goodIn_ca (goodIn_ca (goodIn_r _ [158, 87, 88, 89, 90, 159, 160, 161, 5, 162, 14, 125, 163, 164, 97, 98, 99, 100, 101, 102, 103, 104, 105, 106, 107, 108, 109, 110, 111, 165, 166, 167, 44, 168, 78, 169, 18, 19, 20, 170, 171, 172, 173, 46, 174, 63, 30, 64, 59, 60, 61, 62, 50, 51, 52, 175, 176, 177, 178, 53, 54, 55, 56, 57, 58, 47, 48, 49, 65, 66, 67, 68, 69, 70, 71, 72, 73, 74, 75, 76, 77, 179, 180, 181, 182, 194, 195, 196, 197, 198, 208, 209, 210, 211, 212, 213] (by decide +kernel) (by decide +kernel)) (goodIn_sub (fun _ h => List.mem_cons_of_mem _ (List.mem_append_left _ (List.mem_append_left _ (List.mem_append_right _ h)))) (by decide +kernel))) (goodIn_sub (fun _ h => List.mem_cons_of_mem _ (List.mem_append_left _ (List.mem_append_right _ h))) (by decide +kernel))) (goodIn_sub (fun _ h => List.mem_cons_of_mem _ (List.mem_append_right _ h)) (by decide +kernel))
set_option maxRecDepth 20000 in
theorem gL_print_L_level : GoodIn wsL_print (va_wsS RL 102 yL_level wsL_level) := goodIn_app (goodIn_of _ (by decide +kernel)) ggL_print_L_level
set_option maxRecDepth 20000 in
theorem ggL_print_L_closest : GoodIn wsL_print wsL_closest := goodIn_ca (goodIn_ca (goodIn_ca (goodIn_r _ [185, 88, 90, 186, 187, 188, 5, 189, 7, 100, 101, 102, 103, 104, 105, 106, 107, 108, 109, 110, 111, 190, 191, 192, 129, 193, 131, 136, 137, 132, 133, 134, 135, 138, 139, 194, 195, 196, 197, 198, 199, 200, 201, 202, 203, 204, 205, 206, 207] (by decide +kernel) (by decide +kernel)) (goodIn_sub (fun _ h => List.mem_cons_of_mem _ (List.mem_append_left _ (List.mem_append_left _ (List.mem_append_right _ h)))) (by decide +kernel))) (goodIn_sub (fun _ h => List.mem_cons_of_mem _ (List.mem_append_left _ (List.mem_append_right _ h))) (by decide +kernel))) (goodIn_sub (fun _ h => List.mem_cons_of_mem _ (List.mem_append_right _ h)) (by decide +kernel))
set_option maxRecDepth 20000 in
theorem gL_print_L_closest : GoodIn wsL_print (va_wsS RL 104 yL_closest wsL_closest) := goodIn_app (goodIn_of _ (by decide +kernel)) ggL_print_L_closest
theorem dL_print_0 : decode cL_print 0 = .ok (.ldc2_w 86, 3) := by decide +kernel
theorem dL_print_3 : decode cL_print 3 = .ok (.aload_n 0, 1) := by decide +kernel
theorem dL_print_4 : decode cL_print 4 = .ok (.invokevirtual 88, 3) := by decide +kernel
theorem dL_print_7 : decode cL_print 7 = .ok (.i2l, 1) := by decide +kernel
theorem dL_print_8 : decode cL_print 8 = .ok (.lmul, 1) := by decide +kernel
theorem dL_print_9 : decode cL_print 9 = .ok (.aload_n 0, 1) := by decide +kernel
theorem dL_print_10 : decode cL_print 10 = .ok (.iconst 1, 1) := by decide +kernel
theorem dL_print_11 : decode cL_print 11 = .ok (.invokevirtual 91, 3) := by decide +kernel
theorem dL_print_14 : decode cL_print 14 = .ok (.i2l, 1) := by decide +kernel
theorem dL_print_15 : decode cL_print 15 = .ok (.ladd, 1) := by decide +kernel
theorem dL_print_16 : decode cL_print 16 = .ok (.lstore_n 1, 1) := by decide +kernel
theorem dL_print_17 : decode cL_print 17 = .ok (.iconst 0, 1) := by decide +kernel
theorem dL_print_18 : decode cL_print 18 = .ok (.istore_n 3, 1) := by decide +kernel
theorem dL_print_19 : decode cL_print 19 = .ok (.iload_n 3, 1) := by decide +kernel
theorem dL_print_20 : decode cL_print 20 = .ok (.bipush 24, 2) := by decide +kernel
theorem dL_print_22 : decode cL_print 22 = .ok (.if_icmp .ge 39, 3) := by decide +kernel
theorem dL_print_25 : decode cL_print 25 = .ok (.iconst 0, 1) := by decide +kernel
theorem dL_print_26 : decode cL_print 26 = .ok (.istore 4, 2) := by decide +kernel
theorem dL_print_28 : decode cL_print 28 = .ok (.iload 4, 2) := by decide +kernel
theorem dL_print_30 : decode cL_print 30 = .ok (.iconst 5, 1) := by decide +kernel
theorem dL_print_31 : decode cL_print 31 = .ok (.if_icmp .ge 24, 3) := by decide +kernel
theorem dL_print_34 : decode cL_print 34 = .ok (.ldc2_w 86, 3) := by decide +kernel
theorem dL_print_37 : decode cL_print 37 = .ok (.lload_n 1, 1) := by decide +kernel
theorem dL_print_38 : decode cL_print 38 = .ok (.lmul, 1) := by decide +kernel
theorem dL_print_39 : decode cL_print 39 = .ok (.aload_n 0, 1) := by decide +kernel
theorem dL_print_40 : decode cL_print 40 = .ok (.iload_n 3, 1) := by decide +kernel
theorem dL_print_41 : decode cL_print 41 = .ok (.iload 4, 2) := by decide +kernel
theorem dL_print_43 : decode cL_print 43 = .ok (.invokestatic 95, 3) := by decide +kernel
theorem dL_print_46 : decode cL_print 46 = .ok (.i2l, 1) := by decide +kernel
theorem dL_print_47 : decode cL_print 47 = .ok (.ladd, 1) := by decide +kernel
theorem dL_print_48 : decode cL_print 48 = .ok (.lstore_n 1, 1) := by decide +kernel
theorem dL_print_49 : decode cL_print 49 = .ok (.iinc 4 1, 3) := by decide +kernel
theorem dL_print_52 : decode cL_print 52 = .ok (.goto (-24), 3) := by decide +kernel
theorem dL_print_55 : decode cL_print 55 = .ok (.iinc 3 1, 3) := by decide +kernel
theorem dL_print_58 : decode cL_print 58 = .ok (.goto (-39), 3) := by decide +kernel
theorem dL_print_61 : decode cL_print 61 = .ok (.iconst 0, 1) := by decide +kernel
theorem dL_print_62 : decode cL_print 62 = .ok (.istore_n 3, 1) := by decide +kernel
theorem dL_print_63 : decode cL_print 63 = .ok (.iload_n 3, 1) := by decide +kernel
theorem dL_print_64 : decode cL_print 64 = .ok (.iconst 4, 1) := by decide +kernel
theorem dL_print_65 : decode cL_print 65 = .ok (.if_icmp .ge 40, 3) := by decide +kernel
theorem dL_print_68 : decode cL_print 68 = .ok (.iconst 0, 1) := by decide +kernel
theorem dL_print_69 : decode cL_print 69 = .ok (.istore 4, 2) := by decide +kernel
theorem dL_print_71 : decode cL_print 71 = .ok (.iload 4, 2) := by decide +kernel
theorem dL_print_73 : decode cL_print 73 = .ok (.bipush 6, 2) := by decide +kernel
theorem dL_print_75 : decode cL_print 75 = .ok (.if_icmp .ge 24, 3) := by decide +kernel
theorem dL_print_78 : decode cL_print 78 = .ok (.ldc2_w 86, 3) := by decide +kernel
theorem dL_print_81 : decode cL_print 81 = .ok (.lload_n 1, 1) := by decide +kernel
theorem dL_print_82 : decode cL_print 82 = .ok (.lmul, 1) := by decide +kernel
theorem dL_print_83 : decode cL_print 83 = .ok (.aload_n 0, 1) := by decide +kernel
theorem dL_print_84 : decode cL_print 84 = .ok (.iload_n 3, 1) := by decide +kernel
theorem dL_print_85 : decode cL_print 85 = .ok (.iload 4, 2) := by decide +kernel
theorem dL_print_87 : decode cL_print 87 = .ok (.invokestatic 100, 3) := by decide +kernel
theorem dL_print_90 : decode cL_print 90 = .ok (.i2l, 1) := by decide +kernel
theorem dL_print_91 : decode cL_print 91 = .ok (.ladd, 1) := by decide +kernel
theorem dL_print_92 : decode cL_print 92 = .ok (.lstore_n 1, 1) := by decide +kernel
theorem dL_print_93 : decode cL_print 93 = .ok (.iinc 4 1, 3) := by decide +kernel
theorem dL_print_96 : decode cL_print 96 = .ok (.goto (-25), 3) := by decide +kernel
theorem dL_print_99 : decode cL_print 99 = .ok (.iinc 3 1, 3) := by decide +kernel
theorem dL_print_102 : decode cL_print 102 = .ok (.goto (-39), 3) := by decide +kernel
theorem dL_print_105 : decode cL_print 105 = .ok (.iconst 0, 1) := by decide +kernel
theorem dL_print_106 : decode cL_print 106 = .ok (.istore_n 3, 1) := by decide +kernel
theorem dL_print_107 : decode cL_print 107 = .ok (.iload_n 3, 1) := by decide +kernel
theorem dL_print_108 : decode cL_print 108 = .ok (.iconst 5, 1) := by decide +kernel
theorem dL_print_109 : decode cL_print 109 = .ok (.if_icmp .ge 39, 3) := by decide +kernel
theorem dL_print_112 : decode cL_print 112 = .ok (.iconst 0, 1) := by decide +kernel
theorem dL_print_113 : decode cL_print 113 = .ok (.istore 4, 2) := by decide +kernel
theorem dL_print_115 : decode cL_print 115 = .ok (.iload 4, 2) := by decide +kernel
theorem dL_print_117 : decode cL_print 117 = .ok (.iconst 5, 1) := by decide +kernel
theorem dL_print_118 : decode cL_print 118 = .ok (.if_icmp .ge 24, 3) := by decide +kernel
theorem dL_print_121 : decode cL_print 121 = .ok (.ldc2_w 86, 3) := by decide +kernel
theorem dL_print_124 : decode cL_print 124 = .ok (.lload_n 1, 1) := by decide +kernel
theorem dL_print_125 : decode cL_print 125 = .ok (.lmul, 1) := by decide +kernel
theorem dL_print_126 : decode cL_print 126 = .ok (.aload_n 0, 1) := by decide +kernel
theorem dL_print_127 : decode cL_print 127 = .ok (.iload_n 3, 1) := by decide +kernel
theorem dL_print_128 : decode cL_print 128 = .ok (.iload 4, 2) := by decide +kernel
theorem dL_print_130 : decode cL_print 130 = .ok (.invokestatic 102, 3) := by decide +kernel
theorem dL_print_133 : decode cL_print 133 = .ok (.i2l, 1) := by decide +kernel
theorem dL_print_134 : decode cL_print 134 = .ok (.ladd, 1) := by decide +kernel
theorem dL_print_135 : decode cL_print 135 = .ok (.lstore_n 1, 1) := by decide +kernel
theorem dL_print_136 : decode cL_print 136 = .ok (.iinc 4 1, 3) := by decide +kernel
theorem dL_print_139 : decode cL_print 139 = .ok (.goto (-24), 3) := by decide +kernel
theorem dL_print_142 : decode cL_print 142 = .ok (.iinc 3 1, 3) := by decide +kernel
theorem dL_print_145 : decode cL_print 145 = .ok (.goto (-38), 3) := by decide +kernel
theorem dL_print_148 : decode cL_print 148 = .ok (.ldc2_w 86, 3) := by decide +kernel
theorem dL_print_151 : decode cL_print 151 = .ok (.lload_n 1, 1) := by decide +kernel
theorem dL_print_152 : decode cL_print 152 = .ok (.lmul, 1) := by decide +kernel
theorem dL_print_153 : decode cL_print 153 = .ok (.aload_n 0, 1) := by decide +kernel
theorem dL_print_154 : decode cL_print 154 = .ok (.iconst 0, 1) := by decide +kernel
theorem dL_print_155 : decode cL_print 155 = .ok (.invokestatic 104, 3) := by decide +kernel
theorem dL_print_158 : decode cL_print 158 = .ok (.i2l, 1) := by decide +kernel
theorem dL_print_159 : decode cL_print 159 = .ok (.ladd, 1) := by decide +kernel
theorem dL_print_160 : decode cL_print 160 = .ok (.lreturn, 1) := by decide +kernel
set_option maxRecDepth 20000 in
theorem ggL_refused_L_print : GoodIn wsL_refused wsL_print := goodIn_ca (goodIn_ca (goodIn_ca (goodIn_r _ [6, 7, 8, 9, 10, 11, 12, 13, 14, 15, 16, 17, 18, 19, 20, 21, 22, 23, 24, 25, 26, 27, 28, 29, 30, 31, 32, 33, 34, 35, 36, 37, 38, 39, 40, 41, 42, 43, 44, 45, 46, 47, 48, 49, 50, 51, 52, 53, 54, 55, 56, 57, 58, 59, 60, 61, 62, 63, 64, 65, 66, 67, 68, 69, 70, 71, 72, 73, 74, 75, 76, 77, 78, 79, 80, 81, 82, 83, 84, 85, 86, 87, 88, 89, 90, 5, 91, 92, 93, 1, 2, 94, 95, 96, 97, 98, 99, 100, 101, 102, 103, 104, 105, 106, 107, 108, 109, 110, 111, 112, 113, 114, 115, 116, 117, 118, 119, 120, 121, 122, 123, 124, 125, 126, 127, 128, 129, 130, 131, 132, 133, 134, 135, 136, 137, 138, 139, 140, 141, 142, 143, 144, 145, 146, 147, 148, 149, 150, 151, 152, 153, 154, 155, 156, 157, 158, 159, 160, 161, 162, 163, 164, 165, 166, 167, 168, 169, 170, 171, 172, 173, 174, 175, 176, 177, 178, 179, 180, 181, 182, 183, 184, 185, 186, 187, 188, 189, 190, 191, 192, 193, 194, 195, 196, 499, 500, 501, 502, 503, 504, 505, 506, 507, 508, 509, 510, 511, 512, 513, 514, 515, 516, 517, 518] (by decide +kernel) (by decide +kernel)) (goodIn_sub (fun _ h => List.mem_cons_of_mem _ (List.mem_append_left _ (List.mem_append_left _ (List.mem_append_right _ h)))) (by decide +kernel))) (goodIn_sub (fun _ h => List.mem_cons_of_mem _ (List.mem_append_left _ (List.mem_append_right _ h))) (by decide +kernel))) (goodIn_sub (fun _ h => List.mem_cons_of_mem _ (List.mem_append_right _ h)) (by decide +kernel))
set_option maxRecDepth 20000 in
theorem gL_refused_L_print : GoodIn wsL_refused (va_wsS RL 107 yL_print wsL_print) := goodIn_app (goodIn_of _ (by decide +kernel)) ggL_refused_L_print
set_option maxRecDepth 20000 in
theorem ggL_refused_L_add : GoodIn wsL_refused wsL_add := goodIn_ca (goodIn_ca (goodIn_ca (goodIn_r _ [199, 92, 93, 200, 1, 2, 201, 202, 203, 204, 11, 205, 206, 13, 207, 208, 209, 210, 19, 211, 212, 213, 103, 104, 105, 214, 215, 216, 106, 107, 108, 109, 110, 111, 112, 113, 114, 217, 218, 219, 220, 221, 222, 223, 224, 225, 151, 25, 152, 226, 227, 228, 132, 229, 134, 139, 140, 230, 231, 232, 233, 234, 235, 236, 237, 238, 239, 240, 241, 242, 243, 244, 245, 246, 247, 248, 20, 249, 250, 251, 30, 252, 32, 253, 254, 255, 256, 257, 258, 259, 260, 34, 35, 36, 37, 38, 39, 40, 41, 261, 262, 263, 264, 265, 266, 267, 50, 268, 63, 84, 116, 117, 269, 270, 271, 272, 64, 273, 274, 275, 276, 277, 278, 279, 280, 281, 282, 283, 284, 285, 286, 287, 288, 289, 290, 291, 52, 292, 293, 294, 295, 296, 297, 298, 299, 499, 500, 501, 502, 503, 504, 505, 506, 507, 508, 509, 510, 511, 512, 519, 520, 521, 513, 514, 515, 516, 517, 518] (by decide +kernel) (by decide +kernel)) (goodIn_sub (fun _ h => List.mem_cons_of_mem _ (List.mem_append_left _ (List.mem_append_left _ (List.mem_append_right _ h)))) (by decide +kernel))) (goodIn_sub (fun _ h => List.mem_cons_of_mem _ (List.mem_append_left _ (List.mem_append_right _ h))) (by decide +kernel))) (goodIn_sub (fun _ h => List.mem_cons_of_mem _ (List.mem_append_right _ h)) (by decide +kernel))
set_option maxRecDepth 20000 in
theorem gL_refused_L_add : GoodIn wsL_refused (va_wsS RL 111 yL_add wsL_add) := goodIn_app (goodIn_of _ (by decide +kernel)) ggL_refused_L_add
set_option maxRecDepth 20000 in
theorem ggL_refused_L_move : GoodIn wsL_refused wsL_move := goodIn_ca (goodIn_ca (goodIn_ca (goodIn_r _ [302, 92, 93, 200, 1, 2, 201, 303, 304, 305, 11, 306, 206, 13, 207, 208, 209, 210, 19, 211, 212, 213, 103, 104, 105, 214, 215, 216, 106, 107, 108, 109, 110, 111, 112, 113, 114, 217, 218, 219, 220, 221, 222, 223, 224, 225, 151, 25, 152, 226, 227, 228, 132, 229, 134, 139, 140, 230, 231, 232, 233, 234, 235, 236, 237, 238, 239, 240, 241, 242, 243, 244, 245, 246, 247, 248, 20, 249, 250, 251, 30, 252, 32, 253, 254, 255, 256, 257, 258, 259, 260, 34, 35, 36, 37, 38, 39, 40, 41, 261, 262, 263, 264, 265, 266, 267, 50, 268, 63, 84, 116, 117, 269, 270, 271, 272, 64, 273, 274, 275, 276, 277, 278, 279, 280, 281, 282, 283, 284, 285, 286, 287, 288, 289, 290, 291, 52, 292, 293, 294, 295, 296, 297, 298, 299, 499, 500, 501, 502, 503, 504, 505, 506, 507, 508, 509, 510, 511, 512, 519, 520, 521, 513, 514, 515, 516, 517, 518] (by decide +kernel) (by decide +kernel)) (goodIn_sub (fun _ h => List.mem_cons_of_mem _ (List.mem_append_left _ (List.mem_append_left _ (List.mem_append_right _ h)))) (by decide +kernel))) (goodIn_sub (fun _ h => List.mem_cons_of_mem _ (List.mem_append_left _ (List.mem_append_right _ h))) (by decide +kernel))) (goodIn_sub (fun _ h => List.mem_cons_of_mem _ (List.mem_append_right _ h)) (by decide +kernel))
set_option maxRecDepth 20000 in
theorem gL_refused_L_move : GoodIn wsL_refused (va_wsS RL 114 yL_move wsL_move) := goodIn_app (goodIn_of _ (by decide +kernel)) ggL_refused_L_move
set_option maxRecDepth 20000 in
theorem ggL_refused_L_remove : GoodIn wsL_refused wsL_remove := goodIn_ca (goodIn_ca (goodIn_ca (goodIn_r _ [309, 92, 200, 1, 201, 310, 311, 312, 11, 313, 206, 13, 314, 315, 316, 317, 19, 211, 212, 213, 103, 104, 105, 106, 107, 108, 109, 110, 111, 112, 113, 114, 217, 218, 219, 220, 221, 222, 223, 224, 225, 151, 25, 152, 226, 227, 228, 132, 229, 134, 139, 140, 230, 231, 232, 233, 234, 235, 318, 319, 320, 321, 322, 323, 324, 325, 244, 245, 246, 247, 248, 20, 249, 250, 251, 30, 252, 32, 253, 254, 255, 256, 257, 258, 259, 260, 34, 35, 36, 37, 38, 39, 40, 41, 261, 262, 263, 264, 265, 266, 267, 50, 268, 63, 84, 116, 117, 269, 270, 271, 272, 64, 273, 274, 275, 276, 277, 278, 279, 280, 281, 282, 283, 284, 285, 286, 287, 288, 289, 290, 291, 52, 292, 293, 294, 295, 296, 297, 298, 299, 499, 500, 501, 502, 503, 504, 505, 506, 507, 508, 509, 510, 511, 512, 519, 520, 521, 513, 514, 515, 516, 517, 518] (by decide +kernel) (by decide +kernel)) (goodIn_sub (fun _ h => List.mem_cons_of_mem _ (List.mem_append_left _ (List.mem_append_left _ (List.mem_append_right _ h)))) (by decide +kernel))) (goodIn_sub (fun _ h => List.mem_cons_of_mem _ (List.mem_append_left _ (List.mem_append_right _ h))) (by decide +kernel))) (goodIn_sub (fun _ h => List.mem_cons_of_mem _ (List.mem_append_right _ h)) (by decide +kernel))
set_option maxRecDepth 20000 in
theorem gL_refused_L_remove : GoodIn wsL_refused (va_wsS RL 116 yL_remove wsL_remove) := goodIn_app (goodIn_of _ (by decide +kernel)) ggL_refused_L_remove
set_option maxRecDepth 20000 in
theorem ggL_refused_L_setVelocity : GoodIn wsL_refused wsL_setVelocity := goodIn_ca (goodIn_ca (goodIn_ca (goodIn_r _ [328, 92, 93, 200, 1, 2, 201, 329, 330, 331, 11, 332, 206, 13, 98, 333, 334, 25, 335, 99, 336, 337, 338, 339, 19, 211, 212, 213, 103, 104, 105, 106, 107, 108, 109, 110, 111, 112, 113, 114, 217, 218, 219, 220, 221, 222, 223, 224, 225, 151, 152, 226, 227, 228, 132, 229, 134, 139, 140, 230, 231, 232, 233, 234, 235, 340, 341, 342, 343, 499, 500, 501, 502, 503, 504, 505, 506, 507, 508, 509, 510, 511, 512, 519, 520, 521] (by decide +kernel) (by decide +kernel)) (goodIn_sub (fun _ h => List.mem_cons_of_mem _ (List.mem_append_left _ (List.mem_append_left _ (List.mem_append_right _ h)))) (by decide +kernel))) (goodIn_sub (fun _ h => List.mem_cons_of_mem _ (List.mem_append_left _ (List.mem_append_right _ h))) (by decide +kernel))) (goodIn_sub (fun _ h => List.mem_cons_of_mem _ (List.mem_append_right _ h)) (by decide +kernel))
set_option maxRecDepth 20000 in
theorem gL_refused_L_setVelocity : GoodIn wsL_refused (va_wsS RL 118 yL_setVelocity wsL_setVelocity) := goodIn_app (goodIn_of _ (by decide +kernel)) ggL_refused_L_setVelocity
set_option maxRecDepth 20000 in
theorem ggL_refused_L_tick : GoodIn wsL_refused wsL_tick := goodIn_ca (goodIn_ca (goodIn_ca (goodIn_r _ [346, 93, 2, 347, 348, 349, 11, 350, 206, 13, 351, 352, 353, 103, 104, 105, 106, 107, 108, 109, 110, 111, 112, 113, 114, 217, 218, 219, 220, 221, 222, 223, 224, 225, 151, 25, 152, 226, 227, 228, 132, 229, 134, 139, 140, 230, 231, 232, 233, 234, 235, 354, 355, 356, 357, 358, 359, 360, 361, 362, 363, 364, 244, 245, 246, 247, 248, 20, 249, 250, 251, 30, 252, 32, 253, 254, 255, 256, 257, 258, 259, 260, 34, 35, 36, 37, 38, 39, 40, 41, 261, 262, 263, 264, 265, 266, 267, 50, 268, 63, 84, 116, 117, 269, 270, 271, 272, 64, 273, 274, 275, 276, 277, 278, 279, 280, 281, 282, 283, 284, 285, 286, 287, 288, 289, 290, 291, 52, 292, 293, 294, 295, 296, 297, 298, 299, 499, 500, 501, 502, 503, 519, 520, 521, 504, 505, 506, 507, 508, 509, 510, 511, 512, 513, 514, 515, 516, 517, 518] (by decide +kernel) (by decide +kernel)) (goodIn_sub (fun _ h => List.mem_cons_of_mem _ (List.mem_append_left _ (List.mem_append_left _ (List.mem_append_right _ h)))) (by decide +kernel))) (goodIn_sub (fun _ h => List.mem_cons_of_mem _ (List.mem_append_left _ (List.mem_append_right _ h))) (by decide +kernel))) (goodIn_sub (fun _ h => List.mem_cons_of_mem _ (List.mem_append_right _ h)) (by decide +kernel))
set_option maxRecDepth 20000 in
theorem gL_refused_L_tick : GoodIn wsL_refused (va_wsS RL 120 yL_tick wsL_tick) := goodIn_app (goodIn_of _ (by decide +kernel)) ggL_refused_L_tick
set_option maxRecDepth 20000 in
theorem ggL_refused_L_scatter : GoodIn wsL_refused wsL_scatter := goodIn_ca (goodIn_ca (goodIn_ca (goodIn_r _ [367, 92, 93, 1, 2, 368, 369, 370, 11, 371, 206, 13, 372, 373, 374, 375, 211, 212, 213, 103, 104, 105, 106, 107, 108, 109, 110, 111, 112, 113, 114, 217, 218, 219, 220, 221, 222, 223, 224, 225, 151, 25, 152, 226, 227, 228, 132, 229, 134, 139, 140, 230, 231, 232, 233, 234, 235, 376, 377, 378, 379, 380, 381, 382, 383, 384, 385, 240, 241, 242, 243, 244, 245, 246, 247, 248, 20, 249, 250, 251, 30, 252, 32, 253, 254, 255, 256, 257, 258, 259, 260, 34, 35, 36, 37, 38, 39, 40, 41, 261, 262, 263, 264, 265, 266, 267, 50, 268, 63, 84, 116, 117, 269, 270, 271, 272, 64, 273, 274, 275, 276, 277, 278, 279, 280, 281, 282, 283, 284, 285, 286, 287, 288, 289, 290, 291, 52, 292, 293, 294, 295, 296, 297, 298, 299, 386, 387, 388, 389, 499, 500, 501, 502, 503, 519, 520, 521, 504, 505, 506, 507, 508, 509, 510, 511, 512, 513, 514, 515, 516, 517, 518] (by decide +kernel) (by decide +kernel)) (goodIn_sub (fun _ h => List.mem_cons_of_mem _ (List.mem_append_left _ (List.mem_append_left _ (List.mem_append_right _ h)))) (by decide +kernel))) (goodIn_sub (fun _ h => List.mem_cons_of_mem _ (List.mem_append_left _ (List.mem_append_right _ h))) (by decide +kernel))) (goodIn_sub (fun _ h => List.mem_cons_of_mem _ (List.mem_append_right _ h)) (by decide +kernel))
set_option maxRecDepth 20000 in
theorem gL_refused_L_scatter : GoodIn wsL_refused (va_wsS RL 122 yL_scatter wsL_scatter) := goodIn_app (goodIn_of _ (by decide +kernel)) ggL_refused_L_scatter
set_option maxRecDepth 20000 in
theorem ggL_refused_L_point : GoodIn wsL_refused wsL_point := goodIn_ca (goodIn_ca (goodIn_ca (goodIn_r _ [91, 92, 93, 1, 2, 94, 95, 96, 11, 97, 13, 19, 21, 22, 98, 99, 100, 101, 102, 103, 104, 105, 106, 107, 108, 109, 110, 111, 112, 113, 114, 115, 116, 117, 499, 500, 501, 502, 503, 504, 505, 506, 507, 508, 509, 510, 511, 512] (by decide +kernel) (by decide +kernel)) (goodIn_sub (fun _ h => List.mem_cons_of_mem _ (List.mem_append_left _ (List.mem_append_left _ (List.mem_append_right _ h)))) (by decide +kernel))) (goodIn_sub (fun _ h => List.mem_cons_of_mem _ (List.mem_append_left _ (List.mem_append_right _ h))) (by decide +kernel))) (goodIn_sub (fun _ h => List.mem_cons_of_mem _ (List.mem_append_right _ h)) (by decide +kernel))
set_option maxRecDepth 20000 in
theorem gL_refused_L_point : GoodIn wsL_refused (va_wsS RL 95 yL_point wsL_point) := goodIn_app (goodIn_of _ (by decide +kernel)) ggL_refused_L_point
set_option maxRecDepth 20000 in
theorem ggL_refused_L_level : GoodIn wsL_refused wsL_level := goodIn_ca (goodIn_ca (goodIn_ca (goodIn_r _ [161, 92, 93, 1, 2, 162, 163, 164, 11, 165, 20, 128, 166, 167, 100, 101, 102, 103, 104, 105, 106, 107, 108, 109, 110, 111, 112, 113, 114, 168, 169, 170, 50, 171, 84, 172, 24, 25, 26, 173, 174, 175, 176, 52, 177, 69, 36, 70, 65, 66, 67, 68, 56, 57, 58, 178, 179, 180, 181, 59, 60, 61, 62, 63, 64, 53, 54, 55, 71, 72, 73, 74, 75, 76, 77, 78, 79, 80, 81, 82, 83, 182, 183, 184, 185, 499, 500, 501, 502, 503, 513, 514, 515, 516, 517, 518] (by decide +kernel) (by decide +kernel)) (goodIn_sub (fun _ h => List.mem_cons_of_mem _ (List.mem_append_left _ (List.mem_append_left _ (List.mem_append_right _ h)))) (by decide +kernel))) (goodIn_sub (fun _ h => List.mem_cons_of_mem _ (List.mem_append_left _ (List.mem_append_right _ h))) (by decide +kernel))) (goodIn_sub (fun _ h => List.mem_cons_of_mem _ (List.mem_append_right _ h)) (by decide +kernel))
set_option maxRecDepth 20000 in
theorem gL_refused_L_level : GoodIn wsL_refused (va_wsS RL 102 yL_level wsL_level) := goodIn_app (goodIn_of _ (by decide +kernel)) ggL_refused_L_level
set_option maxRecDepth 20000 in
theorem ggL_refused_L_node : GoodIn wsL_refused wsL_node := goodIn_ca (goodIn_ca (goodIn_ca (goodIn_r _ [392, 92, 93, 1, 2, 393, 394, 395, 11, 396, 20, 128, 397, 398, 399, 400, 401, 167, 103, 104, 105, 100, 101, 102, 106, 107, 108, 109, 110, 111, 112, 113, 114, 402, 69, 36, 70, 403, 78, 79, 74, 75, 76, 404, 72, 73, 405, 157, 158, 56, 57, 58, 406, 174, 175, 50, 176, 52, 177, 65, 66, 67, 68, 407, 408, 409, 410, 63, 64, 411, 412, 413, 414, 53, 54, 55, 415, 416, 417, 418, 419, 420, 421, 499, 500, 501, 502, 503, 513, 514, 515, 516, 517, 518] (by decide +kernel) (by decide +kernel)) (goodIn_sub (fun _ h => List.mem_cons_of_mem _ (List.mem_append_left _ (List.mem_append_left _ (List.mem_append_right _ h)))) (by decide +kernel))) (goodIn_sub (fun _ h => List.mem_cons_of_mem _ (List.mem_append_left _ (List.mem_append_right _ h))) (by decide +kernel))) (goodIn_sub (fun _ h => List.mem_cons_of_mem _ (List.mem_append_right _ h)) (by decide +kernel))
set_option maxRecDepth 20000 in
theorem gL_refused_L_node : GoodIn wsL_refused (va_wsS RL 125 yL_node wsL_node) := goodIn_app (goodIn_of _ (by decide +kernel)) ggL_refused_L_node
set_option maxRecDepth 20000 in
theorem ggL_refused_L_child : GoodIn wsL_refused wsL_child := goodIn_ca (goodIn_ca (goodIn_ca (goodIn_r _ [424, 92, 93, 1, 2, 425, 426, 427, 11, 428, 20, 128, 398, 399, 400, 401, 167, 103, 104, 105, 100, 101, 102, 106, 107, 108, 109, 110, 111, 112, 113, 114, 429, 60, 61, 50, 62, 52, 63, 64, 65, 66, 36, 67, 68, 69, 70, 56, 57, 58, 53, 54, 55, 71, 72, 73, 74, 75, 76, 77, 78, 79, 80, 81, 82, 83, 84, 499, 500, 501, 502, 503, 513, 514, 515, 516, 517, 518] (by decide +kernel) (by decide +kernel)) (goodIn_sub (fun _ h => List.mem_cons_of_mem _ (List.mem_append_left _ (List.mem_append_left _ (List.mem_append_right _ h)))) (by decide +kernel))) (goodIn_sub (fun _ h => List.mem_cons_of_mem _ (List.mem_append_left _ (List.mem_append_right _ h))) (by decide +kernel))) (goodIn_sub (fun _ h => List.mem_cons_of_mem _ (List.mem_append_right _ h)) (by decide +kernel))
set_option maxRecDepth 20000 in
theorem gL_refused_L_child : GoodIn wsL_refused (va_wsS RL 127 yL_child wsL_child) := goodIn_app (goodIn_of _ (by decide +kernel)) ggL_refused_L_child
set_option maxRecDepth 20000 in
theorem ggL_refused_L_search : GoodIn wsL_refused wsL_search := goodIn_ca (goodIn_ca (goodIn_ca (goodIn_r _ [432, 93, 2, 433, 434, 435, 11, 436, 20, 128, 397, 214, 215, 216, 103, 104, 105, 106, 107, 108, 109, 110, 111, 112, 113, 114, 27, 28, 29, 30, 31, 32, 33, 34, 35, 36, 37, 38, 39, 40, 41, 42, 43, 44, 45, 46, 47, 48, 49, 50, 51, 52, 53, 54, 55, 56, 57, 58, 59, 60, 61, 62, 63, 64, 65, 66, 67, 68, 69, 70, 71, 72, 73, 74, 75, 76, 77, 78, 79, 80, 81, 82, 83, 84, 85, 86, 87, 88, 405, 157, 158, 499, 500, 501, 502, 503, 513, 514, 515, 516, 517, 518] (by decide +kernel) (by decide +kernel)) (goodIn_sub (fun _ h => List.mem_cons_of_mem _ (List.mem_append_left _ (List.mem_append_left _ (List.mem_append_right _ h)))) (by decide +kernel))) (goodIn_sub (fun _ h => List.mem_cons_of_mem _ (List.mem_append_left _ (List.mem_append_right _ h))) (by decide +kernel))) (goodIn_sub (fun _ h => List.mem_cons_of_mem _ (List.mem_append_right _ h)) (by decide +kernel))
set_option maxRecDepth 20000 in
theorem gL_refused_L_search : GoodIn wsL_refused (va_wsS RL 129 yL_search wsL_search) := goodIn_app (goodIn_of _ (by decide +kernel)) ggL_refused_L_search
set_option maxRecDepth 20000 in
theorem ggL_refused_L_wouldTouch : GoodIn wsL_refused wsL_wouldTouch := goodIn_ca (goodIn_ca (goodIn_ca (goodIn_r _ [439, 92, 93, 200, 1, 2, 201, 440, 441, 442, 11, 443, 13, 21, 22, 248, 20, 207, 208, 209, 210, 19, 211, 212, 213, 103, 104, 105, 214, 215, 216, 106, 107, 108, 109, 110, 111, 112, 113, 114, 240, 241, 242, 132, 243, 134, 139, 140, 249, 250, 251, 30, 252, 32, 253, 254, 255, 256, 257, 258, 259, 260, 34, 35, 36, 37, 38, 39, 40, 41, 261, 262, 263, 264, 265, 266, 267, 50, 268, 63, 84, 116, 117, 269, 270, 271, 272, 64, 273, 274, 275, 276, 277, 278, 279, 280, 281, 282, 283, 284, 285, 286, 287, 288, 289, 290, 291, 52, 292, 293, 294, 295, 296, 297, 298, 299, 499, 500, 501, 502, 503, 504, 505, 506, 507, 508, 509, 510, 511, 512, 513, 514, 515, 516, 517, 518] (by decide +kernel) (by decide +kernel)) (goodIn_sub (fun _ h => List.mem_cons_of_mem _ (List.mem_append_left _ (List.mem_append_left _ (List.mem_append_right _ h)))) (by decide +kernel))) (goodIn_sub (fun _ h => List.mem_cons_of_mem _ (List.mem_append_left _ (List.mem_append_right _ h))) (by decide +kernel))) (goodIn_sub (fun _ h => List.mem_cons_of_mem _ (List.mem_append_right _ h)) (by decide +kernel))
set_option maxRecDepth 20000 in
theorem gL_refused_L_wouldTouch : GoodIn wsL_refused (va_wsS RL 132 yL_wouldTouch wsL_wouldTouch) := goodIn_app (goodIn_of _ (by decide +kernel)) ggL_refused_L_wouldTouch
set_option maxRecDepth 20000 in
theorem ggL_refused_L_open : GoodIn wsL_refused wsL_open := goodIn_ca (goodIn_ca (goodIn_ca (goodIn_r _ [446, 92, 93, 1, 2, 447, 448, 449, 11, 450, 206, 13, 125, 126, 127, 451, 452, 453, 103, 104, 105, 214, 215, 216, 106, 107, 108, 109, 110, 111, 112, 113, 114, 217, 218, 219, 220, 221, 222, 223, 224, 225, 151, 25, 152, 226, 227, 228, 132, 229, 134, 139, 140, 230, 231, 232, 233, 234, 235, 386, 387, 388, 389, 499, 500, 501, 502, 503, 504, 505, 506, 507, 508, 509, 510, 511, 512, 519, 520, 521] (by decide +kernel) (by decide +kernel)) (goodIn_sub (fun _ h => List.mem_cons_of_mem _ (List.mem_append_left _ (List.mem_append_left _ (List.mem_append_right _ h)))) (by decide +kernel))) (goodIn_sub (fun _ h => List.mem_cons_of_mem _ (List.mem_append_left _ (List.mem_append_right _ h))) (by decide +kernel))) (goodIn_sub (fun _ h => List.mem_cons_of_mem _ (List.mem_append_right _ h)) (by decide +kernel))
set_option maxRecDepth 20000 in
theorem gL_refused_L_open : GoodIn wsL_refused (va_wsS RL 134 yL_open wsL_open) := goodIn_app (goodIn_of _ (by decide +kernel)) ggL_refused_L_open
set_option maxRecDepth 20000 in
theorem ggL_refused_L_next : GoodIn wsL_refused wsL_next := goodIn_ca (goodIn_ca (goodIn_ca (goodIn_r _ [456, 92, 1, 457, 458, 459, 11, 460, 206, 13, 127, 125, 126, 103, 104, 105, 106, 107, 108, 109, 110, 111, 112, 113, 114, 217, 218, 219, 220, 221, 222, 223, 224, 225, 151, 25, 152, 226, 227, 228, 132, 229, 134, 139, 140, 230, 231, 232, 233, 234, 235, 461, 462, 463, 464, 135, 136, 137, 138, 141, 142, 499, 500, 501, 502, 503, 504, 505, 506, 507, 508, 509, 510, 511, 512, 519, 520, 521] (by decide +kernel) (by decide +kernel)) (goodIn_sub (fun _ h => List.mem_cons_of_mem _ (List.mem_append_left _ (List.mem_append_left _ (List.mem_append_right _ h)))) (by decide +kernel))) (goodIn_sub (fun _ h => List.mem_cons_of_mem _ (List.mem_append_left _ (List.mem_append_right _ h))) (by decide +kernel))) (goodIn_sub (fun _ h => List.mem_cons_of_mem _ (List.mem_append_right _ h)) (by decide +kernel))
set_option maxRecDepth 20000 in
theorem gL_refused_L_next : GoodIn wsL_refused (va_wsS RL 136 yL_next wsL_next) := goodIn_app (goodIn_of _ (by decide +kernel)) ggL_refused_L_next
set_option maxRecDepth 20000 in
theorem ggL_refused_L_cursor : GoodIn wsL_refused wsL_cursor := goodIn_ca (goodIn_ca (goodIn_ca (goodIn_r _ [120, 92, 93, 1, 2, 121, 122, 123, 11, 124, 13, 125, 126, 127, 20, 128, 100, 101, 102, 103, 104, 105, 106, 107, 108, 109, 110, 111, 112, 113, 114, 129, 130, 131, 132, 133, 134, 135, 136, 137, 138, 139, 140, 141, 142, 143, 144, 145, 50, 146, 84, 52, 147, 148, 36, 149, 150, 151, 25, 152, 153, 24, 26, 68, 69, 70, 154, 78, 79, 74, 75, 76, 155, 72, 73, 156, 157, 158, 56, 57, 58, 499, 500, 501, 502, 503, 504, 505, 506, 507, 508, 509, 510, 511, 512, 513, 514, 515, 516, 517, 518] (by decide +kernel) (by decide +kernel)) (goodIn_sub (fun _ h => List.mem_cons_of_mem _ (List.mem_append_left _ (List.mem_append_left _ (List.mem_append_right _ h)))) (by decide +kernel))) (goodIn_sub (fun _ h => List.mem_cons_of_mem _ (List.mem_append_left _ (List.mem_append_right _ h))) (by decide +kernel))) (goodIn_sub (fun _ h => List.mem_cons_of_mem _ (List.mem_append_right _ h)) (by decide +kernel))
set_option maxRecDepth 20000 in
theorem gL_refused_L_cursor : GoodIn wsL_refused (va_wsS RL 100 yL_cursor wsL_cursor) := goodIn_app (goodIn_of _ (by decide +kernel)) ggL_refused_L_cursor
set_option maxRecDepth 20000 in
theorem ggL_refused_L_nearest : GoodIn wsL_refused wsL_nearest := goodIn_ca (goodIn_ca (goodIn_ca (goodIn_r _ [467, 93, 2, 468, 469, 470, 11, 471, 13, 214, 215, 216, 103, 104, 105, 106, 107, 108, 109, 110, 111, 112, 113, 114, 386, 387, 388, 132, 389, 134, 461, 462, 463, 464, 135, 136, 137, 138, 139, 140, 141, 142, 499, 500, 501, 502, 503, 504, 505, 506, 507, 508, 509, 510, 511, 512] (by decide +kernel) (by decide +kernel)) (goodIn_sub (fun _ h => List.mem_cons_of_mem _ (List.mem_append_left _ (List.mem_append_left _ (List.mem_append_right _ h)))) (by decide +kernel))) (goodIn_sub (fun _ h => List.mem_cons_of_mem _ (List.mem_append_left _ (List.mem_append_right _ h))) (by decide +kernel))) (goodIn_sub (fun _ h => List.mem_cons_of_mem _ (List.mem_append_right _ h)) (by decide +kernel))
set_option maxRecDepth 20000 in
theorem gL_refused_L_nearest : GoodIn wsL_refused (va_wsS RL 138 yL_nearest wsL_nearest) := goodIn_app (goodIn_of _ (by decide +kernel)) ggL_refused_L_nearest
set_option maxRecDepth 20000 in
theorem ggL_refused_L_within : GoodIn wsL_refused wsL_within := goodIn_ca (goodIn_ca (goodIn_ca (goodIn_r _ [474, 93, 2, 475, 476, 477, 11, 478, 13, 19, 21, 22, 214, 215, 216, 103, 104, 105, 106, 107, 108, 109, 110, 111, 112, 113, 114, 499, 500, 501, 502, 503, 504, 505, 506, 507, 508, 509, 510, 511, 512] (by decide +kernel) (by decide +kernel)) (goodIn_sub (fun _ h => List.mem_cons_of_mem _ (List.mem_append_left _ (List.mem_append_left _ (List.mem_append_right _ h)))) (by decide +kernel))) (goodIn_sub (fun _ h => List.mem_cons_of_mem _ (List.mem_append_left _ (List.mem_append_right _ h))) (by decide +kernel))) (goodIn_sub (fun _ h => List.mem_cons_of_mem _ (List.mem_append_right _ h)) (by decide +kernel))
set_option maxRecDepth 20000 in
theorem gL_refused_L_within : GoodIn wsL_refused (va_wsS RL 140 yL_within wsL_within) := goodIn_app (goodIn_of _ (by decide +kernel)) ggL_refused_L_within
set_option maxRecDepth 20000 in
theorem ggL_refused_L_closest : GoodIn wsL_refused wsL_closest := goodIn_ca (goodIn_ca (goodIn_ca (goodIn_r _ [188, 93, 2, 189, 190, 191, 11, 192, 13, 103, 104, 105, 106, 107, 108, 109, 110, 111, 112, 113, 114, 193, 194, 195, 132, 196, 134, 139, 140, 135, 136, 137, 138, 141, 142, 499, 500, 501, 502, 503, 504, 505, 506, 507, 508, 509, 510, 511, 512] (by decide +kernel) (by decide +kernel)) (goodIn_sub (fun _ h => List.mem_cons_of_mem _ (List.mem_append_left _ (List.mem_append_left _ (List.mem_append_right _ h)))) (by decide +kernel))) (goodIn_sub (fun _ h => List.mem_cons_of_mem _ (List.mem_append_left _ (List.mem_append_right _ h))) (by decide +kernel))) (goodIn_sub (fun _ h => List.mem_cons_of_mem _ (List.mem_append_right _ h)) (by decide +kernel))
set_option maxRecDepth 20000 in
theorem gL_refused_L_closest : GoodIn wsL_refused (va_wsS RL 104 yL_closest wsL_closest) := goodIn_app (goodIn_of _ (by decide +kernel)) ggL_refused_L_closest
set_option maxRecDepth 20000 in
theorem ggL_refused_L_type : GoodIn wsL_refused wsL_type := goodIn_ca (goodIn_ca (goodIn_ca (goodIn_r _ [481, 93, 200, 2, 201, 482, 483, 484, 11, 485, 486, 487, 488, 489, 490, 491, 103, 104, 105, 106, 107, 108, 109, 110, 111, 112, 113, 114, 492, 493, 494, 495, 496, 497, 498, 499, 500, 501, 502, 503, 522, 523, 524, 525, 526, 527] (by decide +kernel) (by decide +kernel)) (goodIn_sub (fun _ h => List.mem_cons_of_mem _ (List.mem_append_left _ (List.mem_append_left _ (List.mem_append_right _ h)))) (by decide +kernel))) (goodIn_sub (fun _ h => List.mem_cons_of_mem _ (List.mem_append_left _ (List.mem_append_right _ h))) (by decide +kernel))) (goodIn_sub (fun _ h => List.mem_cons_of_mem _ (List.mem_append_right _ h)) (by decide +kernel))
set_option maxRecDepth 20000 in
theorem gL_refused_L_type : GoodIn wsL_refused (va_wsS RL 142 yL_type wsL_type) := goodIn_app (goodIn_of _ (by decide +kernel)) ggL_refused_L_type
theorem dL_refused_0 : decode cL_refused 0 = .ok (.aload_n 0, 1) := by decide +kernel
theorem dL_refused_1 : decode cL_refused 1 = .ok (.invokestatic 107, 3) := by decide +kernel
theorem dL_refused_4 : decode cL_refused 4 = .ok (.lstore_n 1, 1) := by decide +kernel
theorem dL_refused_5 : decode cL_refused 5 = .ok (.aload_n 0, 1) := by decide +kernel
theorem dL_refused_6 : decode cL_refused 6 = .ok (.bipush 99, 2) := by decide +kernel
theorem dL_refused_8 : decode cL_refused 8 = .ok (.iconst 0, 1) := by decide +kernel
theorem dL_refused_9 : decode cL_refused 9 = .ok (.iconst 0, 1) := by decide +kernel
theorem dL_refused_10 : decode cL_refused 10 = .ok (.invokestatic 111, 3) := by decide +kernel
theorem dL_refused_13 : decode cL_refused 13 = .ok (.ldc 17, 2) := by decide +kernel
theorem dL_refused_15 : decode cL_refused 15 = .ok (.if_icmp .ne 141, 3) := by decide +kernel
theorem dL_refused_18 : decode cL_refused 18 = .ok (.aload_n 0, 1) := by decide +kernel
theorem dL_refused_19 : decode cL_refused 19 = .ok (.bipush (-5), 2) := by decide +kernel
theorem dL_refused_21 : decode cL_refused 21 = .ok (.iconst 0, 1) := by decide +kernel
theorem dL_refused_22 : decode cL_refused 22 = .ok (.iconst 0, 1) := by decide +kernel
theorem dL_refused_23 : decode cL_refused 23 = .ok (.invokestatic 114, 3) := by decide +kernel
theorem dL_refused_26 : decode cL_refused 26 = .ok (.ldc 17, 2) := by decide +kernel
theorem dL_refused_28 : decode cL_refused 28 = .ok (.if_icmp .ne 128, 3) := by decide +kernel
theorem dL_refused_31 : decode cL_refused 31 = .ok (.aload_n 0, 1) := by decide +kernel
theorem dL_refused_32 : decode cL_refused 32 = .ok (.bipush 24, 2) := by decide +kernel
theorem dL_refused_34 : decode cL_refused 34 = .ok (.invokestatic 116, 3) := by decide +kernel
theorem dL_refused_37 : decode cL_refused 37 = .ok (.ldc 17, 2) := by decide +kernel
theorem dL_refused_39 : decode cL_refused 39 = .ok (.if_icmp .ne 117, 3) := by decide +kernel
theorem dL_refused_42 : decode cL_refused 42 = .ok (.aload_n 0, 1) := by decide +kernel
theorem dL_refused_43 : decode cL_refused 43 = .ok (.bipush 24, 2) := by decide +kernel
theorem dL_refused_45 : decode cL_refused 45 = .ok (.iconst 0, 1) := by decide +kernel
theorem dL_refused_46 : decode cL_refused 46 = .ok (.iconst 0, 1) := by decide +kernel
theorem dL_refused_47 : decode cL_refused 47 = .ok (.invokestatic 118, 3) := by decide +kernel
theorem dL_refused_50 : decode cL_refused 50 = .ok (.ldc 17, 2) := by decide +kernel
theorem dL_refused_52 : decode cL_refused 52 = .ok (.if_icmp .ne 104, 3) := by decide +kernel
theorem dL_refused_55 : decode cL_refused 55 = .ok (.aload_n 0, 1) := by decide +kernel
theorem dL_refused_56 : decode cL_refused 56 = .ok (.iconst (-1), 1) := by decide +kernel
theorem dL_refused_57 : decode cL_refused 57 = .ok (.invokestatic 120, 3) := by decide +kernel
theorem dL_refused_60 : decode cL_refused 60 = .ok (.ldc 20, 2) := by decide +kernel
theorem dL_refused_62 : decode cL_refused 62 = .ok (.if_icmp .ne 94, 3) := by decide +kernel
theorem dL_refused_65 : decode cL_refused 65 = .ok (.aload_n 0, 1) := by decide +kernel
theorem dL_refused_66 : decode cL_refused 66 = .ok (.iconst (-1), 1) := by decide +kernel
theorem dL_refused_67 : decode cL_refused 67 = .ok (.iconst 1, 1) := by decide +kernel
theorem dL_refused_68 : decode cL_refused 68 = .ok (.iconst 1, 1) := by decide +kernel
theorem dL_refused_69 : decode cL_refused 69 = .ok (.iconst 1, 1) := by decide +kernel
theorem dL_refused_70 : decode cL_refused 70 = .ok (.invokestatic 122, 3) := by decide +kernel
theorem dL_refused_73 : decode cL_refused 73 = .ok (.ldc 17, 2) := by decide +kernel
theorem dL_refused_75 : decode cL_refused 75 = .ok (.if_icmp .ne 81, 3) := by decide +kernel
theorem dL_refused_78 : decode cL_refused 78 = .ok (.aload_n 0, 1) := by decide +kernel
theorem dL_refused_79 : decode cL_refused 79 = .ok (.bipush 23, 2) := by decide +kernel
theorem dL_refused_81 : decode cL_refused 81 = .ok (.iconst 2, 1) := by decide +kernel
theorem dL_refused_82 : decode cL_refused 82 = .ok (.iconst 1, 1) := by decide +kernel
theorem dL_refused_83 : decode cL_refused 83 = .ok (.iconst 1, 1) := by decide +kernel
theorem dL_refused_84 : decode cL_refused 84 = .ok (.invokestatic 122, 3) := by decide +kernel
theorem dL_refused_87 : decode cL_refused 87 = .ok (.ldc 20, 2) := by decide +kernel
theorem dL_refused_89 : decode cL_refused 89 = .ok (.if_icmp .ne 67, 3) := by decide +kernel
theorem dL_refused_92 : decode cL_refused 92 = .ok (.aload_n 0, 1) := by decide +kernel
theorem dL_refused_93 : decode cL_refused 93 = .ok (.iconst (-1), 1) := by decide +kernel
theorem dL_refused_94 : decode cL_refused 94 = .ok (.iconst 0, 1) := by decide +kernel
theorem dL_refused_95 : decode cL_refused 95 = .ok (.invokestatic 95, 3) := by decide +kernel
theorem dL_refused_98 : decode cL_refused 98 = .ok (.ldc 17, 2) := by decide +kernel
theorem dL_refused_100 : decode cL_refused 100 = .ok (.if_icmp .ne 56, 3) := by decide +kernel
theorem dL_refused_103 : decode cL_refused 103 = .ok (.aload_n 0, 1) := by decide +kernel
theorem dL_refused_104 : decode cL_refused 104 = .ok (.iconst 0, 1) := by decide +kernel
theorem dL_refused_105 : decode cL_refused 105 = .ok (.iconst (-1), 1) := by decide +kernel
theorem dL_refused_106 : decode cL_refused 106 = .ok (.invokestatic 102, 3) := by decide +kernel
theorem dL_refused_109 : decode cL_refused 109 = .ok (.ldc 20, 2) := by decide +kernel
theorem dL_refused_111 : decode cL_refused 111 = .ok (.if_icmp .ne 45, 3) := by decide +kernel
theorem dL_refused_114 : decode cL_refused 114 = .ok (.aload_n 0, 1) := by decide +kernel
theorem dL_refused_115 : decode cL_refused 115 = .ok (.iconst 5, 1) := by decide +kernel
theorem dL_refused_116 : decode cL_refused 116 = .ok (.iconst 0, 1) := by decide +kernel
theorem dL_refused_117 : decode cL_refused 117 = .ok (.iconst 0, 1) := by decide +kernel
theorem dL_refused_118 : decode cL_refused 118 = .ok (.invokestatic 125, 3) := by decide +kernel
theorem dL_refused_121 : decode cL_refused 121 = .ok (.ldc 17, 2) := by decide +kernel
theorem dL_refused_123 : decode cL_refused 123 = .ok (.if_icmp .ne 33, 3) := by decide +kernel
theorem dL_refused_126 : decode cL_refused 126 = .ok (.aload_n 0, 1) := by decide +kernel
theorem dL_refused_127 : decode cL_refused 127 = .ok (.iconst 0, 1) := by decide +kernel
theorem dL_refused_128 : decode cL_refused 128 = .ok (.bipush 24, 2) := by decide +kernel
theorem dL_refused_130 : decode cL_refused 130 = .ok (.iconst 0, 1) := by decide +kernel
theorem dL_refused_131 : decode cL_refused 131 = .ok (.invokestatic 127, 3) := by decide +kernel
theorem dL_refused_134 : decode cL_refused 134 = .ok (.ldc 17, 2) := by decide +kernel
theorem dL_refused_136 : decode cL_refused 136 = .ok (.if_icmp .ne 20, 3) := by decide +kernel
theorem dL_refused_139 : decode cL_refused 139 = .ok (.aload_n 0, 1) := by decide +kernel
theorem dL_refused_140 : decode cL_refused 140 = .ok (.iconst (-1), 1) := by decide +kernel
theorem dL_refused_141 : decode cL_refused 141 = .ok (.iconst 0, 1) := by decide +kernel
theorem dL_refused_142 : decode cL_refused 142 = .ok (.iconst 0, 1) := by decide +kernel
theorem dL_refused_143 : decode cL_refused 143 = .ok (.iconst 0, 1) := by decide +kernel
theorem dL_refused_144 : decode cL_refused 144 = .ok (.invokestatic 129, 3) := by decide +kernel
theorem dL_refused_147 : decode cL_refused 147 = .ok (.ldc 20, 2) := by decide +kernel
theorem dL_refused_149 : decode cL_refused 149 = .ok (.if_icmp .ne 7, 3) := by decide +kernel
theorem dL_refused_152 : decode cL_refused 152 = .ok (.iconst 1, 1) := by decide +kernel
theorem dL_refused_153 : decode cL_refused 153 = .ok (.goto 4, 3) := by decide +kernel
theorem dL_refused_156 : decode cL_refused 156 = .ok (.iconst 0, 1) := by decide +kernel
theorem dL_refused_157 : decode cL_refused 157 = .ok (.istore_n 3, 1) := by decide +kernel
theorem dL_refused_158 : decode cL_refused 158 = .ok (.iload_n 3, 1) := by decide +kernel
theorem dL_refused_159 : decode cL_refused 159 = .ok (.ifCond .eq 110, 3) := by decide +kernel
theorem dL_refused_162 : decode cL_refused 162 = .ok (.aload_n 0, 1) := by decide +kernel
theorem dL_refused_163 : decode cL_refused 163 = .ok (.bipush 24, 2) := by decide +kernel
theorem dL_refused_165 : decode cL_refused 165 = .ok (.iconst 0, 1) := by decide +kernel
theorem dL_refused_166 : decode cL_refused 166 = .ok (.iconst 0, 1) := by decide +kernel
theorem dL_refused_167 : decode cL_refused 167 = .ok (.invokestatic 132, 3) := by decide +kernel
theorem dL_refused_170 : decode cL_refused 170 = .ok (.ldc 17, 2) := by decide +kernel
theorem dL_refused_172 : decode cL_refused 172 = .ok (.if_icmp .ne 97, 3) := by decide +kernel
theorem dL_refused_175 : decode cL_refused 175 = .ok (.aload_n 0, 1) := by decide +kernel
theorem dL_refused_176 : decode cL_refused 176 = .ok (.iconst (-1), 1) := by decide +kernel
theorem dL_refused_177 : decode cL_refused 177 = .ok (.iconst 0, 1) := by decide +kernel
theorem dL_refused_178 : decode cL_refused 178 = .ok (.iconst 0, 1) := by decide +kernel
theorem dL_refused_179 : decode cL_refused 179 = .ok (.invokestatic 134, 3) := by decide +kernel
theorem dL_refused_182 : decode cL_refused 182 = .ok (.ldc 17, 2) := by decide +kernel
