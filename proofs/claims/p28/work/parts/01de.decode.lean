set_option maxRecDepth 20000 in
theorem gX6_closest_X4_closestCouple : GoodIn wsX6_closest (wsV RX6 224 RX4 yX4_closestCouple wsX4_closestCouple) := goodIn_app (goodIn_of _ (by decide +kernel)) ggX6_closest_X4_closestCouple
theorem dX6_closest_0 : decode cX6_closest 0 = .ok (.iload_n 1, 1) := by decide +kernel
theorem dX6_closest_1 : decode cX6_closest 1 = .ok (.iconst 0, 1) := by decide +kernel
theorem dX6_closest_2 : decode cX6_closest 2 = .ok (.iconst 2, 1) := by decide +kernel
theorem dX6_closest_3 : decode cX6_closest 3 = .ok (.invokestatic 185, 3) := by decide +kernel
theorem dX6_closest_6 : decode cX6_closest 6 = .ok (.ifCond .eq 7, 3) := by decide +kernel
theorem dX6_closest_9 : decode cX6_closest 9 = .ok (.iconst 0, 1) := by decide +kernel
theorem dX6_closest_10 : decode cX6_closest 10 = .ok (.goto 4, 3) := by decide +kernel
theorem dX6_closest_13 : decode cX6_closest 13 = .ok (.iconst 2, 1) := by decide +kernel
theorem dX6_closest_14 : decode cX6_closest 14 = .ok (.invokestatic 44, 3) := by decide +kernel
theorem dX6_closest_17 : decode cX6_closest 17 = .ok (.aload_n 0, 1) := by decide +kernel
theorem dX6_closest_18 : decode cX6_closest 18 = .ok (.getfield 10, 3) := by decide +kernel
theorem dX6_closest_21 : decode cX6_closest 21 = .ok (.invokevirtual 224, 3) := by decide +kernel
theorem dX6_closest_24 : decode cX6_closest 24 = .ok (.istore_n 2, 1) := by decide +kernel
theorem dX6_closest_25 : decode cX6_closest 25 = .ok (.iload_n 2, 1) := by decide +kernel
theorem dX6_closest_26 : decode cX6_closest 26 = .ok (.iconst (-1), 1) := by decide +kernel
theorem dX6_closest_27 : decode cX6_closest 27 = .ok (.if_icmp .ne 5, 3) := by decide +kernel
theorem dX6_closest_30 : decode cX6_closest 30 = .ok (.iconst (-1), 1) := by decide +kernel
theorem dX6_closest_31 : decode cX6_closest 31 = .ok (.ireturn, 1) := by decide +kernel
theorem dX6_closest_32 : decode cX6_closest 32 = .ok (.iload_n 1, 1) := by decide +kernel
theorem dX6_closest_33 : decode cX6_closest 33 = .ok (.lookupswitch 41 #[(0, 27), (1, 33)], 27) := by decide +kernel
theorem dX6_closest_60 : decode cX6_closest 60 = .ok (.iload_n 2, 1) := by decide +kernel
theorem dX6_closest_61 : decode cX6_closest 61 = .ok (.sipush 1024, 3) := by decide +kernel
theorem dX6_closest_64 : decode cX6_closest 64 = .ok (.idiv, 1) := by decide +kernel
theorem dX6_closest_65 : decode cX6_closest 65 = .ok (.ireturn, 1) := by decide +kernel
theorem dX6_closest_66 : decode cX6_closest 66 = .ok (.iload_n 2, 1) := by decide +kernel
theorem dX6_closest_67 : decode cX6_closest 67 = .ok (.bipush 32, 2) := by decide +kernel
theorem dX6_closest_69 : decode cX6_closest 69 = .ok (.idiv, 1) := by decide +kernel
theorem dX6_closest_70 : decode cX6_closest 70 = .ok (.bipush 32, 2) := by decide +kernel
theorem dX6_closest_72 : decode cX6_closest 72 = .ok (.irem, 1) := by decide +kernel
theorem dX6_closest_73 : decode cX6_closest 73 = .ok (.ireturn, 1) := by decide +kernel
theorem dX6_closest_74 : decode cX6_closest 74 = .ok (.iload_n 2, 1) := by decide +kernel
theorem dX6_closest_75 : decode cX6_closest 75 = .ok (.bipush 32, 2) := by decide +kernel
theorem dX6_closest_77 : decode cX6_closest 77 = .ok (.irem, 1) := by decide +kernel
theorem dX6_closest_78 : decode cX6_closest 78 = .ok (.ireturn, 1) := by decide +kernel
set_option maxRecDepth 20000 in
theorem ggX6_type_X6_refusalOfByte : GoodIn wsX6_type wsX6_refusalOfByte := goodIn_r _ [7, 1, 2, 8, 9, 6, 10, 27, 28, 29, 30, 31, 32, 33, 34, 35, 36, 37] (by decide +kernel) (by decide +kernel)
set_option maxRecDepth 20000 in
theorem gX6_type_X6_refusalOfByte : GoodIn wsX6_type (wsV RX6 227 RX6 yX6_refusalOfByte wsX6_refusalOfByte) := goodIn_app (goodIn_of _ (by decide +kernel)) ggX6_type_X6_refusalOfByte
set_option maxRecDepth 20000 in
theorem ggX6_type_X6_throwIf : GoodIn wsX6_type wsX6_throwIf := goodIn_ca (goodIn_ca (goodIn_ca (goodIn_r _ [13, 14, 15, 16, 17, 18, 19] (by decide +kernel) (by decide +kernel)) (goodIn_sub (fun _ h => List.mem_cons_of_mem _ (List.mem_append_left _ (List.mem_append_left _ (List.mem_append_right _ h)))) (by decide +kernel))) (goodIn_sub (fun _ h => List.mem_cons_of_mem _ (List.mem_append_left _ (List.mem_append_right _ h))) (by decide +kernel))) (goodIn_sub (fun _ h => List.mem_cons_of_mem _ (List.mem_append_right _ h)) (by decide +kernel))
set_option maxRecDepth 20000 in
theorem gX6_type_X6_throwIf : GoodIn wsX6_type (va_wsS RX6 44 yX6_throwIf wsX6_throwIf) := goodIn_app (goodIn_of _ (by decide +kernel)) ggX6_type_X6_throwIf
set_option maxRecDepth 20000 in
theorem ggX6_type_X2_append : GoodIn wsX6_type wsX2_append := goodIn_r _ [24, 25, 26, 32, 33, 34, 35, 36, 37] (by decide +kernel) (by decide +kernel)
set_option maxRecDepth 20000 in
theorem gX6_type_X2_append : GoodIn wsX6_type (wsV RX6 230 RX2 yX2_append wsX2_append) := goodIn_app (goodIn_of _ (by decide +kernel)) ggX6_type_X2_append
theorem dX6_type_0 : decode cX6_type 0 = .ok (.aload_n 0, 1) := by decide +kernel
theorem dX6_type_1 : decode cX6_type 1 = .ok (.iload_n 1, 1) := by decide +kernel
theorem dX6_type_2 : decode cX6_type 2 = .ok (.invokevirtual 227, 3) := by decide +kernel
theorem dX6_type_5 : decode cX6_type 5 = .ok (.invokestatic 44, 3) := by decide +kernel
theorem dX6_type_8 : decode cX6_type 8 = .ok (.aload_n 0, 1) := by decide +kernel
theorem dX6_type_9 : decode cX6_type 9 = .ok (.getfield 26, 3) := by decide +kernel
theorem dX6_type_12 : decode cX6_type 12 = .ok (.iload_n 1, 1) := by decide +kernel
theorem dX6_type_13 : decode cX6_type 13 = .ok (.invokevirtual 230, 3) := by decide +kernel
theorem dX6_type_16 : decode cX6_type 16 = .ok (.aload_n 0, 1) := by decide +kernel
theorem dX6_type_17 : decode cX6_type 17 = .ok (.getfield 26, 3) := by decide +kernel
theorem dX6_type_20 : decode cX6_type 20 = .ok (.getfield 233, 3) := by decide +kernel
theorem dX6_type_23 : decode cX6_type 23 = .ok (.ireturn, 1) := by decide +kernel
theorem dX6_time_0 : decode cX6_time 0 = .ok (.aload_n 0, 1) := by decide +kernel
theorem dX6_time_1 : decode cX6_time 1 = .ok (.getfield 10, 3) := by decide +kernel
theorem dX6_time_4 : decode cX6_time 4 = .ok (.getfield 260, 3) := by decide +kernel
theorem dX6_time_7 : decode cX6_time 7 = .ok (.ireturn, 1) := by decide +kernel
set_option maxRecDepth 20000 in
theorem ggX6_undo_X6_throwIf : GoodIn wsX6_undo wsX6_throwIf := goodIn_ca (goodIn_ca (goodIn_ca (goodIn_r _ [8, 9, 10, 11, 12, 13, 14] (by decide +kernel) (by decide +kernel)) (goodIn_sub (fun _ h => List.mem_cons_of_mem _ (List.mem_append_left _ (List.mem_append_left _ (List.mem_append_right _ h)))) (by decide +kernel))) (goodIn_sub (fun _ h => List.mem_cons_of_mem _ (List.mem_append_left _ (List.mem_append_right _ h))) (by decide +kernel))) (goodIn_sub (fun _ h => List.mem_cons_of_mem _ (List.mem_append_right _ h)) (by decide +kernel))
set_option maxRecDepth 20000 in
theorem gX6_undo_X6_throwIf : GoodIn wsX6_undo (va_wsS RX6 44 yX6_throwIf wsX6_throwIf) := goodIn_app (goodIn_of _ (by decide +kernel)) ggX6_undo_X6_throwIf
set_option maxRecDepth 20000 in
theorem ggX6_undo_X5_pop : GoodIn wsX6_undo wsX5_pop := goodIn_r _ [19, 20, 21, 22, 23, 24, 25, 26, 27, 28, 29, 30, 31, 32, 33, 34, 35, 36, 102, 103, 104, 105, 106, 107, 108, 109, 110, 111, 112, 113] (by decide +kernel) (by decide +kernel)
set_option maxRecDepth 20000 in
theorem gX6_undo_X5_pop : GoodIn wsX6_undo (wsV RX6 265 RX5 yX5_pop wsX5_pop) := goodIn_app (goodIn_of _ (by decide +kernel)) ggX6_undo_X5_pop
set_option maxRecDepth 20000 in
theorem ggX6_undo_X0_plant : GoodIn wsX6_undo wsX0_plant := goodIn_r _ [41, 42, 43, 44, 45, 46, 40, 47, 48, 49, 50, 51, 52, 53, 54, 55, 56, 57, 58, 59, 60, 61, 62, 63, 64, 65, 66, 67, 68, 69, 70, 7, 71, 72, 73, 74, 75, 76, 77, 78, 79, 80, 81, 82, 83, 84, 85, 86, 87, 88, 89, 90, 91, 92, 93, 94, 95, 96, 114, 115, 105, 106, 107, 108, 109, 110, 111, 112, 113, 116, 117, 118, 119] (by decide +kernel) (by decide +kernel)
set_option maxRecDepth 20000 in
theorem gX6_undo_X0_plant : GoodIn wsX6_undo (wsV RX6 196 RX0 yX0_plant wsX0_plant) := goodIn_app (goodIn_of _ (by decide +kernel)) ggX6_undo_X0_plant
theorem dX6_undo_0 : decode cX6_undo 0 = .ok (.aload_n 0, 1) := by decide +kernel
theorem dX6_undo_1 : decode cX6_undo 1 = .ok (.getfield 19, 3) := by decide +kernel
theorem dX6_undo_4 : decode cX6_undo 4 = .ok (.getfield 263, 3) := by decide +kernel
theorem dX6_undo_7 : decode cX6_undo 7 = .ok (.ifCond .le 7, 3) := by decide +kernel
theorem dX6_undo_10 : decode cX6_undo 10 = .ok (.iconst 0, 1) := by decide +kernel
theorem dX6_undo_11 : decode cX6_undo 11 = .ok (.goto 4, 3) := by decide +kernel
theorem dX6_undo_14 : decode cX6_undo 14 = .ok (.iconst 3, 1) := by decide +kernel
theorem dX6_undo_15 : decode cX6_undo 15 = .ok (.invokestatic 44, 3) := by decide +kernel
theorem dX6_undo_18 : decode cX6_undo 18 = .ok (.aload_n 0, 1) := by decide +kernel
theorem dX6_undo_19 : decode cX6_undo 19 = .ok (.getfield 19, 3) := by decide +kernel
theorem dX6_undo_22 : decode cX6_undo 22 = .ok (.aload_n 0, 1) := by decide +kernel
theorem dX6_undo_23 : decode cX6_undo 23 = .ok (.getfield 10, 3) := by decide +kernel
theorem dX6_undo_26 : decode cX6_undo 26 = .ok (.invokevirtual 265, 3) := by decide +kernel
theorem dX6_undo_29 : decode cX6_undo 29 = .ok (.aload_n 0, 1) := by decide +kernel
theorem dX6_undo_30 : decode cX6_undo 30 = .ok (.getfield 33, 3) := by decide +kernel
theorem dX6_undo_33 : decode cX6_undo 33 = .ok (.aload_n 0, 1) := by decide +kernel
theorem dX6_undo_34 : decode cX6_undo 34 = .ok (.getfield 10, 3) := by decide +kernel
theorem dX6_undo_37 : decode cX6_undo 37 = .ok (.invokevirtual 196, 3) := by decide +kernel
theorem dX6_undo_40 : decode cX6_undo 40 = .ok (.aload_n 0, 1) := by decide +kernel
theorem dX6_undo_41 : decode cX6_undo 41 = .ok (.getfield 19, 3) := by decide +kernel
theorem dX6_undo_44 : decode cX6_undo 44 = .ok (.getfield 263, 3) := by decide +kernel
theorem dX6_undo_47 : decode cX6_undo 47 = .ok (.ireturn, 1) := by decide +kernel
set_option maxRecDepth 20000 in
theorem ggX6_refusalOfPlace_X6_isId : GoodIn wsX6_refusalOfPlace wsX6_isId := goodIn_r _ [6, 7, 8, 5, 9] (by decide +kernel) (by decide +kernel)
set_option maxRecDepth 20000 in
theorem gX6_refusalOfPlace_X6_isId : GoodIn wsX6_refusalOfPlace (va_wsS RX6 306 yX6_isId wsX6_isId) := goodIn_app (goodIn_of _ (by decide +kernel)) ggX6_refusalOfPlace_X6_isId
set_option maxRecDepth 20000 in
theorem ggX6_refusalOfPlace_X6_isPosition : GoodIn wsX6_refusalOfPlace wsX6_isPosition := goodIn_r _ [12, 7, 8, 5, 9] (by decide +kernel) (by decide +kernel)
set_option maxRecDepth 20000 in
theorem gX6_refusalOfPlace_X6_isPosition : GoodIn wsX6_refusalOfPlace (va_wsS RX6 181 yX6_isPosition wsX6_isPosition) := goodIn_app (goodIn_of _ (by decide +kernel)) ggX6_refusalOfPlace_X6_isPosition
theorem dX6_refusalOfPlace_0 : decode cX6_refusalOfPlace 0 = .ok (.iload_n 1, 1) := by decide +kernel
theorem dX6_refusalOfPlace_1 : decode cX6_refusalOfPlace 1 = .ok (.invokestatic 306, 3) := by decide +kernel
theorem dX6_refusalOfPlace_4 : decode cX6_refusalOfPlace 4 = .ok (.ifCond .ne 5, 3) := by decide +kernel
theorem dX6_refusalOfPlace_7 : decode cX6_refusalOfPlace 7 = .ok (.iconst 1, 1) := by decide +kernel
theorem dX6_refusalOfPlace_8 : decode cX6_refusalOfPlace 8 = .ok (.ireturn, 1) := by decide +kernel
theorem dX6_refusalOfPlace_9 : decode cX6_refusalOfPlace 9 = .ok (.iload_n 2, 1) := by decide +kernel
theorem dX6_refusalOfPlace_10 : decode cX6_refusalOfPlace 10 = .ok (.iload_n 3, 1) := by decide +kernel
theorem dX6_refusalOfPlace_11 : decode cX6_refusalOfPlace 11 = .ok (.invokestatic 181, 3) := by decide +kernel
theorem dX6_refusalOfPlace_14 : decode cX6_refusalOfPlace 14 = .ok (.ifCond .ne 5, 3) := by decide +kernel
theorem dX6_refusalOfPlace_17 : decode cX6_refusalOfPlace 17 = .ok (.iconst 2, 1) := by decide +kernel
theorem dX6_refusalOfPlace_18 : decode cX6_refusalOfPlace 18 = .ok (.ireturn, 1) := by decide +kernel
theorem dX6_refusalOfPlace_19 : decode cX6_refusalOfPlace 19 = .ok (.aload_n 0, 1) := by decide +kernel
theorem dX6_refusalOfPlace_20 : decode cX6_refusalOfPlace 20 = .ok (.getfield 10, 3) := by decide +kernel
theorem dX6_refusalOfPlace_23 : decode cX6_refusalOfPlace 23 = .ok (.getfield 113, 3) := by decide +kernel
theorem dX6_refusalOfPlace_26 : decode cX6_refusalOfPlace 26 = .ok (.iload_n 1, 1) := by decide +kernel
theorem dX6_refusalOfPlace_27 : decode cX6_refusalOfPlace 27 = .ok (.baload, 1) := by decide +kernel
theorem dX6_refusalOfPlace_28 : decode cX6_refusalOfPlace 28 = .ok (.iload 4, 2) := by decide +kernel
theorem dX6_refusalOfPlace_30 : decode cX6_refusalOfPlace 30 = .ok (.if_icmp .ne 7, 3) := by decide +kernel
theorem dX6_refusalOfPlace_33 : decode cX6_refusalOfPlace 33 = .ok (.iconst 0, 1) := by decide +kernel
theorem dX6_refusalOfPlace_34 : decode cX6_refusalOfPlace 34 = .ok (.goto 4, 3) := by decide +kernel
theorem dX6_refusalOfPlace_37 : decode cX6_refusalOfPlace 37 = .ok (.iconst 3, 1) := by decide +kernel
theorem dX6_refusalOfPlace_38 : decode cX6_refusalOfPlace 38 = .ok (.ireturn, 1) := by decide +kernel
set_option maxRecDepth 20000 in
theorem ggX6_refusalOfDrop_X6_isId : GoodIn wsX6_refusalOfDrop wsX6_isId := goodIn_r _ [6, 7, 8, 5, 9] (by decide +kernel) (by decide +kernel)
set_option maxRecDepth 20000 in
theorem gX6_refusalOfDrop_X6_isId : GoodIn wsX6_refusalOfDrop (va_wsS RX6 306 yX6_isId wsX6_isId) := goodIn_app (goodIn_of _ (by decide +kernel)) ggX6_refusalOfDrop_X6_isId
theorem dX6_refusalOfDrop_0 : decode cX6_refusalOfDrop 0 = .ok (.iload_n 1, 1) := by decide +kernel
theorem dX6_refusalOfDrop_1 : decode cX6_refusalOfDrop 1 = .ok (.invokestatic 306, 3) := by decide +kernel
theorem dX6_refusalOfDrop_4 : decode cX6_refusalOfDrop 4 = .ok (.ifCond .ne 5, 3) := by decide +kernel
theorem dX6_refusalOfDrop_7 : decode cX6_refusalOfDrop 7 = .ok (.iconst 1, 1) := by decide +kernel
theorem dX6_refusalOfDrop_8 : decode cX6_refusalOfDrop 8 = .ok (.ireturn, 1) := by decide +kernel
theorem dX6_refusalOfDrop_9 : decode cX6_refusalOfDrop 9 = .ok (.aload_n 0, 1) := by decide +kernel
theorem dX6_refusalOfDrop_10 : decode cX6_refusalOfDrop 10 = .ok (.getfield 10, 3) := by decide +kernel
theorem dX6_refusalOfDrop_13 : decode cX6_refusalOfDrop 13 = .ok (.getfield 113, 3) := by decide +kernel
theorem dX6_refusalOfDrop_16 : decode cX6_refusalOfDrop 16 = .ok (.iload_n 1, 1) := by decide +kernel
theorem dX6_refusalOfDrop_17 : decode cX6_refusalOfDrop 17 = .ok (.baload, 1) := by decide +kernel
theorem dX6_refusalOfDrop_18 : decode cX6_refusalOfDrop 18 = .ok (.ifCond .eq 7, 3) := by decide +kernel
theorem dX6_refusalOfDrop_21 : decode cX6_refusalOfDrop 21 = .ok (.iconst 0, 1) := by decide +kernel
theorem dX6_refusalOfDrop_22 : decode cX6_refusalOfDrop 22 = .ok (.goto 4, 3) := by decide +kernel
theorem dX6_refusalOfDrop_25 : decode cX6_refusalOfDrop 25 = .ok (.iconst 3, 1) := by decide +kernel
theorem dX6_refusalOfDrop_26 : decode cX6_refusalOfDrop 26 = .ok (.ireturn, 1) := by decide +kernel
set_option maxRecDepth 20000 in
theorem ggX6_refusalOfSpeed_X6_isId : GoodIn wsX6_refusalOfSpeed wsX6_isId := goodIn_r _ [6, 7, 8, 5, 9] (by decide +kernel) (by decide +kernel)
set_option maxRecDepth 20000 in
theorem gX6_refusalOfSpeed_X6_isId : GoodIn wsX6_refusalOfSpeed (va_wsS RX6 306 yX6_isId wsX6_isId) := goodIn_app (goodIn_of _ (by decide +kernel)) ggX6_refusalOfSpeed_X6_isId
set_option maxRecDepth 20000 in
theorem ggX6_refusalOfSpeed_X6_inside : GoodIn wsX6_refusalOfSpeed wsX6_inside := goodIn_r _ [9] (by decide +kernel) (by decide +kernel)
set_option maxRecDepth 20000 in
theorem gX6_refusalOfSpeed_X6_inside : GoodIn wsX6_refusalOfSpeed (va_wsS RX6 185 yX6_inside wsX6_inside) := goodIn_app (goodIn_of _ (by decide +kernel)) ggX6_refusalOfSpeed_X6_inside
theorem dX6_refusalOfSpeed_0 : decode cX6_refusalOfSpeed 0 = .ok (.iload_n 1, 1) := by decide +kernel
theorem dX6_refusalOfSpeed_1 : decode cX6_refusalOfSpeed 1 = .ok (.invokestatic 306, 3) := by decide +kernel
theorem dX6_refusalOfSpeed_4 : decode cX6_refusalOfSpeed 4 = .ok (.ifCond .ne 5, 3) := by decide +kernel
theorem dX6_refusalOfSpeed_7 : decode cX6_refusalOfSpeed 7 = .ok (.iconst 1, 1) := by decide +kernel
theorem dX6_refusalOfSpeed_8 : decode cX6_refusalOfSpeed 8 = .ok (.ireturn, 1) := by decide +kernel
theorem dX6_refusalOfSpeed_9 : decode cX6_refusalOfSpeed 9 = .ok (.iload_n 2, 1) := by decide +kernel
theorem dX6_refusalOfSpeed_10 : decode cX6_refusalOfSpeed 10 = .ok (.bipush (-9), 2) := by decide +kernel
theorem dX6_refusalOfSpeed_12 : decode cX6_refusalOfSpeed 12 = .ok (.bipush 9, 2) := by decide +kernel
theorem dX6_refusalOfSpeed_14 : decode cX6_refusalOfSpeed 14 = .ok (.invokestatic 185, 3) := by decide +kernel
theorem dX6_refusalOfSpeed_17 : decode cX6_refusalOfSpeed 17 = .ok (.ifCond .eq 14, 3) := by decide +kernel
theorem dX6_refusalOfSpeed_20 : decode cX6_refusalOfSpeed 20 = .ok (.iload_n 3, 1) := by decide +kernel
theorem dX6_refusalOfSpeed_21 : decode cX6_refusalOfSpeed 21 = .ok (.bipush (-9), 2) := by decide +kernel
theorem dX6_refusalOfSpeed_23 : decode cX6_refusalOfSpeed 23 = .ok (.bipush 9, 2) := by decide +kernel
theorem dX6_refusalOfSpeed_25 : decode cX6_refusalOfSpeed 25 = .ok (.invokestatic 185, 3) := by decide +kernel
theorem dX6_refusalOfSpeed_28 : decode cX6_refusalOfSpeed 28 = .ok (.ifCond .ne 5, 3) := by decide +kernel
theorem dX6_refusalOfSpeed_31 : decode cX6_refusalOfSpeed 31 = .ok (.iconst 2, 1) := by decide +kernel
theorem dX6_refusalOfSpeed_32 : decode cX6_refusalOfSpeed 32 = .ok (.ireturn, 1) := by decide +kernel
theorem dX6_refusalOfSpeed_33 : decode cX6_refusalOfSpeed 33 = .ok (.aload_n 0, 1) := by decide +kernel
theorem dX6_refusalOfSpeed_34 : decode cX6_refusalOfSpeed 34 = .ok (.getfield 10, 3) := by decide +kernel
theorem dX6_refusalOfSpeed_37 : decode cX6_refusalOfSpeed 37 = .ok (.getfield 113, 3) := by decide +kernel
theorem dX6_refusalOfSpeed_40 : decode cX6_refusalOfSpeed 40 = .ok (.iload_n 1, 1) := by decide +kernel
theorem dX6_refusalOfSpeed_41 : decode cX6_refusalOfSpeed 41 = .ok (.baload, 1) := by decide +kernel
theorem dX6_refusalOfSpeed_42 : decode cX6_refusalOfSpeed 42 = .ok (.ifCond .eq 7, 3) := by decide +kernel
theorem dX6_refusalOfSpeed_45 : decode cX6_refusalOfSpeed 45 = .ok (.iconst 0, 1) := by decide +kernel
theorem dX6_refusalOfSpeed_46 : decode cX6_refusalOfSpeed 46 = .ok (.goto 4, 3) := by decide +kernel
theorem dX6_refusalOfSpeed_49 : decode cX6_refusalOfSpeed 49 = .ok (.iconst 3, 1) := by decide +kernel
theorem dX6_refusalOfSpeed_50 : decode cX6_refusalOfSpeed 50 = .ok (.ireturn, 1) := by decide +kernel
set_option maxRecDepth 20000 in
theorem ggX6_refusalOfTicks_X6_inside : GoodIn wsX6_refusalOfTicks wsX6_inside := goodIn_r _ [4] (by decide +kernel) (by decide +kernel)
set_option maxRecDepth 20000 in
theorem gX6_refusalOfTicks_X6_inside : GoodIn wsX6_refusalOfTicks (va_wsS RX6 185 yX6_inside wsX6_inside) := goodIn_app (goodIn_of _ (by decide +kernel)) ggX6_refusalOfTicks_X6_inside
theorem dX6_refusalOfTicks_0 : decode cX6_refusalOfTicks 0 = .ok (.iload_n 0, 1) := by decide +kernel
theorem dX6_refusalOfTicks_1 : decode cX6_refusalOfTicks 1 = .ok (.iconst 1, 1) := by decide +kernel
theorem dX6_refusalOfTicks_2 : decode cX6_refusalOfTicks 2 = .ok (.bipush 50, 2) := by decide +kernel
theorem dX6_refusalOfTicks_4 : decode cX6_refusalOfTicks 4 = .ok (.invokestatic 185, 3) := by decide +kernel
theorem dX6_refusalOfTicks_7 : decode cX6_refusalOfTicks 7 = .ok (.ifCond .eq 7, 3) := by decide +kernel
theorem dX6_refusalOfTicks_10 : decode cX6_refusalOfTicks 10 = .ok (.iconst 0, 1) := by decide +kernel
theorem dX6_refusalOfTicks_11 : decode cX6_refusalOfTicks 11 = .ok (.goto 4, 3) := by decide +kernel
theorem dX6_refusalOfTicks_14 : decode cX6_refusalOfTicks 14 = .ok (.iconst 2, 1) := by decide +kernel
theorem dX6_refusalOfTicks_15 : decode cX6_refusalOfTicks 15 = .ok (.ireturn, 1) := by decide +kernel
set_option maxRecDepth 20000 in
theorem ggX6_refusalOfScatter_X6_isId : GoodIn wsX6_refusalOfScatter wsX6_isId := goodIn_r _ [5, 6, 7, 4, 8] (by decide +kernel) (by decide +kernel)
set_option maxRecDepth 20000 in
theorem gX6_refusalOfScatter_X6_isId : GoodIn wsX6_refusalOfScatter (va_wsS RX6 306 yX6_isId wsX6_isId) := goodIn_app (goodIn_of _ (by decide +kernel)) ggX6_refusalOfScatter_X6_isId
set_option maxRecDepth 20000 in
theorem ggX6_refusalOfScatter_X6_inside : GoodIn wsX6_refusalOfScatter wsX6_inside := goodIn_r _ [8] (by decide +kernel) (by decide +kernel)
set_option maxRecDepth 20000 in
theorem gX6_refusalOfScatter_X6_inside : GoodIn wsX6_refusalOfScatter (va_wsS RX6 185 yX6_inside wsX6_inside) := goodIn_app (goodIn_of _ (by decide +kernel)) ggX6_refusalOfScatter_X6_inside
theorem dX6_refusalOfScatter_0 : decode cX6_refusalOfScatter 0 = .ok (.iload_n 0, 1) := by decide +kernel
theorem dX6_refusalOfScatter_1 : decode cX6_refusalOfScatter 1 = .ok (.invokestatic 306, 3) := by decide +kernel
theorem dX6_refusalOfScatter_4 : decode cX6_refusalOfScatter 4 = .ok (.ifCond .ne 5, 3) := by decide +kernel
theorem dX6_refusalOfScatter_7 : decode cX6_refusalOfScatter 7 = .ok (.iconst 1, 1) := by decide +kernel
theorem dX6_refusalOfScatter_8 : decode cX6_refusalOfScatter 8 = .ok (.ireturn, 1) := by decide +kernel
theorem dX6_refusalOfScatter_9 : decode cX6_refusalOfScatter 9 = .ok (.iload_n 1, 1) := by decide +kernel
theorem dX6_refusalOfScatter_10 : decode cX6_refusalOfScatter 10 = .ok (.iconst 1, 1) := by decide +kernel
theorem dX6_refusalOfScatter_11 : decode cX6_refusalOfScatter 11 = .ok (.bipush 24, 2) := by decide +kernel
theorem dX6_refusalOfScatter_13 : decode cX6_refusalOfScatter 13 = .ok (.iload_n 0, 1) := by decide +kernel
theorem dX6_refusalOfScatter_14 : decode cX6_refusalOfScatter 14 = .ok (.isub, 1) := by decide +kernel
theorem dX6_refusalOfScatter_15 : decode cX6_refusalOfScatter 15 = .ok (.invokestatic 185, 3) := by decide +kernel
theorem dX6_refusalOfScatter_18 : decode cX6_refusalOfScatter 18 = .ok (.ifCond .eq 28, 3) := by decide +kernel
theorem dX6_refusalOfScatter_21 : decode cX6_refusalOfScatter 21 = .ok (.iload_n 2, 1) := by decide +kernel
theorem dX6_refusalOfScatter_22 : decode cX6_refusalOfScatter 22 = .ok (.iconst 1, 1) := by decide +kernel
theorem dX6_refusalOfScatter_23 : decode cX6_refusalOfScatter 23 = .ok (.bipush 64, 2) := by decide +kernel
theorem dX6_refusalOfScatter_25 : decode cX6_refusalOfScatter 25 = .ok (.invokestatic 185, 3) := by decide +kernel
theorem dX6_refusalOfScatter_28 : decode cX6_refusalOfScatter 28 = .ok (.ifCond .eq 18, 3) := by decide +kernel
theorem dX6_refusalOfScatter_31 : decode cX6_refusalOfScatter 31 = .ok (.iload_n 3, 1) := by decide +kernel
theorem dX6_refusalOfScatter_32 : decode cX6_refusalOfScatter 32 = .ok (.iconst 0, 1) := by decide +kernel
theorem dX6_refusalOfScatter_33 : decode cX6_refusalOfScatter 33 = .ok (.ldc_w 310, 3) := by decide +kernel
theorem dX6_refusalOfScatter_36 : decode cX6_refusalOfScatter 36 = .ok (.invokestatic 185, 3) := by decide +kernel
theorem dX6_refusalOfScatter_39 : decode cX6_refusalOfScatter 39 = .ok (.ifCond .eq 7, 3) := by decide +kernel
theorem dX6_refusalOfScatter_42 : decode cX6_refusalOfScatter 42 = .ok (.iconst 1, 1) := by decide +kernel
theorem dX6_refusalOfScatter_43 : decode cX6_refusalOfScatter 43 = .ok (.goto 4, 3) := by decide +kernel
theorem dX6_refusalOfScatter_46 : decode cX6_refusalOfScatter 46 = .ok (.iconst 0, 1) := by decide +kernel
theorem dX6_refusalOfScatter_47 : decode cX6_refusalOfScatter 47 = .ok (.istore 4, 2) := by decide +kernel
theorem dX6_refusalOfScatter_49 : decode cX6_refusalOfScatter 49 = .ok (.iload 4, 2) := by decide +kernel
theorem dX6_refusalOfScatter_51 : decode cX6_refusalOfScatter 51 = .ok (.ifCond .eq 7, 3) := by decide +kernel
theorem dX6_refusalOfScatter_54 : decode cX6_refusalOfScatter 54 = .ok (.iconst 0, 1) := by decide +kernel
theorem dX6_refusalOfScatter_55 : decode cX6_refusalOfScatter 55 = .ok (.goto 4, 3) := by decide +kernel
theorem dX6_refusalOfScatter_58 : decode cX6_refusalOfScatter 58 = .ok (.iconst 2, 1) := by decide +kernel
theorem dX6_refusalOfScatter_59 : decode cX6_refusalOfScatter 59 = .ok (.ireturn, 1) := by decide +kernel
set_option maxRecDepth 20000 in
theorem ggX6_refusalOfValue_X6_inside : GoodIn wsX6_refusalOfValue wsX6_inside := goodIn_r _ [4] (by decide +kernel) (by decide +kernel)
set_option maxRecDepth 20000 in
theorem gX6_refusalOfValue_X6_inside : GoodIn wsX6_refusalOfValue (va_wsS RX6 185 yX6_inside wsX6_inside) := goodIn_app (goodIn_of _ (by decide +kernel)) ggX6_refusalOfValue_X6_inside
theorem dX6_refusalOfValue_0 : decode cX6_refusalOfValue 0 = .ok (.iload_n 0, 1) := by decide +kernel
theorem dX6_refusalOfValue_1 : decode cX6_refusalOfValue 1 = .ok (.iconst 0, 1) := by decide +kernel
theorem dX6_refusalOfValue_2 : decode cX6_refusalOfValue 2 = .ok (.iload_n 1, 1) := by decide +kernel
theorem dX6_refusalOfValue_3 : decode cX6_refusalOfValue 3 = .ok (.iconst 1, 1) := by decide +kernel
theorem dX6_refusalOfValue_4 : decode cX6_refusalOfValue 4 = .ok (.isub, 1) := by decide +kernel
theorem dX6_refusalOfValue_5 : decode cX6_refusalOfValue 5 = .ok (.invokestatic 185, 3) := by decide +kernel
theorem dX6_refusalOfValue_8 : decode cX6_refusalOfValue 8 = .ok (.ifCond .ne 5, 3) := by decide +kernel
theorem dX6_refusalOfValue_11 : decode cX6_refusalOfValue 11 = .ok (.iconst 1, 1) := by decide +kernel
theorem dX6_refusalOfValue_12 : decode cX6_refusalOfValue 12 = .ok (.ireturn, 1) := by decide +kernel
theorem dX6_refusalOfValue_13 : decode cX6_refusalOfValue 13 = .ok (.iload_n 2, 1) := by decide +kernel
theorem dX6_refusalOfValue_14 : decode cX6_refusalOfValue 14 = .ok (.iconst 0, 1) := by decide +kernel
theorem dX6_refusalOfValue_15 : decode cX6_refusalOfValue 15 = .ok (.iload_n 3, 1) := by decide +kernel
theorem dX6_refusalOfValue_16 : decode cX6_refusalOfValue 16 = .ok (.invokestatic 185, 3) := by decide +kernel
theorem dX6_refusalOfValue_19 : decode cX6_refusalOfValue 19 = .ok (.ifCond .eq 7, 3) := by decide +kernel
theorem dX6_refusalOfValue_22 : decode cX6_refusalOfValue 22 = .ok (.iconst 0, 1) := by decide +kernel
theorem dX6_refusalOfValue_23 : decode cX6_refusalOfValue 23 = .ok (.goto 4, 3) := by decide +kernel
theorem dX6_refusalOfValue_26 : decode cX6_refusalOfValue 26 = .ok (.iconst 2, 1) := by decide +kernel
theorem dX6_refusalOfValue_27 : decode cX6_refusalOfValue 27 = .ok (.ireturn, 1) := by decide +kernel
set_option maxRecDepth 20000 in
theorem ggX6_refusalOfNode_X6_inside : GoodIn wsX6_refusalOfNode wsX6_inside := goodIn_r _ [7] (by decide +kernel) (by decide +kernel)
set_option maxRecDepth 20000 in
theorem gX6_refusalOfNode_X6_inside : GoodIn wsX6_refusalOfNode (va_wsS RX6 185 yX6_inside wsX6_inside) := goodIn_app (goodIn_of _ (by decide +kernel)) ggX6_refusalOfNode_X6_inside
set_option maxRecDepth 20000 in
theorem ggX6_refusalOfNode_X6_refusalOfValue : GoodIn wsX6_refusalOfNode wsX6_refusalOfValue := goodIn_r _ [10, 4, 5, 6, 7] (by decide +kernel) (by decide +kernel)
set_option maxRecDepth 20000 in
theorem gX6_refusalOfNode_X6_refusalOfValue : GoodIn wsX6_refusalOfNode (va_wsS RX6 110 yX6_refusalOfValue wsX6_refusalOfValue) := goodIn_app (goodIn_of _ (by decide +kernel)) ggX6_refusalOfNode_X6_refusalOfValue
theorem dX6_refusalOfNode_0 : decode cX6_refusalOfNode 0 = .ok (.iload_n 1, 1) := by decide +kernel
theorem dX6_refusalOfNode_1 : decode cX6_refusalOfNode 1 = .ok (.iconst 0, 1) := by decide +kernel
theorem dX6_refusalOfNode_2 : decode cX6_refusalOfNode 2 = .ok (.iconst 4, 1) := by decide +kernel
theorem dX6_refusalOfNode_3 : decode cX6_refusalOfNode 3 = .ok (.invokestatic 185, 3) := by decide +kernel
theorem dX6_refusalOfNode_6 : decode cX6_refusalOfNode 6 = .ok (.ifCond .ne 5, 3) := by decide +kernel
theorem dX6_refusalOfNode_9 : decode cX6_refusalOfNode 9 = .ok (.iconst 1, 1) := by decide +kernel
theorem dX6_refusalOfNode_10 : decode cX6_refusalOfNode 10 = .ok (.ireturn, 1) := by decide +kernel
theorem dX6_refusalOfNode_11 : decode cX6_refusalOfNode 11 = .ok (.iload_n 2, 1) := by decide +kernel
theorem dX6_refusalOfNode_12 : decode cX6_refusalOfNode 12 = .ok (.aload_n 0, 1) := by decide +kernel
theorem dX6_refusalOfNode_13 : decode cX6_refusalOfNode 13 = .ok (.getfield 33, 3) := by decide +kernel
theorem dX6_refusalOfNode_16 : decode cX6_refusalOfNode 16 = .ok (.getfield 126, 3) := by decide +kernel
theorem dX6_refusalOfNode_19 : decode cX6_refusalOfNode 19 = .ok (.iload_n 1, 1) := by decide +kernel
theorem dX6_refusalOfNode_20 : decode cX6_refusalOfNode 20 = .ok (.aaload, 1) := by decide +kernel
theorem dX6_refusalOfNode_21 : decode cX6_refusalOfNode 21 = .ok (.getfield 136, 3) := by decide +kernel
theorem dX6_refusalOfNode_24 : decode cX6_refusalOfNode 24 = .ok (.iload_n 3, 1) := by decide +kernel
theorem dX6_refusalOfNode_25 : decode cX6_refusalOfNode 25 = .ok (.iload 4, 2) := by decide +kernel
theorem dX6_refusalOfNode_27 : decode cX6_refusalOfNode 27 = .ok (.invokestatic 110, 3) := by decide +kernel
theorem dX6_refusalOfNode_30 : decode cX6_refusalOfNode 30 = .ok (.ireturn, 1) := by decide +kernel
set_option maxRecDepth 20000 in
theorem ggX6_refusalOfOpen_X6_inside : GoodIn wsX6_refusalOfOpen wsX6_inside := goodIn_r _ [4] (by decide +kernel) (by decide +kernel)
set_option maxRecDepth 20000 in
theorem gX6_refusalOfOpen_X6_inside : GoodIn wsX6_refusalOfOpen (va_wsS RX6 185 yX6_inside wsX6_inside) := goodIn_app (goodIn_of _ (by decide +kernel)) ggX6_refusalOfOpen_X6_inside
set_option maxRecDepth 20000 in
theorem ggX6_refusalOfOpen_X6_isPosition : GoodIn wsX6_refusalOfOpen wsX6_isPosition := goodIn_r _ [7, 1, 2, 3, 4] (by decide +kernel) (by decide +kernel)
set_option maxRecDepth 20000 in
theorem gX6_refusalOfOpen_X6_isPosition : GoodIn wsX6_refusalOfOpen (va_wsS RX6 181 yX6_isPosition wsX6_isPosition) := goodIn_app (goodIn_of _ (by decide +kernel)) ggX6_refusalOfOpen_X6_isPosition
theorem dX6_refusalOfOpen_0 : decode cX6_refusalOfOpen 0 = .ok (.iload_n 0, 1) := by decide +kernel
theorem dX6_refusalOfOpen_1 : decode cX6_refusalOfOpen 1 = .ok (.iconst 0, 1) := by decide +kernel
theorem dX6_refusalOfOpen_2 : decode cX6_refusalOfOpen 2 = .ok (.iconst 3, 1) := by decide +kernel
theorem dX6_refusalOfOpen_3 : decode cX6_refusalOfOpen 3 = .ok (.invokestatic 185, 3) := by decide +kernel
theorem dX6_refusalOfOpen_6 : decode cX6_refusalOfOpen 6 = .ok (.ifCond .ne 5, 3) := by decide +kernel
theorem dX6_refusalOfOpen_9 : decode cX6_refusalOfOpen 9 = .ok (.iconst 1, 1) := by decide +kernel
theorem dX6_refusalOfOpen_10 : decode cX6_refusalOfOpen 10 = .ok (.ireturn, 1) := by decide +kernel
theorem dX6_refusalOfOpen_11 : decode cX6_refusalOfOpen 11 = .ok (.iload_n 1, 1) := by decide +kernel
theorem dX6_refusalOfOpen_12 : decode cX6_refusalOfOpen 12 = .ok (.iload_n 2, 1) := by decide +kernel
theorem dX6_refusalOfOpen_13 : decode cX6_refusalOfOpen 13 = .ok (.invokestatic 181, 3) := by decide +kernel
theorem dX6_refusalOfOpen_16 : decode cX6_refusalOfOpen 16 = .ok (.ifCond .eq 7, 3) := by decide +kernel
theorem dX6_refusalOfOpen_19 : decode cX6_refusalOfOpen 19 = .ok (.iconst 0, 1) := by decide +kernel
theorem dX6_refusalOfOpen_20 : decode cX6_refusalOfOpen 20 = .ok (.goto 4, 3) := by decide +kernel
theorem dX6_refusalOfOpen_23 : decode cX6_refusalOfOpen 23 = .ok (.iconst 2, 1) := by decide +kernel
theorem dX6_refusalOfOpen_24 : decode cX6_refusalOfOpen 24 = .ok (.ireturn, 1) := by decide +kernel
set_option maxRecDepth 20000 in
theorem ggX6_refusalOfByte_X6_inside : GoodIn wsX6_refusalOfByte wsX6_inside := goodIn_r _ [6] (by decide +kernel) (by decide +kernel)
set_option maxRecDepth 20000 in
theorem gX6_refusalOfByte_X6_inside : GoodIn wsX6_refusalOfByte (va_wsS RX6 185 yX6_inside wsX6_inside) := goodIn_app (goodIn_of _ (by decide +kernel)) ggX6_refusalOfByte_X6_inside
theorem dX6_refusalOfByte_0 : decode cX6_refusalOfByte 0 = .ok (.iload_n 1, 1) := by decide +kernel
theorem dX6_refusalOfByte_1 : decode cX6_refusalOfByte 1 = .ok (.iconst 0, 1) := by decide +kernel
theorem dX6_refusalOfByte_2 : decode cX6_refusalOfByte 2 = .ok (.bipush 127, 2) := by decide +kernel
theorem dX6_refusalOfByte_4 : decode cX6_refusalOfByte 4 = .ok (.invokestatic 185, 3) := by decide +kernel
theorem dX6_refusalOfByte_7 : decode cX6_refusalOfByte 7 = .ok (.ifCond .ne 5, 3) := by decide +kernel
theorem dX6_refusalOfByte_10 : decode cX6_refusalOfByte 10 = .ok (.iconst 2, 1) := by decide +kernel
theorem dX6_refusalOfByte_11 : decode cX6_refusalOfByte 11 = .ok (.ireturn, 1) := by decide +kernel
theorem dX6_refusalOfByte_12 : decode cX6_refusalOfByte 12 = .ok (.aload_n 0, 1) := by decide +kernel
theorem dX6_refusalOfByte_13 : decode cX6_refusalOfByte 13 = .ok (.getfield 26, 3) := by decide +kernel
theorem dX6_refusalOfByte_16 : decode cX6_refusalOfByte 16 = .ok (.getfield 233, 3) := by decide +kernel
theorem dX6_refusalOfByte_19 : decode cX6_refusalOfByte 19 = .ok (.bipush 120, 2) := by decide +kernel
theorem dX6_refusalOfByte_21 : decode cX6_refusalOfByte 21 = .ok (.if_icmp .ge 7, 3) := by decide +kernel
theorem dX6_refusalOfByte_24 : decode cX6_refusalOfByte 24 = .ok (.iconst 0, 1) := by decide +kernel
theorem dX6_refusalOfByte_25 : decode cX6_refusalOfByte 25 = .ok (.goto 4, 3) := by decide +kernel
theorem dX6_refusalOfByte_28 : decode cX6_refusalOfByte 28 = .ok (.iconst 3, 1) := by decide +kernel
theorem dX6_refusalOfByte_29 : decode cX6_refusalOfByte 29 = .ok (.ireturn, 1) := by decide +kernel
theorem dX6_throwIf_0 : decode cX6_throwIf 0 = .ok (.iload_n 0, 1) := by decide +kernel
theorem dX6_throwIf_1 : decode cX6_throwIf 1 = .ok (.iconst 1, 1) := by decide +kernel
theorem dX6_throwIf_2 : decode cX6_throwIf 2 = .ok (.if_icmp .ne 14, 3) := by decide +kernel
theorem dX6_throwIf_5 : decode cX6_throwIf 5 = .ok (.new 311, 3) := by decide +kernel
theorem dX6_throwIf_8 : decode cX6_throwIf 8 = .ok (.dup, 1) := by decide +kernel
theorem dX6_throwIf_9 : decode cX6_throwIf 9 = .ok (.ldc_w 313, 3) := by decide +kernel
theorem dX6_throwIf_12 : decode cX6_throwIf 12 = .ok (.invokespecial 315, 3) := by decide +kernel
theorem dX6_throwIf_15 : decode cX6_throwIf 15 = .ok (.athrow, 1) := by decide +kernel
theorem dX6_throwIf_16 : decode cX6_throwIf 16 = .ok (.iload_n 0, 1) := by decide +kernel
theorem dX6_throwIf_17 : decode cX6_throwIf 17 = .ok (.iconst 2, 1) := by decide +kernel
theorem dX6_throwIf_18 : decode cX6_throwIf 18 = .ok (.if_icmp .ne 14, 3) := by decide +kernel
theorem dX6_throwIf_21 : decode cX6_throwIf 21 = .ok (.new 318, 3) := by decide +kernel
theorem dX6_throwIf_24 : decode cX6_throwIf 24 = .ok (.dup, 1) := by decide +kernel
theorem dX6_throwIf_25 : decode cX6_throwIf 25 = .ok (.ldc_w 320, 3) := by decide +kernel
theorem dX6_throwIf_28 : decode cX6_throwIf 28 = .ok (.invokespecial 322, 3) := by decide +kernel
theorem dX6_throwIf_31 : decode cX6_throwIf 31 = .ok (.athrow, 1) := by decide +kernel
theorem dX6_throwIf_32 : decode cX6_throwIf 32 = .ok (.iload_n 0, 1) := by decide +kernel
theorem dX6_throwIf_33 : decode cX6_throwIf 33 = .ok (.iconst 3, 1) := by decide +kernel
theorem dX6_throwIf_34 : decode cX6_throwIf 34 = .ok (.if_icmp .ne 14, 3) := by decide +kernel
theorem dX6_throwIf_37 : decode cX6_throwIf 37 = .ok (.new 323, 3) := by decide +kernel
theorem dX6_throwIf_40 : decode cX6_throwIf 40 = .ok (.dup, 1) := by decide +kernel
theorem dX6_throwIf_41 : decode cX6_throwIf 41 = .ok (.ldc_w 325, 3) := by decide +kernel
theorem dX6_throwIf_44 : decode cX6_throwIf 44 = .ok (.invokespecial 327, 3) := by decide +kernel
theorem dX6_throwIf_47 : decode cX6_throwIf 47 = .ok (.athrow, 1) := by decide +kernel
theorem dX6_throwIf_48 : decode cX6_throwIf 48 = .ok (.return_, 1) := by decide +kernel
theorem dX6_inside_0 : decode cX6_inside 0 = .ok (.iload_n 0, 1) := by decide +kernel
theorem dX6_inside_1 : decode cX6_inside 1 = .ok (.iload_n 1, 1) := by decide +kernel
theorem dX6_inside_2 : decode cX6_inside 2 = .ok (.if_icmp .lt 12, 3) := by decide +kernel
theorem dX6_inside_5 : decode cX6_inside 5 = .ok (.iload_n 0, 1) := by decide +kernel
theorem dX6_inside_6 : decode cX6_inside 6 = .ok (.iload_n 2, 1) := by decide +kernel
theorem dX6_inside_7 : decode cX6_inside 7 = .ok (.if_icmp .gt 7, 3) := by decide +kernel
theorem dX6_inside_10 : decode cX6_inside 10 = .ok (.iconst 1, 1) := by decide +kernel
theorem dX6_inside_11 : decode cX6_inside 11 = .ok (.goto 4, 3) := by decide +kernel
theorem dX6_inside_14 : decode cX6_inside 14 = .ok (.iconst 0, 1) := by decide +kernel
theorem dX6_inside_15 : decode cX6_inside 15 = .ok (.ireturn, 1) := by decide +kernel
set_option maxRecDepth 20000 in
theorem ggX6_isId_X6_inside : GoodIn wsX6_isId wsX6_inside := goodIn_r _ [4] (by decide +kernel) (by decide +kernel)
set_option maxRecDepth 20000 in
theorem gX6_isId_X6_inside : GoodIn wsX6_isId (va_wsS RX6 185 yX6_inside wsX6_inside) := goodIn_app (goodIn_of _ (by decide +kernel)) ggX6_isId_X6_inside
theorem dX6_isId_0 : decode cX6_isId 0 = .ok (.iload_n 0, 1) := by decide +kernel
theorem dX6_isId_1 : decode cX6_isId 1 = .ok (.iconst 0, 1) := by decide +kernel
theorem dX6_isId_2 : decode cX6_isId 2 = .ok (.bipush 23, 2) := by decide +kernel
theorem dX6_isId_4 : decode cX6_isId 4 = .ok (.invokestatic 185, 3) := by decide +kernel
theorem dX6_isId_7 : decode cX6_isId 7 = .ok (.ireturn, 1) := by decide +kernel
set_option maxRecDepth 20000 in
theorem ggX6_isPosition_X6_inside : GoodIn wsX6_isPosition wsX6_inside := goodIn_r _ [4] (by decide +kernel) (by decide +kernel)
set_option maxRecDepth 20000 in
theorem gX6_isPosition_X6_inside : GoodIn wsX6_isPosition (va_wsS RX6 185 yX6_inside wsX6_inside) := goodIn_app (goodIn_of _ (by decide +kernel)) ggX6_isPosition_X6_inside
theorem dX6_isPosition_0 : decode cX6_isPosition 0 = .ok (.iload_n 0, 1) := by decide +kernel
theorem dX6_isPosition_1 : decode cX6_isPosition 1 = .ok (.iconst 0, 1) := by decide +kernel
theorem dX6_isPosition_2 : decode cX6_isPosition 2 = .ok (.bipush 63, 2) := by decide +kernel
theorem dX6_isPosition_4 : decode cX6_isPosition 4 = .ok (.invokestatic 185, 3) := by decide +kernel
theorem dX6_isPosition_7 : decode cX6_isPosition 7 = .ok (.ifCond .eq 17, 3) := by decide +kernel
theorem dX6_isPosition_10 : decode cX6_isPosition 10 = .ok (.iload_n 1, 1) := by decide +kernel
theorem dX6_isPosition_11 : decode cX6_isPosition 11 = .ok (.iconst 0, 1) := by decide +kernel
theorem dX6_isPosition_12 : decode cX6_isPosition 12 = .ok (.bipush 63, 2) := by decide +kernel
theorem dX6_isPosition_14 : decode cX6_isPosition 14 = .ok (.invokestatic 185, 3) := by decide +kernel
theorem dX6_isPosition_17 : decode cX6_isPosition 17 = .ok (.ifCond .eq 7, 3) := by decide +kernel
theorem dX6_isPosition_20 : decode cX6_isPosition 20 = .ok (.iconst 1, 1) := by decide +kernel
theorem dX6_isPosition_21 : decode cX6_isPosition 21 = .ok (.goto 4, 3) := by decide +kernel
theorem dX6_isPosition_24 : decode cX6_isPosition 24 = .ok (.iconst 0, 1) := by decide +kernel
theorem dX6_isPosition_25 : decode cX6_isPosition 25 = .ok (.ireturn, 1) := by decide +kernel
set_option maxRecDepth 20000 in
theorem ggX6_place_X4_put : GoodIn wsX6_place wsX4_put := goodIn_r _ [6, 7, 8, 9, 90, 91, 92, 93, 94, 95, 96, 97, 98] (by decide +kernel) (by decide +kernel)
set_option maxRecDepth 20000 in
theorem gX6_place_X4_put : GoodIn wsX6_place (wsV RX6 100 RX4 yX4_put wsX4_put) := goodIn_app (goodIn_of _ (by decide +kernel)) ggX6_place_X4_put
set_option maxRecDepth 20000 in
theorem ggX6_place_X6_settle : GoodIn wsX6_place wsX6_settle := goodIn_r _ [14, 15, 1, 16, 17, 18, 19, 20, 21, 22, 23, 24, 25, 26, 27, 28, 29, 30, 31, 32, 33, 34, 35, 36, 37, 38, 39, 40, 41, 42, 43, 44, 45, 46, 47, 48, 49, 50, 13, 51, 52, 53, 54, 55, 56, 57, 58, 59, 60, 61, 62, 63, 64, 65, 66, 67, 68, 69, 70, 71, 72, 73, 74, 75, 76, 77, 78, 79, 80, 81, 82, 83, 84, 85, 86, 87, 88, 89, 99, 100, 90, 91, 92, 93, 94, 95, 96, 97, 98, 101, 102, 103, 104] (by decide +kernel) (by decide +kernel)
set_option maxRecDepth 20000 in
theorem gX6_place_X6_settle : GoodIn wsX6_place (wsV RX6 103 RX6 yX6_settle wsX6_settle) := goodIn_app (goodIn_of _ (by decide +kernel)) ggX6_place_X6_settle
theorem dX6_place_0 : decode cX6_place 0 = .ok (.aload_n 0, 1) := by decide +kernel
theorem dX6_place_1 : decode cX6_place 1 = .ok (.getfield 10, 3) := by decide +kernel
theorem dX6_place_4 : decode cX6_place 4 = .ok (.iload_n 1, 1) := by decide +kernel
theorem dX6_place_5 : decode cX6_place 5 = .ok (.iload_n 2, 1) := by decide +kernel
theorem dX6_place_6 : decode cX6_place 6 = .ok (.iload_n 3, 1) := by decide +kernel
theorem dX6_place_7 : decode cX6_place 7 = .ok (.invokevirtual 100, 3) := by decide +kernel
theorem dX6_place_10 : decode cX6_place 10 = .ok (.aload_n 0, 1) := by decide +kernel
theorem dX6_place_11 : decode cX6_place 11 = .ok (.invokevirtual 103, 3) := by decide +kernel
theorem dX6_place_14 : decode cX6_place 14 = .ok (.ireturn, 1) := by decide +kernel
set_option maxRecDepth 20000 in
theorem ggX6_takeOut_X4_clear : GoodIn wsX6_takeOut wsX4_clear := goodIn_r _ [6, 7, 8, 9, 10, 11, 92, 93, 94, 95, 96, 97, 98, 99, 100] (by decide +kernel) (by decide +kernel)
set_option maxRecDepth 20000 in
theorem gX6_takeOut_X4_clear : GoodIn wsX6_takeOut (wsV RX6 328 RX4 yX4_clear wsX4_clear) := goodIn_app (goodIn_of _ (by decide +kernel)) ggX6_takeOut_X4_clear
set_option maxRecDepth 20000 in
theorem ggX6_takeOut_X6_settle : GoodIn wsX6_takeOut wsX6_settle := goodIn_r _ [16, 17, 1, 18, 19, 20, 21, 22, 23, 24, 25, 26, 27, 28, 29, 30, 31, 32, 33, 34, 35, 36, 37, 38, 39, 40, 41, 42, 43, 44, 45, 46, 47, 48, 49, 50, 51, 52, 15, 53, 54, 55, 56, 57, 58, 59, 60, 61, 62, 63, 64, 65, 66, 67, 68, 69, 70, 71, 72, 73, 74, 75, 76, 77, 78, 79, 80, 81, 82, 83, 84, 85, 86, 87, 88, 89, 90, 91, 101, 102, 92, 93, 94, 95, 96, 97, 98, 99, 100, 103, 104, 105, 106] (by decide +kernel) (by decide +kernel)
set_option maxRecDepth 20000 in
theorem gX6_takeOut_X6_settle : GoodIn wsX6_takeOut (wsV RX6 103 RX6 yX6_settle wsX6_settle) := goodIn_app (goodIn_of _ (by decide +kernel)) ggX6_takeOut_X6_settle
theorem dX6_takeOut_0 : decode cX6_takeOut 0 = .ok (.aload_n 0, 1) := by decide +kernel
theorem dX6_takeOut_1 : decode cX6_takeOut 1 = .ok (.getfield 10, 3) := by decide +kernel
theorem dX6_takeOut_4 : decode cX6_takeOut 4 = .ok (.iload_n 1, 1) := by decide +kernel
theorem dX6_takeOut_5 : decode cX6_takeOut 5 = .ok (.invokevirtual 328, 3) := by decide +kernel
theorem dX6_takeOut_8 : decode cX6_takeOut 8 = .ok (.aload_n 0, 1) := by decide +kernel
theorem dX6_takeOut_9 : decode cX6_takeOut 9 = .ok (.invokevirtual 103, 3) := by decide +kernel
theorem dX6_takeOut_12 : decode cX6_takeOut 12 = .ok (.ireturn, 1) := by decide +kernel
theorem dX6_setSpeed_0 : decode cX6_setSpeed 0 = .ok (.aload_n 0, 1) := by decide +kernel
theorem dX6_setSpeed_1 : decode cX6_setSpeed 1 = .ok (.getfield 10, 3) := by decide +kernel
theorem dX6_setSpeed_4 : decode cX6_setSpeed 4 = .ok (.getfield 66, 3) := by decide +kernel
theorem dX6_setSpeed_7 : decode cX6_setSpeed 7 = .ok (.iload_n 1, 1) := by decide +kernel
theorem dX6_setSpeed_8 : decode cX6_setSpeed 8 = .ok (.iload_n 2, 1) := by decide +kernel
theorem dX6_setSpeed_9 : decode cX6_setSpeed 9 = .ok (.iastore, 1) := by decide +kernel
theorem dX6_setSpeed_10 : decode cX6_setSpeed 10 = .ok (.aload_n 0, 1) := by decide +kernel
theorem dX6_setSpeed_11 : decode cX6_setSpeed 11 = .ok (.getfield 10, 3) := by decide +kernel
theorem dX6_setSpeed_14 : decode cX6_setSpeed 14 = .ok (.getfield 75, 3) := by decide +kernel
theorem dX6_setSpeed_17 : decode cX6_setSpeed 17 = .ok (.iload_n 1, 1) := by decide +kernel
theorem dX6_setSpeed_18 : decode cX6_setSpeed 18 = .ok (.iload_n 3, 1) := by decide +kernel
theorem dX6_setSpeed_19 : decode cX6_setSpeed 19 = .ok (.iastore, 1) := by decide +kernel
theorem dX6_setSpeed_20 : decode cX6_setSpeed 20 = .ok (.return_, 1) := by decide +kernel
set_option maxRecDepth 20000 in
theorem ggX6_letPass_X4_step : GoodIn wsX6_letPass wsX4_step := goodIn_r _ [6, 7, 8, 9, 10, 11, 12, 13, 5, 14, 95, 96, 97, 98, 99, 100, 101, 102, 103] (by decide +kernel) (by decide +kernel)
set_option maxRecDepth 20000 in
theorem gX6_letPass_X4_step : GoodIn wsX6_letPass (wsV RX6 331 RX4 yX4_step wsX4_step) := goodIn_app (goodIn_of _ (by decide +kernel)) ggX6_letPass_X4_step
set_option maxRecDepth 20000 in
theorem ggX6_letPass_X6_settle : GoodIn wsX6_letPass wsX6_settle := goodIn_r _ [19, 20, 1, 21, 22, 23, 24, 25, 26, 27, 28, 29, 30, 31, 32, 33, 34, 35, 36, 37, 38, 39, 40, 41, 42, 43, 44, 45, 46, 47, 48, 49, 50, 51, 52, 53, 54, 55, 18, 56, 57, 58, 59, 60, 61, 62, 63, 64, 65, 66, 67, 68, 69, 70, 71, 72, 73, 74, 75, 76, 77, 78, 79, 80, 81, 82, 83, 84, 85, 86, 87, 88, 89, 90, 91, 92, 93, 94, 104, 105, 95, 96, 97, 98, 99, 100, 101, 102, 103, 106, 107, 108, 109] (by decide +kernel) (by decide +kernel)
set_option maxRecDepth 20000 in
theorem gX6_letPass_X6_settle : GoodIn wsX6_letPass (wsV RX6 103 RX6 yX6_settle wsX6_settle) := goodIn_app (goodIn_of _ (by decide +kernel)) ggX6_letPass_X6_settle
theorem dX6_letPass_0 : decode cX6_letPass 0 = .ok (.iconst 0, 1) := by decide +kernel
theorem dX6_letPass_1 : decode cX6_letPass 1 = .ok (.istore_n 2, 1) := by decide +kernel
theorem dX6_letPass_2 : decode cX6_letPass 2 = .ok (.iconst 0, 1) := by decide +kernel
theorem dX6_letPass_3 : decode cX6_letPass 3 = .ok (.istore_n 3, 1) := by decide +kernel
theorem dX6_letPass_4 : decode cX6_letPass 4 = .ok (.iload_n 3, 1) := by decide +kernel
theorem dX6_letPass_5 : decode cX6_letPass 5 = .ok (.iload_n 1, 1) := by decide +kernel
theorem dX6_letPass_6 : decode cX6_letPass 6 = .ok (.if_icmp .ge 23, 3) := by decide +kernel
theorem dX6_letPass_9 : decode cX6_letPass 9 = .ok (.aload_n 0, 1) := by decide +kernel
theorem dX6_letPass_10 : decode cX6_letPass 10 = .ok (.getfield 10, 3) := by decide +kernel
theorem dX6_letPass_13 : decode cX6_letPass 13 = .ok (.invokevirtual 331, 3) := by decide +kernel
theorem dX6_letPass_16 : decode cX6_letPass 16 = .ok (.iload_n 2, 1) := by decide +kernel
theorem dX6_letPass_17 : decode cX6_letPass 17 = .ok (.aload_n 0, 1) := by decide +kernel
theorem dX6_letPass_18 : decode cX6_letPass 18 = .ok (.invokevirtual 103, 3) := by decide +kernel
theorem dX6_letPass_21 : decode cX6_letPass 21 = .ok (.iadd, 1) := by decide +kernel
theorem dX6_letPass_22 : decode cX6_letPass 22 = .ok (.istore_n 2, 1) := by decide +kernel
theorem dX6_letPass_23 : decode cX6_letPass 23 = .ok (.iinc 3 1, 3) := by decide +kernel
theorem dX6_letPass_26 : decode cX6_letPass 26 = .ok (.goto (-22), 3) := by decide +kernel
theorem dX6_letPass_29 : decode cX6_letPass 29 = .ok (.iload_n 2, 1) := by decide +kernel
theorem dX6_letPass_30 : decode cX6_letPass 30 = .ok (.ireturn, 1) := by decide +kernel
set_option maxRecDepth 20000 in
theorem ggX6_settle_X0_plant : GoodIn wsX6_settle wsX0_plant := goodIn_r _ [8, 9, 10, 11, 12, 13, 7, 14, 15, 16, 17, 18, 19, 20, 21, 22, 23, 24, 25, 26, 27, 28, 29, 30, 31, 32, 33, 34, 35, 36, 37, 38, 39, 40, 41, 42, 43, 44, 45, 46, 47, 48, 49, 50, 51, 52, 53, 54, 55, 56, 57, 58, 59, 60, 61, 62, 63, 64, 78, 79, 80, 81, 82, 83, 84, 85, 86, 87, 88, 89, 90, 91, 92] (by decide +kernel) (by decide +kernel)
set_option maxRecDepth 20000 in
theorem gX6_settle_X0_plant : GoodIn wsX6_settle (wsV RX6 196 RX0 yX0_plant wsX0_plant) := goodIn_app (goodIn_of _ (by decide +kernel)) ggX6_settle_X0_plant
set_option maxRecDepth 20000 in
theorem ggX6_settle_X0_differences : GoodIn wsX6_settle wsX0_differences := goodIn_r _ [68, 9, 69, 70, 71, 33, 72, 36, 64, 78, 79, 89, 90, 91, 92] (by decide +kernel) (by decide +kernel)
set_option maxRecDepth 20000 in
theorem gX6_settle_X0_differences : GoodIn wsX6_settle (wsV RX6 199 RX0 yX0_differences wsX0_differences) := goodIn_app (goodIn_of _ (by decide +kernel)) ggX6_settle_X0_differences
theorem dX6_settle_0 : decode cX6_settle 0 = .ok (.aload_n 0, 1) := by decide +kernel
theorem dX6_settle_1 : decode cX6_settle 1 = .ok (.getfield 37, 3) := by decide +kernel
theorem dX6_settle_4 : decode cX6_settle 4 = .ok (.aload_n 0, 1) := by decide +kernel
theorem dX6_settle_5 : decode cX6_settle 5 = .ok (.getfield 10, 3) := by decide +kernel
theorem dX6_settle_8 : decode cX6_settle 8 = .ok (.invokevirtual 196, 3) := by decide +kernel
theorem dX6_settle_11 : decode cX6_settle 11 = .ok (.aload_n 0, 1) := by decide +kernel
theorem dX6_settle_12 : decode cX6_settle 12 = .ok (.getfield 33, 3) := by decide +kernel
theorem dX6_settle_15 : decode cX6_settle 15 = .ok (.aload_n 0, 1) := by decide +kernel
theorem dX6_settle_16 : decode cX6_settle 16 = .ok (.getfield 37, 3) := by decide +kernel
theorem dX6_settle_19 : decode cX6_settle 19 = .ok (.invokevirtual 199, 3) := by decide +kernel
theorem dX6_settle_22 : decode cX6_settle 22 = .ok (.istore_n 1, 1) := by decide +kernel
theorem dX6_settle_23 : decode cX6_settle 23 = .ok (.aload_n 0, 1) := by decide +kernel
theorem dX6_settle_24 : decode cX6_settle 24 = .ok (.getfield 33, 3) := by decide +kernel
theorem dX6_settle_27 : decode cX6_settle 27 = .ok (.astore_n 2, 1) := by decide +kernel
theorem dX6_settle_28 : decode cX6_settle 28 = .ok (.aload_n 0, 1) := by decide +kernel
theorem dX6_settle_29 : decode cX6_settle 29 = .ok (.aload_n 0, 1) := by decide +kernel
theorem dX6_settle_30 : decode cX6_settle 30 = .ok (.getfield 37, 3) := by decide +kernel
theorem dX6_settle_33 : decode cX6_settle 33 = .ok (.putfield 33, 3) := by decide +kernel
theorem dX6_settle_36 : decode cX6_settle 36 = .ok (.aload_n 0, 1) := by decide +kernel
theorem dX6_settle_37 : decode cX6_settle 37 = .ok (.aload_n 2, 1) := by decide +kernel
theorem dX6_settle_38 : decode cX6_settle 38 = .ok (.putfield 37, 3) := by decide +kernel
theorem dX6_settle_41 : decode cX6_settle 41 = .ok (.iload_n 1, 1) := by decide +kernel
theorem dX6_settle_42 : decode cX6_settle 42 = .ok (.ireturn, 1) := by decide +kernel
theorem dX6_nextRandom_0 : decode cX6_nextRandom 0 = .ok (.ldc2_w 334, 3) := by decide +kernel
theorem dX6_nextRandom_3 : decode cX6_nextRandom 3 = .ok (.lload_n 0, 1) := by decide +kernel
theorem dX6_nextRandom_4 : decode cX6_nextRandom 4 = .ok (.lmul, 1) := by decide +kernel
theorem dX6_nextRandom_5 : decode cX6_nextRandom 5 = .ok (.ldc2_w 336, 3) := by decide +kernel
theorem dX6_nextRandom_8 : decode cX6_nextRandom 8 = .ok (.ladd, 1) := by decide +kernel
theorem dX6_nextRandom_9 : decode cX6_nextRandom 9 = .ok (.ldc2_w 338, 3) := by decide +kernel
theorem dX6_nextRandom_12 : decode cX6_nextRandom 12 = .ok (.lrem, 1) := by decide +kernel
theorem dX6_nextRandom_13 : decode cX6_nextRandom 13 = .ok (.lreturn, 1) := by decide +kernel
theorem dX6_placeIn_0 : decode cX6_placeIn 0 = .ok (.iload_n 2, 1) := by decide +kernel
theorem dX6_placeIn_1 : decode cX6_placeIn 1 = .ok (.ifCond .le 15, 3) := by decide +kernel
theorem dX6_placeIn_4 : decode cX6_placeIn 4 = .ok (.lload_n 0, 1) := by decide +kernel
theorem dX6_placeIn_5 : decode cX6_placeIn 5 = .ok (.ldc2_w 340, 3) := by decide +kernel
theorem dX6_placeIn_8 : decode cX6_placeIn 8 = .ok (.ldiv, 1) := by decide +kernel
theorem dX6_placeIn_9 : decode cX6_placeIn 9 = .ok (.iload_n 2, 1) := by decide +kernel
theorem dX6_placeIn_10 : decode cX6_placeIn 10 = .ok (.i2l, 1) := by decide +kernel
theorem dX6_placeIn_11 : decode cX6_placeIn 11 = .ok (.lrem, 1) := by decide +kernel
theorem dX6_placeIn_12 : decode cX6_placeIn 12 = .ok (.l2i, 1) := by decide +kernel
theorem dX6_placeIn_13 : decode cX6_placeIn 13 = .ok (.goto 4, 3) := by decide +kernel
theorem dX6_placeIn_16 : decode cX6_placeIn 16 = .ok (.iconst 0, 1) := by decide +kernel
theorem dX6_placeIn_17 : decode cX6_placeIn 17 = .ok (.ireturn, 1) := by decide +kernel
theorem dX6_heightOf_0 : decode cX6_heightOf 0 = .ok (.iconst 0, 1) := by decide +kernel
theorem dX6_heightOf_1 : decode cX6_heightOf 1 = .ok (.istore_n 1, 1) := by decide +kernel
theorem dX6_heightOf_2 : decode cX6_heightOf 2 = .ok (.iload_n 0, 1) := by decide +kernel
theorem dX6_heightOf_3 : decode cX6_heightOf 3 = .ok (.iconst 1, 1) := by decide +kernel
theorem dX6_heightOf_4 : decode cX6_heightOf 4 = .ok (.iadd, 1) := by decide +kernel
theorem dX6_heightOf_5 : decode cX6_heightOf 5 = .ok (.istore_n 2, 1) := by decide +kernel
theorem dX6_heightOf_6 : decode cX6_heightOf 6 = .ok (.iload_n 1, 1) := by decide +kernel
theorem dX6_heightOf_7 : decode cX6_heightOf 7 = .ok (.iconst 4, 1) := by decide +kernel
theorem dX6_heightOf_8 : decode cX6_heightOf 8 = .ok (.if_icmp .ge 19, 3) := by decide +kernel
theorem dX6_heightOf_11 : decode cX6_heightOf 11 = .ok (.iload_n 2, 1) := by decide +kernel
theorem dX6_heightOf_12 : decode cX6_heightOf 12 = .ok (.iconst 2, 1) := by decide +kernel
theorem dX6_heightOf_13 : decode cX6_heightOf 13 = .ok (.irem, 1) := by decide +kernel
theorem dX6_heightOf_14 : decode cX6_heightOf 14 = .ok (.ifCond .ne 13, 3) := by decide +kernel
theorem dX6_heightOf_17 : decode cX6_heightOf 17 = .ok (.iinc 1 1, 3) := by decide +kernel
theorem dX6_heightOf_20 : decode cX6_heightOf 20 = .ok (.iload_n 2, 1) := by decide +kernel
theorem dX6_heightOf_21 : decode cX6_heightOf 21 = .ok (.iconst 2, 1) := by decide +kernel
theorem dX6_heightOf_22 : decode cX6_heightOf 22 = .ok (.idiv, 1) := by decide +kernel
theorem dX6_heightOf_23 : decode cX6_heightOf 23 = .ok (.istore_n 2, 1) := by decide +kernel
theorem dX6_heightOf_24 : decode cX6_heightOf 24 = .ok (.goto (-18), 3) := by decide +kernel
theorem dX6_heightOf_27 : decode cX6_heightOf 27 = .ok (.iload_n 1, 1) := by decide +kernel
theorem dX6_heightOf_28 : decode cX6_heightOf 28 = .ok (.ireturn, 1) := by decide +kernel
theorem dX6_distance_0 : decode cX6_distance 0 = .ok (.iload_n 0, 1) := by decide +kernel
theorem dX6_distance_1 : decode cX6_distance 1 = .ok (.iload_n 2, 1) := by decide +kernel
theorem dX6_distance_2 : decode cX6_distance 2 = .ok (.isub, 1) := by decide +kernel
theorem dX6_distance_3 : decode cX6_distance 3 = .ok (.iload_n 0, 1) := by decide +kernel
theorem dX6_distance_4 : decode cX6_distance 4 = .ok (.iload_n 2, 1) := by decide +kernel
theorem dX6_distance_5 : decode cX6_distance 5 = .ok (.isub, 1) := by decide +kernel
theorem dX6_distance_6 : decode cX6_distance 6 = .ok (.imul, 1) := by decide +kernel
theorem dX6_distance_7 : decode cX6_distance 7 = .ok (.iload_n 1, 1) := by decide +kernel
theorem dX6_distance_8 : decode cX6_distance 8 = .ok (.iload_n 3, 1) := by decide +kernel
theorem dX6_distance_9 : decode cX6_distance 9 = .ok (.isub, 1) := by decide +kernel
theorem dX6_distance_10 : decode cX6_distance 10 = .ok (.iload_n 1, 1) := by decide +kernel
theorem dX6_distance_11 : decode cX6_distance 11 = .ok (.iload_n 3, 1) := by decide +kernel
theorem dX6_distance_12 : decode cX6_distance 12 = .ok (.isub, 1) := by decide +kernel
theorem dX6_distance_13 : decode cX6_distance 13 = .ok (.imul, 1) := by decide +kernel
theorem dX6_distance_14 : decode cX6_distance 14 = .ok (.iadd, 1) := by decide +kernel
theorem dX6_distance_15 : decode cX6_distance 15 = .ok (.ireturn, 1) := by decide +kernel
theorem dJ6_bitCount_0f7a4_0 : decode cJ6_bitCount_0f7a4 0 = .ok (.iload_n 0, 1) := by decide +kernel
theorem dJ6_bitCount_0f7a4_1 : decode cJ6_bitCount_0f7a4 1 = .ok (.iload_n 0, 1) := by decide +kernel
theorem dJ6_bitCount_0f7a4_2 : decode cJ6_bitCount_0f7a4 2 = .ok (.iconst 1, 1) := by decide +kernel
theorem dJ6_bitCount_0f7a4_3 : decode cJ6_bitCount_0f7a4 3 = .ok (.iushr, 1) := by decide +kernel
theorem dJ6_bitCount_0f7a4_4 : decode cJ6_bitCount_0f7a4 4 = .ok (.ldc_w 265, 3) := by decide +kernel
theorem dJ6_bitCount_0f7a4_7 : decode cJ6_bitCount_0f7a4 7 = .ok (.iand, 1) := by decide +kernel
theorem dJ6_bitCount_0f7a4_8 : decode cJ6_bitCount_0f7a4 8 = .ok (.isub, 1) := by decide +kernel
theorem dJ6_bitCount_0f7a4_9 : decode cJ6_bitCount_0f7a4 9 = .ok (.istore_n 0, 1) := by decide +kernel
theorem dJ6_bitCount_0f7a4_10 : decode cJ6_bitCount_0f7a4 10 = .ok (.iload_n 0, 1) := by decide +kernel
theorem dJ6_bitCount_0f7a4_11 : decode cJ6_bitCount_0f7a4 11 = .ok (.ldc_w 266, 3) := by decide +kernel
theorem dJ6_bitCount_0f7a4_14 : decode cJ6_bitCount_0f7a4 14 = .ok (.iand, 1) := by decide +kernel
theorem dJ6_bitCount_0f7a4_15 : decode cJ6_bitCount_0f7a4 15 = .ok (.iload_n 0, 1) := by decide +kernel
theorem dJ6_bitCount_0f7a4_16 : decode cJ6_bitCount_0f7a4 16 = .ok (.iconst 2, 1) := by decide +kernel
theorem dJ6_bitCount_0f7a4_17 : decode cJ6_bitCount_0f7a4 17 = .ok (.iushr, 1) := by decide +kernel
theorem dJ6_bitCount_0f7a4_18 : decode cJ6_bitCount_0f7a4 18 = .ok (.ldc_w 266, 3) := by decide +kernel
theorem dJ6_bitCount_0f7a4_21 : decode cJ6_bitCount_0f7a4 21 = .ok (.iand, 1) := by decide +kernel
theorem dJ6_bitCount_0f7a4_22 : decode cJ6_bitCount_0f7a4 22 = .ok (.iadd, 1) := by decide +kernel
theorem dJ6_bitCount_0f7a4_23 : decode cJ6_bitCount_0f7a4 23 = .ok (.istore_n 0, 1) := by decide +kernel
theorem dJ6_bitCount_0f7a4_24 : decode cJ6_bitCount_0f7a4 24 = .ok (.iload_n 0, 1) := by decide +kernel
theorem dJ6_bitCount_0f7a4_25 : decode cJ6_bitCount_0f7a4 25 = .ok (.iload_n 0, 1) := by decide +kernel
theorem dJ6_bitCount_0f7a4_26 : decode cJ6_bitCount_0f7a4 26 = .ok (.iconst 4, 1) := by decide +kernel
theorem dJ6_bitCount_0f7a4_27 : decode cJ6_bitCount_0f7a4 27 = .ok (.iushr, 1) := by decide +kernel
theorem dJ6_bitCount_0f7a4_28 : decode cJ6_bitCount_0f7a4 28 = .ok (.iadd, 1) := by decide +kernel
theorem dJ6_bitCount_0f7a4_29 : decode cJ6_bitCount_0f7a4 29 = .ok (.ldc_w 267, 3) := by decide +kernel
theorem dJ6_bitCount_0f7a4_32 : decode cJ6_bitCount_0f7a4 32 = .ok (.iand, 1) := by decide +kernel
theorem dJ6_bitCount_0f7a4_33 : decode cJ6_bitCount_0f7a4 33 = .ok (.istore_n 0, 1) := by decide +kernel
theorem dJ6_bitCount_0f7a4_34 : decode cJ6_bitCount_0f7a4 34 = .ok (.iload_n 0, 1) := by decide +kernel
theorem dJ6_bitCount_0f7a4_35 : decode cJ6_bitCount_0f7a4 35 = .ok (.iload_n 0, 1) := by decide +kernel
theorem dJ6_bitCount_0f7a4_36 : decode cJ6_bitCount_0f7a4 36 = .ok (.bipush 8, 2) := by decide +kernel
theorem dJ6_bitCount_0f7a4_38 : decode cJ6_bitCount_0f7a4 38 = .ok (.iushr, 1) := by decide +kernel
theorem dJ6_bitCount_0f7a4_39 : decode cJ6_bitCount_0f7a4 39 = .ok (.iadd, 1) := by decide +kernel
theorem dJ6_bitCount_0f7a4_40 : decode cJ6_bitCount_0f7a4 40 = .ok (.istore_n 0, 1) := by decide +kernel
theorem dJ6_bitCount_0f7a4_41 : decode cJ6_bitCount_0f7a4 41 = .ok (.iload_n 0, 1) := by decide +kernel
theorem dJ6_bitCount_0f7a4_42 : decode cJ6_bitCount_0f7a4 42 = .ok (.iload_n 0, 1) := by decide +kernel
theorem dJ6_bitCount_0f7a4_43 : decode cJ6_bitCount_0f7a4 43 = .ok (.bipush 16, 2) := by decide +kernel
theorem dJ6_bitCount_0f7a4_45 : decode cJ6_bitCount_0f7a4 45 = .ok (.iushr, 1) := by decide +kernel
theorem dJ6_bitCount_0f7a4_46 : decode cJ6_bitCount_0f7a4 46 = .ok (.iadd, 1) := by decide +kernel
theorem dJ6_bitCount_0f7a4_47 : decode cJ6_bitCount_0f7a4 47 = .ok (.istore_n 0, 1) := by decide +kernel
theorem dJ6_bitCount_0f7a4_48 : decode cJ6_bitCount_0f7a4 48 = .ok (.iload_n 0, 1) := by decide +kernel
theorem dJ6_bitCount_0f7a4_49 : decode cJ6_bitCount_0f7a4 49 = .ok (.bipush 63, 2) := by decide +kernel
theorem dJ6_bitCount_0f7a4_51 : decode cJ6_bitCount_0f7a4 51 = .ok (.iand, 1) := by decide +kernel
theorem dJ6_bitCount_0f7a4_52 : decode cJ6_bitCount_0f7a4 52 = .ok (.ireturn, 1) := by decide +kernel
theorem dJ9_abs_0f7a4_0 : decode cJ9_abs_0f7a4 0 = .ok (.iload_n 0, 1) := by decide +kernel
theorem dJ9_abs_0f7a4_1 : decode cJ9_abs_0f7a4 1 = .ok (.ifCond .ge 8, 3) := by decide +kernel
theorem dJ9_abs_0f7a4_4 : decode cJ9_abs_0f7a4 4 = .ok (.iload_n 0, 1) := by decide +kernel
theorem dJ9_abs_0f7a4_5 : decode cJ9_abs_0f7a4 5 = .ok (.ineg, 1) := by decide +kernel
theorem dJ9_abs_0f7a4_6 : decode cJ9_abs_0f7a4 6 = .ok (.goto 4, 3) := by decide +kernel
theorem dJ9_abs_0f7a4_9 : decode cJ9_abs_0f7a4 9 = .ok (.iload_n 0, 1) := by decide +kernel
theorem dJ9_abs_0f7a4_10 : decode cJ9_abs_0f7a4 10 = .ok (.ireturn, 1) := by decide +kernel
theorem dJ9_max_7cf53_0 : decode cJ9_max_7cf53 0 = .ok (.iload_n 0, 1) := by decide +kernel
theorem dJ9_max_7cf53_1 : decode cJ9_max_7cf53 1 = .ok (.iload_n 1, 1) := by decide +kernel
theorem dJ9_max_7cf53_2 : decode cJ9_max_7cf53 2 = .ok (.if_icmp .lt 7, 3) := by decide +kernel
theorem dJ9_max_7cf53_5 : decode cJ9_max_7cf53 5 = .ok (.iload_n 0, 1) := by decide +kernel
theorem dJ9_max_7cf53_6 : decode cJ9_max_7cf53 6 = .ok (.goto 4, 3) := by decide +kernel
theorem dJ9_max_7cf53_9 : decode cJ9_max_7cf53 9 = .ok (.iload_n 1, 1) := by decide +kernel
theorem dJ9_max_7cf53_10 : decode cJ9_max_7cf53 10 = .ok (.ireturn, 1) := by decide +kernel
theorem dJ9_min_7cf53_0 : decode cJ9_min_7cf53 0 = .ok (.iload_n 0, 1) := by decide +kernel
theorem dJ9_min_7cf53_1 : decode cJ9_min_7cf53 1 = .ok (.iload_n 1, 1) := by decide +kernel
theorem dJ9_min_7cf53_2 : decode cJ9_min_7cf53 2 = .ok (.if_icmp .gt 7, 3) := by decide +kernel
theorem dJ9_min_7cf53_5 : decode cJ9_min_7cf53 5 = .ok (.iload_n 0, 1) := by decide +kernel
theorem dJ9_min_7cf53_6 : decode cJ9_min_7cf53 6 = .ok (.goto 4, 3) := by decide +kernel
theorem dJ9_min_7cf53_9 : decode cJ9_min_7cf53 9 = .ok (.iload_n 1, 1) := by decide +kernel
theorem dJ9_min_7cf53_10 : decode cJ9_min_7cf53 10 = .ok (.ireturn, 1) := by decide +kernel
theorem dL_cell_0 : decode cL_cell 0 = .ok (.iload_n 1, 1) := by decide +kernel
theorem dL_cell_1 : decode cL_cell 1 = .ok (.aload_n 0, 1) := by decide +kernel
theorem dL_cell_2 : decode cL_cell 2 = .ok (.arraylength, 1) := by decide +kernel
theorem dL_cell_3 : decode cL_cell 3 = .ok (.if_icmp .ge 9, 3) := by decide +kernel
theorem dL_cell_6 : decode cL_cell 6 = .ok (.aload_n 0, 1) := by decide +kernel
theorem dL_cell_7 : decode cL_cell 7 = .ok (.iload_n 1, 1) := by decide +kernel
theorem dL_cell_8 : decode cL_cell 8 = .ok (.iaload, 1) := by decide +kernel
theorem dL_cell_9 : decode cL_cell 9 = .ok (.goto 9, 3) := by decide +kernel
theorem dL_cell_12 : decode cL_cell 12 = .ok (.ldc 7, 2) := by decide +kernel
theorem dL_cell_14 : decode cL_cell 14 = .ok (.iload_n 1, 1) := by decide +kernel
theorem dL_cell_15 : decode cL_cell 15 = .ok (.iconst 1, 1) := by decide +kernel
theorem dL_cell_16 : decode cL_cell 16 = .ok (.iadd, 1) := by decide +kernel
theorem dL_cell_17 : decode cL_cell 17 = .ok (.imul, 1) := by decide +kernel
theorem dL_cell_18 : decode cL_cell 18 = .ok (.ireturn, 1) := by decide +kernel
theorem dL_low_0 : decode cL_low 0 = .ok (.iload_n 0, 1) := by decide +kernel
theorem dL_low_1 : decode cL_low 1 = .ok (.ldc 8, 2) := by decide +kernel
theorem dL_low_3 : decode cL_low 3 = .ok (.iand, 1) := by decide +kernel
theorem dL_low_4 : decode cL_low 4 = .ok (.iload_n 1, 1) := by decide +kernel
theorem dL_low_5 : decode cL_low 5 = .ok (.irem, 1) := by decide +kernel
theorem dL_low_6 : decode cL_low 6 = .ok (.ireturn, 1) := by decide +kernel
set_option maxRecDepth 20000 in
theorem ggL_add_X6_add : GoodIn wsL_add wsX6_add := goodIn_ca (goodIn_ca (goodIn_ca (goodIn_r _ [11, 12, 13, 14, 15, 16, 10, 17, 18, 19, 20, 21, 22, 23, 24, 25, 26, 27, 28, 29, 30, 31, 32, 33, 34, 35, 36, 37, 38, 39, 40, 41, 42, 43, 44, 45, 46, 47, 48, 49, 50, 51, 52, 53, 54, 55, 56, 57, 58, 59, 60, 61, 62, 63, 64, 65, 66, 67, 68, 69, 70, 71, 72, 73, 74, 75, 76, 77, 78, 79, 80, 81, 82, 83, 84, 85, 86, 87, 88, 89, 90, 91, 92, 93, 94, 95, 96, 97, 98, 99, 100, 101, 102, 103, 104, 105, 106, 107, 108, 109, 110, 111, 112, 113, 114, 115, 116, 117, 118, 119, 120, 121, 122, 123, 124, 125, 126, 127, 128, 129, 130, 131, 132, 133, 134, 135, 136, 137, 138, 139, 140, 141, 142, 143, 144, 145, 146, 147, 148, 149, 150, 151, 152, 153, 154, 155, 156, 157, 158, 159, 160, 161, 162, 163, 164, 165, 166, 167] (by decide +kernel) (by decide +kernel)) (goodIn_sub (fun _ h => List.mem_cons_of_mem _ (List.mem_append_left _ (List.mem_append_left _ (List.mem_append_right _ h)))) (by decide +kernel))) (goodIn_sub (fun _ h => List.mem_cons_of_mem _ (List.mem_append_left _ (List.mem_append_right _ h))) (by decide +kernel))) (goodIn_sub (fun _ h => List.mem_cons_of_mem _ (List.mem_append_right _ h)) (by decide +kernel))
set_option maxRecDepth 20000 in
theorem gL_add_X6_add : GoodIn wsL_add (wsV RL 9 RX6 yX6_add wsX6_add) := goodIn_app (goodIn_of _ (by decide +kernel)) ggL_add_X6_add
theorem dL_add_0 : decode cL_add 0 = .ok (.aload_n 0, 1) := by decide +kernel
theorem dL_add_1 : decode cL_add 1 = .ok (.iload_n 1, 1) := by decide +kernel
theorem dL_add_2 : decode cL_add 2 = .ok (.iload_n 2, 1) := by decide +kernel
theorem dL_add_3 : decode cL_add 3 = .ok (.iload_n 3, 1) := by decide +kernel
theorem dL_add_4 : decode cL_add 4 = .ok (.invokevirtual 9, 3) := by decide +kernel
theorem dL_add_7 : decode cL_add 7 = .ok (.istore 4, 2) := by decide +kernel
theorem dL_add_9 : decode cL_add 9 = .ok (.goto 18, 3) := by decide +kernel
theorem dL_add_12 : decode cL_add 12 = .ok (.astore 5, 2) := by decide +kernel
theorem dL_add_14 : decode cL_add 14 = .ok (.ldc 17, 2) := by decide +kernel
theorem dL_add_16 : decode cL_add 16 = .ok (.ireturn, 1) := by decide +kernel
theorem dL_add_17 : decode cL_add 17 = .ok (.astore 5, 2) := by decide +kernel
theorem dL_add_19 : decode cL_add 19 = .ok (.ldc 20, 2) := by decide +kernel
theorem dL_add_21 : decode cL_add 21 = .ok (.ireturn, 1) := by decide +kernel
theorem dL_add_22 : decode cL_add 22 = .ok (.astore 5, 2) := by decide +kernel
theorem dL_add_24 : decode cL_add 24 = .ok (.ldc 23, 2) := by decide +kernel
theorem dL_add_26 : decode cL_add 26 = .ok (.ireturn, 1) := by decide +kernel
theorem dL_add_27 : decode cL_add 27 = .ok (.iload 4, 2) := by decide +kernel
theorem dL_add_29 : decode cL_add 29 = .ok (.ireturn, 1) := by decide +kernel
set_option maxRecDepth 20000 in
theorem ggL_move_X6_move : GoodIn wsL_move wsX6_move := goodIn_ca (goodIn_ca (goodIn_ca (goodIn_r _ [11, 12, 13, 14, 15, 16, 10, 17, 18, 19, 20, 21, 22, 23, 24, 25, 26, 27, 28, 29, 30, 31, 32, 33, 34, 35, 36, 37, 38, 39, 40, 41, 42, 43, 44, 45, 46, 47, 48, 49, 50, 51, 52, 53, 54, 55, 56, 57, 58, 59, 60, 61, 62, 63, 64, 65, 66, 67, 68, 69, 70, 71, 72, 73, 74, 75, 76, 77, 78, 79, 80, 81, 82, 83, 84, 85, 86, 87, 88, 89, 90, 91, 92, 93, 94, 95, 96, 97, 98, 99, 100, 101, 102, 103, 104, 105, 106, 107, 108, 109, 110, 111, 112, 113, 114, 115, 116, 117, 118, 119, 120, 121, 122, 123, 124, 125, 126, 127, 128, 129, 130, 131, 132, 133, 134, 135, 136, 137, 138, 139, 140, 141, 142, 143, 144, 145, 146, 147, 148, 149, 150, 151, 152, 153, 154, 155, 156, 157, 158, 159, 160, 161, 162, 163, 164, 165, 166, 167] (by decide +kernel) (by decide +kernel)) (goodIn_sub (fun _ h => List.mem_cons_of_mem _ (List.mem_append_left _ (List.mem_append_left _ (List.mem_append_right _ h)))) (by decide +kernel))) (goodIn_sub (fun _ h => List.mem_cons_of_mem _ (List.mem_append_left _ (List.mem_append_right _ h))) (by decide +kernel))) (goodIn_sub (fun _ h => List.mem_cons_of_mem _ (List.mem_append_right _ h)) (by decide +kernel))
set_option maxRecDepth 20000 in
theorem gL_move_X6_move : GoodIn wsL_move (wsV RL 24 RX6 yX6_move wsX6_move) := goodIn_app (goodIn_of _ (by decide +kernel)) ggL_move_X6_move
theorem dL_move_0 : decode cL_move 0 = .ok (.aload_n 0, 1) := by decide +kernel
theorem dL_move_1 : decode cL_move 1 = .ok (.iload_n 1, 1) := by decide +kernel
theorem dL_move_2 : decode cL_move 2 = .ok (.iload_n 2, 1) := by decide +kernel
theorem dL_move_3 : decode cL_move 3 = .ok (.iload_n 3, 1) := by decide +kernel
theorem dL_move_4 : decode cL_move 4 = .ok (.invokevirtual 24, 3) := by decide +kernel
theorem dL_move_7 : decode cL_move 7 = .ok (.istore 4, 2) := by decide +kernel
theorem dL_move_9 : decode cL_move 9 = .ok (.goto 18, 3) := by decide +kernel
theorem dL_move_12 : decode cL_move 12 = .ok (.astore 5, 2) := by decide +kernel
theorem dL_move_14 : decode cL_move 14 = .ok (.ldc 17, 2) := by decide +kernel
theorem dL_move_16 : decode cL_move 16 = .ok (.ireturn, 1) := by decide +kernel
theorem dL_move_17 : decode cL_move 17 = .ok (.astore 5, 2) := by decide +kernel
theorem dL_move_19 : decode cL_move 19 = .ok (.ldc 20, 2) := by decide +kernel
theorem dL_move_21 : decode cL_move 21 = .ok (.ireturn, 1) := by decide +kernel
theorem dL_move_22 : decode cL_move 22 = .ok (.astore 5, 2) := by decide +kernel
theorem dL_move_24 : decode cL_move 24 = .ok (.ldc 23, 2) := by decide +kernel
theorem dL_move_26 : decode cL_move 26 = .ok (.ireturn, 1) := by decide +kernel
theorem dL_move_27 : decode cL_move 27 = .ok (.iload 4, 2) := by decide +kernel
theorem dL_move_29 : decode cL_move 29 = .ok (.ireturn, 1) := by decide +kernel
set_option maxRecDepth 20000 in
theorem ggL_remove_X6_remove : GoodIn wsL_remove wsX6_remove := goodIn_ca (goodIn_ca (goodIn_ca (goodIn_r _ [9, 10, 11, 12, 13, 14, 8, 15, 16, 17, 18, 19, 20, 21, 22, 23, 24, 25, 26, 27, 28, 29, 30, 31, 32, 33, 34, 35, 36, 37, 38, 39, 40, 41, 42, 43, 44, 45, 46, 47, 48, 49, 50, 51, 52, 53, 54, 55, 56, 57, 58, 59, 60, 61, 62, 63, 64, 65, 66, 67, 68, 69, 70, 71, 72, 73, 74, 75, 76, 77, 78, 79, 80, 81, 82, 83, 84, 85, 86, 87, 88, 89, 90, 91, 92, 93, 94, 95, 96, 97, 98, 99, 100, 101, 102, 103, 104, 105, 106, 107, 108, 109, 110, 111, 112, 113, 114, 115, 116, 117, 118, 119, 120, 121, 122, 123, 124, 125, 126, 127, 128, 129, 130, 131, 132, 133, 134, 135, 136, 137, 138, 139, 140, 141, 142, 143, 144, 145, 146, 147, 148, 149, 150, 151, 152, 153, 154, 155, 156, 157, 158, 159, 160, 161, 162] (by decide +kernel) (by decide +kernel)) (goodIn_sub (fun _ h => List.mem_cons_of_mem _ (List.mem_append_left _ (List.mem_append_left _ (List.mem_append_right _ h)))) (by decide +kernel))) (goodIn_sub (fun _ h => List.mem_cons_of_mem _ (List.mem_append_left _ (List.mem_append_right _ h))) (by decide +kernel))) (goodIn_sub (fun _ h => List.mem_cons_of_mem _ (List.mem_append_right _ h)) (by decide +kernel))
set_option maxRecDepth 20000 in
theorem gL_remove_X6_remove : GoodIn wsL_remove (wsV RL 27 RX6 yX6_remove wsX6_remove) := goodIn_app (goodIn_of _ (by decide +kernel)) ggL_remove_X6_remove
theorem dL_remove_0 : decode cL_remove 0 = .ok (.aload_n 0, 1) := by decide +kernel
theorem dL_remove_1 : decode cL_remove 1 = .ok (.iload_n 1, 1) := by decide +kernel
theorem dL_remove_2 : decode cL_remove 2 = .ok (.invokevirtual 27, 3) := by decide +kernel
