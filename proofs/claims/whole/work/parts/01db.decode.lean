theorem dX2_init_0 : decode cX2_init 0 = .ok (.aload_n 0, 1) := by decide +kernel
theorem dX2_init_1 : decode cX2_init 1 = .ok (.invokespecial 3, 3) := by decide +kernel
theorem dX2_init_4 : decode cX2_init 4 = .ok (.aload_n 0, 1) := by decide +kernel
theorem dX2_init_5 : decode cX2_init 5 = .ok (.bipush 120, 2) := by decide +kernel
theorem dX2_init_7 : decode cX2_init 7 = .ok (.newarray .int, 2) := by decide +kernel
theorem dX2_init_9 : decode cX2_init 9 = .ok (.putfield 9, 3) := by decide +kernel
theorem dX2_init_12 : decode cX2_init 12 = .ok (.aload_n 0, 1) := by decide +kernel
theorem dX2_init_13 : decode cX2_init 13 = .ok (.iconst 3, 1) := by decide +kernel
theorem dX2_init_14 : decode cX2_init 14 = .ok (.newarray .int, 2) := by decide +kernel
theorem dX2_init_16 : decode cX2_init 16 = .ok (.putfield 15, 3) := by decide +kernel
theorem dX2_init_19 : decode cX2_init 19 = .ok (.return_, 1) := by decide +kernel
theorem dX2_append_0 : decode cX2_append 0 = .ok (.aload_n 0, 1) := by decide +kernel
theorem dX2_append_1 : decode cX2_append 1 = .ok (.getfield 18, 3) := by decide +kernel
theorem dX2_append_4 : decode cX2_append 4 = .ok (.bipush 120, 2) := by decide +kernel
theorem dX2_append_6 : decode cX2_append 6 = .ok (.if_icmp .ge 23, 3) := by decide +kernel
theorem dX2_append_9 : decode cX2_append 9 = .ok (.aload_n 0, 1) := by decide +kernel
theorem dX2_append_10 : decode cX2_append 10 = .ok (.getfield 9, 3) := by decide +kernel
theorem dX2_append_13 : decode cX2_append 13 = .ok (.aload_n 0, 1) := by decide +kernel
theorem dX2_append_14 : decode cX2_append 14 = .ok (.getfield 18, 3) := by decide +kernel
theorem dX2_append_17 : decode cX2_append 17 = .ok (.iload_n 1, 1) := by decide +kernel
theorem dX2_append_18 : decode cX2_append 18 = .ok (.iastore, 1) := by decide +kernel
theorem dX2_append_19 : decode cX2_append 19 = .ok (.aload_n 0, 1) := by decide +kernel
theorem dX2_append_20 : decode cX2_append 20 = .ok (.dup, 1) := by decide +kernel
theorem dX2_append_21 : decode cX2_append 21 = .ok (.getfield 18, 3) := by decide +kernel
theorem dX2_append_24 : decode cX2_append 24 = .ok (.iconst 1, 1) := by decide +kernel
theorem dX2_append_25 : decode cX2_append 25 = .ok (.iadd, 1) := by decide +kernel
theorem dX2_append_26 : decode cX2_append 26 = .ok (.putfield 18, 3) := by decide +kernel
theorem dX2_append_29 : decode cX2_append 29 = .ok (.return_, 1) := by decide +kernel
theorem dX2_rewind_0 : decode cX2_rewind 0 = .ok (.aload_n 0, 1) := by decide +kernel
theorem dX2_rewind_1 : decode cX2_rewind 1 = .ok (.iconst 0, 1) := by decide +kernel
theorem dX2_rewind_2 : decode cX2_rewind 2 = .ok (.putfield 22, 3) := by decide +kernel
theorem dX2_rewind_5 : decode cX2_rewind 5 = .ok (.aload_n 0, 1) := by decide +kernel
theorem dX2_rewind_6 : decode cX2_rewind 6 = .ok (.iconst (-1), 1) := by decide +kernel
theorem dX2_rewind_7 : decode cX2_rewind 7 = .ok (.putfield 25, 3) := by decide +kernel
theorem dX2_rewind_10 : decode cX2_rewind 10 = .ok (.return_, 1) := by decide +kernel
set_option maxRecDepth 20000 in
theorem ggX2_findFault_X2_rewind : GoodIn wsX2_findFault wsX2_rewind := goodIn_r _ [6, 7, 1, 105, 106, 107, 108, 109, 110] (by decide +kernel) (by decide +kernel)
set_option maxRecDepth 20000 in
theorem gX2_findFault_X2_rewind : GoodIn wsX2_findFault (wsV RX2 28 RX2 yX2_rewind wsX2_rewind) := goodIn_app (goodIn_of _ (by decide +kernel)) ggX2_findFault_X2_rewind
set_option maxRecDepth 20000 in
theorem ggX2_findFault_X2_readCommand : GoodIn wsX2_findFault wsX2_readCommand := goodIn_r _ [11, 7, 12, 13, 14, 15, 16, 5, 17, 18, 19, 20, 21, 22, 23, 24, 25, 26, 27, 28, 29, 30, 31, 32, 33, 34, 35, 36, 37, 38, 39, 40, 41, 42, 43, 44, 45, 46, 47, 48, 49, 50, 51, 52, 53, 54, 55, 56, 57, 58, 59, 60, 61, 62, 63, 64, 65, 66, 67, 68, 69, 70, 71, 72, 73, 74, 75, 76, 77, 78, 79, 80, 81, 82, 83, 84, 85, 1, 86, 87, 88, 89, 90, 91, 92, 93, 94, 95, 96, 97, 98, 99, 100, 101, 102, 103, 104, 105, 106, 107, 108, 109, 110] (by decide +kernel) (by decide +kernel)
set_option maxRecDepth 20000 in
theorem gX2_findFault_X2_readCommand : GoodIn wsX2_findFault (wsV RX2 31 RX2 yX2_readCommand wsX2_readCommand) := goodIn_app (goodIn_of _ (by decide +kernel)) ggX2_findFault_X2_readCommand
theorem dX2_findFault_0 : decode cX2_findFault 0 = .ok (.aload_n 0, 1) := by decide +kernel
theorem dX2_findFault_1 : decode cX2_findFault 1 = .ok (.invokevirtual 28, 3) := by decide +kernel
theorem dX2_findFault_4 : decode cX2_findFault 4 = .ok (.iconst 0, 1) := by decide +kernel
theorem dX2_findFault_5 : decode cX2_findFault 5 = .ok (.istore_n 1, 1) := by decide +kernel
theorem dX2_findFault_6 : decode cX2_findFault 6 = .ok (.iload_n 1, 1) := by decide +kernel
theorem dX2_findFault_7 : decode cX2_findFault 7 = .ok (.bipush 120, 2) := by decide +kernel
theorem dX2_findFault_9 : decode cX2_findFault 9 = .ok (.if_icmp .ge 16, 3) := by decide +kernel
theorem dX2_findFault_12 : decode cX2_findFault 12 = .ok (.aload_n 0, 1) := by decide +kernel
theorem dX2_findFault_13 : decode cX2_findFault 13 = .ok (.invokevirtual 31, 3) := by decide +kernel
theorem dX2_findFault_16 : decode cX2_findFault 16 = .ok (.ifCond .eq 9, 3) := by decide +kernel
theorem dX2_findFault_19 : decode cX2_findFault 19 = .ok (.iinc 1 1, 3) := by decide +kernel
theorem dX2_findFault_22 : decode cX2_findFault 22 = .ok (.goto (-16), 3) := by decide +kernel
theorem dX2_findFault_25 : decode cX2_findFault 25 = .ok (.aload_n 0, 1) := by decide +kernel
theorem dX2_findFault_26 : decode cX2_findFault 26 = .ok (.getfield 25, 3) := by decide +kernel
theorem dX2_findFault_29 : decode cX2_findFault 29 = .ok (.ireturn, 1) := by decide +kernel
set_option maxRecDepth 20000 in
theorem ggX2_readCommand_X2_passSpaces : GoodIn wsX2_readCommand wsX2_passSpaces := goodIn_r _ [8, 1, 2, 9, 97, 98, 99, 100, 101, 102] (by decide +kernel) (by decide +kernel)
set_option maxRecDepth 20000 in
theorem gX2_readCommand_X2_passSpaces : GoodIn wsX2_readCommand (wsV RX2 35 RX2 yX2_passSpaces wsX2_passSpaces) := goodIn_app (goodIn_of _ (by decide +kernel)) ggX2_readCommand_X2_passSpaces
set_option maxRecDepth 20000 in
theorem ggX2_readCommand_X2_readWord : GoodIn wsX2_readCommand wsX2_readWord := goodIn_r _ [13, 1, 2, 9, 3, 14, 15, 16, 17, 18, 7, 19, 20, 21, 22, 23, 24, 25, 26, 27, 28, 29, 30, 31, 32, 33, 34, 35, 36, 37, 38, 39, 40, 41, 42, 43, 44, 45, 46, 47, 48, 49, 50, 51, 52, 53, 54, 55, 56, 57, 58, 59, 60, 61, 62, 63, 64, 65, 66, 67, 68, 69, 70, 71, 72, 73, 74, 75, 76, 77, 97, 98, 99, 100, 101, 102] (by decide +kernel) (by decide +kernel)
set_option maxRecDepth 20000 in
theorem gX2_readCommand_X2_readWord : GoodIn wsX2_readCommand (wsV RX2 38 RX2 yX2_readWord wsX2_readWord) := goodIn_app (goodIn_of _ (by decide +kernel)) ggX2_readCommand_X2_readWord
set_option maxRecDepth 20000 in
theorem ggX2_readCommand_X2_numbersOf : GoodIn wsX2_readCommand wsX2_numbersOf := goodIn_r _ [80] (by decide +kernel) (by decide +kernel)
set_option maxRecDepth 20000 in
theorem gX2_readCommand_X2_numbersOf : GoodIn wsX2_readCommand (va_wsS RX2 44 yX2_numbersOf wsX2_numbersOf) := goodIn_app (goodIn_of _ (by decide +kernel)) ggX2_readCommand_X2_numbersOf
set_option maxRecDepth 20000 in
theorem ggX2_readCommand_X2_readNumber : GoodIn wsX2_readCommand wsX2_readNumber := goodIn_r _ [84, 1, 85, 86, 87, 88, 7, 89, 90, 91, 92, 93, 2, 9, 73, 74, 75, 76, 77, 4, 5, 6, 8, 94, 95, 96, 14, 15, 16, 97, 98, 99, 100, 101, 102] (by decide +kernel) (by decide +kernel)
set_option maxRecDepth 20000 in
theorem gX2_readCommand_X2_readNumber : GoodIn wsX2_readCommand (wsV RX2 48 RX2 yX2_readNumber wsX2_readNumber) := goodIn_app (goodIn_of _ (by decide +kernel)) ggX2_readCommand_X2_readNumber
set_option maxRecDepth 20000 in
theorem ggX2_readCommand_X2_passByte : GoodIn wsX2_readCommand wsX2_passByte := goodIn_r _ [89, 1, 90, 91, 92, 7, 93, 2, 9, 73, 74, 75, 76, 77, 97, 98, 99, 100, 101, 102] (by decide +kernel) (by decide +kernel)
set_option maxRecDepth 20000 in
theorem gX2_readCommand_X2_passByte : GoodIn wsX2_readCommand (wsV RX2 52 RX2 yX2_passByte wsX2_passByte) := goodIn_app (goodIn_of _ (by decide +kernel)) ggX2_readCommand_X2_passByte
theorem dX2_readCommand_0 : decode cX2_readCommand 0 = .ok (.aload_n 0, 1) := by decide +kernel
theorem dX2_readCommand_1 : decode cX2_readCommand 1 = .ok (.invokevirtual 35, 3) := by decide +kernel
theorem dX2_readCommand_4 : decode cX2_readCommand 4 = .ok (.aload_n 0, 1) := by decide +kernel
theorem dX2_readCommand_5 : decode cX2_readCommand 5 = .ok (.getfield 22, 3) := by decide +kernel
theorem dX2_readCommand_8 : decode cX2_readCommand 8 = .ok (.aload_n 0, 1) := by decide +kernel
theorem dX2_readCommand_9 : decode cX2_readCommand 9 = .ok (.getfield 18, 3) := by decide +kernel
theorem dX2_readCommand_12 : decode cX2_readCommand 12 = .ok (.if_icmp .eq 10, 3) := by decide +kernel
theorem dX2_readCommand_15 : decode cX2_readCommand 15 = .ok (.aload_n 0, 1) := by decide +kernel
theorem dX2_readCommand_16 : decode cX2_readCommand 16 = .ok (.invokevirtual 38, 3) := by decide +kernel
theorem dX2_readCommand_19 : decode cX2_readCommand 19 = .ok (.ifCond .ne 5, 3) := by decide +kernel
theorem dX2_readCommand_22 : decode cX2_readCommand 22 = .ok (.iconst 0, 1) := by decide +kernel
theorem dX2_readCommand_23 : decode cX2_readCommand 23 = .ok (.ireturn, 1) := by decide +kernel
theorem dX2_readCommand_24 : decode cX2_readCommand 24 = .ok (.aload_n 0, 1) := by decide +kernel
theorem dX2_readCommand_25 : decode cX2_readCommand 25 = .ok (.getfield 41, 3) := by decide +kernel
theorem dX2_readCommand_28 : decode cX2_readCommand 28 = .ok (.invokestatic 44, 3) := by decide +kernel
theorem dX2_readCommand_31 : decode cX2_readCommand 31 = .ok (.istore_n 1, 1) := by decide +kernel
theorem dX2_readCommand_32 : decode cX2_readCommand 32 = .ok (.iconst 0, 1) := by decide +kernel
theorem dX2_readCommand_33 : decode cX2_readCommand 33 = .ok (.istore_n 2, 1) := by decide +kernel
theorem dX2_readCommand_34 : decode cX2_readCommand 34 = .ok (.iload_n 2, 1) := by decide +kernel
theorem dX2_readCommand_35 : decode cX2_readCommand 35 = .ok (.iload_n 1, 1) := by decide +kernel
theorem dX2_readCommand_36 : decode cX2_readCommand 36 = .ok (.if_icmp .ge 19, 3) := by decide +kernel
theorem dX2_readCommand_39 : decode cX2_readCommand 39 = .ok (.aload_n 0, 1) := by decide +kernel
theorem dX2_readCommand_40 : decode cX2_readCommand 40 = .ok (.iload_n 2, 1) := by decide +kernel
theorem dX2_readCommand_41 : decode cX2_readCommand 41 = .ok (.invokevirtual 48, 3) := by decide +kernel
theorem dX2_readCommand_44 : decode cX2_readCommand 44 = .ok (.ifCond .ne 5, 3) := by decide +kernel
theorem dX2_readCommand_47 : decode cX2_readCommand 47 = .ok (.iconst 0, 1) := by decide +kernel
theorem dX2_readCommand_48 : decode cX2_readCommand 48 = .ok (.ireturn, 1) := by decide +kernel
theorem dX2_readCommand_49 : decode cX2_readCommand 49 = .ok (.iinc 2 1, 3) := by decide +kernel
theorem dX2_readCommand_52 : decode cX2_readCommand 52 = .ok (.goto (-18), 3) := by decide +kernel
theorem dX2_readCommand_55 : decode cX2_readCommand 55 = .ok (.aload_n 0, 1) := by decide +kernel
theorem dX2_readCommand_56 : decode cX2_readCommand 56 = .ok (.invokevirtual 35, 3) := by decide +kernel
theorem dX2_readCommand_59 : decode cX2_readCommand 59 = .ok (.aload_n 0, 1) := by decide +kernel
theorem dX2_readCommand_60 : decode cX2_readCommand 60 = .ok (.bipush 59, 2) := by decide +kernel
theorem dX2_readCommand_62 : decode cX2_readCommand 62 = .ok (.invokevirtual 52, 3) := by decide +kernel
theorem dX2_readCommand_65 : decode cX2_readCommand 65 = .ok (.ireturn, 1) := by decide +kernel
theorem dX2_peek_0 : decode cX2_peek 0 = .ok (.aload_n 0, 1) := by decide +kernel
theorem dX2_peek_1 : decode cX2_peek 1 = .ok (.getfield 22, 3) := by decide +kernel
theorem dX2_peek_4 : decode cX2_peek 4 = .ok (.aload_n 0, 1) := by decide +kernel
theorem dX2_peek_5 : decode cX2_peek 5 = .ok (.getfield 18, 3) := by decide +kernel
theorem dX2_peek_8 : decode cX2_peek 8 = .ok (.if_icmp .ge 15, 3) := by decide +kernel
theorem dX2_peek_11 : decode cX2_peek 11 = .ok (.aload_n 0, 1) := by decide +kernel
theorem dX2_peek_12 : decode cX2_peek 12 = .ok (.getfield 9, 3) := by decide +kernel
theorem dX2_peek_15 : decode cX2_peek 15 = .ok (.aload_n 0, 1) := by decide +kernel
theorem dX2_peek_16 : decode cX2_peek 16 = .ok (.getfield 22, 3) := by decide +kernel
theorem dX2_peek_19 : decode cX2_peek 19 = .ok (.iaload, 1) := by decide +kernel
theorem dX2_peek_20 : decode cX2_peek 20 = .ok (.goto 4, 3) := by decide +kernel
theorem dX2_peek_23 : decode cX2_peek 23 = .ok (.iconst (-1), 1) := by decide +kernel
theorem dX2_peek_24 : decode cX2_peek 24 = .ok (.ireturn, 1) := by decide +kernel
theorem dX2_failAt_0 : decode cX2_failAt 0 = .ok (.aload_n 0, 1) := by decide +kernel
theorem dX2_failAt_1 : decode cX2_failAt 1 = .ok (.iload_n 1, 1) := by decide +kernel
theorem dX2_failAt_2 : decode cX2_failAt 2 = .ok (.putfield 25, 3) := by decide +kernel
theorem dX2_failAt_5 : decode cX2_failAt 5 = .ok (.iconst 0, 1) := by decide +kernel
theorem dX2_failAt_6 : decode cX2_failAt 6 = .ok (.ireturn, 1) := by decide +kernel
set_option maxRecDepth 20000 in
theorem ggX2_passByte_X2_peek : GoodIn wsX2_passByte wsX2_peek := goodIn_r _ [6, 1, 7, 8, 14, 15, 16, 17, 18, 19] (by decide +kernel) (by decide +kernel)
set_option maxRecDepth 20000 in
theorem gX2_passByte_X2_peek : GoodIn wsX2_passByte (wsV RX2 55 RX2 yX2_peek wsX2_peek) := goodIn_app (goodIn_of _ (by decide +kernel)) ggX2_passByte_X2_peek
set_option maxRecDepth 20000 in
theorem ggX2_passByte_X2_failAt : GoodIn wsX2_passByte wsX2_failAt := goodIn_r _ [12, 13, 14, 15, 16, 17, 18, 19] (by decide +kernel) (by decide +kernel)
set_option maxRecDepth 20000 in
theorem gX2_passByte_X2_failAt : GoodIn wsX2_passByte (wsV RX2 59 RX2 yX2_failAt wsX2_failAt) := goodIn_app (goodIn_of _ (by decide +kernel)) ggX2_passByte_X2_failAt
theorem dX2_passByte_0 : decode cX2_passByte 0 = .ok (.aload_n 0, 1) := by decide +kernel
theorem dX2_passByte_1 : decode cX2_passByte 1 = .ok (.invokevirtual 55, 3) := by decide +kernel
theorem dX2_passByte_4 : decode cX2_passByte 4 = .ok (.iload_n 1, 1) := by decide +kernel
theorem dX2_passByte_5 : decode cX2_passByte 5 = .ok (.if_icmp .eq 12, 3) := by decide +kernel
theorem dX2_passByte_8 : decode cX2_passByte 8 = .ok (.aload_n 0, 1) := by decide +kernel
theorem dX2_passByte_9 : decode cX2_passByte 9 = .ok (.aload_n 0, 1) := by decide +kernel
theorem dX2_passByte_10 : decode cX2_passByte 10 = .ok (.getfield 22, 3) := by decide +kernel
theorem dX2_passByte_13 : decode cX2_passByte 13 = .ok (.invokevirtual 59, 3) := by decide +kernel
theorem dX2_passByte_16 : decode cX2_passByte 16 = .ok (.ireturn, 1) := by decide +kernel
theorem dX2_passByte_17 : decode cX2_passByte 17 = .ok (.aload_n 0, 1) := by decide +kernel
theorem dX2_passByte_18 : decode cX2_passByte 18 = .ok (.dup, 1) := by decide +kernel
theorem dX2_passByte_19 : decode cX2_passByte 19 = .ok (.getfield 22, 3) := by decide +kernel
theorem dX2_passByte_22 : decode cX2_passByte 22 = .ok (.iconst 1, 1) := by decide +kernel
theorem dX2_passByte_23 : decode cX2_passByte 23 = .ok (.iadd, 1) := by decide +kernel
theorem dX2_passByte_24 : decode cX2_passByte 24 = .ok (.putfield 22, 3) := by decide +kernel
theorem dX2_passByte_27 : decode cX2_passByte 27 = .ok (.iconst 1, 1) := by decide +kernel
theorem dX2_passByte_28 : decode cX2_passByte 28 = .ok (.ireturn, 1) := by decide +kernel
theorem dX2_passSpaces_0 : decode cX2_passSpaces 0 = .ok (.aload_n 0, 1) := by decide +kernel
theorem dX2_passSpaces_1 : decode cX2_passSpaces 1 = .ok (.getfield 22, 3) := by decide +kernel
theorem dX2_passSpaces_4 : decode cX2_passSpaces 4 = .ok (.aload_n 0, 1) := by decide +kernel
theorem dX2_passSpaces_5 : decode cX2_passSpaces 5 = .ok (.getfield 18, 3) := by decide +kernel
theorem dX2_passSpaces_8 : decode cX2_passSpaces 8 = .ok (.if_icmp .ge 30, 3) := by decide +kernel
theorem dX2_passSpaces_11 : decode cX2_passSpaces 11 = .ok (.aload_n 0, 1) := by decide +kernel
theorem dX2_passSpaces_12 : decode cX2_passSpaces 12 = .ok (.getfield 9, 3) := by decide +kernel
theorem dX2_passSpaces_15 : decode cX2_passSpaces 15 = .ok (.aload_n 0, 1) := by decide +kernel
theorem dX2_passSpaces_16 : decode cX2_passSpaces 16 = .ok (.getfield 22, 3) := by decide +kernel
theorem dX2_passSpaces_19 : decode cX2_passSpaces 19 = .ok (.iaload, 1) := by decide +kernel
theorem dX2_passSpaces_20 : decode cX2_passSpaces 20 = .ok (.bipush 32, 2) := by decide +kernel
theorem dX2_passSpaces_22 : decode cX2_passSpaces 22 = .ok (.if_icmp .ne 16, 3) := by decide +kernel
theorem dX2_passSpaces_25 : decode cX2_passSpaces 25 = .ok (.aload_n 0, 1) := by decide +kernel
theorem dX2_passSpaces_26 : decode cX2_passSpaces 26 = .ok (.dup, 1) := by decide +kernel
theorem dX2_passSpaces_27 : decode cX2_passSpaces 27 = .ok (.getfield 22, 3) := by decide +kernel
theorem dX2_passSpaces_30 : decode cX2_passSpaces 30 = .ok (.iconst 1, 1) := by decide +kernel
theorem dX2_passSpaces_31 : decode cX2_passSpaces 31 = .ok (.iadd, 1) := by decide +kernel
theorem dX2_passSpaces_32 : decode cX2_passSpaces 32 = .ok (.putfield 22, 3) := by decide +kernel
theorem dX2_passSpaces_35 : decode cX2_passSpaces 35 = .ok (.goto (-35), 3) := by decide +kernel
theorem dX2_passSpaces_38 : decode cX2_passSpaces 38 = .ok (.return_, 1) := by decide +kernel
set_option maxRecDepth 20000 in
theorem ggX2_readWord_X6_inside : GoodIn wsX2_readWord wsX6_inside := goodIn_r _ [7] (by decide +kernel) (by decide +kernel)
set_option maxRecDepth 20000 in
theorem gX2_readWord_X6_inside_n62 : GoodIn wsX2_readWord (wsX6_inside) := ggX2_readWord_X6_inside
set_option maxRecDepth 20000 in
theorem ggX2_readWord_X2_textOf : GoodIn wsX2_readWord wsX2_textOf := goodIn_r _ [11] (by decide +kernel) (by decide +kernel)
set_option maxRecDepth 20000 in
theorem gX2_readWord_X2_textOf : GoodIn wsX2_readWord (va_wsS RX2 66 yX2_textOf wsX2_textOf) := goodIn_app (goodIn_of _ (by decide +kernel)) ggX2_readWord_X2_textOf
set_option maxRecDepth 20000 in
theorem ggX2_readWord_X2_spells : GoodIn wsX2_readWord wsX2_spells := goodIn_r _ [15, 1, 3, 16, 17, 18, 19, 20, 21, 22, 23, 24, 25, 26, 27, 28, 29, 30, 31, 32, 33, 34, 35, 36, 37, 38, 39, 40, 41, 42, 43, 44, 45, 46, 47, 48, 49, 50, 51, 52, 53, 54, 55, 56, 57, 58, 59, 60, 61, 62, 63, 64, 70, 71, 72, 73, 74, 75] (by decide +kernel) (by decide +kernel)
set_option maxRecDepth 20000 in
theorem gX2_readWord_X2_spells : GoodIn wsX2_readWord (wsV RX2 70 RX2 yX2_spells wsX2_spells) := goodIn_app (goodIn_of _ (by decide +kernel)) ggX2_readWord_X2_spells
set_option maxRecDepth 20000 in
theorem ggX2_readWord_X2_failAt : GoodIn wsX2_readWord wsX2_failAt := goodIn_r _ [68, 69, 70, 71, 72, 73, 74, 75] (by decide +kernel) (by decide +kernel)
set_option maxRecDepth 20000 in
theorem gX2_readWord_X2_failAt : GoodIn wsX2_readWord (wsV RX2 59 RX2 yX2_failAt wsX2_failAt) := goodIn_app (goodIn_of _ (by decide +kernel)) ggX2_readWord_X2_failAt
theorem dX2_readWord_0 : decode cX2_readWord 0 = .ok (.aload_n 0, 1) := by decide +kernel
theorem dX2_readWord_1 : decode cX2_readWord 1 = .ok (.getfield 22, 3) := by decide +kernel
theorem dX2_readWord_4 : decode cX2_readWord 4 = .ok (.istore_n 1, 1) := by decide +kernel
theorem dX2_readWord_5 : decode cX2_readWord 5 = .ok (.aload_n 0, 1) := by decide +kernel
theorem dX2_readWord_6 : decode cX2_readWord 6 = .ok (.getfield 22, 3) := by decide +kernel
theorem dX2_readWord_9 : decode cX2_readWord 9 = .ok (.aload_n 0, 1) := by decide +kernel
theorem dX2_readWord_10 : decode cX2_readWord 10 = .ok (.getfield 18, 3) := by decide +kernel
theorem dX2_readWord_13 : decode cX2_readWord 13 = .ok (.if_icmp .ge 35, 3) := by decide +kernel
theorem dX2_readWord_16 : decode cX2_readWord 16 = .ok (.aload_n 0, 1) := by decide +kernel
theorem dX2_readWord_17 : decode cX2_readWord 17 = .ok (.getfield 9, 3) := by decide +kernel
theorem dX2_readWord_20 : decode cX2_readWord 20 = .ok (.aload_n 0, 1) := by decide +kernel
theorem dX2_readWord_21 : decode cX2_readWord 21 = .ok (.getfield 22, 3) := by decide +kernel
theorem dX2_readWord_24 : decode cX2_readWord 24 = .ok (.iaload, 1) := by decide +kernel
theorem dX2_readWord_25 : decode cX2_readWord 25 = .ok (.bipush 97, 2) := by decide +kernel
theorem dX2_readWord_27 : decode cX2_readWord 27 = .ok (.bipush 122, 2) := by decide +kernel
theorem dX2_readWord_29 : decode cX2_readWord 29 = .ok (.invokestatic 62, 3) := by decide +kernel
theorem dX2_readWord_32 : decode cX2_readWord 32 = .ok (.ifCond .eq 16, 3) := by decide +kernel
theorem dX2_readWord_35 : decode cX2_readWord 35 = .ok (.aload_n 0, 1) := by decide +kernel
theorem dX2_readWord_36 : decode cX2_readWord 36 = .ok (.dup, 1) := by decide +kernel
theorem dX2_readWord_37 : decode cX2_readWord 37 = .ok (.getfield 22, 3) := by decide +kernel
theorem dX2_readWord_40 : decode cX2_readWord 40 = .ok (.iconst 1, 1) := by decide +kernel
theorem dX2_readWord_41 : decode cX2_readWord 41 = .ok (.iadd, 1) := by decide +kernel
theorem dX2_readWord_42 : decode cX2_readWord 42 = .ok (.putfield 22, 3) := by decide +kernel
theorem dX2_readWord_45 : decode cX2_readWord 45 = .ok (.goto (-40), 3) := by decide +kernel
theorem dX2_readWord_48 : decode cX2_readWord 48 = .ok (.iconst 0, 1) := by decide +kernel
theorem dX2_readWord_49 : decode cX2_readWord 49 = .ok (.istore_n 2, 1) := by decide +kernel
theorem dX2_readWord_50 : decode cX2_readWord 50 = .ok (.iload_n 2, 1) := by decide +kernel
theorem dX2_readWord_51 : decode cX2_readWord 51 = .ok (.iconst 5, 1) := by decide +kernel
theorem dX2_readWord_52 : decode cX2_readWord 52 = .ok (.if_icmp .ge 28, 3) := by decide +kernel
theorem dX2_readWord_55 : decode cX2_readWord 55 = .ok (.aload_n 0, 1) := by decide +kernel
theorem dX2_readWord_56 : decode cX2_readWord 56 = .ok (.iload_n 2, 1) := by decide +kernel
theorem dX2_readWord_57 : decode cX2_readWord 57 = .ok (.invokestatic 66, 3) := by decide +kernel
theorem dX2_readWord_60 : decode cX2_readWord 60 = .ok (.iload_n 1, 1) := by decide +kernel
theorem dX2_readWord_61 : decode cX2_readWord 61 = .ok (.invokevirtual 70, 3) := by decide +kernel
theorem dX2_readWord_64 : decode cX2_readWord 64 = .ok (.ifCond .eq 10, 3) := by decide +kernel
theorem dX2_readWord_67 : decode cX2_readWord 67 = .ok (.aload_n 0, 1) := by decide +kernel
theorem dX2_readWord_68 : decode cX2_readWord 68 = .ok (.iload_n 2, 1) := by decide +kernel
theorem dX2_readWord_69 : decode cX2_readWord 69 = .ok (.putfield 41, 3) := by decide +kernel
theorem dX2_readWord_72 : decode cX2_readWord 72 = .ok (.iconst 1, 1) := by decide +kernel
theorem dX2_readWord_73 : decode cX2_readWord 73 = .ok (.ireturn, 1) := by decide +kernel
theorem dX2_readWord_74 : decode cX2_readWord 74 = .ok (.iinc 2 1, 3) := by decide +kernel
theorem dX2_readWord_77 : decode cX2_readWord 77 = .ok (.goto (-27), 3) := by decide +kernel
theorem dX2_readWord_80 : decode cX2_readWord 80 = .ok (.aload_n 0, 1) := by decide +kernel
theorem dX2_readWord_81 : decode cX2_readWord 81 = .ok (.iload_n 1, 1) := by decide +kernel
theorem dX2_readWord_82 : decode cX2_readWord 82 = .ok (.invokevirtual 59, 3) := by decide +kernel
theorem dX2_readWord_85 : decode cX2_readWord 85 = .ok (.ireturn, 1) := by decide +kernel
set_option maxRecDepth 20000 in
theorem ggX2_spells_J0_length_8abf5 : GoodIn wsX2_spells wsJ0_length_8abf5 := goodIn_r _ [7, 8, 9, 10, 11, 6, 12, 13, 14] (by decide +kernel) (by decide +kernel)
set_option maxRecDepth 20000 in
theorem gX2_spells_J0_length_8abf5 : GoodIn wsX2_spells (wsV RX2 74 RJ0 yJ0_length_8abf5 wsJ0_length_8abf5) := goodIn_app (goodIn_of _ (by decide +kernel)) ggX2_spells_J0_length_8abf5
set_option maxRecDepth 20000 in
theorem ggX2_spells_J0_charAt_5068e : GoodIn wsX2_spells wsJ0_charAt_5068e := goodIn_r _ [18, 8, 19, 20, 21, 6, 22, 13, 14, 23, 24, 25, 26, 27, 28, 29, 30, 31, 32, 33, 34, 35, 36, 37, 38, 39, 40, 41, 42, 43, 44, 45, 46, 47, 48, 49, 50, 51] (by decide +kernel) (by decide +kernel)
set_option maxRecDepth 20000 in
theorem gX2_spells_J0_charAt_5068e : GoodIn wsX2_spells (wsV RX2 78 RJ0 yJ0_charAt_5068e wsJ0_charAt_5068e) := goodIn_app (goodIn_of _ (by decide +kernel)) ggX2_spells_J0_charAt_5068e
theorem dX2_spells_0 : decode cX2_spells 0 = .ok (.aload_n 0, 1) := by decide +kernel
theorem dX2_spells_1 : decode cX2_spells 1 = .ok (.getfield 22, 3) := by decide +kernel
theorem dX2_spells_4 : decode cX2_spells 4 = .ok (.iload_n 2, 1) := by decide +kernel
theorem dX2_spells_5 : decode cX2_spells 5 = .ok (.isub, 1) := by decide +kernel
theorem dX2_spells_6 : decode cX2_spells 6 = .ok (.aload_n 1, 1) := by decide +kernel
theorem dX2_spells_7 : decode cX2_spells 7 = .ok (.invokevirtual 74, 3) := by decide +kernel
theorem dX2_spells_10 : decode cX2_spells 10 = .ok (.if_icmp .eq 5, 3) := by decide +kernel
theorem dX2_spells_13 : decode cX2_spells 13 = .ok (.iconst 0, 1) := by decide +kernel
theorem dX2_spells_14 : decode cX2_spells 14 = .ok (.ireturn, 1) := by decide +kernel
theorem dX2_spells_15 : decode cX2_spells 15 = .ok (.iconst 0, 1) := by decide +kernel
theorem dX2_spells_16 : decode cX2_spells 16 = .ok (.istore_n 3, 1) := by decide +kernel
theorem dX2_spells_17 : decode cX2_spells 17 = .ok (.iload_n 3, 1) := by decide +kernel
theorem dX2_spells_18 : decode cX2_spells 18 = .ok (.aload_n 1, 1) := by decide +kernel
theorem dX2_spells_19 : decode cX2_spells 19 = .ok (.invokevirtual 74, 3) := by decide +kernel
theorem dX2_spells_22 : decode cX2_spells 22 = .ok (.if_icmp .ge 27, 3) := by decide +kernel
theorem dX2_spells_25 : decode cX2_spells 25 = .ok (.aload_n 0, 1) := by decide +kernel
theorem dX2_spells_26 : decode cX2_spells 26 = .ok (.getfield 9, 3) := by decide +kernel
theorem dX2_spells_29 : decode cX2_spells 29 = .ok (.iload_n 2, 1) := by decide +kernel
theorem dX2_spells_30 : decode cX2_spells 30 = .ok (.iload_n 3, 1) := by decide +kernel
theorem dX2_spells_31 : decode cX2_spells 31 = .ok (.iadd, 1) := by decide +kernel
theorem dX2_spells_32 : decode cX2_spells 32 = .ok (.iaload, 1) := by decide +kernel
theorem dX2_spells_33 : decode cX2_spells 33 = .ok (.aload_n 1, 1) := by decide +kernel
theorem dX2_spells_34 : decode cX2_spells 34 = .ok (.iload_n 3, 1) := by decide +kernel
theorem dX2_spells_35 : decode cX2_spells 35 = .ok (.invokevirtual 78, 3) := by decide +kernel
theorem dX2_spells_38 : decode cX2_spells 38 = .ok (.if_icmp .eq 5, 3) := by decide +kernel
theorem dX2_spells_41 : decode cX2_spells 41 = .ok (.iconst 0, 1) := by decide +kernel
theorem dX2_spells_42 : decode cX2_spells 42 = .ok (.ireturn, 1) := by decide +kernel
theorem dX2_spells_43 : decode cX2_spells 43 = .ok (.iinc 3 1, 3) := by decide +kernel
theorem dX2_spells_46 : decode cX2_spells 46 = .ok (.goto (-29), 3) := by decide +kernel
theorem dX2_spells_49 : decode cX2_spells 49 = .ok (.iconst 1, 1) := by decide +kernel
theorem dX2_spells_50 : decode cX2_spells 50 = .ok (.ireturn, 1) := by decide +kernel
set_option maxRecDepth 20000 in
theorem ggX2_readNumber_X2_passByte : GoodIn wsX2_readNumber wsX2_passByte := goodIn_r _ [7, 1, 8, 9, 10, 6, 11, 12, 13, 14, 15, 16, 17, 18, 29, 30, 31, 32, 33, 34] (by decide +kernel) (by decide +kernel)
set_option maxRecDepth 20000 in
theorem gX2_readNumber_X2_passByte : GoodIn wsX2_readNumber (wsV RX2 52 RX2 yX2_passByte wsX2_passByte) := goodIn_app (goodIn_of _ (by decide +kernel)) ggX2_readNumber_X2_passByte
set_option maxRecDepth 20000 in
theorem ggX2_readNumber_X2_passSpaces : GoodIn wsX2_readNumber wsX2_passSpaces := goodIn_r _ [22, 1, 12, 13, 29, 30, 31, 32, 33, 34] (by decide +kernel) (by decide +kernel)
set_option maxRecDepth 20000 in
theorem gX2_readNumber_X2_passSpaces : GoodIn wsX2_readNumber (wsV RX2 35 RX2 yX2_passSpaces wsX2_passSpaces) := goodIn_app (goodIn_of _ (by decide +kernel)) ggX2_readNumber_X2_passSpaces
set_option maxRecDepth 20000 in
theorem ggX2_readNumber_X2_peek : GoodIn wsX2_readNumber wsX2_peek := goodIn_r _ [11, 1, 12, 13, 29, 30, 31, 32, 33, 34] (by decide +kernel) (by decide +kernel)
set_option maxRecDepth 20000 in
theorem gX2_readNumber_X2_peek : GoodIn wsX2_readNumber (wsV RX2 55 RX2 yX2_peek wsX2_peek) := goodIn_app (goodIn_of _ (by decide +kernel)) ggX2_readNumber_X2_peek
set_option maxRecDepth 20000 in
theorem ggX2_readNumber_X2_isDigit : GoodIn wsX2_readNumber wsX2_isDigit := goodIn_r _ [25, 26, 27, 28] (by decide +kernel) (by decide +kernel)
set_option maxRecDepth 20000 in
theorem gX2_readNumber_X2_isDigit : GoodIn wsX2_readNumber (va_wsS RX2 82 yX2_isDigit wsX2_isDigit) := goodIn_app (goodIn_of _ (by decide +kernel)) ggX2_readNumber_X2_isDigit
set_option maxRecDepth 20000 in
theorem ggX2_readNumber_X2_failAt : GoodIn wsX2_readNumber wsX2_failAt := goodIn_r _ [17, 18, 29, 30, 31, 32, 33, 34] (by decide +kernel) (by decide +kernel)
set_option maxRecDepth 20000 in
theorem gX2_readNumber_X2_failAt : GoodIn wsX2_readNumber (wsV RX2 59 RX2 yX2_failAt wsX2_failAt) := goodIn_app (goodIn_of _ (by decide +kernel)) ggX2_readNumber_X2_failAt
theorem dX2_readNumber_0 : decode cX2_readNumber 0 = .ok (.aload_n 0, 1) := by decide +kernel
theorem dX2_readNumber_1 : decode cX2_readNumber 1 = .ok (.bipush 32, 2) := by decide +kernel
theorem dX2_readNumber_3 : decode cX2_readNumber 3 = .ok (.invokevirtual 52, 3) := by decide +kernel
theorem dX2_readNumber_6 : decode cX2_readNumber 6 = .ok (.ifCond .ne 5, 3) := by decide +kernel
theorem dX2_readNumber_9 : decode cX2_readNumber 9 = .ok (.iconst 0, 1) := by decide +kernel
theorem dX2_readNumber_10 : decode cX2_readNumber 10 = .ok (.ireturn, 1) := by decide +kernel
theorem dX2_readNumber_11 : decode cX2_readNumber 11 = .ok (.aload_n 0, 1) := by decide +kernel
theorem dX2_readNumber_12 : decode cX2_readNumber 12 = .ok (.invokevirtual 35, 3) := by decide +kernel
theorem dX2_readNumber_15 : decode cX2_readNumber 15 = .ok (.aload_n 0, 1) := by decide +kernel
theorem dX2_readNumber_16 : decode cX2_readNumber 16 = .ok (.invokevirtual 55, 3) := by decide +kernel
theorem dX2_readNumber_19 : decode cX2_readNumber 19 = .ok (.bipush 45, 2) := by decide +kernel
theorem dX2_readNumber_21 : decode cX2_readNumber 21 = .ok (.if_icmp .ne 7, 3) := by decide +kernel
theorem dX2_readNumber_24 : decode cX2_readNumber 24 = .ok (.iconst 1, 1) := by decide +kernel
theorem dX2_readNumber_25 : decode cX2_readNumber 25 = .ok (.goto 4, 3) := by decide +kernel
theorem dX2_readNumber_28 : decode cX2_readNumber 28 = .ok (.iconst 0, 1) := by decide +kernel
theorem dX2_readNumber_29 : decode cX2_readNumber 29 = .ok (.istore_n 2, 1) := by decide +kernel
theorem dX2_readNumber_30 : decode cX2_readNumber 30 = .ok (.iload_n 2, 1) := by decide +kernel
theorem dX2_readNumber_31 : decode cX2_readNumber 31 = .ok (.ifCond .eq 13, 3) := by decide +kernel
theorem dX2_readNumber_34 : decode cX2_readNumber 34 = .ok (.aload_n 0, 1) := by decide +kernel
theorem dX2_readNumber_35 : decode cX2_readNumber 35 = .ok (.dup, 1) := by decide +kernel
theorem dX2_readNumber_36 : decode cX2_readNumber 36 = .ok (.getfield 22, 3) := by decide +kernel
theorem dX2_readNumber_39 : decode cX2_readNumber 39 = .ok (.iconst 1, 1) := by decide +kernel
theorem dX2_readNumber_40 : decode cX2_readNumber 40 = .ok (.iadd, 1) := by decide +kernel
theorem dX2_readNumber_41 : decode cX2_readNumber 41 = .ok (.putfield 22, 3) := by decide +kernel
theorem dX2_readNumber_44 : decode cX2_readNumber 44 = .ok (.aload_n 0, 1) := by decide +kernel
theorem dX2_readNumber_45 : decode cX2_readNumber 45 = .ok (.invokevirtual 55, 3) := by decide +kernel
theorem dX2_readNumber_48 : decode cX2_readNumber 48 = .ok (.invokestatic 82, 3) := by decide +kernel
theorem dX2_readNumber_51 : decode cX2_readNumber 51 = .ok (.ifCond .ne 12, 3) := by decide +kernel
theorem dX2_readNumber_54 : decode cX2_readNumber 54 = .ok (.aload_n 0, 1) := by decide +kernel
theorem dX2_readNumber_55 : decode cX2_readNumber 55 = .ok (.aload_n 0, 1) := by decide +kernel
theorem dX2_readNumber_56 : decode cX2_readNumber 56 = .ok (.getfield 22, 3) := by decide +kernel
theorem dX2_readNumber_59 : decode cX2_readNumber 59 = .ok (.invokevirtual 59, 3) := by decide +kernel
theorem dX2_readNumber_62 : decode cX2_readNumber 62 = .ok (.ireturn, 1) := by decide +kernel
theorem dX2_readNumber_63 : decode cX2_readNumber 63 = .ok (.aload_n 0, 1) := by decide +kernel
theorem dX2_readNumber_64 : decode cX2_readNumber 64 = .ok (.invokevirtual 55, 3) := by decide +kernel
theorem dX2_readNumber_67 : decode cX2_readNumber 67 = .ok (.bipush 48, 2) := by decide +kernel
theorem dX2_readNumber_69 : decode cX2_readNumber 69 = .ok (.isub, 1) := by decide +kernel
theorem dX2_readNumber_70 : decode cX2_readNumber 70 = .ok (.istore_n 3, 1) := by decide +kernel
theorem dX2_readNumber_71 : decode cX2_readNumber 71 = .ok (.aload_n 0, 1) := by decide +kernel
theorem dX2_readNumber_72 : decode cX2_readNumber 72 = .ok (.dup, 1) := by decide +kernel
theorem dX2_readNumber_73 : decode cX2_readNumber 73 = .ok (.getfield 22, 3) := by decide +kernel
theorem dX2_readNumber_76 : decode cX2_readNumber 76 = .ok (.iconst 1, 1) := by decide +kernel
theorem dX2_readNumber_77 : decode cX2_readNumber 77 = .ok (.iadd, 1) := by decide +kernel
theorem dX2_readNumber_78 : decode cX2_readNumber 78 = .ok (.putfield 22, 3) := by decide +kernel
theorem dX2_readNumber_81 : decode cX2_readNumber 81 = .ok (.aload_n 0, 1) := by decide +kernel
theorem dX2_readNumber_82 : decode cX2_readNumber 82 = .ok (.invokevirtual 55, 3) := by decide +kernel
theorem dX2_readNumber_85 : decode cX2_readNumber 85 = .ok (.invokestatic 82, 3) := by decide +kernel
theorem dX2_readNumber_88 : decode cX2_readNumber 88 = .ok (.ifCond .eq 26, 3) := by decide +kernel
theorem dX2_readNumber_91 : decode cX2_readNumber 91 = .ok (.bipush 10, 2) := by decide +kernel
theorem dX2_readNumber_93 : decode cX2_readNumber 93 = .ok (.iload_n 3, 1) := by decide +kernel
theorem dX2_readNumber_94 : decode cX2_readNumber 94 = .ok (.imul, 1) := by decide +kernel
theorem dX2_readNumber_95 : decode cX2_readNumber 95 = .ok (.aload_n 0, 1) := by decide +kernel
theorem dX2_readNumber_96 : decode cX2_readNumber 96 = .ok (.invokevirtual 55, 3) := by decide +kernel
theorem dX2_readNumber_99 : decode cX2_readNumber 99 = .ok (.iadd, 1) := by decide +kernel
theorem dX2_readNumber_100 : decode cX2_readNumber 100 = .ok (.bipush 48, 2) := by decide +kernel
theorem dX2_readNumber_102 : decode cX2_readNumber 102 = .ok (.isub, 1) := by decide +kernel
theorem dX2_readNumber_103 : decode cX2_readNumber 103 = .ok (.istore_n 3, 1) := by decide +kernel
theorem dX2_readNumber_104 : decode cX2_readNumber 104 = .ok (.aload_n 0, 1) := by decide +kernel
theorem dX2_readNumber_105 : decode cX2_readNumber 105 = .ok (.dup, 1) := by decide +kernel
theorem dX2_readNumber_106 : decode cX2_readNumber 106 = .ok (.getfield 22, 3) := by decide +kernel
theorem dX2_readNumber_109 : decode cX2_readNumber 109 = .ok (.iconst 1, 1) := by decide +kernel
theorem dX2_readNumber_110 : decode cX2_readNumber 110 = .ok (.iadd, 1) := by decide +kernel
theorem dX2_readNumber_111 : decode cX2_readNumber 111 = .ok (.putfield 22, 3) := by decide +kernel
theorem dX2_readNumber_114 : decode cX2_readNumber 114 = .ok (.aload_n 0, 1) := by decide +kernel
theorem dX2_readNumber_115 : decode cX2_readNumber 115 = .ok (.getfield 15, 3) := by decide +kernel
theorem dX2_readNumber_118 : decode cX2_readNumber 118 = .ok (.iload_n 1, 1) := by decide +kernel
theorem dX2_readNumber_119 : decode cX2_readNumber 119 = .ok (.iload_n 2, 1) := by decide +kernel
theorem dX2_readNumber_120 : decode cX2_readNumber 120 = .ok (.ifCond .eq 8, 3) := by decide +kernel
theorem dX2_readNumber_123 : decode cX2_readNumber 123 = .ok (.iload_n 3, 1) := by decide +kernel
theorem dX2_readNumber_124 : decode cX2_readNumber 124 = .ok (.ineg, 1) := by decide +kernel
theorem dX2_readNumber_125 : decode cX2_readNumber 125 = .ok (.goto 4, 3) := by decide +kernel
theorem dX2_readNumber_128 : decode cX2_readNumber 128 = .ok (.iload_n 3, 1) := by decide +kernel
theorem dX2_readNumber_129 : decode cX2_readNumber 129 = .ok (.iastore, 1) := by decide +kernel
theorem dX2_readNumber_130 : decode cX2_readNumber 130 = .ok (.iconst 1, 1) := by decide +kernel
theorem dX2_readNumber_131 : decode cX2_readNumber 131 = .ok (.ireturn, 1) := by decide +kernel
set_option maxRecDepth 20000 in
theorem ggX2_isDigit_X6_inside : GoodIn wsX2_isDigit wsX6_inside := goodIn_r _ [3] (by decide +kernel) (by decide +kernel)
set_option maxRecDepth 20000 in
theorem gX2_isDigit_X6_inside_n62 : GoodIn wsX2_isDigit (wsX6_inside) := ggX2_isDigit_X6_inside
theorem dX2_isDigit_0 : decode cX2_isDigit 0 = .ok (.iload_n 0, 1) := by decide +kernel
theorem dX2_isDigit_1 : decode cX2_isDigit 1 = .ok (.bipush 48, 2) := by decide +kernel
theorem dX2_isDigit_3 : decode cX2_isDigit 3 = .ok (.bipush 57, 2) := by decide +kernel
theorem dX2_isDigit_5 : decode cX2_isDigit 5 = .ok (.invokestatic 62, 3) := by decide +kernel
theorem dX2_isDigit_8 : decode cX2_isDigit 8 = .ok (.ireturn, 1) := by decide +kernel
theorem dX2_textOf_0 : decode cX2_textOf 0 = .ok (.iload_n 0, 1) := by decide +kernel
theorem dX2_textOf_1 : decode cX2_textOf 1 = .ok (.tableswitch 43 0 3 #[31, 34, 37, 40], 31) := by decide +kernel
theorem dX2_textOf_32 : decode cX2_textOf 32 = .ok (.ldc 85, 2) := by decide +kernel
theorem dX2_textOf_34 : decode cX2_textOf 34 = .ok (.areturn, 1) := by decide +kernel
theorem dX2_textOf_35 : decode cX2_textOf 35 = .ok (.ldc 87, 2) := by decide +kernel
theorem dX2_textOf_37 : decode cX2_textOf 37 = .ok (.areturn, 1) := by decide +kernel
theorem dX2_textOf_38 : decode cX2_textOf 38 = .ok (.ldc 89, 2) := by decide +kernel
theorem dX2_textOf_40 : decode cX2_textOf 40 = .ok (.areturn, 1) := by decide +kernel
theorem dX2_textOf_41 : decode cX2_textOf 41 = .ok (.ldc 91, 2) := by decide +kernel
theorem dX2_textOf_43 : decode cX2_textOf 43 = .ok (.areturn, 1) := by decide +kernel
theorem dX2_textOf_44 : decode cX2_textOf 44 = .ok (.ldc 93, 2) := by decide +kernel
theorem dX2_textOf_46 : decode cX2_textOf 46 = .ok (.areturn, 1) := by decide +kernel
theorem dX2_numbersOf_0 : decode cX2_numbersOf 0 = .ok (.iload_n 0, 1) := by decide +kernel
theorem dX2_numbersOf_1 : decode cX2_numbersOf 1 = .ok (.iconst 2, 1) := by decide +kernel
theorem dX2_numbersOf_2 : decode cX2_numbersOf 2 = .ok (.if_icmp .eq 8, 3) := by decide +kernel
theorem dX2_numbersOf_5 : decode cX2_numbersOf 5 = .ok (.iload_n 0, 1) := by decide +kernel
theorem dX2_numbersOf_6 : decode cX2_numbersOf 6 = .ok (.iconst 4, 1) := by decide +kernel
theorem dX2_numbersOf_7 : decode cX2_numbersOf 7 = .ok (.if_icmp .ne 7, 3) := by decide +kernel
theorem dX2_numbersOf_10 : decode cX2_numbersOf 10 = .ok (.iconst 1, 1) := by decide +kernel
theorem dX2_numbersOf_11 : decode cX2_numbersOf 11 = .ok (.goto 4, 3) := by decide +kernel
theorem dX2_numbersOf_14 : decode cX2_numbersOf 14 = .ok (.iconst 3, 1) := by decide +kernel
theorem dX2_numbersOf_15 : decode cX2_numbersOf 15 = .ok (.ireturn, 1) := by decide +kernel
theorem dX3_code_0 : decode cX3_code 0 = .ok (.iload_n 1, 1) := by decide +kernel
theorem dX3_code_1 : decode cX3_code 1 = .ok (.bipush 16, 2) := by decide +kernel
theorem dX3_code_3 : decode cX3_code 3 = .ok (.ishl, 1) := by decide +kernel
theorem dX3_code_4 : decode cX3_code 4 = .ok (.iload_n 0, 1) := by decide +kernel
theorem dX3_code_5 : decode cX3_code 5 = .ok (.ior, 1) := by decide +kernel
theorem dX3_code_6 : decode cX3_code 6 = .ok (.istore_n 2, 1) := by decide +kernel
theorem dX3_code_7 : decode cX3_code 7 = .ok (.iload_n 2, 1) := by decide +kernel
theorem dX3_code_8 : decode cX3_code 8 = .ok (.iload_n 2, 1) := by decide +kernel
theorem dX3_code_9 : decode cX3_code 9 = .ok (.iconst 4, 1) := by decide +kernel
theorem dX3_code_10 : decode cX3_code 10 = .ok (.ishl, 1) := by decide +kernel
theorem dX3_code_11 : decode cX3_code 11 = .ok (.ior, 1) := by decide +kernel
theorem dX3_code_12 : decode cX3_code 12 = .ok (.ldc 7, 2) := by decide +kernel
theorem dX3_code_14 : decode cX3_code 14 = .ok (.iand, 1) := by decide +kernel
theorem dX3_code_15 : decode cX3_code 15 = .ok (.istore_n 2, 1) := by decide +kernel
theorem dX3_code_16 : decode cX3_code 16 = .ok (.iload_n 2, 1) := by decide +kernel
theorem dX3_code_17 : decode cX3_code 17 = .ok (.iload_n 2, 1) := by decide +kernel
theorem dX3_code_18 : decode cX3_code 18 = .ok (.iconst 2, 1) := by decide +kernel
theorem dX3_code_19 : decode cX3_code 19 = .ok (.ishl, 1) := by decide +kernel
theorem dX3_code_20 : decode cX3_code 20 = .ok (.ior, 1) := by decide +kernel
theorem dX3_code_21 : decode cX3_code 21 = .ok (.ldc 8, 2) := by decide +kernel
theorem dX3_code_23 : decode cX3_code 23 = .ok (.iand, 1) := by decide +kernel
theorem dX3_code_24 : decode cX3_code 24 = .ok (.istore_n 2, 1) := by decide +kernel
theorem dX3_code_25 : decode cX3_code 25 = .ok (.iload_n 2, 1) := by decide +kernel
theorem dX3_code_26 : decode cX3_code 26 = .ok (.iload_n 2, 1) := by decide +kernel
theorem dX3_code_27 : decode cX3_code 27 = .ok (.iconst 1, 1) := by decide +kernel
theorem dX3_code_28 : decode cX3_code 28 = .ok (.ishl, 1) := by decide +kernel
theorem dX3_code_29 : decode cX3_code 29 = .ok (.ior, 1) := by decide +kernel
theorem dX3_code_30 : decode cX3_code 30 = .ok (.ldc 9, 2) := by decide +kernel
theorem dX3_code_32 : decode cX3_code 32 = .ok (.iand, 1) := by decide +kernel
theorem dX3_code_33 : decode cX3_code 33 = .ok (.istore_n 2, 1) := by decide +kernel
theorem dX3_code_34 : decode cX3_code 34 = .ok (.iload_n 2, 1) := by decide +kernel
theorem dX3_code_35 : decode cX3_code 35 = .ok (.iload_n 2, 1) := by decide +kernel
theorem dX3_code_36 : decode cX3_code 36 = .ok (.bipush 15, 2) := by decide +kernel
theorem dX3_code_38 : decode cX3_code 38 = .ok (.ishr, 1) := by decide +kernel
theorem dX3_code_39 : decode cX3_code 39 = .ok (.ior, 1) := by decide +kernel
theorem dX3_code_40 : decode cX3_code 40 = .ok (.ldc 10, 2) := by decide +kernel
theorem dX3_code_42 : decode cX3_code 42 = .ok (.iand, 1) := by decide +kernel
theorem dX3_code_43 : decode cX3_code 43 = .ok (.ireturn, 1) := by decide +kernel
set_option maxRecDepth 20000 in
theorem ggX3_xOf_X3_gather : GoodIn wsX3_xOf wsX3_gather := goodIn_r _ [4] (by decide +kernel) (by decide +kernel)
set_option maxRecDepth 20000 in
theorem gX3_xOf_X3_gather : GoodIn wsX3_xOf (va_wsS RX3 11 yX3_gather wsX3_gather) := goodIn_app (goodIn_of _ (by decide +kernel)) ggX3_xOf_X3_gather
theorem dX3_xOf_0 : decode cX3_xOf 0 = .ok (.iload_n 0, 1) := by decide +kernel
theorem dX3_xOf_1 : decode cX3_xOf 1 = .ok (.invokestatic 11, 3) := by decide +kernel
theorem dX3_xOf_4 : decode cX3_xOf 4 = .ok (.ireturn, 1) := by decide +kernel
set_option maxRecDepth 20000 in
theorem ggX3_yOf_X3_gather : GoodIn wsX3_yOf wsX3_gather := goodIn_r _ [4] (by decide +kernel) (by decide +kernel)
set_option maxRecDepth 20000 in
theorem gX3_yOf_X3_gather : GoodIn wsX3_yOf (va_wsS RX3 11 yX3_gather wsX3_gather) := goodIn_app (goodIn_of _ (by decide +kernel)) ggX3_yOf_X3_gather
theorem dX3_yOf_0 : decode cX3_yOf 0 = .ok (.iload_n 0, 1) := by decide +kernel
theorem dX3_yOf_1 : decode cX3_yOf 1 = .ok (.iconst 1, 1) := by decide +kernel
theorem dX3_yOf_2 : decode cX3_yOf 2 = .ok (.ishr, 1) := by decide +kernel
theorem dX3_yOf_3 : decode cX3_yOf 3 = .ok (.invokestatic 11, 3) := by decide +kernel
theorem dX3_yOf_6 : decode cX3_yOf 6 = .ok (.ireturn, 1) := by decide +kernel
theorem dX3_gather_0 : decode cX3_gather 0 = .ok (.iload_n 0, 1) := by decide +kernel
theorem dX3_gather_1 : decode cX3_gather 1 = .ok (.sipush 21845, 3) := by decide +kernel
theorem dX3_gather_4 : decode cX3_gather 4 = .ok (.iand, 1) := by decide +kernel
theorem dX3_gather_5 : decode cX3_gather 5 = .ok (.istore_n 1, 1) := by decide +kernel
theorem dX3_gather_6 : decode cX3_gather 6 = .ok (.iload_n 1, 1) := by decide +kernel
theorem dX3_gather_7 : decode cX3_gather 7 = .ok (.iload_n 1, 1) := by decide +kernel
theorem dX3_gather_8 : decode cX3_gather 8 = .ok (.iconst 1, 1) := by decide +kernel
theorem dX3_gather_9 : decode cX3_gather 9 = .ok (.ishr, 1) := by decide +kernel
theorem dX3_gather_10 : decode cX3_gather 10 = .ok (.ior, 1) := by decide +kernel
theorem dX3_gather_11 : decode cX3_gather 11 = .ok (.sipush 13107, 3) := by decide +kernel
theorem dX3_gather_14 : decode cX3_gather 14 = .ok (.iand, 1) := by decide +kernel
theorem dX3_gather_15 : decode cX3_gather 15 = .ok (.istore_n 1, 1) := by decide +kernel
theorem dX3_gather_16 : decode cX3_gather 16 = .ok (.iload_n 1, 1) := by decide +kernel
theorem dX3_gather_17 : decode cX3_gather 17 = .ok (.iload_n 1, 1) := by decide +kernel
theorem dX3_gather_18 : decode cX3_gather 18 = .ok (.iconst 2, 1) := by decide +kernel
theorem dX3_gather_19 : decode cX3_gather 19 = .ok (.ishr, 1) := by decide +kernel
theorem dX3_gather_20 : decode cX3_gather 20 = .ok (.ior, 1) := by decide +kernel
theorem dX3_gather_21 : decode cX3_gather 21 = .ok (.sipush 3855, 3) := by decide +kernel
theorem dX3_gather_24 : decode cX3_gather 24 = .ok (.iand, 1) := by decide +kernel
theorem dX3_gather_25 : decode cX3_gather 25 = .ok (.istore_n 1, 1) := by decide +kernel
theorem dX3_gather_26 : decode cX3_gather 26 = .ok (.iload_n 1, 1) := by decide +kernel
theorem dX3_gather_27 : decode cX3_gather 27 = .ok (.iload_n 1, 1) := by decide +kernel
theorem dX3_gather_28 : decode cX3_gather 28 = .ok (.iconst 4, 1) := by decide +kernel
theorem dX3_gather_29 : decode cX3_gather 29 = .ok (.ishr, 1) := by decide +kernel
theorem dX3_gather_30 : decode cX3_gather 30 = .ok (.ior, 1) := by decide +kernel
theorem dX3_gather_31 : decode cX3_gather 31 = .ok (.sipush 255, 3) := by decide +kernel
theorem dX3_gather_34 : decode cX3_gather 34 = .ok (.iand, 1) := by decide +kernel
theorem dX3_gather_35 : decode cX3_gather 35 = .ok (.ireturn, 1) := by decide +kernel
theorem dX3_around_0 : decode cX3_around 0 = .ok (.iload_n 0, 1) := by decide +kernel
theorem dX3_around_1 : decode cX3_around 1 = .ok (.iconst 2, 1) := by decide +kernel
theorem dX3_around_2 : decode cX3_around 2 = .ok (.iload_n 1, 1) := by decide +kernel
theorem dX3_around_3 : decode cX3_around 3 = .ok (.imul, 1) := by decide +kernel
theorem dX3_around_4 : decode cX3_around 4 = .ok (.ishr, 1) := by decide +kernel
theorem dX3_around_5 : decode cX3_around 5 = .ok (.iconst 2, 1) := by decide +kernel
theorem dX3_around_6 : decode cX3_around 6 = .ok (.iload_n 1, 1) := by decide +kernel
theorem dX3_around_7 : decode cX3_around 7 = .ok (.imul, 1) := by decide +kernel
theorem dX3_around_8 : decode cX3_around 8 = .ok (.ishl, 1) := by decide +kernel
theorem dX3_around_9 : decode cX3_around 9 = .ok (.istore_n 2, 1) := by decide +kernel
theorem dX3_around_10 : decode cX3_around 10 = .ok (.iload_n 2, 1) := by decide +kernel
theorem dX3_around_11 : decode cX3_around 11 = .ok (.bipush 8, 2) := by decide +kernel
theorem dX3_around_13 : decode cX3_around 13 = .ok (.imul, 1) := by decide +kernel
theorem dX3_around_14 : decode cX3_around 14 = .ok (.bipush 6, 2) := by decide +kernel
theorem dX3_around_16 : decode cX3_around 16 = .ok (.iadd, 1) := by decide +kernel
theorem dX3_around_17 : decode cX3_around 17 = .ok (.iload_n 1, 1) := by decide +kernel
theorem dX3_around_18 : decode cX3_around 18 = .ok (.isub, 1) := by decide +kernel
theorem dX3_around_19 : decode cX3_around 19 = .ok (.ireturn, 1) := by decide +kernel
theorem dX3_corner_0 : decode cX3_corner 0 = .ok (.iload_n 0, 1) := by decide +kernel
theorem dX3_corner_1 : decode cX3_corner 1 = .ok (.bipush 8, 2) := by decide +kernel
theorem dX3_corner_3 : decode cX3_corner 3 = .ok (.idiv, 1) := by decide +kernel
theorem dX3_corner_4 : decode cX3_corner 4 = .ok (.ireturn, 1) := by decide +kernel
theorem dX3_exponent_0 : decode cX3_exponent 0 = .ok (.bipush 6, 2) := by decide +kernel
theorem dX3_exponent_2 : decode cX3_exponent 2 = .ok (.iload_n 0, 1) := by decide +kernel
theorem dX3_exponent_3 : decode cX3_exponent 3 = .ok (.bipush 8, 2) := by decide +kernel
theorem dX3_exponent_5 : decode cX3_exponent 5 = .ok (.irem, 1) := by decide +kernel
theorem dX3_exponent_6 : decode cX3_exponent 6 = .ok (.isub, 1) := by decide +kernel
theorem dX3_exponent_7 : decode cX3_exponent 7 = .ok (.ireturn, 1) := by decide +kernel
set_option maxRecDepth 20000 in
theorem ggX3_size_X3_exponent : GoodIn wsX3_size wsX3_exponent := goodIn_r _ [4] (by decide +kernel) (by decide +kernel)
set_option maxRecDepth 20000 in
theorem gX3_size_X3_exponent : GoodIn wsX3_size (va_wsS RX3 17 yX3_exponent wsX3_exponent) := goodIn_app (goodIn_of _ (by decide +kernel)) ggX3_size_X3_exponent
theorem dX3_size_0 : decode cX3_size 0 = .ok (.iconst 1, 1) := by decide +kernel
theorem dX3_size_1 : decode cX3_size 1 = .ok (.iload_n 0, 1) := by decide +kernel
theorem dX3_size_2 : decode cX3_size 2 = .ok (.invokestatic 17, 3) := by decide +kernel
theorem dX3_size_5 : decode cX3_size 5 = .ok (.ishl, 1) := by decide +kernel
theorem dX3_size_6 : decode cX3_size 6 = .ok (.ireturn, 1) := by decide +kernel
set_option maxRecDepth 20000 in
theorem ggX3_holds_X3_corner : GoodIn wsX3_holds wsX3_corner := goodIn_r _ [4] (by decide +kernel) (by decide +kernel)
set_option maxRecDepth 20000 in
theorem gX3_holds_X3_corner : GoodIn wsX3_holds (va_wsS RX3 20 yX3_corner wsX3_corner) := goodIn_app (goodIn_of _ (by decide +kernel)) ggX3_holds_X3_corner
set_option maxRecDepth 20000 in
theorem ggX3_holds_X3_exponent : GoodIn wsX3_holds wsX3_exponent := goodIn_r _ [7] (by decide +kernel) (by decide +kernel)
set_option maxRecDepth 20000 in
theorem gX3_holds_X3_exponent : GoodIn wsX3_holds (va_wsS RX3 17 yX3_exponent wsX3_exponent) := goodIn_app (goodIn_of _ (by decide +kernel)) ggX3_holds_X3_exponent
theorem dX3_holds_0 : decode cX3_holds 0 = .ok (.iload_n 1, 1) := by decide +kernel
theorem dX3_holds_1 : decode cX3_holds 1 = .ok (.iload_n 0, 1) := by decide +kernel
theorem dX3_holds_2 : decode cX3_holds 2 = .ok (.invokestatic 20, 3) := by decide +kernel
theorem dX3_holds_5 : decode cX3_holds 5 = .ok (.ixor, 1) := by decide +kernel
theorem dX3_holds_6 : decode cX3_holds 6 = .ok (.iconst 2, 1) := by decide +kernel
theorem dX3_holds_7 : decode cX3_holds 7 = .ok (.iload_n 0, 1) := by decide +kernel
theorem dX3_holds_8 : decode cX3_holds 8 = .ok (.invokestatic 17, 3) := by decide +kernel
theorem dX3_holds_11 : decode cX3_holds 11 = .ok (.imul, 1) := by decide +kernel
theorem dX3_holds_12 : decode cX3_holds 12 = .ok (.ishr, 1) := by decide +kernel
theorem dX3_holds_13 : decode cX3_holds 13 = .ok (.ifCond .ne 7, 3) := by decide +kernel
theorem dX3_holds_16 : decode cX3_holds 16 = .ok (.iconst 1, 1) := by decide +kernel
theorem dX3_holds_17 : decode cX3_holds 17 = .ok (.goto 4, 3) := by decide +kernel
theorem dX3_holds_20 : decode cX3_holds 20 = .ok (.iconst 0, 1) := by decide +kernel
theorem dX3_holds_21 : decode cX3_holds 21 = .ok (.ireturn, 1) := by decide +kernel
set_option maxRecDepth 20000 in
theorem ggX3_quadrant_X3_exponent : GoodIn wsX3_quadrant wsX3_exponent := goodIn_r _ [4] (by decide +kernel) (by decide +kernel)
set_option maxRecDepth 20000 in
theorem gX3_quadrant_X3_exponent : GoodIn wsX3_quadrant (va_wsS RX3 17 yX3_exponent wsX3_exponent) := goodIn_app (goodIn_of _ (by decide +kernel)) ggX3_quadrant_X3_exponent
theorem dX3_quadrant_0 : decode cX3_quadrant 0 = .ok (.iload_n 1, 1) := by decide +kernel
theorem dX3_quadrant_1 : decode cX3_quadrant 1 = .ok (.iconst 2, 1) := by decide +kernel
theorem dX3_quadrant_2 : decode cX3_quadrant 2 = .ok (.iload_n 0, 1) := by decide +kernel
theorem dX3_quadrant_3 : decode cX3_quadrant 3 = .ok (.invokestatic 17, 3) := by decide +kernel
theorem dX3_quadrant_6 : decode cX3_quadrant 6 = .ok (.imul, 1) := by decide +kernel
theorem dX3_quadrant_7 : decode cX3_quadrant 7 = .ok (.iconst 2, 1) := by decide +kernel
theorem dX3_quadrant_8 : decode cX3_quadrant 8 = .ok (.isub, 1) := by decide +kernel
theorem dX3_quadrant_9 : decode cX3_quadrant 9 = .ok (.ishr, 1) := by decide +kernel
theorem dX3_quadrant_10 : decode cX3_quadrant 10 = .ok (.iconst 3, 1) := by decide +kernel
theorem dX3_quadrant_11 : decode cX3_quadrant 11 = .ok (.iand, 1) := by decide +kernel
theorem dX3_quadrant_12 : decode cX3_quadrant 12 = .ok (.ireturn, 1) := by decide +kernel
set_option maxRecDepth 20000 in
theorem ggX3_distanceTo_X3_corner : GoodIn wsX3_distanceTo wsX3_corner := goodIn_r _ [11] (by decide +kernel) (by decide +kernel)
set_option maxRecDepth 20000 in
theorem gX3_distanceTo_X3_corner : GoodIn wsX3_distanceTo (va_wsS RX3 20 yX3_corner wsX3_corner) := goodIn_app (goodIn_of _ (by decide +kernel)) ggX3_distanceTo_X3_corner
set_option maxRecDepth 20000 in
theorem ggX3_distanceTo_X3_xOf : GoodIn wsX3_distanceTo wsX3_xOf := goodIn_r _ [14, 15, 16, 10, 17] (by decide +kernel) (by decide +kernel)
set_option maxRecDepth 20000 in
theorem gX3_distanceTo_X3_xOf : GoodIn wsX3_distanceTo (va_wsS RX3 23 yX3_xOf wsX3_xOf) := goodIn_app (goodIn_of _ (by decide +kernel)) ggX3_distanceTo_X3_xOf
set_option maxRecDepth 20000 in
theorem ggX3_distanceTo_X3_yOf : GoodIn wsX3_distanceTo wsX3_yOf := goodIn_r _ [20, 15, 16, 10, 17] (by decide +kernel) (by decide +kernel)
set_option maxRecDepth 20000 in
theorem gX3_distanceTo_X3_yOf : GoodIn wsX3_distanceTo (va_wsS RX3 26 yX3_yOf wsX3_yOf) := goodIn_app (goodIn_of _ (by decide +kernel)) ggX3_distanceTo_X3_yOf
set_option maxRecDepth 20000 in
theorem ggX3_distanceTo_X3_size : GoodIn wsX3_distanceTo wsX3_size := goodIn_r _ [23, 24, 25, 10, 26] (by decide +kernel) (by decide +kernel)
set_option maxRecDepth 20000 in
theorem gX3_distanceTo_X3_size : GoodIn wsX3_distanceTo (va_wsS RX3 29 yX3_size wsX3_size) := goodIn_app (goodIn_of _ (by decide +kernel)) ggX3_distanceTo_X3_size
set_option maxRecDepth 20000 in
theorem ggX3_distanceTo_X6_distance : GoodIn wsX3_distanceTo wsX6_distance := goodIn_r _ [29] (by decide +kernel) (by decide +kernel)
set_option maxRecDepth 20000 in
theorem gX3_distanceTo_X6_distance_n41 : GoodIn wsX3_distanceTo (wsX6_distance) := ggX3_distanceTo_X6_distance
theorem dX3_distanceTo_0 : decode cX3_distanceTo 0 = .ok (.iload_n 0, 1) := by decide +kernel
theorem dX3_distanceTo_1 : decode cX3_distanceTo 1 = .ok (.invokestatic 20, 3) := by decide +kernel
theorem dX3_distanceTo_4 : decode cX3_distanceTo 4 = .ok (.invokestatic 23, 3) := by decide +kernel
theorem dX3_distanceTo_7 : decode cX3_distanceTo 7 = .ok (.istore_n 3, 1) := by decide +kernel
theorem dX3_distanceTo_8 : decode cX3_distanceTo 8 = .ok (.iload_n 0, 1) := by decide +kernel
theorem dX3_distanceTo_9 : decode cX3_distanceTo 9 = .ok (.invokestatic 20, 3) := by decide +kernel
theorem dX3_distanceTo_12 : decode cX3_distanceTo 12 = .ok (.invokestatic 26, 3) := by decide +kernel
theorem dX3_distanceTo_15 : decode cX3_distanceTo 15 = .ok (.istore 4, 2) := by decide +kernel
theorem dX3_distanceTo_17 : decode cX3_distanceTo 17 = .ok (.iload_n 0, 1) := by decide +kernel
theorem dX3_distanceTo_18 : decode cX3_distanceTo 18 = .ok (.invokestatic 29, 3) := by decide +kernel
theorem dX3_distanceTo_21 : decode cX3_distanceTo 21 = .ok (.iconst 1, 1) := by decide +kernel
theorem dX3_distanceTo_22 : decode cX3_distanceTo 22 = .ok (.isub, 1) := by decide +kernel
theorem dX3_distanceTo_23 : decode cX3_distanceTo 23 = .ok (.istore 5, 2) := by decide +kernel
theorem dX3_distanceTo_25 : decode cX3_distanceTo 25 = .ok (.iload_n 3, 1) := by decide +kernel
theorem dX3_distanceTo_26 : decode cX3_distanceTo 26 = .ok (.iload_n 1, 1) := by decide +kernel
theorem dX3_distanceTo_27 : decode cX3_distanceTo 27 = .ok (.iload_n 3, 1) := by decide +kernel
theorem dX3_distanceTo_28 : decode cX3_distanceTo 28 = .ok (.iload 5, 2) := by decide +kernel
theorem dX3_distanceTo_30 : decode cX3_distanceTo 30 = .ok (.iadd, 1) := by decide +kernel
theorem dX3_distanceTo_31 : decode cX3_distanceTo 31 = .ok (.invokestatic 32, 3) := by decide +kernel
theorem dX3_distanceTo_34 : decode cX3_distanceTo 34 = .ok (.invokestatic 38, 3) := by decide +kernel
theorem dX3_distanceTo_37 : decode cX3_distanceTo 37 = .ok (.istore 6, 2) := by decide +kernel
theorem dX3_distanceTo_39 : decode cX3_distanceTo 39 = .ok (.iload 4, 2) := by decide +kernel
theorem dX3_distanceTo_41 : decode cX3_distanceTo 41 = .ok (.iload_n 2, 1) := by decide +kernel
theorem dX3_distanceTo_42 : decode cX3_distanceTo 42 = .ok (.iload 4, 2) := by decide +kernel
theorem dX3_distanceTo_44 : decode cX3_distanceTo 44 = .ok (.iload 5, 2) := by decide +kernel
theorem dX3_distanceTo_46 : decode cX3_distanceTo 46 = .ok (.iadd, 1) := by decide +kernel
theorem dX3_distanceTo_47 : decode cX3_distanceTo 47 = .ok (.invokestatic 32, 3) := by decide +kernel
theorem dX3_distanceTo_50 : decode cX3_distanceTo 50 = .ok (.invokestatic 38, 3) := by decide +kernel
theorem dX3_distanceTo_53 : decode cX3_distanceTo 53 = .ok (.istore 7, 2) := by decide +kernel
theorem dX3_distanceTo_55 : decode cX3_distanceTo 55 = .ok (.iload_n 1, 1) := by decide +kernel
theorem dX3_distanceTo_56 : decode cX3_distanceTo 56 = .ok (.iload_n 2, 1) := by decide +kernel
theorem dX3_distanceTo_57 : decode cX3_distanceTo 57 = .ok (.iload 6, 2) := by decide +kernel
theorem dX3_distanceTo_59 : decode cX3_distanceTo 59 = .ok (.iload 7, 2) := by decide +kernel
theorem dX3_distanceTo_61 : decode cX3_distanceTo 61 = .ok (.invokestatic 41, 3) := by decide +kernel
theorem dX3_distanceTo_64 : decode cX3_distanceTo 64 = .ok (.ireturn, 1) := by decide +kernel
theorem dX4_init_0 : decode cX4_init 0 = .ok (.aload_n 0, 1) := by decide +kernel
theorem dX4_init_1 : decode cX4_init 1 = .ok (.invokespecial 3, 3) := by decide +kernel
theorem dX4_init_4 : decode cX4_init 4 = .ok (.aload_n 0, 1) := by decide +kernel
theorem dX4_init_5 : decode cX4_init 5 = .ok (.bipush 24, 2) := by decide +kernel
theorem dX4_init_7 : decode cX4_init 7 = .ok (.newarray .boolean, 2) := by decide +kernel
theorem dX4_init_9 : decode cX4_init 9 = .ok (.putfield 9, 3) := by decide +kernel
theorem dX4_init_12 : decode cX4_init 12 = .ok (.aload_n 0, 1) := by decide +kernel
theorem dX4_init_13 : decode cX4_init 13 = .ok (.bipush 24, 2) := by decide +kernel
theorem dX4_init_15 : decode cX4_init 15 = .ok (.newarray .int, 2) := by decide +kernel
theorem dX4_init_17 : decode cX4_init 17 = .ok (.putfield 15, 3) := by decide +kernel
theorem dX4_init_20 : decode cX4_init 20 = .ok (.aload_n 0, 1) := by decide +kernel
theorem dX4_init_21 : decode cX4_init 21 = .ok (.bipush 24, 2) := by decide +kernel
theorem dX4_init_23 : decode cX4_init 23 = .ok (.newarray .int, 2) := by decide +kernel
theorem dX4_init_25 : decode cX4_init 25 = .ok (.putfield 19, 3) := by decide +kernel
theorem dX4_init_28 : decode cX4_init 28 = .ok (.aload_n 0, 1) := by decide +kernel
theorem dX4_init_29 : decode cX4_init 29 = .ok (.bipush 24, 2) := by decide +kernel
theorem dX4_init_31 : decode cX4_init 31 = .ok (.newarray .int, 2) := by decide +kernel
theorem dX4_init_33 : decode cX4_init 33 = .ok (.putfield 22, 3) := by decide +kernel
theorem dX4_init_36 : decode cX4_init 36 = .ok (.aload_n 0, 1) := by decide +kernel
theorem dX4_init_37 : decode cX4_init 37 = .ok (.bipush 24, 2) := by decide +kernel
theorem dX4_init_39 : decode cX4_init 39 = .ok (.newarray .int, 2) := by decide +kernel
theorem dX4_init_41 : decode cX4_init 41 = .ok (.putfield 25, 3) := by decide +kernel
theorem dX4_init_44 : decode cX4_init 44 = .ok (.aload_n 0, 1) := by decide +kernel
theorem dX4_init_45 : decode cX4_init 45 = .ok (.iconst 4, 1) := by decide +kernel
theorem dX4_init_46 : decode cX4_init 46 = .ok (.newarray .int, 2) := by decide +kernel
theorem dX4_init_48 : decode cX4_init 48 = .ok (.putfield 28, 3) := by decide +kernel
theorem dX4_init_51 : decode cX4_init 51 = .ok (.aload_n 0, 1) := by decide +kernel
theorem dX4_init_52 : decode cX4_init 52 = .ok (.iconst 4, 1) := by decide +kernel
theorem dX4_init_53 : decode cX4_init 53 = .ok (.newarray .int, 2) := by decide +kernel
theorem dX4_init_55 : decode cX4_init 55 = .ok (.putfield 31, 3) := by decide +kernel
theorem dX4_init_58 : decode cX4_init 58 = .ok (.aload_n 0, 1) := by decide +kernel
theorem dX4_init_59 : decode cX4_init 59 = .ok (.iconst 4, 1) := by decide +kernel
theorem dX4_init_60 : decode cX4_init 60 = .ok (.newarray .int, 2) := by decide +kernel
theorem dX4_init_62 : decode cX4_init 62 = .ok (.putfield 34, 3) := by decide +kernel
theorem dX4_init_65 : decode cX4_init 65 = .ok (.iconst 0, 1) := by decide +kernel
theorem dX4_init_66 : decode cX4_init 66 = .ok (.istore_n 1, 1) := by decide +kernel
theorem dX4_init_67 : decode cX4_init 67 = .ok (.iload_n 1, 1) := by decide +kernel
theorem dX4_init_68 : decode cX4_init 68 = .ok (.iconst 4, 1) := by decide +kernel
theorem dX4_init_69 : decode cX4_init 69 = .ok (.if_icmp .ge 16, 3) := by decide +kernel
theorem dX4_init_72 : decode cX4_init 72 = .ok (.aload_n 0, 1) := by decide +kernel
theorem dX4_init_73 : decode cX4_init 73 = .ok (.getfield 34, 3) := by decide +kernel
theorem dX4_init_76 : decode cX4_init 76 = .ok (.iload_n 1, 1) := by decide +kernel
theorem dX4_init_77 : decode cX4_init 77 = .ok (.iconst (-1), 1) := by decide +kernel
theorem dX4_init_78 : decode cX4_init 78 = .ok (.iastore, 1) := by decide +kernel
theorem dX4_init_79 : decode cX4_init 79 = .ok (.iinc 1 1, 3) := by decide +kernel
theorem dX4_init_82 : decode cX4_init 82 = .ok (.goto (-15), 3) := by decide +kernel
theorem dX4_init_85 : decode cX4_init 85 = .ok (.return_, 1) := by decide +kernel
theorem dX4_copy_0 : decode cX4_copy 0 = .ok (.iconst 0, 1) := by decide +kernel
theorem dX4_copy_1 : decode cX4_copy 1 = .ok (.istore_n 2, 1) := by decide +kernel
theorem dX4_copy_2 : decode cX4_copy 2 = .ok (.iload_n 2, 1) := by decide +kernel
theorem dX4_copy_3 : decode cX4_copy 3 = .ok (.bipush 24, 2) := by decide +kernel
theorem dX4_copy_5 : decode cX4_copy 5 = .ok (.if_icmp .ge 69, 3) := by decide +kernel
theorem dX4_copy_8 : decode cX4_copy 8 = .ok (.aload_n 0, 1) := by decide +kernel
theorem dX4_copy_9 : decode cX4_copy 9 = .ok (.getfield 9, 3) := by decide +kernel
theorem dX4_copy_12 : decode cX4_copy 12 = .ok (.iload_n 2, 1) := by decide +kernel
theorem dX4_copy_13 : decode cX4_copy 13 = .ok (.aload_n 1, 1) := by decide +kernel
theorem dX4_copy_14 : decode cX4_copy 14 = .ok (.getfield 9, 3) := by decide +kernel
theorem dX4_copy_17 : decode cX4_copy 17 = .ok (.iload_n 2, 1) := by decide +kernel
theorem dX4_copy_18 : decode cX4_copy 18 = .ok (.baload, 1) := by decide +kernel
theorem dX4_copy_19 : decode cX4_copy 19 = .ok (.bastore, 1) := by decide +kernel
theorem dX4_copy_20 : decode cX4_copy 20 = .ok (.aload_n 0, 1) := by decide +kernel
theorem dX4_copy_21 : decode cX4_copy 21 = .ok (.getfield 15, 3) := by decide +kernel
theorem dX4_copy_24 : decode cX4_copy 24 = .ok (.iload_n 2, 1) := by decide +kernel
theorem dX4_copy_25 : decode cX4_copy 25 = .ok (.aload_n 1, 1) := by decide +kernel
theorem dX4_copy_26 : decode cX4_copy 26 = .ok (.getfield 15, 3) := by decide +kernel
theorem dX4_copy_29 : decode cX4_copy 29 = .ok (.iload_n 2, 1) := by decide +kernel
theorem dX4_copy_30 : decode cX4_copy 30 = .ok (.iaload, 1) := by decide +kernel
theorem dX4_copy_31 : decode cX4_copy 31 = .ok (.iastore, 1) := by decide +kernel
theorem dX4_copy_32 : decode cX4_copy 32 = .ok (.aload_n 0, 1) := by decide +kernel
theorem dX4_copy_33 : decode cX4_copy 33 = .ok (.getfield 19, 3) := by decide +kernel
theorem dX4_copy_36 : decode cX4_copy 36 = .ok (.iload_n 2, 1) := by decide +kernel
theorem dX4_copy_37 : decode cX4_copy 37 = .ok (.aload_n 1, 1) := by decide +kernel
theorem dX4_copy_38 : decode cX4_copy 38 = .ok (.getfield 19, 3) := by decide +kernel
theorem dX4_copy_41 : decode cX4_copy 41 = .ok (.iload_n 2, 1) := by decide +kernel
theorem dX4_copy_42 : decode cX4_copy 42 = .ok (.iaload, 1) := by decide +kernel
theorem dX4_copy_43 : decode cX4_copy 43 = .ok (.iastore, 1) := by decide +kernel
theorem dX4_copy_44 : decode cX4_copy 44 = .ok (.aload_n 0, 1) := by decide +kernel
theorem dX4_copy_45 : decode cX4_copy 45 = .ok (.getfield 22, 3) := by decide +kernel
theorem dX4_copy_48 : decode cX4_copy 48 = .ok (.iload_n 2, 1) := by decide +kernel
theorem dX4_copy_49 : decode cX4_copy 49 = .ok (.aload_n 1, 1) := by decide +kernel
theorem dX4_copy_50 : decode cX4_copy 50 = .ok (.getfield 22, 3) := by decide +kernel
theorem dX4_copy_53 : decode cX4_copy 53 = .ok (.iload_n 2, 1) := by decide +kernel
theorem dX4_copy_54 : decode cX4_copy 54 = .ok (.iaload, 1) := by decide +kernel
theorem dX4_copy_55 : decode cX4_copy 55 = .ok (.iastore, 1) := by decide +kernel
theorem dX4_copy_56 : decode cX4_copy 56 = .ok (.aload_n 0, 1) := by decide +kernel
theorem dX4_copy_57 : decode cX4_copy 57 = .ok (.getfield 25, 3) := by decide +kernel
theorem dX4_copy_60 : decode cX4_copy 60 = .ok (.iload_n 2, 1) := by decide +kernel
theorem dX4_copy_61 : decode cX4_copy 61 = .ok (.aload_n 1, 1) := by decide +kernel
theorem dX4_copy_62 : decode cX4_copy 62 = .ok (.getfield 25, 3) := by decide +kernel
theorem dX4_copy_65 : decode cX4_copy 65 = .ok (.iload_n 2, 1) := by decide +kernel
theorem dX4_copy_66 : decode cX4_copy 66 = .ok (.iaload, 1) := by decide +kernel
theorem dX4_copy_67 : decode cX4_copy 67 = .ok (.iastore, 1) := by decide +kernel
theorem dX4_copy_68 : decode cX4_copy 68 = .ok (.iinc 2 1, 3) := by decide +kernel
theorem dX4_copy_71 : decode cX4_copy 71 = .ok (.goto (-69), 3) := by decide +kernel
theorem dX4_copy_74 : decode cX4_copy 74 = .ok (.iconst 0, 1) := by decide +kernel
theorem dX4_copy_75 : decode cX4_copy 75 = .ok (.istore_n 2, 1) := by decide +kernel
theorem dX4_copy_76 : decode cX4_copy 76 = .ok (.iload_n 2, 1) := by decide +kernel
theorem dX4_copy_77 : decode cX4_copy 77 = .ok (.iconst 4, 1) := by decide +kernel
theorem dX4_copy_78 : decode cX4_copy 78 = .ok (.if_icmp .ge 45, 3) := by decide +kernel
theorem dX4_copy_81 : decode cX4_copy 81 = .ok (.aload_n 0, 1) := by decide +kernel
theorem dX4_copy_82 : decode cX4_copy 82 = .ok (.getfield 28, 3) := by decide +kernel
theorem dX4_copy_85 : decode cX4_copy 85 = .ok (.iload_n 2, 1) := by decide +kernel
theorem dX4_copy_86 : decode cX4_copy 86 = .ok (.aload_n 1, 1) := by decide +kernel
theorem dX4_copy_87 : decode cX4_copy 87 = .ok (.getfield 28, 3) := by decide +kernel
theorem dX4_copy_90 : decode cX4_copy 90 = .ok (.iload_n 2, 1) := by decide +kernel
theorem dX4_copy_91 : decode cX4_copy 91 = .ok (.iaload, 1) := by decide +kernel
theorem dX4_copy_92 : decode cX4_copy 92 = .ok (.iastore, 1) := by decide +kernel
theorem dX4_copy_93 : decode cX4_copy 93 = .ok (.aload_n 0, 1) := by decide +kernel
theorem dX4_copy_94 : decode cX4_copy 94 = .ok (.getfield 31, 3) := by decide +kernel
theorem dX4_copy_97 : decode cX4_copy 97 = .ok (.iload_n 2, 1) := by decide +kernel
theorem dX4_copy_98 : decode cX4_copy 98 = .ok (.aload_n 1, 1) := by decide +kernel
theorem dX4_copy_99 : decode cX4_copy 99 = .ok (.getfield 31, 3) := by decide +kernel
theorem dX4_copy_102 : decode cX4_copy 102 = .ok (.iload_n 2, 1) := by decide +kernel
theorem dX4_copy_103 : decode cX4_copy 103 = .ok (.iaload, 1) := by decide +kernel
theorem dX4_copy_104 : decode cX4_copy 104 = .ok (.iastore, 1) := by decide +kernel
theorem dX4_copy_105 : decode cX4_copy 105 = .ok (.aload_n 0, 1) := by decide +kernel
theorem dX4_copy_106 : decode cX4_copy 106 = .ok (.getfield 34, 3) := by decide +kernel
theorem dX4_copy_109 : decode cX4_copy 109 = .ok (.iload_n 2, 1) := by decide +kernel
theorem dX4_copy_110 : decode cX4_copy 110 = .ok (.aload_n 1, 1) := by decide +kernel
theorem dX4_copy_111 : decode cX4_copy 111 = .ok (.getfield 34, 3) := by decide +kernel
theorem dX4_copy_114 : decode cX4_copy 114 = .ok (.iload_n 2, 1) := by decide +kernel
theorem dX4_copy_115 : decode cX4_copy 115 = .ok (.iaload, 1) := by decide +kernel
theorem dX4_copy_116 : decode cX4_copy 116 = .ok (.iastore, 1) := by decide +kernel
theorem dX4_copy_117 : decode cX4_copy 117 = .ok (.iinc 2 1, 3) := by decide +kernel
theorem dX4_copy_120 : decode cX4_copy 120 = .ok (.goto (-44), 3) := by decide +kernel
theorem dX4_copy_123 : decode cX4_copy 123 = .ok (.aload_n 0, 1) := by decide +kernel
theorem dX4_copy_124 : decode cX4_copy 124 = .ok (.aload_n 1, 1) := by decide +kernel
theorem dX4_copy_125 : decode cX4_copy 125 = .ok (.getfield 37, 3) := by decide +kernel
theorem dX4_copy_128 : decode cX4_copy 128 = .ok (.putfield 37, 3) := by decide +kernel
theorem dX4_copy_131 : decode cX4_copy 131 = .ok (.return_, 1) := by decide +kernel
theorem dX4_put_0 : decode cX4_put 0 = .ok (.aload_n 0, 1) := by decide +kernel
theorem dX4_put_1 : decode cX4_put 1 = .ok (.getfield 9, 3) := by decide +kernel
theorem dX4_put_4 : decode cX4_put 4 = .ok (.iload_n 1, 1) := by decide +kernel
theorem dX4_put_5 : decode cX4_put 5 = .ok (.iconst 1, 1) := by decide +kernel
theorem dX4_put_6 : decode cX4_put 6 = .ok (.bastore, 1) := by decide +kernel
theorem dX4_put_7 : decode cX4_put 7 = .ok (.aload_n 0, 1) := by decide +kernel
theorem dX4_put_8 : decode cX4_put 8 = .ok (.getfield 15, 3) := by decide +kernel
theorem dX4_put_11 : decode cX4_put 11 = .ok (.iload_n 1, 1) := by decide +kernel
theorem dX4_put_12 : decode cX4_put 12 = .ok (.iload_n 2, 1) := by decide +kernel
theorem dX4_put_13 : decode cX4_put 13 = .ok (.iastore, 1) := by decide +kernel
theorem dX4_put_14 : decode cX4_put 14 = .ok (.aload_n 0, 1) := by decide +kernel
theorem dX4_put_15 : decode cX4_put 15 = .ok (.getfield 19, 3) := by decide +kernel
theorem dX4_put_18 : decode cX4_put 18 = .ok (.iload_n 1, 1) := by decide +kernel
theorem dX4_put_19 : decode cX4_put 19 = .ok (.iload_n 3, 1) := by decide +kernel
theorem dX4_put_20 : decode cX4_put 20 = .ok (.iastore, 1) := by decide +kernel
theorem dX4_put_21 : decode cX4_put 21 = .ok (.return_, 1) := by decide +kernel
theorem dX4_clear_0 : decode cX4_clear 0 = .ok (.aload_n 0, 1) := by decide +kernel
theorem dX4_clear_1 : decode cX4_clear 1 = .ok (.getfield 9, 3) := by decide +kernel
theorem dX4_clear_4 : decode cX4_clear 4 = .ok (.iload_n 1, 1) := by decide +kernel
theorem dX4_clear_5 : decode cX4_clear 5 = .ok (.iconst 0, 1) := by decide +kernel
theorem dX4_clear_6 : decode cX4_clear 6 = .ok (.bastore, 1) := by decide +kernel
theorem dX4_clear_7 : decode cX4_clear 7 = .ok (.aload_n 0, 1) := by decide +kernel
theorem dX4_clear_8 : decode cX4_clear 8 = .ok (.getfield 15, 3) := by decide +kernel
theorem dX4_clear_11 : decode cX4_clear 11 = .ok (.iload_n 1, 1) := by decide +kernel
theorem dX4_clear_12 : decode cX4_clear 12 = .ok (.iconst 0, 1) := by decide +kernel
theorem dX4_clear_13 : decode cX4_clear 13 = .ok (.iastore, 1) := by decide +kernel
theorem dX4_clear_14 : decode cX4_clear 14 = .ok (.aload_n 0, 1) := by decide +kernel
theorem dX4_clear_15 : decode cX4_clear 15 = .ok (.getfield 19, 3) := by decide +kernel
theorem dX4_clear_18 : decode cX4_clear 18 = .ok (.iload_n 1, 1) := by decide +kernel
theorem dX4_clear_19 : decode cX4_clear 19 = .ok (.iconst 0, 1) := by decide +kernel
theorem dX4_clear_20 : decode cX4_clear 20 = .ok (.iastore, 1) := by decide +kernel
theorem dX4_clear_21 : decode cX4_clear 21 = .ok (.aload_n 0, 1) := by decide +kernel
theorem dX4_clear_22 : decode cX4_clear 22 = .ok (.getfield 22, 3) := by decide +kernel
theorem dX4_clear_25 : decode cX4_clear 25 = .ok (.iload_n 1, 1) := by decide +kernel
theorem dX4_clear_26 : decode cX4_clear 26 = .ok (.iconst 0, 1) := by decide +kernel
theorem dX4_clear_27 : decode cX4_clear 27 = .ok (.iastore, 1) := by decide +kernel
theorem dX4_clear_28 : decode cX4_clear 28 = .ok (.aload_n 0, 1) := by decide +kernel
theorem dX4_clear_29 : decode cX4_clear 29 = .ok (.getfield 25, 3) := by decide +kernel
theorem dX4_clear_32 : decode cX4_clear 32 = .ok (.iload_n 1, 1) := by decide +kernel
theorem dX4_clear_33 : decode cX4_clear 33 = .ok (.iconst 0, 1) := by decide +kernel
theorem dX4_clear_34 : decode cX4_clear 34 = .ok (.iastore, 1) := by decide +kernel
theorem dX4_clear_35 : decode cX4_clear 35 = .ok (.return_, 1) := by decide +kernel
set_option maxRecDepth 20000 in
theorem ggX4_step_X4_reflected : GoodIn wsX4_step wsX4_reflected := goodIn_r _ [9] (by decide +kernel) (by decide +kernel)
set_option maxRecDepth 20000 in
theorem gX4_step_X4_reflected : GoodIn wsX4_step (va_wsS RX4 41 yX4_reflected wsX4_reflected) := goodIn_app (goodIn_of _ (by decide +kernel)) ggX4_step_X4_reflected
theorem dX4_step_0 : decode cX4_step 0 = .ok (.iconst 0, 1) := by decide +kernel
theorem dX4_step_1 : decode cX4_step 1 = .ok (.istore_n 1, 1) := by decide +kernel
theorem dX4_step_2 : decode cX4_step 2 = .ok (.iload_n 1, 1) := by decide +kernel
theorem dX4_step_3 : decode cX4_step 3 = .ok (.bipush 24, 2) := by decide +kernel
theorem dX4_step_5 : decode cX4_step 5 = .ok (.if_icmp .ge 121, 3) := by decide +kernel
theorem dX4_step_8 : decode cX4_step 8 = .ok (.aload_n 0, 1) := by decide +kernel
theorem dX4_step_9 : decode cX4_step 9 = .ok (.getfield 15, 3) := by decide +kernel
theorem dX4_step_12 : decode cX4_step 12 = .ok (.iload_n 1, 1) := by decide +kernel
theorem dX4_step_13 : decode cX4_step 13 = .ok (.iaload, 1) := by decide +kernel
theorem dX4_step_14 : decode cX4_step 14 = .ok (.aload_n 0, 1) := by decide +kernel
theorem dX4_step_15 : decode cX4_step 15 = .ok (.getfield 22, 3) := by decide +kernel
theorem dX4_step_18 : decode cX4_step 18 = .ok (.iload_n 1, 1) := by decide +kernel
theorem dX4_step_19 : decode cX4_step 19 = .ok (.iaload, 1) := by decide +kernel
theorem dX4_step_20 : decode cX4_step 20 = .ok (.iadd, 1) := by decide +kernel
theorem dX4_step_21 : decode cX4_step 21 = .ok (.istore_n 2, 1) := by decide +kernel
theorem dX4_step_22 : decode cX4_step 22 = .ok (.aload_n 0, 1) := by decide +kernel
theorem dX4_step_23 : decode cX4_step 23 = .ok (.getfield 19, 3) := by decide +kernel
theorem dX4_step_26 : decode cX4_step 26 = .ok (.iload_n 1, 1) := by decide +kernel
theorem dX4_step_27 : decode cX4_step 27 = .ok (.iaload, 1) := by decide +kernel
theorem dX4_step_28 : decode cX4_step 28 = .ok (.aload_n 0, 1) := by decide +kernel
theorem dX4_step_29 : decode cX4_step 29 = .ok (.getfield 25, 3) := by decide +kernel
theorem dX4_step_32 : decode cX4_step 32 = .ok (.iload_n 1, 1) := by decide +kernel
theorem dX4_step_33 : decode cX4_step 33 = .ok (.iaload, 1) := by decide +kernel
theorem dX4_step_34 : decode cX4_step 34 = .ok (.iadd, 1) := by decide +kernel
theorem dX4_step_35 : decode cX4_step 35 = .ok (.istore_n 3, 1) := by decide +kernel
theorem dX4_step_36 : decode cX4_step 36 = .ok (.aload_n 0, 1) := by decide +kernel
theorem dX4_step_37 : decode cX4_step 37 = .ok (.getfield 15, 3) := by decide +kernel
theorem dX4_step_40 : decode cX4_step 40 = .ok (.iload_n 1, 1) := by decide +kernel
theorem dX4_step_41 : decode cX4_step 41 = .ok (.iload_n 2, 1) := by decide +kernel
theorem dX4_step_42 : decode cX4_step 42 = .ok (.invokestatic 41, 3) := by decide +kernel
theorem dX4_step_45 : decode cX4_step 45 = .ok (.iastore, 1) := by decide +kernel
theorem dX4_step_46 : decode cX4_step 46 = .ok (.aload_n 0, 1) := by decide +kernel
theorem dX4_step_47 : decode cX4_step 47 = .ok (.getfield 19, 3) := by decide +kernel
theorem dX4_step_50 : decode cX4_step 50 = .ok (.iload_n 1, 1) := by decide +kernel
theorem dX4_step_51 : decode cX4_step 51 = .ok (.iload_n 3, 1) := by decide +kernel
theorem dX4_step_52 : decode cX4_step 52 = .ok (.invokestatic 41, 3) := by decide +kernel
theorem dX4_step_55 : decode cX4_step 55 = .ok (.iastore, 1) := by decide +kernel
theorem dX4_step_56 : decode cX4_step 56 = .ok (.aload_n 0, 1) := by decide +kernel
theorem dX4_step_57 : decode cX4_step 57 = .ok (.getfield 22, 3) := by decide +kernel
theorem dX4_step_60 : decode cX4_step 60 = .ok (.iload_n 1, 1) := by decide +kernel
theorem dX4_step_61 : decode cX4_step 61 = .ok (.aload_n 0, 1) := by decide +kernel
theorem dX4_step_62 : decode cX4_step 62 = .ok (.getfield 15, 3) := by decide +kernel
theorem dX4_step_65 : decode cX4_step 65 = .ok (.iload_n 1, 1) := by decide +kernel
theorem dX4_step_66 : decode cX4_step 66 = .ok (.iaload, 1) := by decide +kernel
theorem dX4_step_67 : decode cX4_step 67 = .ok (.iload_n 2, 1) := by decide +kernel
theorem dX4_step_68 : decode cX4_step 68 = .ok (.if_icmp .ne 12, 3) := by decide +kernel
theorem dX4_step_71 : decode cX4_step 71 = .ok (.aload_n 0, 1) := by decide +kernel
theorem dX4_step_72 : decode cX4_step 72 = .ok (.getfield 22, 3) := by decide +kernel
theorem dX4_step_75 : decode cX4_step 75 = .ok (.iload_n 1, 1) := by decide +kernel
theorem dX4_step_76 : decode cX4_step 76 = .ok (.iaload, 1) := by decide +kernel
theorem dX4_step_77 : decode cX4_step 77 = .ok (.goto 10, 3) := by decide +kernel
theorem dX4_step_80 : decode cX4_step 80 = .ok (.aload_n 0, 1) := by decide +kernel
theorem dX4_step_81 : decode cX4_step 81 = .ok (.getfield 22, 3) := by decide +kernel
theorem dX4_step_84 : decode cX4_step 84 = .ok (.iload_n 1, 1) := by decide +kernel
theorem dX4_step_85 : decode cX4_step 85 = .ok (.iaload, 1) := by decide +kernel
theorem dX4_step_86 : decode cX4_step 86 = .ok (.ineg, 1) := by decide +kernel
theorem dX4_step_87 : decode cX4_step 87 = .ok (.iastore, 1) := by decide +kernel
theorem dX4_step_88 : decode cX4_step 88 = .ok (.aload_n 0, 1) := by decide +kernel
theorem dX4_step_89 : decode cX4_step 89 = .ok (.getfield 25, 3) := by decide +kernel
theorem dX4_step_92 : decode cX4_step 92 = .ok (.iload_n 1, 1) := by decide +kernel
theorem dX4_step_93 : decode cX4_step 93 = .ok (.aload_n 0, 1) := by decide +kernel
theorem dX4_step_94 : decode cX4_step 94 = .ok (.getfield 19, 3) := by decide +kernel
theorem dX4_step_97 : decode cX4_step 97 = .ok (.iload_n 1, 1) := by decide +kernel
theorem dX4_step_98 : decode cX4_step 98 = .ok (.iaload, 1) := by decide +kernel
theorem dX4_step_99 : decode cX4_step 99 = .ok (.iload_n 3, 1) := by decide +kernel
theorem dX4_step_100 : decode cX4_step 100 = .ok (.if_icmp .ne 12, 3) := by decide +kernel
theorem dX4_step_103 : decode cX4_step 103 = .ok (.aload_n 0, 1) := by decide +kernel
theorem dX4_step_104 : decode cX4_step 104 = .ok (.getfield 25, 3) := by decide +kernel
theorem dX4_step_107 : decode cX4_step 107 = .ok (.iload_n 1, 1) := by decide +kernel
theorem dX4_step_108 : decode cX4_step 108 = .ok (.iaload, 1) := by decide +kernel
theorem dX4_step_109 : decode cX4_step 109 = .ok (.goto 10, 3) := by decide +kernel
theorem dX4_step_112 : decode cX4_step 112 = .ok (.aload_n 0, 1) := by decide +kernel
theorem dX4_step_113 : decode cX4_step 113 = .ok (.getfield 25, 3) := by decide +kernel
theorem dX4_step_116 : decode cX4_step 116 = .ok (.iload_n 1, 1) := by decide +kernel
theorem dX4_step_117 : decode cX4_step 117 = .ok (.iaload, 1) := by decide +kernel
theorem dX4_step_118 : decode cX4_step 118 = .ok (.ineg, 1) := by decide +kernel
theorem dX4_step_119 : decode cX4_step 119 = .ok (.iastore, 1) := by decide +kernel
theorem dX4_step_120 : decode cX4_step 120 = .ok (.iinc 1 1, 3) := by decide +kernel
theorem dX4_step_123 : decode cX4_step 123 = .ok (.goto (-121), 3) := by decide +kernel
theorem dX4_step_126 : decode cX4_step 126 = .ok (.aload_n 0, 1) := by decide +kernel
theorem dX4_step_127 : decode cX4_step 127 = .ok (.dup, 1) := by decide +kernel
theorem dX4_step_128 : decode cX4_step 128 = .ok (.getfield 37, 3) := by decide +kernel
theorem dX4_step_131 : decode cX4_step 131 = .ok (.iconst 1, 1) := by decide +kernel
theorem dX4_step_132 : decode cX4_step 132 = .ok (.iadd, 1) := by decide +kernel
theorem dX4_step_133 : decode cX4_step 133 = .ok (.putfield 37, 3) := by decide +kernel
theorem dX4_step_136 : decode cX4_step 136 = .ok (.return_, 1) := by decide +kernel
theorem dX4_reflected_0 : decode cX4_reflected 0 = .ok (.iload_n 0, 1) := by decide +kernel
theorem dX4_reflected_1 : decode cX4_reflected 1 = .ok (.ifCond .ge 6, 3) := by decide +kernel
theorem dX4_reflected_4 : decode cX4_reflected 4 = .ok (.iload_n 0, 1) := by decide +kernel
theorem dX4_reflected_5 : decode cX4_reflected 5 = .ok (.ineg, 1) := by decide +kernel
theorem dX4_reflected_6 : decode cX4_reflected 6 = .ok (.ireturn, 1) := by decide +kernel
theorem dX4_reflected_7 : decode cX4_reflected 7 = .ok (.iload_n 0, 1) := by decide +kernel
theorem dX4_reflected_8 : decode cX4_reflected 8 = .ok (.bipush 64, 2) := by decide +kernel
theorem dX4_reflected_10 : decode cX4_reflected 10 = .ok (.if_icmp .ge 7, 3) := by decide +kernel
theorem dX4_reflected_13 : decode cX4_reflected 13 = .ok (.iload_n 0, 1) := by decide +kernel
theorem dX4_reflected_14 : decode cX4_reflected 14 = .ok (.goto 7, 3) := by decide +kernel
theorem dX4_reflected_17 : decode cX4_reflected 17 = .ok (.bipush 126, 2) := by decide +kernel
theorem dX4_reflected_19 : decode cX4_reflected 19 = .ok (.iload_n 0, 1) := by decide +kernel
theorem dX4_reflected_20 : decode cX4_reflected 20 = .ok (.isub, 1) := by decide +kernel
theorem dX4_reflected_21 : decode cX4_reflected 21 = .ok (.ireturn, 1) := by decide +kernel
theorem dX4_count_0 : decode cX4_count 0 = .ok (.iconst 0, 1) := by decide +kernel
theorem dX4_count_1 : decode cX4_count 1 = .ok (.istore_n 1, 1) := by decide +kernel
theorem dX4_count_2 : decode cX4_count 2 = .ok (.iconst 0, 1) := by decide +kernel
theorem dX4_count_3 : decode cX4_count 3 = .ok (.istore_n 2, 1) := by decide +kernel
theorem dX4_count_4 : decode cX4_count 4 = .ok (.iload_n 2, 1) := by decide +kernel
theorem dX4_count_5 : decode cX4_count 5 = .ok (.bipush 24, 2) := by decide +kernel
theorem dX4_count_7 : decode cX4_count 7 = .ok (.if_icmp .ge 26, 3) := by decide +kernel
theorem dX4_count_10 : decode cX4_count 10 = .ok (.iload_n 1, 1) := by decide +kernel
theorem dX4_count_11 : decode cX4_count 11 = .ok (.aload_n 0, 1) := by decide +kernel
theorem dX4_count_12 : decode cX4_count 12 = .ok (.getfield 9, 3) := by decide +kernel
theorem dX4_count_15 : decode cX4_count 15 = .ok (.iload_n 2, 1) := by decide +kernel
theorem dX4_count_16 : decode cX4_count 16 = .ok (.baload, 1) := by decide +kernel
theorem dX4_count_17 : decode cX4_count 17 = .ok (.ifCond .eq 7, 3) := by decide +kernel
theorem dX4_count_20 : decode cX4_count 20 = .ok (.iconst 1, 1) := by decide +kernel
theorem dX4_count_21 : decode cX4_count 21 = .ok (.goto 4, 3) := by decide +kernel
theorem dX4_count_24 : decode cX4_count 24 = .ok (.iconst 0, 1) := by decide +kernel
theorem dX4_count_25 : decode cX4_count 25 = .ok (.iadd, 1) := by decide +kernel
theorem dX4_count_26 : decode cX4_count 26 = .ok (.istore_n 1, 1) := by decide +kernel
theorem dX4_count_27 : decode cX4_count 27 = .ok (.iinc 2 1, 3) := by decide +kernel
theorem dX4_count_30 : decode cX4_count 30 = .ok (.goto (-26), 3) := by decide +kernel
theorem dX4_count_33 : decode cX4_count 33 = .ok (.iload_n 1, 1) := by decide +kernel
theorem dX4_count_34 : decode cX4_count 34 = .ok (.ireturn, 1) := by decide +kernel
set_option maxRecDepth 20000 in
theorem ggX4_pairOf_X6_distance : GoodIn wsX4_pairOf wsX6_distance := goodIn_r _ [5] (by decide +kernel) (by decide +kernel)
set_option maxRecDepth 20000 in
theorem gX4_pairOf_X6_distance_n45 : GoodIn wsX4_pairOf (wsX6_distance) := ggX4_pairOf_X6_distance
theorem dX4_pairOf_0 : decode cX4_pairOf 0 = .ok (.aload_n 0, 1) := by decide +kernel
theorem dX4_pairOf_1 : decode cX4_pairOf 1 = .ok (.getfield 15, 3) := by decide +kernel
theorem dX4_pairOf_4 : decode cX4_pairOf 4 = .ok (.iload_n 1, 1) := by decide +kernel
theorem dX4_pairOf_5 : decode cX4_pairOf 5 = .ok (.iaload, 1) := by decide +kernel
theorem dX4_pairOf_6 : decode cX4_pairOf 6 = .ok (.aload_n 0, 1) := by decide +kernel
theorem dX4_pairOf_7 : decode cX4_pairOf 7 = .ok (.getfield 19, 3) := by decide +kernel
theorem dX4_pairOf_10 : decode cX4_pairOf 10 = .ok (.iload_n 1, 1) := by decide +kernel
theorem dX4_pairOf_11 : decode cX4_pairOf 11 = .ok (.iaload, 1) := by decide +kernel
theorem dX4_pairOf_12 : decode cX4_pairOf 12 = .ok (.iload_n 2, 1) := by decide +kernel
theorem dX4_pairOf_13 : decode cX4_pairOf 13 = .ok (.iload_n 3, 1) := by decide +kernel
theorem dX4_pairOf_14 : decode cX4_pairOf 14 = .ok (.invokestatic 45, 3) := by decide +kernel
theorem dX4_pairOf_17 : decode cX4_pairOf 17 = .ok (.bipush 32, 2) := by decide +kernel
theorem dX4_pairOf_19 : decode cX4_pairOf 19 = .ok (.imul, 1) := by decide +kernel
theorem dX4_pairOf_20 : decode cX4_pairOf 20 = .ok (.iload_n 1, 1) := by decide +kernel
theorem dX4_pairOf_21 : decode cX4_pairOf 21 = .ok (.iadd, 1) := by decide +kernel
theorem dX4_pairOf_22 : decode cX4_pairOf 22 = .ok (.ireturn, 1) := by decide +kernel
set_option maxRecDepth 20000 in
theorem ggX4_pairAfter_X4_pairOf : GoodIn wsX4_pairAfter wsX4_pairOf := goodIn_r _ [6, 7, 8, 9, 10, 11, 12, 13, 14, 15, 16, 17, 18, 19, 20] (by decide +kernel) (by decide +kernel)
set_option maxRecDepth 20000 in
theorem gX4_pairAfter_X4_pairOf : GoodIn wsX4_pairAfter (wsV RX4 49 RX4 yX4_pairOf wsX4_pairOf) := goodIn_app (goodIn_of _ (by decide +kernel)) ggX4_pairAfter_X4_pairOf
theorem dX4_pairAfter_0 : decode cX4_pairAfter 0 = .ok (.iconst (-1), 1) := by decide +kernel
theorem dX4_pairAfter_1 : decode cX4_pairAfter 1 = .ok (.istore 4, 2) := by decide +kernel
theorem dX4_pairAfter_3 : decode cX4_pairAfter 3 = .ok (.iconst 0, 1) := by decide +kernel
theorem dX4_pairAfter_4 : decode cX4_pairAfter 4 = .ok (.istore 5, 2) := by decide +kernel
theorem dX4_pairAfter_6 : decode cX4_pairAfter 6 = .ok (.iload 5, 2) := by decide +kernel
theorem dX4_pairAfter_8 : decode cX4_pairAfter 8 = .ok (.bipush 24, 2) := by decide +kernel
theorem dX4_pairAfter_10 : decode cX4_pairAfter 10 = .ok (.if_icmp .ge 52, 3) := by decide +kernel
theorem dX4_pairAfter_13 : decode cX4_pairAfter 13 = .ok (.aload_n 0, 1) := by decide +kernel
theorem dX4_pairAfter_14 : decode cX4_pairAfter 14 = .ok (.iload 5, 2) := by decide +kernel
theorem dX4_pairAfter_16 : decode cX4_pairAfter 16 = .ok (.iload_n 2, 1) := by decide +kernel
theorem dX4_pairAfter_17 : decode cX4_pairAfter 17 = .ok (.iload_n 3, 1) := by decide +kernel
theorem dX4_pairAfter_18 : decode cX4_pairAfter 18 = .ok (.invokevirtual 49, 3) := by decide +kernel
theorem dX4_pairAfter_21 : decode cX4_pairAfter 21 = .ok (.istore 6, 2) := by decide +kernel
theorem dX4_pairAfter_23 : decode cX4_pairAfter 23 = .ok (.aload_n 0, 1) := by decide +kernel
theorem dX4_pairAfter_24 : decode cX4_pairAfter 24 = .ok (.getfield 9, 3) := by decide +kernel
theorem dX4_pairAfter_27 : decode cX4_pairAfter 27 = .ok (.iload 5, 2) := by decide +kernel
theorem dX4_pairAfter_29 : decode cX4_pairAfter 29 = .ok (.baload, 1) := by decide +kernel
theorem dX4_pairAfter_30 : decode cX4_pairAfter 30 = .ok (.ifCond .eq 26, 3) := by decide +kernel
theorem dX4_pairAfter_33 : decode cX4_pairAfter 33 = .ok (.iload 6, 2) := by decide +kernel
theorem dX4_pairAfter_35 : decode cX4_pairAfter 35 = .ok (.iload_n 1, 1) := by decide +kernel
theorem dX4_pairAfter_36 : decode cX4_pairAfter 36 = .ok (.if_icmp .le 20, 3) := by decide +kernel
theorem dX4_pairAfter_39 : decode cX4_pairAfter 39 = .ok (.iload 4, 2) := by decide +kernel
theorem dX4_pairAfter_41 : decode cX4_pairAfter 41 = .ok (.iconst (-1), 1) := by decide +kernel
theorem dX4_pairAfter_42 : decode cX4_pairAfter 42 = .ok (.if_icmp .eq 10, 3) := by decide +kernel
theorem dX4_pairAfter_45 : decode cX4_pairAfter 45 = .ok (.iload 6, 2) := by decide +kernel
theorem dX4_pairAfter_47 : decode cX4_pairAfter 47 = .ok (.iload 4, 2) := by decide +kernel
theorem dX4_pairAfter_49 : decode cX4_pairAfter 49 = .ok (.if_icmp .ge 7, 3) := by decide +kernel
theorem dX4_pairAfter_52 : decode cX4_pairAfter 52 = .ok (.iload 6, 2) := by decide +kernel
theorem dX4_pairAfter_54 : decode cX4_pairAfter 54 = .ok (.istore 4, 2) := by decide +kernel
theorem dX4_pairAfter_56 : decode cX4_pairAfter 56 = .ok (.iinc 5 1, 3) := by decide +kernel
theorem dX4_pairAfter_59 : decode cX4_pairAfter 59 = .ok (.goto (-53), 3) := by decide +kernel
theorem dX4_pairAfter_62 : decode cX4_pairAfter 62 = .ok (.iload 4, 2) := by decide +kernel
theorem dX4_pairAfter_64 : decode cX4_pairAfter 64 = .ok (.ireturn, 1) := by decide +kernel
set_option maxRecDepth 20000 in
theorem ggX4_pairsAfter_X4_pairOf : GoodIn wsX4_pairsAfter wsX4_pairOf := goodIn_r _ [6, 7, 8, 9, 10, 11, 12, 13, 14, 15, 16, 17, 18, 19, 20] (by decide +kernel) (by decide +kernel)
set_option maxRecDepth 20000 in
theorem gX4_pairsAfter_X4_pairOf : GoodIn wsX4_pairsAfter (wsV RX4 49 RX4 yX4_pairOf wsX4_pairOf) := goodIn_app (goodIn_of _ (by decide +kernel)) ggX4_pairsAfter_X4_pairOf
theorem dX4_pairsAfter_0 : decode cX4_pairsAfter 0 = .ok (.iconst 0, 1) := by decide +kernel
theorem dX4_pairsAfter_1 : decode cX4_pairsAfter 1 = .ok (.istore 4, 2) := by decide +kernel
theorem dX4_pairsAfter_3 : decode cX4_pairsAfter 3 = .ok (.iconst 0, 1) := by decide +kernel
theorem dX4_pairsAfter_4 : decode cX4_pairsAfter 4 = .ok (.istore 5, 2) := by decide +kernel
theorem dX4_pairsAfter_6 : decode cX4_pairsAfter 6 = .ok (.iload 5, 2) := by decide +kernel
theorem dX4_pairsAfter_8 : decode cX4_pairsAfter 8 = .ok (.bipush 24, 2) := by decide +kernel
theorem dX4_pairsAfter_10 : decode cX4_pairsAfter 10 = .ok (.if_icmp .ge 34, 3) := by decide +kernel
theorem dX4_pairsAfter_13 : decode cX4_pairsAfter 13 = .ok (.aload_n 0, 1) := by decide +kernel
theorem dX4_pairsAfter_14 : decode cX4_pairsAfter 14 = .ok (.getfield 9, 3) := by decide +kernel
theorem dX4_pairsAfter_17 : decode cX4_pairsAfter 17 = .ok (.iload 5, 2) := by decide +kernel
theorem dX4_pairsAfter_19 : decode cX4_pairsAfter 19 = .ok (.baload, 1) := by decide +kernel
theorem dX4_pairsAfter_20 : decode cX4_pairsAfter 20 = .ok (.ifCond .eq 18, 3) := by decide +kernel
theorem dX4_pairsAfter_23 : decode cX4_pairsAfter 23 = .ok (.aload_n 0, 1) := by decide +kernel
theorem dX4_pairsAfter_24 : decode cX4_pairsAfter 24 = .ok (.iload 5, 2) := by decide +kernel
theorem dX4_pairsAfter_26 : decode cX4_pairsAfter 26 = .ok (.iload_n 2, 1) := by decide +kernel
theorem dX4_pairsAfter_27 : decode cX4_pairsAfter 27 = .ok (.iload_n 3, 1) := by decide +kernel
theorem dX4_pairsAfter_28 : decode cX4_pairsAfter 28 = .ok (.invokevirtual 49, 3) := by decide +kernel
theorem dX4_pairsAfter_31 : decode cX4_pairsAfter 31 = .ok (.iload_n 1, 1) := by decide +kernel
theorem dX4_pairsAfter_32 : decode cX4_pairsAfter 32 = .ok (.if_icmp .le 6, 3) := by decide +kernel
theorem dX4_pairsAfter_35 : decode cX4_pairsAfter 35 = .ok (.iinc 4 1, 3) := by decide +kernel
theorem dX4_pairsAfter_38 : decode cX4_pairsAfter 38 = .ok (.iinc 5 1, 3) := by decide +kernel
theorem dX4_pairsAfter_41 : decode cX4_pairsAfter 41 = .ok (.goto (-35), 3) := by decide +kernel
theorem dX4_pairsAfter_44 : decode cX4_pairsAfter 44 = .ok (.iload 4, 2) := by decide +kernel
theorem dX4_pairsAfter_46 : decode cX4_pairsAfter 46 = .ok (.ireturn, 1) := by decide +kernel
set_option maxRecDepth 20000 in
theorem ggX4_closestCouple_X4_pairOf : GoodIn wsX4_closestCouple wsX4_pairOf := goodIn_r _ [8, 2, 3, 9, 10, 11, 12, 13, 14, 15, 16, 17, 18, 19, 20] (by decide +kernel) (by decide +kernel)
set_option maxRecDepth 20000 in
theorem gX4_closestCouple_X4_pairOf : GoodIn wsX4_closestCouple (wsV RX4 49 RX4 yX4_pairOf wsX4_pairOf) := goodIn_app (goodIn_of _ (by decide +kernel)) ggX4_closestCouple_X4_pairOf
theorem dX4_closestCouple_0 : decode cX4_closestCouple 0 = .ok (.iconst (-1), 1) := by decide +kernel
theorem dX4_closestCouple_1 : decode cX4_closestCouple 1 = .ok (.istore_n 1, 1) := by decide +kernel
theorem dX4_closestCouple_2 : decode cX4_closestCouple 2 = .ok (.iconst 0, 1) := by decide +kernel
theorem dX4_closestCouple_3 : decode cX4_closestCouple 3 = .ok (.istore_n 2, 1) := by decide +kernel
theorem dX4_closestCouple_4 : decode cX4_closestCouple 4 = .ok (.iload_n 2, 1) := by decide +kernel
theorem dX4_closestCouple_5 : decode cX4_closestCouple 5 = .ok (.bipush 24, 2) := by decide +kernel
theorem dX4_closestCouple_7 : decode cX4_closestCouple 7 = .ok (.if_icmp .ge 81, 3) := by decide +kernel
theorem dX4_closestCouple_10 : decode cX4_closestCouple 10 = .ok (.iload_n 2, 1) := by decide +kernel
theorem dX4_closestCouple_11 : decode cX4_closestCouple 11 = .ok (.iconst 1, 1) := by decide +kernel
theorem dX4_closestCouple_12 : decode cX4_closestCouple 12 = .ok (.iadd, 1) := by decide +kernel
theorem dX4_closestCouple_13 : decode cX4_closestCouple 13 = .ok (.istore_n 3, 1) := by decide +kernel
theorem dX4_closestCouple_14 : decode cX4_closestCouple 14 = .ok (.aload_n 0, 1) := by decide +kernel
theorem dX4_closestCouple_15 : decode cX4_closestCouple 15 = .ok (.getfield 9, 3) := by decide +kernel
theorem dX4_closestCouple_18 : decode cX4_closestCouple 18 = .ok (.iload_n 2, 1) := by decide +kernel
theorem dX4_closestCouple_19 : decode cX4_closestCouple 19 = .ok (.baload, 1) := by decide +kernel
theorem dX4_closestCouple_20 : decode cX4_closestCouple 20 = .ok (.ifCond .eq 62, 3) := by decide +kernel
theorem dX4_closestCouple_23 : decode cX4_closestCouple 23 = .ok (.iload_n 3, 1) := by decide +kernel
theorem dX4_closestCouple_24 : decode cX4_closestCouple 24 = .ok (.bipush 24, 2) := by decide +kernel
theorem dX4_closestCouple_26 : decode cX4_closestCouple 26 = .ok (.if_icmp .ge 56, 3) := by decide +kernel
theorem dX4_closestCouple_29 : decode cX4_closestCouple 29 = .ok (.aload_n 0, 1) := by decide +kernel
theorem dX4_closestCouple_30 : decode cX4_closestCouple 30 = .ok (.iload_n 2, 1) := by decide +kernel
theorem dX4_closestCouple_31 : decode cX4_closestCouple 31 = .ok (.aload_n 0, 1) := by decide +kernel
theorem dX4_closestCouple_32 : decode cX4_closestCouple 32 = .ok (.getfield 15, 3) := by decide +kernel
theorem dX4_closestCouple_35 : decode cX4_closestCouple 35 = .ok (.iload_n 3, 1) := by decide +kernel
theorem dX4_closestCouple_36 : decode cX4_closestCouple 36 = .ok (.iaload, 1) := by decide +kernel
theorem dX4_closestCouple_37 : decode cX4_closestCouple 37 = .ok (.aload_n 0, 1) := by decide +kernel
theorem dX4_closestCouple_38 : decode cX4_closestCouple 38 = .ok (.getfield 19, 3) := by decide +kernel
theorem dX4_closestCouple_41 : decode cX4_closestCouple 41 = .ok (.iload_n 3, 1) := by decide +kernel
theorem dX4_closestCouple_42 : decode cX4_closestCouple 42 = .ok (.iaload, 1) := by decide +kernel
theorem dX4_closestCouple_43 : decode cX4_closestCouple 43 = .ok (.invokevirtual 49, 3) := by decide +kernel
theorem dX4_closestCouple_46 : decode cX4_closestCouple 46 = .ok (.bipush 32, 2) := by decide +kernel
theorem dX4_closestCouple_48 : decode cX4_closestCouple 48 = .ok (.imul, 1) := by decide +kernel
theorem dX4_closestCouple_49 : decode cX4_closestCouple 49 = .ok (.iload_n 3, 1) := by decide +kernel
theorem dX4_closestCouple_50 : decode cX4_closestCouple 50 = .ok (.iadd, 1) := by decide +kernel
theorem dX4_closestCouple_51 : decode cX4_closestCouple 51 = .ok (.istore 4, 2) := by decide +kernel
theorem dX4_closestCouple_53 : decode cX4_closestCouple 53 = .ok (.aload_n 0, 1) := by decide +kernel
theorem dX4_closestCouple_54 : decode cX4_closestCouple 54 = .ok (.getfield 9, 3) := by decide +kernel
theorem dX4_closestCouple_57 : decode cX4_closestCouple 57 = .ok (.iload_n 3, 1) := by decide +kernel
theorem dX4_closestCouple_58 : decode cX4_closestCouple 58 = .ok (.baload, 1) := by decide +kernel
theorem dX4_closestCouple_59 : decode cX4_closestCouple 59 = .ok (.ifCond .eq 17, 3) := by decide +kernel
theorem dX4_closestCouple_62 : decode cX4_closestCouple 62 = .ok (.iload_n 1, 1) := by decide +kernel
theorem dX4_closestCouple_63 : decode cX4_closestCouple 63 = .ok (.iconst (-1), 1) := by decide +kernel
theorem dX4_closestCouple_64 : decode cX4_closestCouple 64 = .ok (.if_icmp .eq 9, 3) := by decide +kernel
theorem dX4_closestCouple_67 : decode cX4_closestCouple 67 = .ok (.iload 4, 2) := by decide +kernel
theorem dX4_closestCouple_69 : decode cX4_closestCouple 69 = .ok (.iload_n 1, 1) := by decide +kernel
theorem dX4_closestCouple_70 : decode cX4_closestCouple 70 = .ok (.if_icmp .ge 6, 3) := by decide +kernel
theorem dX4_closestCouple_73 : decode cX4_closestCouple 73 = .ok (.iload 4, 2) := by decide +kernel
theorem dX4_closestCouple_75 : decode cX4_closestCouple 75 = .ok (.istore_n 1, 1) := by decide +kernel
theorem dX4_closestCouple_76 : decode cX4_closestCouple 76 = .ok (.iinc 3 1, 3) := by decide +kernel
theorem dX4_closestCouple_79 : decode cX4_closestCouple 79 = .ok (.goto (-65), 3) := by decide +kernel
theorem dX4_closestCouple_82 : decode cX4_closestCouple 82 = .ok (.iinc 2 1, 3) := by decide +kernel
theorem dX4_closestCouple_85 : decode cX4_closestCouple 85 = .ok (.goto (-81), 3) := by decide +kernel
theorem dX4_closestCouple_88 : decode cX4_closestCouple 88 = .ok (.iload_n 1, 1) := by decide +kernel
theorem dX4_closestCouple_89 : decode cX4_closestCouple 89 = .ok (.ireturn, 1) := by decide +kernel
set_option maxRecDepth 20000 in
theorem ggX5_init_X4_init : GoodIn wsX5_init wsX4_init := goodIn_r _ [10, 11, 2, 3, 12, 13, 14, 15, 16, 17, 18, 19, 20, 21, 25, 26, 27, 28, 29, 30, 31, 32, 33] (by decide +kernel) (by decide +kernel)
set_option maxRecDepth 20000 in
theorem gX5_init_X4_init : GoodIn wsX5_init (wsX4_init) := ggX5_init_X4_init
theorem dX5_init_0 : decode cX5_init 0 = .ok (.aload_n 0, 1) := by decide +kernel
theorem dX5_init_1 : decode cX5_init 1 = .ok (.invokespecial 3, 3) := by decide +kernel
theorem dX5_init_4 : decode cX5_init 4 = .ok (.aload_n 0, 1) := by decide +kernel
theorem dX5_init_5 : decode cX5_init 5 = .ok (.iconst 4, 1) := by decide +kernel
theorem dX5_init_6 : decode cX5_init 6 = .ok (.anewarray 9, 3) := by decide +kernel
theorem dX5_init_9 : decode cX5_init 9 = .ok (.putfield 11, 3) := by decide +kernel
theorem dX5_init_12 : decode cX5_init 12 = .ok (.iconst 0, 1) := by decide +kernel
theorem dX5_init_13 : decode cX5_init 13 = .ok (.istore_n 1, 1) := by decide +kernel
theorem dX5_init_14 : decode cX5_init 14 = .ok (.iload_n 1, 1) := by decide +kernel
theorem dX5_init_15 : decode cX5_init 15 = .ok (.iconst 4, 1) := by decide +kernel
theorem dX5_init_16 : decode cX5_init 16 = .ok (.if_icmp .ge 22, 3) := by decide +kernel
theorem dX5_init_19 : decode cX5_init 19 = .ok (.aload_n 0, 1) := by decide +kernel
theorem dX5_init_20 : decode cX5_init 20 = .ok (.getfield 11, 3) := by decide +kernel
theorem dX5_init_23 : decode cX5_init 23 = .ok (.iload_n 1, 1) := by decide +kernel
theorem dX5_init_24 : decode cX5_init 24 = .ok (.new 9, 3) := by decide +kernel
theorem dX5_init_27 : decode cX5_init 27 = .ok (.dup, 1) := by decide +kernel
theorem dX5_init_28 : decode cX5_init 28 = .ok (.invokespecial 17, 3) := by decide +kernel
theorem dX5_init_31 : decode cX5_init 31 = .ok (.aastore, 1) := by decide +kernel
theorem dX5_init_32 : decode cX5_init 32 = .ok (.iinc 1 1, 3) := by decide +kernel
theorem dX5_init_35 : decode cX5_init 35 = .ok (.goto (-21), 3) := by decide +kernel
theorem dX5_init_38 : decode cX5_init 38 = .ok (.return_, 1) := by decide +kernel
set_option maxRecDepth 20000 in
theorem ggX5_push_X4_copy : GoodIn wsX5_push wsX4_copy := goodIn_r _ [12, 13, 14, 15, 16, 17, 18, 19, 20, 21, 25, 26, 27, 28, 29, 30, 31, 32, 33] (by decide +kernel) (by decide +kernel)
set_option maxRecDepth 20000 in
theorem gX5_push_X4_copy : GoodIn wsX5_push (wsV RX5 22 RX4 yX4_copy wsX4_copy) := goodIn_app (goodIn_of _ (by decide +kernel)) ggX5_push_X4_copy
theorem dX5_push_0 : decode cX5_push 0 = .ok (.aload_n 0, 1) := by decide +kernel
theorem dX5_push_1 : decode cX5_push 1 = .ok (.getfield 11, 3) := by decide +kernel
theorem dX5_push_4 : decode cX5_push 4 = .ok (.aload_n 0, 1) := by decide +kernel
theorem dX5_push_5 : decode cX5_push 5 = .ok (.getfield 18, 3) := by decide +kernel
theorem dX5_push_8 : decode cX5_push 8 = .ok (.aaload, 1) := by decide +kernel
theorem dX5_push_9 : decode cX5_push 9 = .ok (.aload_n 1, 1) := by decide +kernel
theorem dX5_push_10 : decode cX5_push 10 = .ok (.invokevirtual 22, 3) := by decide +kernel
theorem dX5_push_13 : decode cX5_push 13 = .ok (.aload_n 0, 1) := by decide +kernel
theorem dX5_push_14 : decode cX5_push 14 = .ok (.aload_n 0, 1) := by decide +kernel
theorem dX5_push_15 : decode cX5_push 15 = .ok (.getfield 18, 3) := by decide +kernel
theorem dX5_push_18 : decode cX5_push 18 = .ok (.iconst 1, 1) := by decide +kernel
theorem dX5_push_19 : decode cX5_push 19 = .ok (.iadd, 1) := by decide +kernel
theorem dX5_push_20 : decode cX5_push 20 = .ok (.iconst 4, 1) := by decide +kernel
theorem dX5_push_21 : decode cX5_push 21 = .ok (.irem, 1) := by decide +kernel
theorem dX5_push_22 : decode cX5_push 22 = .ok (.putfield 18, 3) := by decide +kernel
theorem dX5_push_25 : decode cX5_push 25 = .ok (.aload_n 0, 1) := by decide +kernel
theorem dX5_push_26 : decode cX5_push 26 = .ok (.aload_n 0, 1) := by decide +kernel
theorem dX5_push_27 : decode cX5_push 27 = .ok (.getfield 26, 3) := by decide +kernel
theorem dX5_push_30 : decode cX5_push 30 = .ok (.iconst 1, 1) := by decide +kernel
theorem dX5_push_31 : decode cX5_push 31 = .ok (.iadd, 1) := by decide +kernel
theorem dX5_push_32 : decode cX5_push 32 = .ok (.iconst 4, 1) := by decide +kernel
theorem dX5_push_33 : decode cX5_push 33 = .ok (.invokestatic 29, 3) := by decide +kernel
theorem dX5_push_36 : decode cX5_push 36 = .ok (.putfield 26, 3) := by decide +kernel
theorem dX5_push_39 : decode cX5_push 39 = .ok (.return_, 1) := by decide +kernel
set_option maxRecDepth 20000 in
theorem ggX5_pop_X4_copy : GoodIn wsX5_pop wsX4_copy := goodIn_r _ [8, 9, 10, 11, 12, 13, 14, 15, 16, 17, 21, 22, 23, 24, 25, 26, 27, 28, 29] (by decide +kernel) (by decide +kernel)
set_option maxRecDepth 20000 in
theorem gX5_pop_X4_copy : GoodIn wsX5_pop (wsV RX5 22 RX4 yX4_copy wsX4_copy) := goodIn_app (goodIn_of _ (by decide +kernel)) ggX5_pop_X4_copy
theorem dX5_pop_0 : decode cX5_pop 0 = .ok (.aload_n 0, 1) := by decide +kernel
theorem dX5_pop_1 : decode cX5_pop 1 = .ok (.aload_n 0, 1) := by decide +kernel
theorem dX5_pop_2 : decode cX5_pop 2 = .ok (.getfield 18, 3) := by decide +kernel
theorem dX5_pop_5 : decode cX5_pop 5 = .ok (.iconst 4, 1) := by decide +kernel
theorem dX5_pop_6 : decode cX5_pop 6 = .ok (.iadd, 1) := by decide +kernel
theorem dX5_pop_7 : decode cX5_pop 7 = .ok (.iconst 1, 1) := by decide +kernel
theorem dX5_pop_8 : decode cX5_pop 8 = .ok (.isub, 1) := by decide +kernel
theorem dX5_pop_9 : decode cX5_pop 9 = .ok (.iconst 4, 1) := by decide +kernel
theorem dX5_pop_10 : decode cX5_pop 10 = .ok (.irem, 1) := by decide +kernel
theorem dX5_pop_11 : decode cX5_pop 11 = .ok (.putfield 18, 3) := by decide +kernel
theorem dX5_pop_14 : decode cX5_pop 14 = .ok (.aload_n 0, 1) := by decide +kernel
theorem dX5_pop_15 : decode cX5_pop 15 = .ok (.dup, 1) := by decide +kernel
theorem dX5_pop_16 : decode cX5_pop 16 = .ok (.getfield 26, 3) := by decide +kernel
theorem dX5_pop_19 : decode cX5_pop 19 = .ok (.iconst 1, 1) := by decide +kernel
theorem dX5_pop_20 : decode cX5_pop 20 = .ok (.isub, 1) := by decide +kernel
theorem dX5_pop_21 : decode cX5_pop 21 = .ok (.putfield 26, 3) := by decide +kernel
theorem dX5_pop_24 : decode cX5_pop 24 = .ok (.aload_n 1, 1) := by decide +kernel
theorem dX5_pop_25 : decode cX5_pop 25 = .ok (.aload_n 0, 1) := by decide +kernel
theorem dX5_pop_26 : decode cX5_pop 26 = .ok (.getfield 11, 3) := by decide +kernel
theorem dX5_pop_29 : decode cX5_pop 29 = .ok (.aload_n 0, 1) := by decide +kernel
theorem dX5_pop_30 : decode cX5_pop 30 = .ok (.getfield 18, 3) := by decide +kernel
theorem dX5_pop_33 : decode cX5_pop 33 = .ok (.aaload, 1) := by decide +kernel
theorem dX5_pop_34 : decode cX5_pop 34 = .ok (.invokevirtual 22, 3) := by decide +kernel
theorem dX5_pop_37 : decode cX5_pop 37 = .ok (.return_, 1) := by decide +kernel
