theorem dX10_init_0 : decode cX10_init 0 = .ok (.aload_n 0, 1) := by decide +kernel
theorem dX10_init_1 : decode cX10_init 1 = .ok (.invokespecial 1, 3) := by decide +kernel
theorem dX10_init_4 : decode cX10_init 4 = .ok (.aload_n 0, 1) := by decide +kernel
theorem dX10_init_5 : decode cX10_init 5 = .ok (.sipush 244, 3) := by decide +kernel
theorem dX10_init_8 : decode cX10_init 8 = .ok (.newarray .int, 2) := by decide +kernel
theorem dX10_init_10 : decode cX10_init 10 = .ok (.putfield 7, 3) := by decide +kernel
theorem dX10_init_13 : decode cX10_init 13 = .ok (.aload_n 0, 1) := by decide +kernel
theorem dX10_init_14 : decode cX10_init 14 = .ok (.sipush 976, 3) := by decide +kernel
theorem dX10_init_17 : decode cX10_init 17 = .ok (.newarray .int, 2) := by decide +kernel
theorem dX10_init_19 : decode cX10_init 19 = .ok (.putfield 13, 3) := by decide +kernel
theorem dX10_init_22 : decode cX10_init 22 = .ok (.aload_n 0, 1) := by decide +kernel
theorem dX10_init_23 : decode cX10_init 23 = .ok (.sipush 160, 3) := by decide +kernel
theorem dX10_init_26 : decode cX10_init 26 = .ok (.newarray .byte, 2) := by decide +kernel
theorem dX10_init_28 : decode cX10_init 28 = .ok (.putfield 16, 3) := by decide +kernel
theorem dX10_init_31 : decode cX10_init 31 = .ok (.aload_n 0, 1) := by decide +kernel
theorem dX10_init_32 : decode cX10_init 32 = .ok (.bipush 48, 2) := by decide +kernel
theorem dX10_init_34 : decode cX10_init 34 = .ok (.newarray .int, 2) := by decide +kernel
theorem dX10_init_36 : decode cX10_init 36 = .ok (.putfield 20, 3) := by decide +kernel
theorem dX10_init_39 : decode cX10_init 39 = .ok (.aload_n 0, 1) := by decide +kernel
theorem dX10_init_40 : decode cX10_init 40 = .ok (.bipush 48, 2) := by decide +kernel
theorem dX10_init_42 : decode cX10_init 42 = .ok (.newarray .int, 2) := by decide +kernel
theorem dX10_init_44 : decode cX10_init 44 = .ok (.putfield 23, 3) := by decide +kernel
theorem dX10_init_47 : decode cX10_init 47 = .ok (.aload_n 0, 1) := by decide +kernel
theorem dX10_init_48 : decode cX10_init 48 = .ok (.sipush 144, 3) := by decide +kernel
theorem dX10_init_51 : decode cX10_init 51 = .ok (.newarray .int, 2) := by decide +kernel
theorem dX10_init_53 : decode cX10_init 53 = .ok (.putfield 26, 3) := by decide +kernel
theorem dX10_init_56 : decode cX10_init 56 = .ok (.aload_n 0, 1) := by decide +kernel
theorem dX10_init_57 : decode cX10_init 57 = .ok (.bipush 14, 2) := by decide +kernel
theorem dX10_init_59 : decode cX10_init 59 = .ok (.newarray .int, 2) := by decide +kernel
theorem dX10_init_61 : decode cX10_init 61 = .ok (.putfield 29, 3) := by decide +kernel
theorem dX10_init_64 : decode cX10_init 64 = .ok (.aload_n 0, 1) := by decide +kernel
theorem dX10_init_65 : decode cX10_init 65 = .ok (.sipush 144, 3) := by decide +kernel
theorem dX10_init_68 : decode cX10_init 68 = .ok (.newarray .int, 2) := by decide +kernel
theorem dX10_init_70 : decode cX10_init 70 = .ok (.putfield 32, 3) := by decide +kernel
theorem dX10_init_73 : decode cX10_init 73 = .ok (.aload_n 0, 1) := by decide +kernel
theorem dX10_init_74 : decode cX10_init 74 = .ok (.getfield 7, 3) := by decide +kernel
theorem dX10_init_77 : decode cX10_init 77 = .ok (.iconst 0, 1) := by decide +kernel
theorem dX10_init_78 : decode cX10_init 78 = .ok (.bipush 7, 2) := by decide +kernel
theorem dX10_init_80 : decode cX10_init 80 = .ok (.iastore, 1) := by decide +kernel
theorem dX10_init_81 : decode cX10_init 81 = .ok (.aload_n 0, 1) := by decide +kernel
theorem dX10_init_82 : decode cX10_init 82 = .ok (.getfield 7, 3) := by decide +kernel
theorem dX10_init_85 : decode cX10_init 85 = .ok (.iconst 1, 1) := by decide +kernel
theorem dX10_init_86 : decode cX10_init 86 = .ok (.bipush 7, 2) := by decide +kernel
theorem dX10_init_88 : decode cX10_init 88 = .ok (.iastore, 1) := by decide +kernel
theorem dX10_init_89 : decode cX10_init 89 = .ok (.return_, 1) := by decide +kernel
theorem dX10_in_0 : decode cX10_in 0 = .ok (.iload_n 0, 1) := by decide +kernel
theorem dX10_in_1 : decode cX10_in 1 = .ok (.iload_n 1, 1) := by decide +kernel
theorem dX10_in_2 : decode cX10_in 2 = .ok (.if_icmp .lt 12, 3) := by decide +kernel
theorem dX10_in_5 : decode cX10_in 5 = .ok (.iload_n 0, 1) := by decide +kernel
theorem dX10_in_6 : decode cX10_in 6 = .ok (.iload_n 2, 1) := by decide +kernel
theorem dX10_in_7 : decode cX10_in 7 = .ok (.if_icmp .gt 7, 3) := by decide +kernel
theorem dX10_in_10 : decode cX10_in 10 = .ok (.iconst 1, 1) := by decide +kernel
theorem dX10_in_11 : decode cX10_in 11 = .ok (.goto 4, 3) := by decide +kernel
theorem dX10_in_14 : decode cX10_in 14 = .ok (.iconst 0, 1) := by decide +kernel
theorem dX10_in_15 : decode cX10_in 15 = .ok (.ireturn, 1) := by decide +kernel
theorem dX10_lesser_0 : decode cX10_lesser 0 = .ok (.iload_n 0, 1) := by decide +kernel
theorem dX10_lesser_1 : decode cX10_lesser 1 = .ok (.iload_n 1, 1) := by decide +kernel
theorem dX10_lesser_2 : decode cX10_lesser 2 = .ok (.if_icmp .ge 7, 3) := by decide +kernel
theorem dX10_lesser_5 : decode cX10_lesser 5 = .ok (.iload_n 0, 1) := by decide +kernel
theorem dX10_lesser_6 : decode cX10_lesser 6 = .ok (.goto 4, 3) := by decide +kernel
theorem dX10_lesser_9 : decode cX10_lesser 9 = .ok (.iload_n 1, 1) := by decide +kernel
theorem dX10_lesser_10 : decode cX10_lesser 10 = .ok (.ireturn, 1) := by decide +kernel
theorem dX10_greater_0 : decode cX10_greater 0 = .ok (.iload_n 0, 1) := by decide +kernel
theorem dX10_greater_1 : decode cX10_greater 1 = .ok (.iload_n 1, 1) := by decide +kernel
theorem dX10_greater_2 : decode cX10_greater 2 = .ok (.if_icmp .le 7, 3) := by decide +kernel
theorem dX10_greater_5 : decode cX10_greater 5 = .ok (.iload_n 0, 1) := by decide +kernel
theorem dX10_greater_6 : decode cX10_greater 6 = .ok (.goto 4, 3) := by decide +kernel
theorem dX10_greater_9 : decode cX10_greater 9 = .ok (.iload_n 1, 1) := by decide +kernel
theorem dX10_greater_10 : decode cX10_greater 10 = .ok (.ireturn, 1) := by decide +kernel
theorem dX10_notes_0 : decode cX10_notes 0 = .ok (.aload_n 0, 1) := by decide +kernel
theorem dX10_notes_1 : decode cX10_notes 1 = .ok (.getfield 35, 3) := by decide +kernel
theorem dX10_notes_4 : decode cX10_notes 4 = .ok (.iconst 4, 1) := by decide +kernel
theorem dX10_notes_5 : decode cX10_notes 5 = .ok (.if_icmp .ne 44, 3) := by decide +kernel
theorem dX10_notes_8 : decode cX10_notes 8 = .ok (.iconst 0, 1) := by decide +kernel
theorem dX10_notes_9 : decode cX10_notes 9 = .ok (.istore_n 1, 1) := by decide +kernel
theorem dX10_notes_10 : decode cX10_notes 10 = .ok (.iload_n 1, 1) := by decide +kernel
theorem dX10_notes_11 : decode cX10_notes 11 = .ok (.sipush 732, 3) := by decide +kernel
theorem dX10_notes_14 : decode cX10_notes 14 = .ok (.if_icmp .ge 25, 3) := by decide +kernel
theorem dX10_notes_17 : decode cX10_notes 17 = .ok (.aload_n 0, 1) := by decide +kernel
theorem dX10_notes_18 : decode cX10_notes 18 = .ok (.getfield 13, 3) := by decide +kernel
theorem dX10_notes_21 : decode cX10_notes 21 = .ok (.iload_n 1, 1) := by decide +kernel
theorem dX10_notes_22 : decode cX10_notes 22 = .ok (.aload_n 0, 1) := by decide +kernel
theorem dX10_notes_23 : decode cX10_notes 23 = .ok (.getfield 13, 3) := by decide +kernel
theorem dX10_notes_26 : decode cX10_notes 26 = .ok (.iload_n 1, 1) := by decide +kernel
theorem dX10_notes_27 : decode cX10_notes 27 = .ok (.sipush 244, 3) := by decide +kernel
theorem dX10_notes_30 : decode cX10_notes 30 = .ok (.iadd, 1) := by decide +kernel
theorem dX10_notes_31 : decode cX10_notes 31 = .ok (.iaload, 1) := by decide +kernel
theorem dX10_notes_32 : decode cX10_notes 32 = .ok (.iastore, 1) := by decide +kernel
theorem dX10_notes_33 : decode cX10_notes 33 = .ok (.iinc 1 1, 3) := by decide +kernel
theorem dX10_notes_36 : decode cX10_notes 36 = .ok (.goto (-26), 3) := by decide +kernel
theorem dX10_notes_39 : decode cX10_notes 39 = .ok (.aload_n 0, 1) := by decide +kernel
theorem dX10_notes_40 : decode cX10_notes 40 = .ok (.dup, 1) := by decide +kernel
theorem dX10_notes_41 : decode cX10_notes 41 = .ok (.getfield 35, 3) := by decide +kernel
theorem dX10_notes_44 : decode cX10_notes 44 = .ok (.iconst 1, 1) := by decide +kernel
theorem dX10_notes_45 : decode cX10_notes 45 = .ok (.isub, 1) := by decide +kernel
theorem dX10_notes_46 : decode cX10_notes 46 = .ok (.putfield 35, 3) := by decide +kernel
theorem dX10_notes_49 : decode cX10_notes 49 = .ok (.iconst 0, 1) := by decide +kernel
theorem dX10_notes_50 : decode cX10_notes 50 = .ok (.istore_n 1, 1) := by decide +kernel
theorem dX10_notes_51 : decode cX10_notes 51 = .ok (.iload_n 1, 1) := by decide +kernel
theorem dX10_notes_52 : decode cX10_notes 52 = .ok (.sipush 244, 3) := by decide +kernel
theorem dX10_notes_55 : decode cX10_notes 55 = .ok (.if_icmp .ge 30, 3) := by decide +kernel
theorem dX10_notes_58 : decode cX10_notes 58 = .ok (.aload_n 0, 1) := by decide +kernel
theorem dX10_notes_59 : decode cX10_notes 59 = .ok (.getfield 13, 3) := by decide +kernel
theorem dX10_notes_62 : decode cX10_notes 62 = .ok (.sipush 244, 3) := by decide +kernel
theorem dX10_notes_65 : decode cX10_notes 65 = .ok (.aload_n 0, 1) := by decide +kernel
theorem dX10_notes_66 : decode cX10_notes 66 = .ok (.getfield 35, 3) := by decide +kernel
theorem dX10_notes_69 : decode cX10_notes 69 = .ok (.imul, 1) := by decide +kernel
theorem dX10_notes_70 : decode cX10_notes 70 = .ok (.iload_n 1, 1) := by decide +kernel
theorem dX10_notes_71 : decode cX10_notes 71 = .ok (.iadd, 1) := by decide +kernel
theorem dX10_notes_72 : decode cX10_notes 72 = .ok (.aload_n 0, 1) := by decide +kernel
theorem dX10_notes_73 : decode cX10_notes 73 = .ok (.getfield 7, 3) := by decide +kernel
theorem dX10_notes_76 : decode cX10_notes 76 = .ok (.iload_n 1, 1) := by decide +kernel
theorem dX10_notes_77 : decode cX10_notes 77 = .ok (.iaload, 1) := by decide +kernel
theorem dX10_notes_78 : decode cX10_notes 78 = .ok (.iastore, 1) := by decide +kernel
theorem dX10_notes_79 : decode cX10_notes 79 = .ok (.iinc 1 1, 3) := by decide +kernel
theorem dX10_notes_82 : decode cX10_notes 82 = .ok (.goto (-31), 3) := by decide +kernel
theorem dX10_notes_85 : decode cX10_notes 85 = .ok (.aload_n 0, 1) := by decide +kernel
theorem dX10_notes_86 : decode cX10_notes 86 = .ok (.dup, 1) := by decide +kernel
theorem dX10_notes_87 : decode cX10_notes 87 = .ok (.getfield 35, 3) := by decide +kernel
theorem dX10_notes_90 : decode cX10_notes 90 = .ok (.iconst 1, 1) := by decide +kernel
theorem dX10_notes_91 : decode cX10_notes 91 = .ok (.iadd, 1) := by decide +kernel
theorem dX10_notes_92 : decode cX10_notes 92 = .ok (.putfield 35, 3) := by decide +kernel
theorem dX10_notes_95 : decode cX10_notes 95 = .ok (.return_, 1) := by decide +kernel
set_option maxRecDepth 20000 in
theorem ggX10_undo_X10_findWays : GoodIn wsX10_undo wsX10_findWays := goodIn_r _ [8, 9, 2, 10, 11, 12, 7, 13, 14, 15, 16, 17, 18, 19, 20, 21, 22, 23, 24, 25, 26, 27, 28, 29, 30, 31, 32, 33, 34, 35, 36, 37, 38, 39, 40] (by decide +kernel) (by decide +kernel)
set_option maxRecDepth 20000 in
theorem gX10_undo_X10_findWays : GoodIn wsX10_undo (wsV RX10 39 RX10 yX10_findWays wsX10_findWays) := goodIn_app (goodIn_of _ (by decide +kernel)) ggX10_undo_X10_findWays
theorem dX10_undo_0 : decode cX10_undo 0 = .ok (.aload_n 0, 1) := by decide +kernel
theorem dX10_undo_1 : decode cX10_undo 1 = .ok (.getfield 35, 3) := by decide +kernel
theorem dX10_undo_4 : decode cX10_undo 4 = .ok (.ifCond .ne 6, 3) := by decide +kernel
theorem dX10_undo_7 : decode cX10_undo 7 = .ok (.bipush (-2), 2) := by decide +kernel
theorem dX10_undo_9 : decode cX10_undo 9 = .ok (.ireturn, 1) := by decide +kernel
theorem dX10_undo_10 : decode cX10_undo 10 = .ok (.aload_n 0, 1) := by decide +kernel
theorem dX10_undo_11 : decode cX10_undo 11 = .ok (.dup, 1) := by decide +kernel
theorem dX10_undo_12 : decode cX10_undo 12 = .ok (.getfield 35, 3) := by decide +kernel
theorem dX10_undo_15 : decode cX10_undo 15 = .ok (.iconst 1, 1) := by decide +kernel
theorem dX10_undo_16 : decode cX10_undo 16 = .ok (.isub, 1) := by decide +kernel
theorem dX10_undo_17 : decode cX10_undo 17 = .ok (.putfield 35, 3) := by decide +kernel
theorem dX10_undo_20 : decode cX10_undo 20 = .ok (.iconst 0, 1) := by decide +kernel
theorem dX10_undo_21 : decode cX10_undo 21 = .ok (.istore_n 1, 1) := by decide +kernel
theorem dX10_undo_22 : decode cX10_undo 22 = .ok (.iload_n 1, 1) := by decide +kernel
theorem dX10_undo_23 : decode cX10_undo 23 = .ok (.sipush 244, 3) := by decide +kernel
theorem dX10_undo_26 : decode cX10_undo 26 = .ok (.if_icmp .ge 30, 3) := by decide +kernel
theorem dX10_undo_29 : decode cX10_undo 29 = .ok (.aload_n 0, 1) := by decide +kernel
theorem dX10_undo_30 : decode cX10_undo 30 = .ok (.getfield 7, 3) := by decide +kernel
theorem dX10_undo_33 : decode cX10_undo 33 = .ok (.iload_n 1, 1) := by decide +kernel
theorem dX10_undo_34 : decode cX10_undo 34 = .ok (.aload_n 0, 1) := by decide +kernel
theorem dX10_undo_35 : decode cX10_undo 35 = .ok (.getfield 13, 3) := by decide +kernel
theorem dX10_undo_38 : decode cX10_undo 38 = .ok (.sipush 244, 3) := by decide +kernel
theorem dX10_undo_41 : decode cX10_undo 41 = .ok (.aload_n 0, 1) := by decide +kernel
theorem dX10_undo_42 : decode cX10_undo 42 = .ok (.getfield 35, 3) := by decide +kernel
theorem dX10_undo_45 : decode cX10_undo 45 = .ok (.imul, 1) := by decide +kernel
theorem dX10_undo_46 : decode cX10_undo 46 = .ok (.iload_n 1, 1) := by decide +kernel
theorem dX10_undo_47 : decode cX10_undo 47 = .ok (.iadd, 1) := by decide +kernel
theorem dX10_undo_48 : decode cX10_undo 48 = .ok (.iaload, 1) := by decide +kernel
theorem dX10_undo_49 : decode cX10_undo 49 = .ok (.iastore, 1) := by decide +kernel
theorem dX10_undo_50 : decode cX10_undo 50 = .ok (.iinc 1 1, 3) := by decide +kernel
theorem dX10_undo_53 : decode cX10_undo 53 = .ok (.goto (-31), 3) := by decide +kernel
theorem dX10_undo_56 : decode cX10_undo 56 = .ok (.aload_n 0, 1) := by decide +kernel
theorem dX10_undo_57 : decode cX10_undo 57 = .ok (.invokevirtual 39, 3) := by decide +kernel
theorem dX10_undo_60 : decode cX10_undo 60 = .ok (.aload_n 0, 1) := by decide +kernel
theorem dX10_undo_61 : decode cX10_undo 61 = .ok (.getfield 35, 3) := by decide +kernel
theorem dX10_undo_64 : decode cX10_undo 64 = .ok (.ireturn, 1) := by decide +kernel
theorem dX10_cells_0 : decode cX10_cells 0 = .ok (.aload_n 0, 1) := by decide +kernel
theorem dX10_cells_1 : decode cX10_cells 1 = .ok (.getfield 7, 3) := by decide +kernel
theorem dX10_cells_4 : decode cX10_cells 4 = .ok (.iconst 0, 1) := by decide +kernel
theorem dX10_cells_5 : decode cX10_cells 5 = .ok (.iaload, 1) := by decide +kernel
theorem dX10_cells_6 : decode cX10_cells 6 = .ok (.aload_n 0, 1) := by decide +kernel
theorem dX10_cells_7 : decode cX10_cells 7 = .ok (.getfield 7, 3) := by decide +kernel
theorem dX10_cells_10 : decode cX10_cells 10 = .ok (.iconst 1, 1) := by decide +kernel
theorem dX10_cells_11 : decode cX10_cells 11 = .ok (.iaload, 1) := by decide +kernel
theorem dX10_cells_12 : decode cX10_cells 12 = .ok (.imul, 1) := by decide +kernel
theorem dX10_cells_13 : decode cX10_cells 13 = .ok (.ireturn, 1) := by decide +kernel
set_option maxRecDepth 20000 in
theorem ggX10_isCell_X10_cells : GoodIn wsX10_isCell wsX10_cells := goodIn_r _ [5, 6, 10, 11, 12, 13, 14, 15, 16, 17, 18, 19, 20, 21, 22, 23, 24, 25, 26] (by decide +kernel) (by decide +kernel)
set_option maxRecDepth 20000 in
theorem gX10_isCell_X10_cells : GoodIn wsX10_isCell (wsV RX10 42 RX10 yX10_cells wsX10_cells) := goodIn_app (goodIn_of _ (by decide +kernel)) ggX10_isCell_X10_cells
set_option maxRecDepth 20000 in
theorem ggX10_isCell_X10_in : GoodIn wsX10_isCell wsX10_in := goodIn_r _ [9] (by decide +kernel) (by decide +kernel)
set_option maxRecDepth 20000 in
theorem gX10_isCell_X10_in : GoodIn wsX10_isCell (va_wsS RX10 46 yX10_in wsX10_in) := goodIn_app (goodIn_of _ (by decide +kernel)) ggX10_isCell_X10_in
theorem dX10_isCell_0 : decode cX10_isCell 0 = .ok (.iload_n 1, 1) := by decide +kernel
theorem dX10_isCell_1 : decode cX10_isCell 1 = .ok (.iconst 0, 1) := by decide +kernel
theorem dX10_isCell_2 : decode cX10_isCell 2 = .ok (.aload_n 0, 1) := by decide +kernel
theorem dX10_isCell_3 : decode cX10_isCell 3 = .ok (.invokevirtual 42, 3) := by decide +kernel
theorem dX10_isCell_6 : decode cX10_isCell 6 = .ok (.iconst 1, 1) := by decide +kernel
theorem dX10_isCell_7 : decode cX10_isCell 7 = .ok (.isub, 1) := by decide +kernel
theorem dX10_isCell_8 : decode cX10_isCell 8 = .ok (.invokestatic 46, 3) := by decide +kernel
theorem dX10_isCell_11 : decode cX10_isCell 11 = .ok (.ireturn, 1) := by decide +kernel
theorem dX10_number_0 : decode cX10_number 0 = .ok (.aload_n 0, 1) := by decide +kernel
theorem dX10_number_1 : decode cX10_number 1 = .ok (.getfield 7, 3) := by decide +kernel
theorem dX10_number_4 : decode cX10_number 4 = .ok (.iconst 4, 1) := by decide +kernel
theorem dX10_number_5 : decode cX10_number 5 = .ok (.iload_n 1, 1) := by decide +kernel
theorem dX10_number_6 : decode cX10_number 6 = .ok (.iadd, 1) := by decide +kernel
theorem dX10_number_7 : decode cX10_number 7 = .ok (.iaload, 1) := by decide +kernel
theorem dX10_number_8 : decode cX10_number 8 = .ok (.ireturn, 1) := by decide +kernel
set_option maxRecDepth 20000 in
theorem ggX10_islands_X10_cells : GoodIn wsX10_islands wsX10_cells := goodIn_r _ [5, 6, 11, 12, 13, 14, 15, 16, 17, 18, 19, 20, 21, 22, 23, 24, 25, 26, 27] (by decide +kernel) (by decide +kernel)
set_option maxRecDepth 20000 in
theorem gX10_islands_X10_cells : GoodIn wsX10_islands (wsV RX10 42 RX10 yX10_cells wsX10_cells) := goodIn_app (goodIn_of _ (by decide +kernel)) ggX10_islands_X10_cells
set_option maxRecDepth 20000 in
theorem ggX10_islands_X10_number : GoodIn wsX10_islands wsX10_number := goodIn_r _ [10, 6, 11, 12, 13, 14, 15, 16, 17, 18, 19, 20, 21, 22, 23, 24, 25, 26, 27] (by decide +kernel) (by decide +kernel)
set_option maxRecDepth 20000 in
theorem gX10_islands_X10_number : GoodIn wsX10_islands (wsV RX10 50 RX10 yX10_number wsX10_number) := goodIn_app (goodIn_of _ (by decide +kernel)) ggX10_islands_X10_number
theorem dX10_islands_0 : decode cX10_islands 0 = .ok (.iconst 0, 1) := by decide +kernel
theorem dX10_islands_1 : decode cX10_islands 1 = .ok (.istore_n 1, 1) := by decide +kernel
theorem dX10_islands_2 : decode cX10_islands 2 = .ok (.iconst 0, 1) := by decide +kernel
theorem dX10_islands_3 : decode cX10_islands 3 = .ok (.istore_n 2, 1) := by decide +kernel
theorem dX10_islands_4 : decode cX10_islands 4 = .ok (.iload_n 2, 1) := by decide +kernel
theorem dX10_islands_5 : decode cX10_islands 5 = .ok (.aload_n 0, 1) := by decide +kernel
theorem dX10_islands_6 : decode cX10_islands 6 = .ok (.invokevirtual 42, 3) := by decide +kernel
theorem dX10_islands_9 : decode cX10_islands 9 = .ok (.if_icmp .ge 25, 3) := by decide +kernel
theorem dX10_islands_12 : decode cX10_islands 12 = .ok (.iload_n 1, 1) := by decide +kernel
theorem dX10_islands_13 : decode cX10_islands 13 = .ok (.aload_n 0, 1) := by decide +kernel
theorem dX10_islands_14 : decode cX10_islands 14 = .ok (.iload_n 2, 1) := by decide +kernel
theorem dX10_islands_15 : decode cX10_islands 15 = .ok (.invokevirtual 50, 3) := by decide +kernel
theorem dX10_islands_18 : decode cX10_islands 18 = .ok (.ifCond .le 7, 3) := by decide +kernel
theorem dX10_islands_21 : decode cX10_islands 21 = .ok (.iconst 1, 1) := by decide +kernel
theorem dX10_islands_22 : decode cX10_islands 22 = .ok (.goto 4, 3) := by decide +kernel
theorem dX10_islands_25 : decode cX10_islands 25 = .ok (.iconst 0, 1) := by decide +kernel
theorem dX10_islands_26 : decode cX10_islands 26 = .ok (.iadd, 1) := by decide +kernel
theorem dX10_islands_27 : decode cX10_islands 27 = .ok (.istore_n 1, 1) := by decide +kernel
theorem dX10_islands_28 : decode cX10_islands 28 = .ok (.iinc 2 1, 3) := by decide +kernel
theorem dX10_islands_31 : decode cX10_islands 31 = .ok (.goto (-27), 3) := by decide +kernel
theorem dX10_islands_34 : decode cX10_islands 34 = .ok (.iload_n 1, 1) := by decide +kernel
theorem dX10_islands_35 : decode cX10_islands 35 = .ok (.ireturn, 1) := by decide +kernel
theorem dX10_joins_0 : decode cX10_joins 0 = .ok (.aload_n 0, 1) := by decide +kernel
theorem dX10_joins_1 : decode cX10_joins 1 = .ok (.getfield 20, 3) := by decide +kernel
theorem dX10_joins_4 : decode cX10_joins 4 = .ok (.aload_n 0, 1) := by decide +kernel
theorem dX10_joins_5 : decode cX10_joins 5 = .ok (.getfield 54, 3) := by decide +kernel
theorem dX10_joins_8 : decode cX10_joins 8 = .ok (.iload_n 1, 1) := by decide +kernel
theorem dX10_joins_9 : decode cX10_joins 9 = .ok (.iastore, 1) := by decide +kernel
theorem dX10_joins_10 : decode cX10_joins 10 = .ok (.aload_n 0, 1) := by decide +kernel
theorem dX10_joins_11 : decode cX10_joins 11 = .ok (.getfield 23, 3) := by decide +kernel
theorem dX10_joins_14 : decode cX10_joins 14 = .ok (.aload_n 0, 1) := by decide +kernel
theorem dX10_joins_15 : decode cX10_joins 15 = .ok (.getfield 54, 3) := by decide +kernel
theorem dX10_joins_18 : decode cX10_joins 18 = .ok (.iload_n 2, 1) := by decide +kernel
theorem dX10_joins_19 : decode cX10_joins 19 = .ok (.iastore, 1) := by decide +kernel
theorem dX10_joins_20 : decode cX10_joins 20 = .ok (.aload_n 0, 1) := by decide +kernel
theorem dX10_joins_21 : decode cX10_joins 21 = .ok (.dup, 1) := by decide +kernel
theorem dX10_joins_22 : decode cX10_joins 22 = .ok (.getfield 54, 3) := by decide +kernel
theorem dX10_joins_25 : decode cX10_joins 25 = .ok (.iconst 1, 1) := by decide +kernel
theorem dX10_joins_26 : decode cX10_joins 26 = .ok (.iadd, 1) := by decide +kernel
theorem dX10_joins_27 : decode cX10_joins 27 = .ok (.putfield 54, 3) := by decide +kernel
theorem dX10_joins_30 : decode cX10_joins 30 = .ok (.return_, 1) := by decide +kernel
set_option maxRecDepth 20000 in
theorem ggX10_findWays_X10_cells : GoodIn wsX10_findWays wsX10_cells := goodIn_r _ [7, 2, 18, 19, 20, 21, 22, 23, 24, 25, 26, 27, 28, 29, 30, 31, 32, 33, 34] (by decide +kernel) (by decide +kernel)
set_option maxRecDepth 20000 in
theorem gX10_findWays_X10_cells : GoodIn wsX10_findWays (wsV RX10 42 RX10 yX10_cells wsX10_cells) := goodIn_app (goodIn_of _ (by decide +kernel)) ggX10_findWays_X10_cells
set_option maxRecDepth 20000 in
theorem ggX10_findWays_X10_number : GoodIn wsX10_findWays wsX10_number := goodIn_r _ [11, 2, 18, 19, 20, 21, 22, 23, 24, 25, 26, 27, 28, 29, 30, 31, 32, 33, 34] (by decide +kernel) (by decide +kernel)
set_option maxRecDepth 20000 in
theorem gX10_findWays_X10_number : GoodIn wsX10_findWays (wsV RX10 50 RX10 yX10_number wsX10_number) := goodIn_app (goodIn_of _ (by decide +kernel)) ggX10_findWays_X10_number
set_option maxRecDepth 20000 in
theorem ggX10_findWays_X10_joins : GoodIn wsX10_findWays wsX10_joins := goodIn_r _ [15, 16, 1, 17, 18, 19, 20, 21, 22, 23, 24, 25, 26, 27, 28, 29, 30, 31, 32, 33, 34] (by decide +kernel) (by decide +kernel)
set_option maxRecDepth 20000 in
theorem gX10_findWays_X10_joins : GoodIn wsX10_findWays (wsV RX10 57 RX10 yX10_joins wsX10_joins) := goodIn_app (goodIn_of _ (by decide +kernel)) ggX10_findWays_X10_joins
theorem dX10_findWays_0 : decode cX10_findWays 0 = .ok (.aload_n 0, 1) := by decide +kernel
theorem dX10_findWays_1 : decode cX10_findWays 1 = .ok (.iconst 0, 1) := by decide +kernel
theorem dX10_findWays_2 : decode cX10_findWays 2 = .ok (.putfield 54, 3) := by decide +kernel
theorem dX10_findWays_5 : decode cX10_findWays 5 = .ok (.iconst 0, 1) := by decide +kernel
theorem dX10_findWays_6 : decode cX10_findWays 6 = .ok (.istore_n 1, 1) := by decide +kernel
theorem dX10_findWays_7 : decode cX10_findWays 7 = .ok (.iload_n 1, 1) := by decide +kernel
theorem dX10_findWays_8 : decode cX10_findWays 8 = .ok (.aload_n 0, 1) := by decide +kernel
theorem dX10_findWays_9 : decode cX10_findWays 9 = .ok (.invokevirtual 42, 3) := by decide +kernel
theorem dX10_findWays_12 : decode cX10_findWays 12 = .ok (.if_icmp .ge 114, 3) := by decide +kernel
theorem dX10_findWays_15 : decode cX10_findWays 15 = .ok (.aload_n 0, 1) := by decide +kernel
theorem dX10_findWays_16 : decode cX10_findWays 16 = .ok (.iload_n 1, 1) := by decide +kernel
theorem dX10_findWays_17 : decode cX10_findWays 17 = .ok (.invokevirtual 50, 3) := by decide +kernel
theorem dX10_findWays_20 : decode cX10_findWays 20 = .ok (.ifCond .le 100, 3) := by decide +kernel
theorem dX10_findWays_23 : decode cX10_findWays 23 = .ok (.iload_n 1, 1) := by decide +kernel
theorem dX10_findWays_24 : decode cX10_findWays 24 = .ok (.iconst 1, 1) := by decide +kernel
theorem dX10_findWays_25 : decode cX10_findWays 25 = .ok (.iadd, 1) := by decide +kernel
theorem dX10_findWays_26 : decode cX10_findWays 26 = .ok (.istore_n 2, 1) := by decide +kernel
theorem dX10_findWays_27 : decode cX10_findWays 27 = .ok (.iload_n 2, 1) := by decide +kernel
theorem dX10_findWays_28 : decode cX10_findWays 28 = .ok (.aload_n 0, 1) := by decide +kernel
theorem dX10_findWays_29 : decode cX10_findWays 29 = .ok (.getfield 7, 3) := by decide +kernel
theorem dX10_findWays_32 : decode cX10_findWays 32 = .ok (.iconst 0, 1) := by decide +kernel
theorem dX10_findWays_33 : decode cX10_findWays 33 = .ok (.iaload, 1) := by decide +kernel
theorem dX10_findWays_34 : decode cX10_findWays 34 = .ok (.irem, 1) := by decide +kernel
theorem dX10_findWays_35 : decode cX10_findWays 35 = .ok (.ifCond .eq 17, 3) := by decide +kernel
theorem dX10_findWays_38 : decode cX10_findWays 38 = .ok (.aload_n 0, 1) := by decide +kernel
theorem dX10_findWays_39 : decode cX10_findWays 39 = .ok (.iload_n 2, 1) := by decide +kernel
theorem dX10_findWays_40 : decode cX10_findWays 40 = .ok (.invokevirtual 50, 3) := by decide +kernel
theorem dX10_findWays_43 : decode cX10_findWays 43 = .ok (.ifCond .ne 9, 3) := by decide +kernel
theorem dX10_findWays_46 : decode cX10_findWays 46 = .ok (.iinc 2 1, 3) := by decide +kernel
theorem dX10_findWays_49 : decode cX10_findWays 49 = .ok (.goto (-22), 3) := by decide +kernel
theorem dX10_findWays_52 : decode cX10_findWays 52 = .ok (.iload_n 2, 1) := by decide +kernel
theorem dX10_findWays_53 : decode cX10_findWays 53 = .ok (.aload_n 0, 1) := by decide +kernel
theorem dX10_findWays_54 : decode cX10_findWays 54 = .ok (.getfield 7, 3) := by decide +kernel
theorem dX10_findWays_57 : decode cX10_findWays 57 = .ok (.iconst 0, 1) := by decide +kernel
theorem dX10_findWays_58 : decode cX10_findWays 58 = .ok (.iaload, 1) := by decide +kernel
theorem dX10_findWays_59 : decode cX10_findWays 59 = .ok (.irem, 1) := by decide +kernel
theorem dX10_findWays_60 : decode cX10_findWays 60 = .ok (.ifCond .eq 9, 3) := by decide +kernel
theorem dX10_findWays_63 : decode cX10_findWays 63 = .ok (.aload_n 0, 1) := by decide +kernel
theorem dX10_findWays_64 : decode cX10_findWays 64 = .ok (.iload_n 1, 1) := by decide +kernel
theorem dX10_findWays_65 : decode cX10_findWays 65 = .ok (.iload_n 2, 1) := by decide +kernel
theorem dX10_findWays_66 : decode cX10_findWays 66 = .ok (.invokevirtual 57, 3) := by decide +kernel
theorem dX10_findWays_69 : decode cX10_findWays 69 = .ok (.iload_n 1, 1) := by decide +kernel
theorem dX10_findWays_70 : decode cX10_findWays 70 = .ok (.aload_n 0, 1) := by decide +kernel
theorem dX10_findWays_71 : decode cX10_findWays 71 = .ok (.getfield 7, 3) := by decide +kernel
theorem dX10_findWays_74 : decode cX10_findWays 74 = .ok (.iconst 0, 1) := by decide +kernel
theorem dX10_findWays_75 : decode cX10_findWays 75 = .ok (.iaload, 1) := by decide +kernel
theorem dX10_findWays_76 : decode cX10_findWays 76 = .ok (.iadd, 1) := by decide +kernel
theorem dX10_findWays_77 : decode cX10_findWays 77 = .ok (.istore_n 3, 1) := by decide +kernel
theorem dX10_findWays_78 : decode cX10_findWays 78 = .ok (.iload_n 3, 1) := by decide +kernel
theorem dX10_findWays_79 : decode cX10_findWays 79 = .ok (.aload_n 0, 1) := by decide +kernel
theorem dX10_findWays_80 : decode cX10_findWays 80 = .ok (.invokevirtual 42, 3) := by decide +kernel
theorem dX10_findWays_83 : decode cX10_findWays 83 = .ok (.if_icmp .ge 23, 3) := by decide +kernel
theorem dX10_findWays_86 : decode cX10_findWays 86 = .ok (.aload_n 0, 1) := by decide +kernel
theorem dX10_findWays_87 : decode cX10_findWays 87 = .ok (.iload_n 3, 1) := by decide +kernel
theorem dX10_findWays_88 : decode cX10_findWays 88 = .ok (.invokevirtual 50, 3) := by decide +kernel
theorem dX10_findWays_91 : decode cX10_findWays 91 = .ok (.ifCond .ne 15, 3) := by decide +kernel
theorem dX10_findWays_94 : decode cX10_findWays 94 = .ok (.iload_n 3, 1) := by decide +kernel
theorem dX10_findWays_95 : decode cX10_findWays 95 = .ok (.aload_n 0, 1) := by decide +kernel
theorem dX10_findWays_96 : decode cX10_findWays 96 = .ok (.getfield 7, 3) := by decide +kernel
theorem dX10_findWays_99 : decode cX10_findWays 99 = .ok (.iconst 0, 1) := by decide +kernel
theorem dX10_findWays_100 : decode cX10_findWays 100 = .ok (.iaload, 1) := by decide +kernel
theorem dX10_findWays_101 : decode cX10_findWays 101 = .ok (.iadd, 1) := by decide +kernel
theorem dX10_findWays_102 : decode cX10_findWays 102 = .ok (.istore_n 3, 1) := by decide +kernel
theorem dX10_findWays_103 : decode cX10_findWays 103 = .ok (.goto (-25), 3) := by decide +kernel
theorem dX10_findWays_106 : decode cX10_findWays 106 = .ok (.iload_n 3, 1) := by decide +kernel
theorem dX10_findWays_107 : decode cX10_findWays 107 = .ok (.aload_n 0, 1) := by decide +kernel
theorem dX10_findWays_108 : decode cX10_findWays 108 = .ok (.invokevirtual 42, 3) := by decide +kernel
theorem dX10_findWays_111 : decode cX10_findWays 111 = .ok (.if_icmp .ge 9, 3) := by decide +kernel
theorem dX10_findWays_114 : decode cX10_findWays 114 = .ok (.aload_n 0, 1) := by decide +kernel
theorem dX10_findWays_115 : decode cX10_findWays 115 = .ok (.iload_n 1, 1) := by decide +kernel
theorem dX10_findWays_116 : decode cX10_findWays 116 = .ok (.iload_n 3, 1) := by decide +kernel
theorem dX10_findWays_117 : decode cX10_findWays 117 = .ok (.invokevirtual 57, 3) := by decide +kernel
theorem dX10_findWays_120 : decode cX10_findWays 120 = .ok (.iinc 1 1, 3) := by decide +kernel
theorem dX10_findWays_123 : decode cX10_findWays 123 = .ok (.goto (-116), 3) := by decide +kernel
theorem dX10_findWays_126 : decode cX10_findWays 126 = .ok (.return_, 1) := by decide +kernel
theorem dX10_clears_0 : decode cX10_clears 0 = .ok (.iconst 0, 1) := by decide +kernel
theorem dX10_clears_1 : decode cX10_clears 1 = .ok (.istore_n 1, 1) := by decide +kernel
theorem dX10_clears_2 : decode cX10_clears 2 = .ok (.iload_n 1, 1) := by decide +kernel
theorem dX10_clears_3 : decode cX10_clears 3 = .ok (.bipush 48, 2) := by decide +kernel
theorem dX10_clears_5 : decode cX10_clears 5 = .ok (.if_icmp .ge 31, 3) := by decide +kernel
theorem dX10_clears_8 : decode cX10_clears 8 = .ok (.aload_n 0, 1) := by decide +kernel
theorem dX10_clears_9 : decode cX10_clears 9 = .ok (.getfield 7, 3) := by decide +kernel
theorem dX10_clears_12 : decode cX10_clears 12 = .ok (.sipush 148, 3) := by decide +kernel
theorem dX10_clears_15 : decode cX10_clears 15 = .ok (.iload_n 1, 1) := by decide +kernel
theorem dX10_clears_16 : decode cX10_clears 16 = .ok (.iadd, 1) := by decide +kernel
theorem dX10_clears_17 : decode cX10_clears 17 = .ok (.iconst 0, 1) := by decide +kernel
theorem dX10_clears_18 : decode cX10_clears 18 = .ok (.iastore, 1) := by decide +kernel
theorem dX10_clears_19 : decode cX10_clears 19 = .ok (.aload_n 0, 1) := by decide +kernel
theorem dX10_clears_20 : decode cX10_clears 20 = .ok (.getfield 7, 3) := by decide +kernel
theorem dX10_clears_23 : decode cX10_clears 23 = .ok (.sipush 196, 3) := by decide +kernel
theorem dX10_clears_26 : decode cX10_clears 26 = .ok (.iload_n 1, 1) := by decide +kernel
theorem dX10_clears_27 : decode cX10_clears 27 = .ok (.iadd, 1) := by decide +kernel
theorem dX10_clears_28 : decode cX10_clears 28 = .ok (.iconst 2, 1) := by decide +kernel
theorem dX10_clears_29 : decode cX10_clears 29 = .ok (.iastore, 1) := by decide +kernel
theorem dX10_clears_30 : decode cX10_clears 30 = .ok (.iinc 1 1, 3) := by decide +kernel
theorem dX10_clears_33 : decode cX10_clears 33 = .ok (.goto (-31), 3) := by decide +kernel
theorem dX10_clears_36 : decode cX10_clears 36 = .ok (.aload_n 0, 1) := by decide +kernel
theorem dX10_clears_37 : decode cX10_clears 37 = .ok (.getfield 7, 3) := by decide +kernel
theorem dX10_clears_40 : decode cX10_clears 40 = .ok (.iconst 2, 1) := by decide +kernel
theorem dX10_clears_41 : decode cX10_clears 41 = .ok (.iconst 0, 1) := by decide +kernel
theorem dX10_clears_42 : decode cX10_clears 42 = .ok (.iastore, 1) := by decide +kernel
theorem dX10_clears_43 : decode cX10_clears 43 = .ok (.aload_n 0, 1) := by decide +kernel
theorem dX10_clears_44 : decode cX10_clears 44 = .ok (.getfield 7, 3) := by decide +kernel
theorem dX10_clears_47 : decode cX10_clears 47 = .ok (.iconst 3, 1) := by decide +kernel
theorem dX10_clears_48 : decode cX10_clears 48 = .ok (.iconst 0, 1) := by decide +kernel
theorem dX10_clears_49 : decode cX10_clears 49 = .ok (.iastore, 1) := by decide +kernel
theorem dX10_clears_50 : decode cX10_clears 50 = .ok (.return_, 1) := by decide +kernel
set_option maxRecDepth 20000 in
theorem ggX10_anew_X10_findWays : GoodIn wsX10_anew wsX10_findWays := goodIn_r _ [5, 6, 7, 8, 9, 10, 4, 11, 12, 13, 14, 15, 16, 17, 18, 19, 20, 21, 26, 27, 28, 29, 30, 31, 32, 33, 34, 35, 36, 37, 38, 39, 40, 41, 42] (by decide +kernel) (by decide +kernel)
set_option maxRecDepth 20000 in
theorem gX10_anew_X10_findWays : GoodIn wsX10_anew (wsV RX10 39 RX10 yX10_findWays wsX10_findWays) := goodIn_app (goodIn_of _ (by decide +kernel)) ggX10_anew_X10_findWays
set_option maxRecDepth 20000 in
theorem ggX10_anew_X10_clears : GoodIn wsX10_anew wsX10_clears := goodIn_r _ [25, 7, 26, 27, 28, 29, 30, 31, 32, 33, 34, 35, 36, 37, 38, 39, 40, 41, 42] (by decide +kernel) (by decide +kernel)
set_option maxRecDepth 20000 in
theorem gX10_anew_X10_clears : GoodIn wsX10_anew (wsV RX10 61 RX10 yX10_clears wsX10_clears) := goodIn_app (goodIn_of _ (by decide +kernel)) ggX10_anew_X10_clears
theorem dX10_anew_0 : decode cX10_anew 0 = .ok (.aload_n 0, 1) := by decide +kernel
theorem dX10_anew_1 : decode cX10_anew 1 = .ok (.invokevirtual 39, 3) := by decide +kernel
theorem dX10_anew_4 : decode cX10_anew 4 = .ok (.aload_n 0, 1) := by decide +kernel
theorem dX10_anew_5 : decode cX10_anew 5 = .ok (.invokevirtual 61, 3) := by decide +kernel
theorem dX10_anew_8 : decode cX10_anew 8 = .ok (.return_, 1) := by decide +kernel
theorem dX10_empties_0 : decode cX10_empties 0 = .ok (.iconst 0, 1) := by decide +kernel
theorem dX10_empties_1 : decode cX10_empties 1 = .ok (.istore_n 1, 1) := by decide +kernel
theorem dX10_empties_2 : decode cX10_empties 2 = .ok (.iload_n 1, 1) := by decide +kernel
theorem dX10_empties_3 : decode cX10_empties 3 = .ok (.sipush 144, 3) := by decide +kernel
theorem dX10_empties_6 : decode cX10_empties 6 = .ok (.if_icmp .ge 18, 3) := by decide +kernel
theorem dX10_empties_9 : decode cX10_empties 9 = .ok (.aload_n 0, 1) := by decide +kernel
theorem dX10_empties_10 : decode cX10_empties 10 = .ok (.getfield 7, 3) := by decide +kernel
theorem dX10_empties_13 : decode cX10_empties 13 = .ok (.iconst 4, 1) := by decide +kernel
theorem dX10_empties_14 : decode cX10_empties 14 = .ok (.iload_n 1, 1) := by decide +kernel
theorem dX10_empties_15 : decode cX10_empties 15 = .ok (.iadd, 1) := by decide +kernel
theorem dX10_empties_16 : decode cX10_empties 16 = .ok (.iconst 0, 1) := by decide +kernel
theorem dX10_empties_17 : decode cX10_empties 17 = .ok (.iastore, 1) := by decide +kernel
theorem dX10_empties_18 : decode cX10_empties 18 = .ok (.iinc 1 1, 3) := by decide +kernel
theorem dX10_empties_21 : decode cX10_empties 21 = .ok (.goto (-19), 3) := by decide +kernel
theorem dX10_empties_24 : decode cX10_empties 24 = .ok (.return_, 1) := by decide +kernel
set_option maxRecDepth 20000 in
theorem ggX10_begin_X10_in : GoodIn wsX10_begin wsX10_in := goodIn_r _ [5] (by decide +kernel) (by decide +kernel)
set_option maxRecDepth 20000 in
theorem gX10_begin_X10_in : GoodIn wsX10_begin (va_wsS RX10 46 yX10_in wsX10_in) := goodIn_app (goodIn_of _ (by decide +kernel)) ggX10_begin_X10_in
set_option maxRecDepth 20000 in
theorem ggX10_begin_X10_notes : GoodIn wsX10_begin wsX10_notes := goodIn_r _ [9, 10, 11, 1, 47, 48, 49, 50, 51, 52, 53, 54, 55, 56, 57, 58, 59, 60, 61, 62, 63] (by decide +kernel) (by decide +kernel)
set_option maxRecDepth 20000 in
theorem gX10_begin_X10_notes : GoodIn wsX10_begin (wsV RX10 64 RX10 yX10_notes wsX10_notes) := goodIn_app (goodIn_of _ (by decide +kernel)) ggX10_begin_X10_notes
set_option maxRecDepth 20000 in
theorem ggX10_begin_X10_islands : GoodIn wsX10_begin wsX10_islands := goodIn_r _ [15, 16, 17, 18, 4, 19, 1, 20, 21, 22, 23, 47, 48, 49, 50, 51, 52, 53, 54, 55, 56, 57, 58, 59, 60, 61, 62, 63] (by decide +kernel) (by decide +kernel)
set_option maxRecDepth 20000 in
theorem gX10_begin_X10_islands : GoodIn wsX10_begin (wsV RX10 67 RX10 yX10_islands wsX10_islands) := goodIn_app (goodIn_of _ (by decide +kernel)) ggX10_begin_X10_islands
set_option maxRecDepth 20000 in
theorem ggX10_begin_X10_empties : GoodIn wsX10_begin wsX10_empties := goodIn_r _ [27, 1, 47, 48, 49, 50, 51, 52, 53, 54, 55, 56, 57, 58, 59, 60, 61, 62, 63] (by decide +kernel) (by decide +kernel)
set_option maxRecDepth 20000 in
theorem gX10_begin_X10_empties : GoodIn wsX10_begin (wsV RX10 70 RX10 yX10_empties wsX10_empties) := goodIn_app (goodIn_of _ (by decide +kernel)) ggX10_begin_X10_empties
set_option maxRecDepth 20000 in
theorem ggX10_begin_X10_anew : GoodIn wsX10_begin wsX10_anew := goodIn_r _ [31, 32, 33, 34, 4, 35, 36, 1, 16, 17, 18, 19, 20, 21, 22, 23, 37, 38, 39, 40, 41, 42, 43, 44, 45, 46, 47, 48, 49, 50, 51, 52, 53, 54, 55, 56, 57, 58, 59, 60, 61, 62, 63] (by decide +kernel) (by decide +kernel)
set_option maxRecDepth 20000 in
theorem gX10_begin_X10_anew : GoodIn wsX10_begin (wsV RX10 73 RX10 yX10_anew wsX10_anew) := goodIn_app (goodIn_of _ (by decide +kernel)) ggX10_begin_X10_anew
theorem dX10_begin_0 : decode cX10_begin 0 = .ok (.iload_n 1, 1) := by decide +kernel
theorem dX10_begin_1 : decode cX10_begin 1 = .ok (.iconst 3, 1) := by decide +kernel
theorem dX10_begin_2 : decode cX10_begin 2 = .ok (.bipush 12, 2) := by decide +kernel
theorem dX10_begin_4 : decode cX10_begin 4 = .ok (.invokestatic 46, 3) := by decide +kernel
theorem dX10_begin_7 : decode cX10_begin 7 = .ok (.ifCond .eq 13, 3) := by decide +kernel
theorem dX10_begin_10 : decode cX10_begin 10 = .ok (.iload_n 2, 1) := by decide +kernel
theorem dX10_begin_11 : decode cX10_begin 11 = .ok (.iconst 3, 1) := by decide +kernel
theorem dX10_begin_12 : decode cX10_begin 12 = .ok (.bipush 12, 2) := by decide +kernel
theorem dX10_begin_14 : decode cX10_begin 14 = .ok (.invokestatic 46, 3) := by decide +kernel
theorem dX10_begin_17 : decode cX10_begin 17 = .ok (.ifCond .ne 5, 3) := by decide +kernel
theorem dX10_begin_20 : decode cX10_begin 20 = .ok (.iconst (-1), 1) := by decide +kernel
theorem dX10_begin_21 : decode cX10_begin 21 = .ok (.ireturn, 1) := by decide +kernel
theorem dX10_begin_22 : decode cX10_begin 22 = .ok (.aload_n 0, 1) := by decide +kernel
theorem dX10_begin_23 : decode cX10_begin 23 = .ok (.invokevirtual 64, 3) := by decide +kernel
theorem dX10_begin_26 : decode cX10_begin 26 = .ok (.aload_n 0, 1) := by decide +kernel
theorem dX10_begin_27 : decode cX10_begin 27 = .ok (.invokevirtual 67, 3) := by decide +kernel
theorem dX10_begin_30 : decode cX10_begin 30 = .ok (.istore_n 3, 1) := by decide +kernel
theorem dX10_begin_31 : decode cX10_begin 31 = .ok (.aload_n 0, 1) := by decide +kernel
theorem dX10_begin_32 : decode cX10_begin 32 = .ok (.getfield 7, 3) := by decide +kernel
theorem dX10_begin_35 : decode cX10_begin 35 = .ok (.iconst 0, 1) := by decide +kernel
theorem dX10_begin_36 : decode cX10_begin 36 = .ok (.iload_n 1, 1) := by decide +kernel
theorem dX10_begin_37 : decode cX10_begin 37 = .ok (.iastore, 1) := by decide +kernel
theorem dX10_begin_38 : decode cX10_begin 38 = .ok (.aload_n 0, 1) := by decide +kernel
theorem dX10_begin_39 : decode cX10_begin 39 = .ok (.getfield 7, 3) := by decide +kernel
theorem dX10_begin_42 : decode cX10_begin 42 = .ok (.iconst 1, 1) := by decide +kernel
theorem dX10_begin_43 : decode cX10_begin 43 = .ok (.iload_n 2, 1) := by decide +kernel
theorem dX10_begin_44 : decode cX10_begin 44 = .ok (.iastore, 1) := by decide +kernel
theorem dX10_begin_45 : decode cX10_begin 45 = .ok (.aload_n 0, 1) := by decide +kernel
theorem dX10_begin_46 : decode cX10_begin 46 = .ok (.invokevirtual 70, 3) := by decide +kernel
theorem dX10_begin_49 : decode cX10_begin 49 = .ok (.aload_n 0, 1) := by decide +kernel
theorem dX10_begin_50 : decode cX10_begin 50 = .ok (.invokevirtual 73, 3) := by decide +kernel
theorem dX10_begin_53 : decode cX10_begin 53 = .ok (.iload_n 3, 1) := by decide +kernel
theorem dX10_begin_54 : decode cX10_begin 54 = .ok (.ireturn, 1) := by decide +kernel
set_option maxRecDepth 20000 in
theorem ggX10_island_X10_isCell : GoodIn wsX10_island wsX10_isCell := goodIn_r _ [7, 8, 9, 10, 6, 11, 1, 12, 13, 14, 47, 48, 49, 50, 51, 52, 53, 54, 55, 56, 57, 58, 59, 60, 61, 62, 63] (by decide +kernel) (by decide +kernel)
set_option maxRecDepth 20000 in
theorem gX10_island_X10_isCell : GoodIn wsX10_island (wsV RX10 76 RX10 yX10_isCell wsX10_isCell) := goodIn_app (goodIn_of _ (by decide +kernel)) ggX10_island_X10_isCell
set_option maxRecDepth 20000 in
theorem ggX10_island_X10_in : GoodIn wsX10_island wsX10_in := goodIn_r _ [14] (by decide +kernel) (by decide +kernel)
set_option maxRecDepth 20000 in
theorem gX10_island_X10_in : GoodIn wsX10_island (va_wsS RX10 46 yX10_in wsX10_in) := goodIn_app (goodIn_of _ (by decide +kernel)) ggX10_island_X10_in
set_option maxRecDepth 20000 in
theorem ggX10_island_X10_number : GoodIn wsX10_island wsX10_number := goodIn_r _ [18, 1, 47, 48, 49, 50, 51, 52, 53, 54, 55, 56, 57, 58, 59, 60, 61, 62, 63] (by decide +kernel) (by decide +kernel)
set_option maxRecDepth 20000 in
theorem gX10_island_X10_number : GoodIn wsX10_island (wsV RX10 50 RX10 yX10_number wsX10_number) := goodIn_app (goodIn_of _ (by decide +kernel)) ggX10_island_X10_number
set_option maxRecDepth 20000 in
theorem ggX10_island_X10_islands : GoodIn wsX10_island wsX10_islands := goodIn_r _ [22, 8, 9, 10, 6, 11, 1, 15, 16, 17, 18, 47, 48, 49, 50, 51, 52, 53, 54, 55, 56, 57, 58, 59, 60, 61, 62, 63] (by decide +kernel) (by decide +kernel)
set_option maxRecDepth 20000 in
theorem gX10_island_X10_islands : GoodIn wsX10_island (wsV RX10 67 RX10 yX10_islands wsX10_islands) := goodIn_app (goodIn_of _ (by decide +kernel)) ggX10_island_X10_islands
set_option maxRecDepth 20000 in
theorem ggX10_island_X10_notes : GoodIn wsX10_island wsX10_notes := goodIn_r _ [26, 27, 28, 1, 47, 48, 49, 50, 51, 52, 53, 54, 55, 56, 57, 58, 59, 60, 61, 62, 63] (by decide +kernel) (by decide +kernel)
set_option maxRecDepth 20000 in
theorem gX10_island_X10_notes : GoodIn wsX10_island (wsV RX10 64 RX10 yX10_notes wsX10_notes) := goodIn_app (goodIn_of _ (by decide +kernel)) ggX10_island_X10_notes
set_option maxRecDepth 20000 in
theorem ggX10_island_X10_anew : GoodIn wsX10_island wsX10_anew := goodIn_r _ [32, 33, 34, 35, 6, 36, 2, 1, 8, 9, 10, 11, 15, 16, 17, 18, 37, 38, 39, 40, 41, 42, 43, 44, 45, 46, 47, 48, 49, 50, 51, 52, 53, 54, 55, 56, 57, 58, 59, 60, 61, 62, 63] (by decide +kernel) (by decide +kernel)
set_option maxRecDepth 20000 in
theorem gX10_island_X10_anew : GoodIn wsX10_island (wsV RX10 73 RX10 yX10_anew wsX10_anew) := goodIn_app (goodIn_of _ (by decide +kernel)) ggX10_island_X10_anew
theorem dX10_island_0 : decode cX10_island 0 = .ok (.aload_n 0, 1) := by decide +kernel
theorem dX10_island_1 : decode cX10_island 1 = .ok (.iload_n 1, 1) := by decide +kernel
theorem dX10_island_2 : decode cX10_island 2 = .ok (.invokevirtual 76, 3) := by decide +kernel
theorem dX10_island_5 : decode cX10_island 5 = .ok (.ifCond .eq 13, 3) := by decide +kernel
theorem dX10_island_8 : decode cX10_island 8 = .ok (.iload_n 2, 1) := by decide +kernel
theorem dX10_island_9 : decode cX10_island 9 = .ok (.iconst 1, 1) := by decide +kernel
theorem dX10_island_10 : decode cX10_island 10 = .ok (.bipush 8, 2) := by decide +kernel
theorem dX10_island_12 : decode cX10_island 12 = .ok (.invokestatic 46, 3) := by decide +kernel
theorem dX10_island_15 : decode cX10_island 15 = .ok (.ifCond .ne 5, 3) := by decide +kernel
theorem dX10_island_18 : decode cX10_island 18 = .ok (.iconst (-1), 1) := by decide +kernel
theorem dX10_island_19 : decode cX10_island 19 = .ok (.ireturn, 1) := by decide +kernel
theorem dX10_island_20 : decode cX10_island 20 = .ok (.aload_n 0, 1) := by decide +kernel
theorem dX10_island_21 : decode cX10_island 21 = .ok (.iload_n 1, 1) := by decide +kernel
theorem dX10_island_22 : decode cX10_island 22 = .ok (.invokevirtual 50, 3) := by decide +kernel
theorem dX10_island_25 : decode cX10_island 25 = .ok (.ifCond .ne 15, 3) := by decide +kernel
theorem dX10_island_28 : decode cX10_island 28 = .ok (.aload_n 0, 1) := by decide +kernel
theorem dX10_island_29 : decode cX10_island 29 = .ok (.invokevirtual 67, 3) := by decide +kernel
theorem dX10_island_32 : decode cX10_island 32 = .ok (.bipush 24, 2) := by decide +kernel
theorem dX10_island_34 : decode cX10_island 34 = .ok (.if_icmp .ne 6, 3) := by decide +kernel
theorem dX10_island_37 : decode cX10_island 37 = .ok (.bipush (-3), 2) := by decide +kernel
theorem dX10_island_39 : decode cX10_island 39 = .ok (.ireturn, 1) := by decide +kernel
theorem dX10_island_40 : decode cX10_island 40 = .ok (.aload_n 0, 1) := by decide +kernel
theorem dX10_island_41 : decode cX10_island 41 = .ok (.invokevirtual 64, 3) := by decide +kernel
theorem dX10_island_44 : decode cX10_island 44 = .ok (.aload_n 0, 1) := by decide +kernel
theorem dX10_island_45 : decode cX10_island 45 = .ok (.getfield 7, 3) := by decide +kernel
theorem dX10_island_48 : decode cX10_island 48 = .ok (.iconst 4, 1) := by decide +kernel
theorem dX10_island_49 : decode cX10_island 49 = .ok (.iload_n 1, 1) := by decide +kernel
theorem dX10_island_50 : decode cX10_island 50 = .ok (.iadd, 1) := by decide +kernel
theorem dX10_island_51 : decode cX10_island 51 = .ok (.iload_n 2, 1) := by decide +kernel
theorem dX10_island_52 : decode cX10_island 52 = .ok (.iastore, 1) := by decide +kernel
theorem dX10_island_53 : decode cX10_island 53 = .ok (.aload_n 0, 1) := by decide +kernel
theorem dX10_island_54 : decode cX10_island 54 = .ok (.invokevirtual 73, 3) := by decide +kernel
theorem dX10_island_57 : decode cX10_island 57 = .ok (.aload_n 0, 1) := by decide +kernel
theorem dX10_island_58 : decode cX10_island 58 = .ok (.getfield 54, 3) := by decide +kernel
theorem dX10_island_61 : decode cX10_island 61 = .ok (.ireturn, 1) := by decide +kernel
set_option maxRecDepth 20000 in
theorem ggX10_removeIsland_X10_isCell : GoodIn wsX10_removeIsland wsX10_isCell := goodIn_r _ [6, 7, 8, 9, 5, 10, 1, 11, 12, 13, 43, 44, 45, 46, 47, 48, 49, 50, 51, 52, 53, 54, 55, 56, 57, 58, 59] (by decide +kernel) (by decide +kernel)
set_option maxRecDepth 20000 in
theorem gX10_removeIsland_X10_isCell : GoodIn wsX10_removeIsland (wsV RX10 76 RX10 yX10_isCell wsX10_isCell) := goodIn_app (goodIn_of _ (by decide +kernel)) ggX10_removeIsland_X10_isCell
set_option maxRecDepth 20000 in
theorem ggX10_removeIsland_X10_number : GoodIn wsX10_removeIsland wsX10_number := goodIn_r _ [17, 1, 43, 44, 45, 46, 47, 48, 49, 50, 51, 52, 53, 54, 55, 56, 57, 58, 59] (by decide +kernel) (by decide +kernel)
set_option maxRecDepth 20000 in
theorem gX10_removeIsland_X10_number : GoodIn wsX10_removeIsland (wsV RX10 50 RX10 yX10_number wsX10_number) := goodIn_app (goodIn_of _ (by decide +kernel)) ggX10_removeIsland_X10_number
set_option maxRecDepth 20000 in
theorem ggX10_removeIsland_X10_notes : GoodIn wsX10_removeIsland wsX10_notes := goodIn_r _ [21, 22, 23, 1, 43, 44, 45, 46, 47, 48, 49, 50, 51, 52, 53, 54, 55, 56, 57, 58, 59] (by decide +kernel) (by decide +kernel)
set_option maxRecDepth 20000 in
theorem gX10_removeIsland_X10_notes : GoodIn wsX10_removeIsland (wsV RX10 64 RX10 yX10_notes wsX10_notes) := goodIn_app (goodIn_of _ (by decide +kernel)) ggX10_removeIsland_X10_notes
set_option maxRecDepth 20000 in
theorem ggX10_removeIsland_X10_anew : GoodIn wsX10_removeIsland wsX10_anew := goodIn_r _ [27, 28, 29, 30, 5, 31, 32, 1, 7, 8, 9, 10, 14, 15, 16, 17, 33, 34, 35, 36, 37, 38, 39, 40, 41, 42, 43, 44, 45, 46, 47, 48, 49, 50, 51, 52, 53, 54, 55, 56, 57, 58, 59] (by decide +kernel) (by decide +kernel)
set_option maxRecDepth 20000 in
theorem gX10_removeIsland_X10_anew : GoodIn wsX10_removeIsland (wsV RX10 73 RX10 yX10_anew wsX10_anew) := goodIn_app (goodIn_of _ (by decide +kernel)) ggX10_removeIsland_X10_anew
theorem dX10_removeIsland_0 : decode cX10_removeIsland 0 = .ok (.aload_n 0, 1) := by decide +kernel
theorem dX10_removeIsland_1 : decode cX10_removeIsland 1 = .ok (.iload_n 1, 1) := by decide +kernel
theorem dX10_removeIsland_2 : decode cX10_removeIsland 2 = .ok (.invokevirtual 76, 3) := by decide +kernel
theorem dX10_removeIsland_5 : decode cX10_removeIsland 5 = .ok (.ifCond .ne 5, 3) := by decide +kernel
theorem dX10_removeIsland_8 : decode cX10_removeIsland 8 = .ok (.iconst (-1), 1) := by decide +kernel
theorem dX10_removeIsland_9 : decode cX10_removeIsland 9 = .ok (.ireturn, 1) := by decide +kernel
theorem dX10_removeIsland_10 : decode cX10_removeIsland 10 = .ok (.aload_n 0, 1) := by decide +kernel
theorem dX10_removeIsland_11 : decode cX10_removeIsland 11 = .ok (.iload_n 1, 1) := by decide +kernel
theorem dX10_removeIsland_12 : decode cX10_removeIsland 12 = .ok (.invokevirtual 50, 3) := by decide +kernel
theorem dX10_removeIsland_15 : decode cX10_removeIsland 15 = .ok (.istore_n 2, 1) := by decide +kernel
theorem dX10_removeIsland_16 : decode cX10_removeIsland 16 = .ok (.iload_n 2, 1) := by decide +kernel
theorem dX10_removeIsland_17 : decode cX10_removeIsland 17 = .ok (.ifCond .ne 6, 3) := by decide +kernel
theorem dX10_removeIsland_20 : decode cX10_removeIsland 20 = .ok (.bipush (-4), 2) := by decide +kernel
theorem dX10_removeIsland_22 : decode cX10_removeIsland 22 = .ok (.ireturn, 1) := by decide +kernel
theorem dX10_removeIsland_23 : decode cX10_removeIsland 23 = .ok (.aload_n 0, 1) := by decide +kernel
theorem dX10_removeIsland_24 : decode cX10_removeIsland 24 = .ok (.invokevirtual 64, 3) := by decide +kernel
theorem dX10_removeIsland_27 : decode cX10_removeIsland 27 = .ok (.aload_n 0, 1) := by decide +kernel
theorem dX10_removeIsland_28 : decode cX10_removeIsland 28 = .ok (.getfield 7, 3) := by decide +kernel
theorem dX10_removeIsland_31 : decode cX10_removeIsland 31 = .ok (.iconst 4, 1) := by decide +kernel
theorem dX10_removeIsland_32 : decode cX10_removeIsland 32 = .ok (.iload_n 1, 1) := by decide +kernel
theorem dX10_removeIsland_33 : decode cX10_removeIsland 33 = .ok (.iadd, 1) := by decide +kernel
theorem dX10_removeIsland_34 : decode cX10_removeIsland 34 = .ok (.iconst 0, 1) := by decide +kernel
theorem dX10_removeIsland_35 : decode cX10_removeIsland 35 = .ok (.iastore, 1) := by decide +kernel
theorem dX10_removeIsland_36 : decode cX10_removeIsland 36 = .ok (.aload_n 0, 1) := by decide +kernel
theorem dX10_removeIsland_37 : decode cX10_removeIsland 37 = .ok (.invokevirtual 73, 3) := by decide +kernel
theorem dX10_removeIsland_40 : decode cX10_removeIsland 40 = .ok (.iload_n 2, 1) := by decide +kernel
theorem dX10_removeIsland_41 : decode cX10_removeIsland 41 = .ok (.ireturn, 1) := by decide +kernel
theorem dX10_isAcross_0 : decode cX10_isAcross 0 = .ok (.aload_n 0, 1) := by decide +kernel
theorem dX10_isAcross_1 : decode cX10_isAcross 1 = .ok (.getfield 20, 3) := by decide +kernel
theorem dX10_isAcross_4 : decode cX10_isAcross 4 = .ok (.iload_n 1, 1) := by decide +kernel
theorem dX10_isAcross_5 : decode cX10_isAcross 5 = .ok (.iaload, 1) := by decide +kernel
theorem dX10_isAcross_6 : decode cX10_isAcross 6 = .ok (.aload_n 0, 1) := by decide +kernel
theorem dX10_isAcross_7 : decode cX10_isAcross 7 = .ok (.getfield 7, 3) := by decide +kernel
theorem dX10_isAcross_10 : decode cX10_isAcross 10 = .ok (.iconst 0, 1) := by decide +kernel
theorem dX10_isAcross_11 : decode cX10_isAcross 11 = .ok (.iaload, 1) := by decide +kernel
theorem dX10_isAcross_12 : decode cX10_isAcross 12 = .ok (.idiv, 1) := by decide +kernel
theorem dX10_isAcross_13 : decode cX10_isAcross 13 = .ok (.aload_n 0, 1) := by decide +kernel
theorem dX10_isAcross_14 : decode cX10_isAcross 14 = .ok (.getfield 23, 3) := by decide +kernel
theorem dX10_isAcross_17 : decode cX10_isAcross 17 = .ok (.iload_n 1, 1) := by decide +kernel
theorem dX10_isAcross_18 : decode cX10_isAcross 18 = .ok (.iaload, 1) := by decide +kernel
theorem dX10_isAcross_19 : decode cX10_isAcross 19 = .ok (.aload_n 0, 1) := by decide +kernel
theorem dX10_isAcross_20 : decode cX10_isAcross 20 = .ok (.getfield 7, 3) := by decide +kernel
theorem dX10_isAcross_23 : decode cX10_isAcross 23 = .ok (.iconst 0, 1) := by decide +kernel
theorem dX10_isAcross_24 : decode cX10_isAcross 24 = .ok (.iaload, 1) := by decide +kernel
theorem dX10_isAcross_25 : decode cX10_isAcross 25 = .ok (.idiv, 1) := by decide +kernel
theorem dX10_isAcross_26 : decode cX10_isAcross 26 = .ok (.if_icmp .ne 7, 3) := by decide +kernel
theorem dX10_isAcross_29 : decode cX10_isAcross 29 = .ok (.iconst 1, 1) := by decide +kernel
theorem dX10_isAcross_30 : decode cX10_isAcross 30 = .ok (.goto 4, 3) := by decide +kernel
theorem dX10_isAcross_33 : decode cX10_isAcross 33 = .ok (.iconst 0, 1) := by decide +kernel
theorem dX10_isAcross_34 : decode cX10_isAcross 34 = .ok (.ireturn, 1) := by decide +kernel
set_option maxRecDepth 20000 in
theorem ggX10_isBetween_X10_isAcross : GoodIn wsX10_isBetween wsX10_isAcross := goodIn_r _ [8, 2, 1, 3, 9, 10, 11, 12, 13, 14, 15, 16, 17, 18, 19, 20, 21, 22, 23, 24, 25] (by decide +kernel) (by decide +kernel)
set_option maxRecDepth 20000 in
theorem gX10_isBetween_X10_isAcross : GoodIn wsX10_isBetween (wsV RX10 80 RX10 yX10_isAcross wsX10_isAcross) := goodIn_app (goodIn_of _ (by decide +kernel)) ggX10_isBetween_X10_isAcross
theorem dX10_isBetween_0 : decode cX10_isBetween 0 = .ok (.aload_n 0, 1) := by decide +kernel
theorem dX10_isBetween_1 : decode cX10_isBetween 1 = .ok (.iload_n 2, 1) := by decide +kernel
theorem dX10_isBetween_2 : decode cX10_isBetween 2 = .ok (.invokevirtual 80, 3) := by decide +kernel
theorem dX10_isBetween_5 : decode cX10_isBetween 5 = .ok (.ifCond .eq 35, 3) := by decide +kernel
theorem dX10_isBetween_8 : decode cX10_isBetween 8 = .ok (.iload_n 1, 1) := by decide +kernel
theorem dX10_isBetween_9 : decode cX10_isBetween 9 = .ok (.aload_n 0, 1) := by decide +kernel
theorem dX10_isBetween_10 : decode cX10_isBetween 10 = .ok (.getfield 7, 3) := by decide +kernel
theorem dX10_isBetween_13 : decode cX10_isBetween 13 = .ok (.iconst 0, 1) := by decide +kernel
theorem dX10_isBetween_14 : decode cX10_isBetween 14 = .ok (.iaload, 1) := by decide +kernel
theorem dX10_isBetween_15 : decode cX10_isBetween 15 = .ok (.idiv, 1) := by decide +kernel
theorem dX10_isBetween_16 : decode cX10_isBetween 16 = .ok (.aload_n 0, 1) := by decide +kernel
theorem dX10_isBetween_17 : decode cX10_isBetween 17 = .ok (.getfield 20, 3) := by decide +kernel
theorem dX10_isBetween_20 : decode cX10_isBetween 20 = .ok (.iload_n 2, 1) := by decide +kernel
theorem dX10_isBetween_21 : decode cX10_isBetween 21 = .ok (.iaload, 1) := by decide +kernel
theorem dX10_isBetween_22 : decode cX10_isBetween 22 = .ok (.aload_n 0, 1) := by decide +kernel
theorem dX10_isBetween_23 : decode cX10_isBetween 23 = .ok (.getfield 7, 3) := by decide +kernel
theorem dX10_isBetween_26 : decode cX10_isBetween 26 = .ok (.iconst 0, 1) := by decide +kernel
theorem dX10_isBetween_27 : decode cX10_isBetween 27 = .ok (.iaload, 1) := by decide +kernel
theorem dX10_isBetween_28 : decode cX10_isBetween 28 = .ok (.idiv, 1) := by decide +kernel
theorem dX10_isBetween_29 : decode cX10_isBetween 29 = .ok (.if_icmp .ne 7, 3) := by decide +kernel
theorem dX10_isBetween_32 : decode cX10_isBetween 32 = .ok (.iconst 1, 1) := by decide +kernel
theorem dX10_isBetween_33 : decode cX10_isBetween 33 = .ok (.goto 36, 3) := by decide +kernel
theorem dX10_isBetween_36 : decode cX10_isBetween 36 = .ok (.iconst 0, 1) := by decide +kernel
theorem dX10_isBetween_37 : decode cX10_isBetween 37 = .ok (.goto 32, 3) := by decide +kernel
theorem dX10_isBetween_40 : decode cX10_isBetween 40 = .ok (.iload_n 1, 1) := by decide +kernel
theorem dX10_isBetween_41 : decode cX10_isBetween 41 = .ok (.aload_n 0, 1) := by decide +kernel
theorem dX10_isBetween_42 : decode cX10_isBetween 42 = .ok (.getfield 7, 3) := by decide +kernel
theorem dX10_isBetween_45 : decode cX10_isBetween 45 = .ok (.iconst 0, 1) := by decide +kernel
theorem dX10_isBetween_46 : decode cX10_isBetween 46 = .ok (.iaload, 1) := by decide +kernel
theorem dX10_isBetween_47 : decode cX10_isBetween 47 = .ok (.irem, 1) := by decide +kernel
theorem dX10_isBetween_48 : decode cX10_isBetween 48 = .ok (.aload_n 0, 1) := by decide +kernel
theorem dX10_isBetween_49 : decode cX10_isBetween 49 = .ok (.getfield 20, 3) := by decide +kernel
theorem dX10_isBetween_52 : decode cX10_isBetween 52 = .ok (.iload_n 2, 1) := by decide +kernel
theorem dX10_isBetween_53 : decode cX10_isBetween 53 = .ok (.iaload, 1) := by decide +kernel
theorem dX10_isBetween_54 : decode cX10_isBetween 54 = .ok (.aload_n 0, 1) := by decide +kernel
theorem dX10_isBetween_55 : decode cX10_isBetween 55 = .ok (.getfield 7, 3) := by decide +kernel
theorem dX10_isBetween_58 : decode cX10_isBetween 58 = .ok (.iconst 0, 1) := by decide +kernel
theorem dX10_isBetween_59 : decode cX10_isBetween 59 = .ok (.iaload, 1) := by decide +kernel
theorem dX10_isBetween_60 : decode cX10_isBetween 60 = .ok (.irem, 1) := by decide +kernel
theorem dX10_isBetween_61 : decode cX10_isBetween 61 = .ok (.if_icmp .ne 7, 3) := by decide +kernel
theorem dX10_isBetween_64 : decode cX10_isBetween 64 = .ok (.iconst 1, 1) := by decide +kernel
theorem dX10_isBetween_65 : decode cX10_isBetween 65 = .ok (.goto 4, 3) := by decide +kernel
theorem dX10_isBetween_68 : decode cX10_isBetween 68 = .ok (.iconst 0, 1) := by decide +kernel
theorem dX10_isBetween_69 : decode cX10_isBetween 69 = .ok (.istore_n 3, 1) := by decide +kernel
theorem dX10_isBetween_70 : decode cX10_isBetween 70 = .ok (.iload_n 3, 1) := by decide +kernel
theorem dX10_isBetween_71 : decode cX10_isBetween 71 = .ok (.ifCond .eq 27, 3) := by decide +kernel
theorem dX10_isBetween_74 : decode cX10_isBetween 74 = .ok (.iload_n 1, 1) := by decide +kernel
theorem dX10_isBetween_75 : decode cX10_isBetween 75 = .ok (.aload_n 0, 1) := by decide +kernel
theorem dX10_isBetween_76 : decode cX10_isBetween 76 = .ok (.getfield 20, 3) := by decide +kernel
theorem dX10_isBetween_79 : decode cX10_isBetween 79 = .ok (.iload_n 2, 1) := by decide +kernel
theorem dX10_isBetween_80 : decode cX10_isBetween 80 = .ok (.iaload, 1) := by decide +kernel
theorem dX10_isBetween_81 : decode cX10_isBetween 81 = .ok (.if_icmp .le 17, 3) := by decide +kernel
theorem dX10_isBetween_84 : decode cX10_isBetween 84 = .ok (.iload_n 1, 1) := by decide +kernel
theorem dX10_isBetween_85 : decode cX10_isBetween 85 = .ok (.aload_n 0, 1) := by decide +kernel
theorem dX10_isBetween_86 : decode cX10_isBetween 86 = .ok (.getfield 23, 3) := by decide +kernel
theorem dX10_isBetween_89 : decode cX10_isBetween 89 = .ok (.iload_n 2, 1) := by decide +kernel
theorem dX10_isBetween_90 : decode cX10_isBetween 90 = .ok (.iaload, 1) := by decide +kernel
theorem dX10_isBetween_91 : decode cX10_isBetween 91 = .ok (.if_icmp .ge 7, 3) := by decide +kernel
theorem dX10_isBetween_94 : decode cX10_isBetween 94 = .ok (.iconst 1, 1) := by decide +kernel
theorem dX10_isBetween_95 : decode cX10_isBetween 95 = .ok (.goto 4, 3) := by decide +kernel
theorem dX10_isBetween_98 : decode cX10_isBetween 98 = .ok (.iconst 0, 1) := by decide +kernel
theorem dX10_isBetween_99 : decode cX10_isBetween 99 = .ok (.ireturn, 1) := by decide +kernel
set_option maxRecDepth 20000 in
theorem ggX10_cross_X10_isAcross : GoodIn wsX10_cross wsX10_isAcross := goodIn_r _ [7, 1, 2, 8, 13, 14, 15, 16, 17, 18, 19, 20, 21, 22, 23, 24, 25, 26, 27, 28, 29] (by decide +kernel) (by decide +kernel)
set_option maxRecDepth 20000 in
theorem gX10_cross_X10_isAcross : GoodIn wsX10_cross (wsV RX10 80 RX10 yX10_isAcross wsX10_isAcross) := goodIn_app (goodIn_of _ (by decide +kernel)) ggX10_cross_X10_isAcross
set_option maxRecDepth 20000 in
theorem ggX10_cross_X10_isBetween : GoodIn wsX10_cross wsX10_isBetween := goodIn_r _ [12, 2, 1, 8, 3, 4, 5, 6, 7, 13, 14, 15, 16, 17, 18, 19, 20, 21, 22, 23, 24, 25, 26, 27, 28, 29] (by decide +kernel) (by decide +kernel)
set_option maxRecDepth 20000 in
theorem gX10_cross_X10_isBetween : GoodIn wsX10_cross (wsV RX10 83 RX10 yX10_isBetween wsX10_isBetween) := goodIn_app (goodIn_of _ (by decide +kernel)) ggX10_cross_X10_isBetween
theorem dX10_cross_0 : decode cX10_cross 0 = .ok (.aload_n 0, 1) := by decide +kernel
theorem dX10_cross_1 : decode cX10_cross 1 = .ok (.iload_n 1, 1) := by decide +kernel
theorem dX10_cross_2 : decode cX10_cross 2 = .ok (.invokevirtual 80, 3) := by decide +kernel
theorem dX10_cross_5 : decode cX10_cross 5 = .ok (.aload_n 0, 1) := by decide +kernel
theorem dX10_cross_6 : decode cX10_cross 6 = .ok (.iload_n 2, 1) := by decide +kernel
theorem dX10_cross_7 : decode cX10_cross 7 = .ok (.invokevirtual 80, 3) := by decide +kernel
theorem dX10_cross_10 : decode cX10_cross 10 = .ok (.if_icmp .ne 5, 3) := by decide +kernel
theorem dX10_cross_13 : decode cX10_cross 13 = .ok (.iconst 0, 1) := by decide +kernel
theorem dX10_cross_14 : decode cX10_cross 14 = .ok (.ireturn, 1) := by decide +kernel
theorem dX10_cross_15 : decode cX10_cross 15 = .ok (.aload_n 0, 1) := by decide +kernel
theorem dX10_cross_16 : decode cX10_cross 16 = .ok (.iload_n 1, 1) := by decide +kernel
theorem dX10_cross_17 : decode cX10_cross 17 = .ok (.invokevirtual 80, 3) := by decide +kernel
theorem dX10_cross_20 : decode cX10_cross 20 = .ok (.ifCond .eq 7, 3) := by decide +kernel
theorem dX10_cross_23 : decode cX10_cross 23 = .ok (.iload_n 1, 1) := by decide +kernel
theorem dX10_cross_24 : decode cX10_cross 24 = .ok (.goto 4, 3) := by decide +kernel
theorem dX10_cross_27 : decode cX10_cross 27 = .ok (.iload_n 2, 1) := by decide +kernel
theorem dX10_cross_28 : decode cX10_cross 28 = .ok (.istore_n 3, 1) := by decide +kernel
theorem dX10_cross_29 : decode cX10_cross 29 = .ok (.iload_n 1, 1) := by decide +kernel
theorem dX10_cross_30 : decode cX10_cross 30 = .ok (.iload_n 2, 1) := by decide +kernel
theorem dX10_cross_31 : decode cX10_cross 31 = .ok (.iadd, 1) := by decide +kernel
theorem dX10_cross_32 : decode cX10_cross 32 = .ok (.iload_n 3, 1) := by decide +kernel
theorem dX10_cross_33 : decode cX10_cross 33 = .ok (.isub, 1) := by decide +kernel
theorem dX10_cross_34 : decode cX10_cross 34 = .ok (.istore 4, 2) := by decide +kernel
theorem dX10_cross_36 : decode cX10_cross 36 = .ok (.aload_n 0, 1) := by decide +kernel
theorem dX10_cross_37 : decode cX10_cross 37 = .ok (.getfield 20, 3) := by decide +kernel
theorem dX10_cross_40 : decode cX10_cross 40 = .ok (.iload_n 3, 1) := by decide +kernel
theorem dX10_cross_41 : decode cX10_cross 41 = .ok (.iaload, 1) := by decide +kernel
theorem dX10_cross_42 : decode cX10_cross 42 = .ok (.aload_n 0, 1) := by decide +kernel
theorem dX10_cross_43 : decode cX10_cross 43 = .ok (.getfield 7, 3) := by decide +kernel
theorem dX10_cross_46 : decode cX10_cross 46 = .ok (.iconst 0, 1) := by decide +kernel
theorem dX10_cross_47 : decode cX10_cross 47 = .ok (.iaload, 1) := by decide +kernel
theorem dX10_cross_48 : decode cX10_cross 48 = .ok (.idiv, 1) := by decide +kernel
theorem dX10_cross_49 : decode cX10_cross 49 = .ok (.aload_n 0, 1) := by decide +kernel
theorem dX10_cross_50 : decode cX10_cross 50 = .ok (.getfield 7, 3) := by decide +kernel
theorem dX10_cross_53 : decode cX10_cross 53 = .ok (.iconst 0, 1) := by decide +kernel
theorem dX10_cross_54 : decode cX10_cross 54 = .ok (.iaload, 1) := by decide +kernel
theorem dX10_cross_55 : decode cX10_cross 55 = .ok (.imul, 1) := by decide +kernel
theorem dX10_cross_56 : decode cX10_cross 56 = .ok (.aload_n 0, 1) := by decide +kernel
theorem dX10_cross_57 : decode cX10_cross 57 = .ok (.getfield 20, 3) := by decide +kernel
theorem dX10_cross_60 : decode cX10_cross 60 = .ok (.iload 4, 2) := by decide +kernel
theorem dX10_cross_62 : decode cX10_cross 62 = .ok (.iaload, 1) := by decide +kernel
theorem dX10_cross_63 : decode cX10_cross 63 = .ok (.aload_n 0, 1) := by decide +kernel
theorem dX10_cross_64 : decode cX10_cross 64 = .ok (.getfield 7, 3) := by decide +kernel
theorem dX10_cross_67 : decode cX10_cross 67 = .ok (.iconst 0, 1) := by decide +kernel
theorem dX10_cross_68 : decode cX10_cross 68 = .ok (.iaload, 1) := by decide +kernel
theorem dX10_cross_69 : decode cX10_cross 69 = .ok (.irem, 1) := by decide +kernel
theorem dX10_cross_70 : decode cX10_cross 70 = .ok (.iadd, 1) := by decide +kernel
theorem dX10_cross_71 : decode cX10_cross 71 = .ok (.istore 5, 2) := by decide +kernel
theorem dX10_cross_73 : decode cX10_cross 73 = .ok (.aload_n 0, 1) := by decide +kernel
theorem dX10_cross_74 : decode cX10_cross 74 = .ok (.iload 5, 2) := by decide +kernel
theorem dX10_cross_76 : decode cX10_cross 76 = .ok (.iload_n 3, 1) := by decide +kernel
theorem dX10_cross_77 : decode cX10_cross 77 = .ok (.invokevirtual 83, 3) := by decide +kernel
theorem dX10_cross_80 : decode cX10_cross 80 = .ok (.ifCond .eq 18, 3) := by decide +kernel
theorem dX10_cross_83 : decode cX10_cross 83 = .ok (.aload_n 0, 1) := by decide +kernel
theorem dX10_cross_84 : decode cX10_cross 84 = .ok (.iload 5, 2) := by decide +kernel
theorem dX10_cross_86 : decode cX10_cross 86 = .ok (.iload 4, 2) := by decide +kernel
theorem dX10_cross_88 : decode cX10_cross 88 = .ok (.invokevirtual 83, 3) := by decide +kernel
theorem dX10_cross_91 : decode cX10_cross 91 = .ok (.ifCond .eq 7, 3) := by decide +kernel
theorem dX10_cross_94 : decode cX10_cross 94 = .ok (.iconst 1, 1) := by decide +kernel
theorem dX10_cross_95 : decode cX10_cross 95 = .ok (.goto 4, 3) := by decide +kernel
theorem dX10_cross_98 : decode cX10_cross 98 = .ok (.iconst 0, 1) := by decide +kernel
theorem dX10_cross_99 : decode cX10_cross 99 = .ok (.ireturn, 1) := by decide +kernel
theorem dX10_bridges_0 : decode cX10_bridges 0 = .ok (.aload_n 0, 1) := by decide +kernel
theorem dX10_bridges_1 : decode cX10_bridges 1 = .ok (.getfield 7, 3) := by decide +kernel
theorem dX10_bridges_4 : decode cX10_bridges 4 = .ok (.sipush 148, 3) := by decide +kernel
theorem dX10_bridges_7 : decode cX10_bridges 7 = .ok (.iload_n 1, 1) := by decide +kernel
theorem dX10_bridges_8 : decode cX10_bridges 8 = .ok (.iadd, 1) := by decide +kernel
theorem dX10_bridges_9 : decode cX10_bridges 9 = .ok (.iaload, 1) := by decide +kernel
theorem dX10_bridges_10 : decode cX10_bridges 10 = .ok (.ireturn, 1) := by decide +kernel
theorem dX10_capOf_0 : decode cX10_capOf 0 = .ok (.aload_n 0, 1) := by decide +kernel
theorem dX10_capOf_1 : decode cX10_capOf 1 = .ok (.getfield 7, 3) := by decide +kernel
theorem dX10_capOf_4 : decode cX10_capOf 4 = .ok (.sipush 196, 3) := by decide +kernel
theorem dX10_capOf_7 : decode cX10_capOf 7 = .ok (.iload_n 1, 1) := by decide +kernel
theorem dX10_capOf_8 : decode cX10_capOf 8 = .ok (.iadd, 1) := by decide +kernel
theorem dX10_capOf_9 : decode cX10_capOf 9 = .ok (.iaload, 1) := by decide +kernel
theorem dX10_capOf_10 : decode cX10_capOf 10 = .ok (.ireturn, 1) := by decide +kernel
set_option maxRecDepth 20000 in
theorem ggX10_crossings_X10_cross : GoodIn wsX10_crossings wsX10_cross := goodIn_r _ [6, 7, 8, 9, 10, 11, 5, 12, 13, 14, 15, 16, 17, 22, 23, 24, 25, 26, 27, 28, 29, 30, 31, 32, 33, 34, 35, 36, 37, 38] (by decide +kernel) (by decide +kernel)
set_option maxRecDepth 20000 in
theorem gX10_crossings_X10_cross : GoodIn wsX10_crossings (wsV RX10 87 RX10 yX10_cross wsX10_cross) := goodIn_app (goodIn_of _ (by decide +kernel)) ggX10_crossings_X10_cross
set_option maxRecDepth 20000 in
theorem ggX10_crossings_X10_bridges : GoodIn wsX10_crossings wsX10_bridges := goodIn_r _ [21, 8, 22, 23, 24, 25, 26, 27, 28, 29, 30, 31, 32, 33, 34, 35, 36, 37, 38] (by decide +kernel) (by decide +kernel)
set_option maxRecDepth 20000 in
theorem gX10_crossings_X10_bridges : GoodIn wsX10_crossings (wsV RX10 90 RX10 yX10_bridges wsX10_bridges) := goodIn_app (goodIn_of _ (by decide +kernel)) ggX10_crossings_X10_bridges
theorem dX10_crossings_0 : decode cX10_crossings 0 = .ok (.iconst 0, 1) := by decide +kernel
theorem dX10_crossings_1 : decode cX10_crossings 1 = .ok (.istore_n 3, 1) := by decide +kernel
theorem dX10_crossings_2 : decode cX10_crossings 2 = .ok (.iconst 0, 1) := by decide +kernel
theorem dX10_crossings_3 : decode cX10_crossings 3 = .ok (.istore 4, 2) := by decide +kernel
theorem dX10_crossings_5 : decode cX10_crossings 5 = .ok (.iload 4, 2) := by decide +kernel
theorem dX10_crossings_7 : decode cX10_crossings 7 = .ok (.aload_n 0, 1) := by decide +kernel
theorem dX10_crossings_8 : decode cX10_crossings 8 = .ok (.getfield 54, 3) := by decide +kernel
theorem dX10_crossings_11 : decode cX10_crossings 11 = .ok (.if_icmp .ge 40, 3) := by decide +kernel
theorem dX10_crossings_14 : decode cX10_crossings 14 = .ok (.iload_n 3, 1) := by decide +kernel
theorem dX10_crossings_15 : decode cX10_crossings 15 = .ok (.aload_n 0, 1) := by decide +kernel
theorem dX10_crossings_16 : decode cX10_crossings 16 = .ok (.iload_n 1, 1) := by decide +kernel
theorem dX10_crossings_17 : decode cX10_crossings 17 = .ok (.iload 4, 2) := by decide +kernel
theorem dX10_crossings_19 : decode cX10_crossings 19 = .ok (.invokevirtual 87, 3) := by decide +kernel
theorem dX10_crossings_22 : decode cX10_crossings 22 = .ok (.ifCond .eq 20, 3) := by decide +kernel
theorem dX10_crossings_25 : decode cX10_crossings 25 = .ok (.iload_n 2, 1) := by decide +kernel
theorem dX10_crossings_26 : decode cX10_crossings 26 = .ok (.ifCond .eq 12, 3) := by decide +kernel
theorem dX10_crossings_29 : decode cX10_crossings 29 = .ok (.aload_n 0, 1) := by decide +kernel
theorem dX10_crossings_30 : decode cX10_crossings 30 = .ok (.iload 4, 2) := by decide +kernel
theorem dX10_crossings_32 : decode cX10_crossings 32 = .ok (.invokevirtual 90, 3) := by decide +kernel
theorem dX10_crossings_35 : decode cX10_crossings 35 = .ok (.ifCond .le 7, 3) := by decide +kernel
theorem dX10_crossings_38 : decode cX10_crossings 38 = .ok (.iconst 1, 1) := by decide +kernel
theorem dX10_crossings_39 : decode cX10_crossings 39 = .ok (.goto 4, 3) := by decide +kernel
theorem dX10_crossings_42 : decode cX10_crossings 42 = .ok (.iconst 0, 1) := by decide +kernel
theorem dX10_crossings_43 : decode cX10_crossings 43 = .ok (.iadd, 1) := by decide +kernel
theorem dX10_crossings_44 : decode cX10_crossings 44 = .ok (.istore_n 3, 1) := by decide +kernel
theorem dX10_crossings_45 : decode cX10_crossings 45 = .ok (.iinc 4 1, 3) := by decide +kernel
theorem dX10_crossings_48 : decode cX10_crossings 48 = .ok (.goto (-43), 3) := by decide +kernel
theorem dX10_crossings_51 : decode cX10_crossings 51 = .ok (.iload_n 3, 1) := by decide +kernel
theorem dX10_crossings_52 : decode cX10_crossings 52 = .ok (.ireturn, 1) := by decide +kernel
theorem dX10_isOf_0 : decode cX10_isOf 0 = .ok (.aload_n 0, 1) := by decide +kernel
theorem dX10_isOf_1 : decode cX10_isOf 1 = .ok (.getfield 20, 3) := by decide +kernel
theorem dX10_isOf_4 : decode cX10_isOf 4 = .ok (.iload_n 1, 1) := by decide +kernel
theorem dX10_isOf_5 : decode cX10_isOf 5 = .ok (.iaload, 1) := by decide +kernel
theorem dX10_isOf_6 : decode cX10_isOf 6 = .ok (.iload_n 2, 1) := by decide +kernel
theorem dX10_isOf_7 : decode cX10_isOf 7 = .ok (.if_icmp .eq 13, 3) := by decide +kernel
theorem dX10_isOf_10 : decode cX10_isOf 10 = .ok (.aload_n 0, 1) := by decide +kernel
theorem dX10_isOf_11 : decode cX10_isOf 11 = .ok (.getfield 23, 3) := by decide +kernel
theorem dX10_isOf_14 : decode cX10_isOf 14 = .ok (.iload_n 1, 1) := by decide +kernel
theorem dX10_isOf_15 : decode cX10_isOf 15 = .ok (.iaload, 1) := by decide +kernel
theorem dX10_isOf_16 : decode cX10_isOf 16 = .ok (.iload_n 2, 1) := by decide +kernel
theorem dX10_isOf_17 : decode cX10_isOf 17 = .ok (.if_icmp .ne 7, 3) := by decide +kernel
theorem dX10_isOf_20 : decode cX10_isOf 20 = .ok (.iconst 1, 1) := by decide +kernel
theorem dX10_isOf_21 : decode cX10_isOf 21 = .ok (.goto 4, 3) := by decide +kernel
theorem dX10_isOf_24 : decode cX10_isOf 24 = .ok (.iconst 0, 1) := by decide +kernel
theorem dX10_isOf_25 : decode cX10_isOf 25 = .ok (.ireturn, 1) := by decide +kernel
set_option maxRecDepth 20000 in
theorem ggX10_bridgesOf_X10_isOf : GoodIn wsX10_bridgesOf wsX10_isOf := goodIn_r _ [6, 7, 8, 14, 15, 16, 17, 18, 19, 20, 21, 22, 23, 24, 25, 26, 27, 28, 29, 30] (by decide +kernel) (by decide +kernel)
set_option maxRecDepth 20000 in
theorem gX10_bridgesOf_X10_isOf : GoodIn wsX10_bridgesOf (wsV RX10 93 RX10 yX10_isOf wsX10_isOf) := goodIn_app (goodIn_of _ (by decide +kernel)) ggX10_bridgesOf_X10_isOf
set_option maxRecDepth 20000 in
theorem ggX10_bridgesOf_X10_bridges : GoodIn wsX10_bridgesOf wsX10_bridges := goodIn_r _ [12, 13, 14, 15, 16, 17, 18, 19, 20, 21, 22, 23, 24, 25, 26, 27, 28, 29, 30] (by decide +kernel) (by decide +kernel)
set_option maxRecDepth 20000 in
theorem gX10_bridgesOf_X10_bridges : GoodIn wsX10_bridgesOf (wsV RX10 90 RX10 yX10_bridges wsX10_bridges) := goodIn_app (goodIn_of _ (by decide +kernel)) ggX10_bridgesOf_X10_bridges
theorem dX10_bridgesOf_0 : decode cX10_bridgesOf 0 = .ok (.iconst 0, 1) := by decide +kernel
theorem dX10_bridgesOf_1 : decode cX10_bridgesOf 1 = .ok (.istore_n 2, 1) := by decide +kernel
theorem dX10_bridgesOf_2 : decode cX10_bridgesOf 2 = .ok (.iconst 0, 1) := by decide +kernel
theorem dX10_bridgesOf_3 : decode cX10_bridgesOf 3 = .ok (.istore_n 3, 1) := by decide +kernel
theorem dX10_bridgesOf_4 : decode cX10_bridgesOf 4 = .ok (.iload_n 3, 1) := by decide +kernel
theorem dX10_bridgesOf_5 : decode cX10_bridgesOf 5 = .ok (.aload_n 0, 1) := by decide +kernel
theorem dX10_bridgesOf_6 : decode cX10_bridgesOf 6 = .ok (.getfield 54, 3) := by decide +kernel
theorem dX10_bridgesOf_9 : decode cX10_bridgesOf 9 = .ok (.if_icmp .ge 30, 3) := by decide +kernel
theorem dX10_bridgesOf_12 : decode cX10_bridgesOf 12 = .ok (.iload_n 2, 1) := by decide +kernel
theorem dX10_bridgesOf_13 : decode cX10_bridgesOf 13 = .ok (.aload_n 0, 1) := by decide +kernel
theorem dX10_bridgesOf_14 : decode cX10_bridgesOf 14 = .ok (.iload_n 3, 1) := by decide +kernel
theorem dX10_bridgesOf_15 : decode cX10_bridgesOf 15 = .ok (.iload_n 1, 1) := by decide +kernel
theorem dX10_bridgesOf_16 : decode cX10_bridgesOf 16 = .ok (.invokevirtual 93, 3) := by decide +kernel
theorem dX10_bridgesOf_19 : decode cX10_bridgesOf 19 = .ok (.ifCond .eq 11, 3) := by decide +kernel
theorem dX10_bridgesOf_22 : decode cX10_bridgesOf 22 = .ok (.aload_n 0, 1) := by decide +kernel
theorem dX10_bridgesOf_23 : decode cX10_bridgesOf 23 = .ok (.iload_n 3, 1) := by decide +kernel
theorem dX10_bridgesOf_24 : decode cX10_bridgesOf 24 = .ok (.invokevirtual 90, 3) := by decide +kernel
theorem dX10_bridgesOf_27 : decode cX10_bridgesOf 27 = .ok (.goto 4, 3) := by decide +kernel
theorem dX10_bridgesOf_30 : decode cX10_bridgesOf 30 = .ok (.iconst 0, 1) := by decide +kernel
theorem dX10_bridgesOf_31 : decode cX10_bridgesOf 31 = .ok (.iadd, 1) := by decide +kernel
theorem dX10_bridgesOf_32 : decode cX10_bridgesOf 32 = .ok (.istore_n 2, 1) := by decide +kernel
theorem dX10_bridgesOf_33 : decode cX10_bridgesOf 33 = .ok (.iinc 3 1, 3) := by decide +kernel
theorem dX10_bridgesOf_36 : decode cX10_bridgesOf 36 = .ok (.goto (-32), 3) := by decide +kernel
theorem dX10_bridgesOf_39 : decode cX10_bridgesOf 39 = .ok (.iload_n 2, 1) := by decide +kernel
theorem dX10_bridgesOf_40 : decode cX10_bridgesOf 40 = .ok (.ireturn, 1) := by decide +kernel
set_option maxRecDepth 20000 in
theorem ggX10_capsOf_X10_isOf : GoodIn wsX10_capsOf wsX10_isOf := goodIn_r _ [6, 7, 8, 14, 15, 16, 17, 18, 19, 20, 21, 22, 23, 24, 25, 26, 27, 28, 29, 30] (by decide +kernel) (by decide +kernel)
set_option maxRecDepth 20000 in
theorem gX10_capsOf_X10_isOf : GoodIn wsX10_capsOf (wsV RX10 93 RX10 yX10_isOf wsX10_isOf) := goodIn_app (goodIn_of _ (by decide +kernel)) ggX10_capsOf_X10_isOf
set_option maxRecDepth 20000 in
theorem ggX10_capsOf_X10_capOf : GoodIn wsX10_capsOf wsX10_capOf := goodIn_r _ [12, 13, 14, 15, 16, 17, 18, 19, 20, 21, 22, 23, 24, 25, 26, 27, 28, 29, 30] (by decide +kernel) (by decide +kernel)
set_option maxRecDepth 20000 in
theorem gX10_capsOf_X10_capOf : GoodIn wsX10_capsOf (wsV RX10 96 RX10 yX10_capOf wsX10_capOf) := goodIn_app (goodIn_of _ (by decide +kernel)) ggX10_capsOf_X10_capOf
theorem dX10_capsOf_0 : decode cX10_capsOf 0 = .ok (.iconst 0, 1) := by decide +kernel
theorem dX10_capsOf_1 : decode cX10_capsOf 1 = .ok (.istore_n 2, 1) := by decide +kernel
theorem dX10_capsOf_2 : decode cX10_capsOf 2 = .ok (.iconst 0, 1) := by decide +kernel
theorem dX10_capsOf_3 : decode cX10_capsOf 3 = .ok (.istore_n 3, 1) := by decide +kernel
theorem dX10_capsOf_4 : decode cX10_capsOf 4 = .ok (.iload_n 3, 1) := by decide +kernel
theorem dX10_capsOf_5 : decode cX10_capsOf 5 = .ok (.aload_n 0, 1) := by decide +kernel
theorem dX10_capsOf_6 : decode cX10_capsOf 6 = .ok (.getfield 54, 3) := by decide +kernel
theorem dX10_capsOf_9 : decode cX10_capsOf 9 = .ok (.if_icmp .ge 30, 3) := by decide +kernel
theorem dX10_capsOf_12 : decode cX10_capsOf 12 = .ok (.iload_n 2, 1) := by decide +kernel
theorem dX10_capsOf_13 : decode cX10_capsOf 13 = .ok (.aload_n 0, 1) := by decide +kernel
theorem dX10_capsOf_14 : decode cX10_capsOf 14 = .ok (.iload_n 3, 1) := by decide +kernel
theorem dX10_capsOf_15 : decode cX10_capsOf 15 = .ok (.iload_n 1, 1) := by decide +kernel
theorem dX10_capsOf_16 : decode cX10_capsOf 16 = .ok (.invokevirtual 93, 3) := by decide +kernel
theorem dX10_capsOf_19 : decode cX10_capsOf 19 = .ok (.ifCond .eq 11, 3) := by decide +kernel
theorem dX10_capsOf_22 : decode cX10_capsOf 22 = .ok (.aload_n 0, 1) := by decide +kernel
theorem dX10_capsOf_23 : decode cX10_capsOf 23 = .ok (.iload_n 3, 1) := by decide +kernel
theorem dX10_capsOf_24 : decode cX10_capsOf 24 = .ok (.invokevirtual 96, 3) := by decide +kernel
theorem dX10_capsOf_27 : decode cX10_capsOf 27 = .ok (.goto 4, 3) := by decide +kernel
theorem dX10_capsOf_30 : decode cX10_capsOf 30 = .ok (.iconst 0, 1) := by decide +kernel
theorem dX10_capsOf_31 : decode cX10_capsOf 31 = .ok (.iadd, 1) := by decide +kernel
theorem dX10_capsOf_32 : decode cX10_capsOf 32 = .ok (.istore_n 2, 1) := by decide +kernel
theorem dX10_capsOf_33 : decode cX10_capsOf 33 = .ok (.iinc 3 1, 3) := by decide +kernel
theorem dX10_capsOf_36 : decode cX10_capsOf 36 = .ok (.goto (-32), 3) := by decide +kernel
theorem dX10_capsOf_39 : decode cX10_capsOf 39 = .ok (.iload_n 2, 1) := by decide +kernel
theorem dX10_capsOf_40 : decode cX10_capsOf 40 = .ok (.ireturn, 1) := by decide +kernel
set_option maxRecDepth 20000 in
theorem ggX10_lacks_X10_number : GoodIn wsX10_lacks wsX10_number := goodIn_r _ [5, 6, 22, 23, 24, 25, 26, 27, 28, 29, 30, 31, 32, 33, 34, 35, 36, 37, 38] (by decide +kernel) (by decide +kernel)
set_option maxRecDepth 20000 in
theorem gX10_lacks_X10_number : GoodIn wsX10_lacks (wsV RX10 50 RX10 yX10_number wsX10_number) := goodIn_app (goodIn_of _ (by decide +kernel)) ggX10_lacks_X10_number
set_option maxRecDepth 20000 in
theorem ggX10_lacks_X10_bridgesOf : GoodIn wsX10_lacks wsX10_bridgesOf := goodIn_r _ [10, 11, 12, 13, 14, 4, 15, 16, 17, 18, 19, 20, 21, 6, 22, 23, 24, 25, 26, 27, 28, 29, 30, 31, 32, 33, 34, 35, 36, 37, 38] (by decide +kernel) (by decide +kernel)
set_option maxRecDepth 20000 in
theorem gX10_lacks_X10_bridgesOf : GoodIn wsX10_lacks (wsV RX10 99 RX10 yX10_bridgesOf wsX10_bridgesOf) := goodIn_app (goodIn_of _ (by decide +kernel)) ggX10_lacks_X10_bridgesOf
theorem dX10_lacks_0 : decode cX10_lacks 0 = .ok (.aload_n 0, 1) := by decide +kernel
theorem dX10_lacks_1 : decode cX10_lacks 1 = .ok (.iload_n 1, 1) := by decide +kernel
theorem dX10_lacks_2 : decode cX10_lacks 2 = .ok (.invokevirtual 50, 3) := by decide +kernel
theorem dX10_lacks_5 : decode cX10_lacks 5 = .ok (.aload_n 0, 1) := by decide +kernel
theorem dX10_lacks_6 : decode cX10_lacks 6 = .ok (.iload_n 1, 1) := by decide +kernel
theorem dX10_lacks_7 : decode cX10_lacks 7 = .ok (.invokevirtual 99, 3) := by decide +kernel
theorem dX10_lacks_10 : decode cX10_lacks 10 = .ok (.isub, 1) := by decide +kernel
theorem dX10_lacks_11 : decode cX10_lacks 11 = .ok (.ireturn, 1) := by decide +kernel
set_option maxRecDepth 20000 in
theorem ggX10_findGroups_X10_cells : GoodIn wsX10_findGroups wsX10_cells := goodIn_r _ [9, 10, 18, 19, 20, 21, 22, 23, 24, 25, 26, 27, 28, 29, 30, 31, 32, 33, 34] (by decide +kernel) (by decide +kernel)
set_option maxRecDepth 20000 in
theorem gX10_findGroups_X10_cells : GoodIn wsX10_findGroups (wsV RX10 42 RX10 yX10_cells wsX10_cells) := goodIn_app (goodIn_of _ (by decide +kernel)) ggX10_findGroups_X10_cells
set_option maxRecDepth 20000 in
theorem ggX10_findGroups_X10_bridges : GoodIn wsX10_findGroups wsX10_bridges := goodIn_r _ [14, 10, 18, 19, 20, 21, 22, 23, 24, 25, 26, 27, 28, 29, 30, 31, 32, 33, 34] (by decide +kernel) (by decide +kernel)
set_option maxRecDepth 20000 in
theorem gX10_findGroups_X10_bridges : GoodIn wsX10_findGroups (wsV RX10 90 RX10 yX10_bridges wsX10_bridges) := goodIn_app (goodIn_of _ (by decide +kernel)) ggX10_findGroups_X10_bridges
set_option maxRecDepth 20000 in
theorem ggX10_findGroups_X10_lesser : GoodIn wsX10_findGroups wsX10_lesser := goodIn_r _ [17] (by decide +kernel) (by decide +kernel)
set_option maxRecDepth 20000 in
theorem gX10_findGroups_X10_lesser : GoodIn wsX10_findGroups (va_wsS RX10 102 yX10_lesser wsX10_lesser) := goodIn_app (goodIn_of _ (by decide +kernel)) ggX10_findGroups_X10_lesser
theorem dX10_findGroups_0 : decode cX10_findGroups 0 = .ok (.iconst 0, 1) := by decide +kernel
theorem dX10_findGroups_1 : decode cX10_findGroups 1 = .ok (.istore_n 1, 1) := by decide +kernel
theorem dX10_findGroups_2 : decode cX10_findGroups 2 = .ok (.iload_n 1, 1) := by decide +kernel
theorem dX10_findGroups_3 : decode cX10_findGroups 3 = .ok (.aload_n 0, 1) := by decide +kernel
theorem dX10_findGroups_4 : decode cX10_findGroups 4 = .ok (.invokevirtual 42, 3) := by decide +kernel
theorem dX10_findGroups_7 : decode cX10_findGroups 7 = .ok (.if_icmp .ge 16, 3) := by decide +kernel
theorem dX10_findGroups_10 : decode cX10_findGroups 10 = .ok (.aload_n 0, 1) := by decide +kernel
theorem dX10_findGroups_11 : decode cX10_findGroups 11 = .ok (.getfield 26, 3) := by decide +kernel
theorem dX10_findGroups_14 : decode cX10_findGroups 14 = .ok (.iload_n 1, 1) := by decide +kernel
theorem dX10_findGroups_15 : decode cX10_findGroups 15 = .ok (.iload_n 1, 1) := by decide +kernel
theorem dX10_findGroups_16 : decode cX10_findGroups 16 = .ok (.iastore, 1) := by decide +kernel
theorem dX10_findGroups_17 : decode cX10_findGroups 17 = .ok (.iinc 1 1, 3) := by decide +kernel
theorem dX10_findGroups_20 : decode cX10_findGroups 20 = .ok (.goto (-18), 3) := by decide +kernel
theorem dX10_findGroups_23 : decode cX10_findGroups 23 = .ok (.iconst 1, 1) := by decide +kernel
theorem dX10_findGroups_24 : decode cX10_findGroups 24 = .ok (.istore_n 1, 1) := by decide +kernel
theorem dX10_findGroups_25 : decode cX10_findGroups 25 = .ok (.iload_n 1, 1) := by decide +kernel
theorem dX10_findGroups_26 : decode cX10_findGroups 26 = .ok (.ifCond .eq 99, 3) := by decide +kernel
theorem dX10_findGroups_29 : decode cX10_findGroups 29 = .ok (.iconst 0, 1) := by decide +kernel
theorem dX10_findGroups_30 : decode cX10_findGroups 30 = .ok (.istore_n 1, 1) := by decide +kernel
theorem dX10_findGroups_31 : decode cX10_findGroups 31 = .ok (.iconst 0, 1) := by decide +kernel
theorem dX10_findGroups_32 : decode cX10_findGroups 32 = .ok (.istore_n 2, 1) := by decide +kernel
theorem dX10_findGroups_33 : decode cX10_findGroups 33 = .ok (.iload_n 2, 1) := by decide +kernel
theorem dX10_findGroups_34 : decode cX10_findGroups 34 = .ok (.aload_n 0, 1) := by decide +kernel
theorem dX10_findGroups_35 : decode cX10_findGroups 35 = .ok (.getfield 54, 3) := by decide +kernel
theorem dX10_findGroups_38 : decode cX10_findGroups 38 = .ok (.if_icmp .ge 84, 3) := by decide +kernel
theorem dX10_findGroups_41 : decode cX10_findGroups 41 = .ok (.aload_n 0, 1) := by decide +kernel
theorem dX10_findGroups_42 : decode cX10_findGroups 42 = .ok (.getfield 26, 3) := by decide +kernel
theorem dX10_findGroups_45 : decode cX10_findGroups 45 = .ok (.aload_n 0, 1) := by decide +kernel
theorem dX10_findGroups_46 : decode cX10_findGroups 46 = .ok (.getfield 20, 3) := by decide +kernel
theorem dX10_findGroups_49 : decode cX10_findGroups 49 = .ok (.iload_n 2, 1) := by decide +kernel
theorem dX10_findGroups_50 : decode cX10_findGroups 50 = .ok (.iaload, 1) := by decide +kernel
theorem dX10_findGroups_51 : decode cX10_findGroups 51 = .ok (.iaload, 1) := by decide +kernel
theorem dX10_findGroups_52 : decode cX10_findGroups 52 = .ok (.istore_n 3, 1) := by decide +kernel
theorem dX10_findGroups_53 : decode cX10_findGroups 53 = .ok (.aload_n 0, 1) := by decide +kernel
theorem dX10_findGroups_54 : decode cX10_findGroups 54 = .ok (.getfield 26, 3) := by decide +kernel
theorem dX10_findGroups_57 : decode cX10_findGroups 57 = .ok (.aload_n 0, 1) := by decide +kernel
theorem dX10_findGroups_58 : decode cX10_findGroups 58 = .ok (.getfield 23, 3) := by decide +kernel
theorem dX10_findGroups_61 : decode cX10_findGroups 61 = .ok (.iload_n 2, 1) := by decide +kernel
theorem dX10_findGroups_62 : decode cX10_findGroups 62 = .ok (.iaload, 1) := by decide +kernel
theorem dX10_findGroups_63 : decode cX10_findGroups 63 = .ok (.iaload, 1) := by decide +kernel
theorem dX10_findGroups_64 : decode cX10_findGroups 64 = .ok (.istore 4, 2) := by decide +kernel
theorem dX10_findGroups_66 : decode cX10_findGroups 66 = .ok (.aload_n 0, 1) := by decide +kernel
theorem dX10_findGroups_67 : decode cX10_findGroups 67 = .ok (.iload_n 2, 1) := by decide +kernel
theorem dX10_findGroups_68 : decode cX10_findGroups 68 = .ok (.invokevirtual 90, 3) := by decide +kernel
theorem dX10_findGroups_71 : decode cX10_findGroups 71 = .ok (.ifCond .le 45, 3) := by decide +kernel
theorem dX10_findGroups_74 : decode cX10_findGroups 74 = .ok (.iload_n 3, 1) := by decide +kernel
theorem dX10_findGroups_75 : decode cX10_findGroups 75 = .ok (.iload 4, 2) := by decide +kernel
theorem dX10_findGroups_77 : decode cX10_findGroups 77 = .ok (.if_icmp .eq 39, 3) := by decide +kernel
theorem dX10_findGroups_80 : decode cX10_findGroups 80 = .ok (.aload_n 0, 1) := by decide +kernel
theorem dX10_findGroups_81 : decode cX10_findGroups 81 = .ok (.getfield 26, 3) := by decide +kernel
theorem dX10_findGroups_84 : decode cX10_findGroups 84 = .ok (.aload_n 0, 1) := by decide +kernel
theorem dX10_findGroups_85 : decode cX10_findGroups 85 = .ok (.getfield 20, 3) := by decide +kernel
theorem dX10_findGroups_88 : decode cX10_findGroups 88 = .ok (.iload_n 2, 1) := by decide +kernel
theorem dX10_findGroups_89 : decode cX10_findGroups 89 = .ok (.iaload, 1) := by decide +kernel
theorem dX10_findGroups_90 : decode cX10_findGroups 90 = .ok (.iload_n 3, 1) := by decide +kernel
theorem dX10_findGroups_91 : decode cX10_findGroups 91 = .ok (.iload 4, 2) := by decide +kernel
theorem dX10_findGroups_93 : decode cX10_findGroups 93 = .ok (.invokestatic 102, 3) := by decide +kernel
theorem dX10_findGroups_96 : decode cX10_findGroups 96 = .ok (.iastore, 1) := by decide +kernel
theorem dX10_findGroups_97 : decode cX10_findGroups 97 = .ok (.aload_n 0, 1) := by decide +kernel
theorem dX10_findGroups_98 : decode cX10_findGroups 98 = .ok (.getfield 26, 3) := by decide +kernel
theorem dX10_findGroups_101 : decode cX10_findGroups 101 = .ok (.aload_n 0, 1) := by decide +kernel
theorem dX10_findGroups_102 : decode cX10_findGroups 102 = .ok (.getfield 23, 3) := by decide +kernel
theorem dX10_findGroups_105 : decode cX10_findGroups 105 = .ok (.iload_n 2, 1) := by decide +kernel
theorem dX10_findGroups_106 : decode cX10_findGroups 106 = .ok (.iaload, 1) := by decide +kernel
theorem dX10_findGroups_107 : decode cX10_findGroups 107 = .ok (.iload_n 3, 1) := by decide +kernel
theorem dX10_findGroups_108 : decode cX10_findGroups 108 = .ok (.iload 4, 2) := by decide +kernel
theorem dX10_findGroups_110 : decode cX10_findGroups 110 = .ok (.invokestatic 102, 3) := by decide +kernel
theorem dX10_findGroups_113 : decode cX10_findGroups 113 = .ok (.iastore, 1) := by decide +kernel
theorem dX10_findGroups_114 : decode cX10_findGroups 114 = .ok (.iconst 1, 1) := by decide +kernel
theorem dX10_findGroups_115 : decode cX10_findGroups 115 = .ok (.istore_n 1, 1) := by decide +kernel
theorem dX10_findGroups_116 : decode cX10_findGroups 116 = .ok (.iinc 2 1, 3) := by decide +kernel
theorem dX10_findGroups_119 : decode cX10_findGroups 119 = .ok (.goto (-86), 3) := by decide +kernel
theorem dX10_findGroups_122 : decode cX10_findGroups 122 = .ok (.goto (-97), 3) := by decide +kernel
theorem dX10_findGroups_125 : decode cX10_findGroups 125 = .ok (.return_, 1) := by decide +kernel
set_option maxRecDepth 20000 in
theorem ggX10_groupsBelow_X10_number : GoodIn wsX10_groupsBelow wsX10_number := goodIn_r _ [6, 7, 8, 9, 10, 11, 12, 13, 14, 15, 16, 17, 18, 19, 20, 21, 22, 23, 24] (by decide +kernel) (by decide +kernel)
set_option maxRecDepth 20000 in
theorem gX10_groupsBelow_X10_number : GoodIn wsX10_groupsBelow (wsV RX10 50 RX10 yX10_number wsX10_number) := goodIn_app (goodIn_of _ (by decide +kernel)) ggX10_groupsBelow_X10_number
theorem dX10_groupsBelow_0 : decode cX10_groupsBelow 0 = .ok (.iconst 0, 1) := by decide +kernel
theorem dX10_groupsBelow_1 : decode cX10_groupsBelow 1 = .ok (.istore_n 2, 1) := by decide +kernel
theorem dX10_groupsBelow_2 : decode cX10_groupsBelow 2 = .ok (.iconst 0, 1) := by decide +kernel
theorem dX10_groupsBelow_3 : decode cX10_groupsBelow 3 = .ok (.istore_n 3, 1) := by decide +kernel
theorem dX10_groupsBelow_4 : decode cX10_groupsBelow 4 = .ok (.iload_n 3, 1) := by decide +kernel
theorem dX10_groupsBelow_5 : decode cX10_groupsBelow 5 = .ok (.iload_n 1, 1) := by decide +kernel
theorem dX10_groupsBelow_6 : decode cX10_groupsBelow 6 = .ok (.if_icmp .ge 35, 3) := by decide +kernel
theorem dX10_groupsBelow_9 : decode cX10_groupsBelow 9 = .ok (.iload_n 2, 1) := by decide +kernel
theorem dX10_groupsBelow_10 : decode cX10_groupsBelow 10 = .ok (.aload_n 0, 1) := by decide +kernel
theorem dX10_groupsBelow_11 : decode cX10_groupsBelow 11 = .ok (.iload_n 3, 1) := by decide +kernel
theorem dX10_groupsBelow_12 : decode cX10_groupsBelow 12 = .ok (.invokevirtual 50, 3) := by decide +kernel
theorem dX10_groupsBelow_15 : decode cX10_groupsBelow 15 = .ok (.ifCond .le 17, 3) := by decide +kernel
theorem dX10_groupsBelow_18 : decode cX10_groupsBelow 18 = .ok (.aload_n 0, 1) := by decide +kernel
theorem dX10_groupsBelow_19 : decode cX10_groupsBelow 19 = .ok (.getfield 26, 3) := by decide +kernel
theorem dX10_groupsBelow_22 : decode cX10_groupsBelow 22 = .ok (.iload_n 3, 1) := by decide +kernel
theorem dX10_groupsBelow_23 : decode cX10_groupsBelow 23 = .ok (.iaload, 1) := by decide +kernel
theorem dX10_groupsBelow_24 : decode cX10_groupsBelow 24 = .ok (.iload_n 3, 1) := by decide +kernel
theorem dX10_groupsBelow_25 : decode cX10_groupsBelow 25 = .ok (.if_icmp .ne 7, 3) := by decide +kernel
theorem dX10_groupsBelow_28 : decode cX10_groupsBelow 28 = .ok (.iconst 1, 1) := by decide +kernel
theorem dX10_groupsBelow_29 : decode cX10_groupsBelow 29 = .ok (.goto 4, 3) := by decide +kernel
theorem dX10_groupsBelow_32 : decode cX10_groupsBelow 32 = .ok (.iconst 0, 1) := by decide +kernel
theorem dX10_groupsBelow_33 : decode cX10_groupsBelow 33 = .ok (.iadd, 1) := by decide +kernel
theorem dX10_groupsBelow_34 : decode cX10_groupsBelow 34 = .ok (.istore_n 2, 1) := by decide +kernel
theorem dX10_groupsBelow_35 : decode cX10_groupsBelow 35 = .ok (.iinc 3 1, 3) := by decide +kernel
theorem dX10_groupsBelow_38 : decode cX10_groupsBelow 38 = .ok (.goto (-34), 3) := by decide +kernel
theorem dX10_groupsBelow_41 : decode cX10_groupsBelow 41 = .ok (.iload_n 2, 1) := by decide +kernel
theorem dX10_groupsBelow_42 : decode cX10_groupsBelow 42 = .ok (.ireturn, 1) := by decide +kernel
set_option maxRecDepth 20000 in
theorem ggX10_groups_X10_findGroups : GoodIn wsX10_groups wsX10_findGroups := goodIn_r _ [5, 6, 7, 8, 9, 10, 11, 12, 4, 13, 14, 15, 16, 17, 18, 19, 20, 21, 30, 31, 32, 33, 34, 35, 36, 37, 38, 39, 40, 41, 42, 43, 44, 45, 46] (by decide +kernel) (by decide +kernel)
set_option maxRecDepth 20000 in
theorem gX10_groups_X10_findGroups : GoodIn wsX10_groups (wsV RX10 106 RX10 yX10_findGroups wsX10_findGroups) := goodIn_app (goodIn_of _ (by decide +kernel)) ggX10_groups_X10_findGroups
set_option maxRecDepth 20000 in
theorem ggX10_groups_X10_cells : GoodIn wsX10_groups wsX10_cells := goodIn_r _ [13, 14, 30, 31, 32, 33, 34, 35, 36, 37, 38, 39, 40, 41, 42, 43, 44, 45, 46] (by decide +kernel) (by decide +kernel)
set_option maxRecDepth 20000 in
theorem gX10_groups_X10_cells : GoodIn wsX10_groups (wsV RX10 42 RX10 yX10_cells wsX10_cells) := goodIn_app (goodIn_of _ (by decide +kernel)) ggX10_groups_X10_cells
set_option maxRecDepth 20000 in
theorem ggX10_groups_X10_groupsBelow : GoodIn wsX10_groups wsX10_groupsBelow := goodIn_r _ [25, 6, 26, 27, 28, 4, 29, 14, 30, 31, 32, 33, 34, 35, 36, 37, 38, 39, 40, 41, 42, 43, 44, 45, 46] (by decide +kernel) (by decide +kernel)
set_option maxRecDepth 20000 in
theorem gX10_groups_X10_groupsBelow : GoodIn wsX10_groups (wsV RX10 109 RX10 yX10_groupsBelow wsX10_groupsBelow) := goodIn_app (goodIn_of _ (by decide +kernel)) ggX10_groups_X10_groupsBelow
theorem dX10_groups_0 : decode cX10_groups 0 = .ok (.aload_n 0, 1) := by decide +kernel
theorem dX10_groups_1 : decode cX10_groups 1 = .ok (.invokevirtual 106, 3) := by decide +kernel
theorem dX10_groups_4 : decode cX10_groups 4 = .ok (.aload_n 0, 1) := by decide +kernel
theorem dX10_groups_5 : decode cX10_groups 5 = .ok (.aload_n 0, 1) := by decide +kernel
theorem dX10_groups_6 : decode cX10_groups 6 = .ok (.invokevirtual 42, 3) := by decide +kernel
theorem dX10_groups_9 : decode cX10_groups 9 = .ok (.invokevirtual 109, 3) := by decide +kernel
theorem dX10_groups_12 : decode cX10_groups 12 = .ok (.ireturn, 1) := by decide +kernel
set_option maxRecDepth 20000 in
theorem ggX10_complete_X10_cells : GoodIn wsX10_complete wsX10_cells := goodIn_r _ [5, 6, 30, 31, 32, 33, 34, 35, 36, 37, 38, 39, 40, 41, 42, 43, 44, 45, 46] (by decide +kernel) (by decide +kernel)
set_option maxRecDepth 20000 in
theorem gX10_complete_X10_cells : GoodIn wsX10_complete (wsV RX10 42 RX10 yX10_cells wsX10_cells) := goodIn_app (goodIn_of _ (by decide +kernel)) ggX10_complete_X10_cells
set_option maxRecDepth 20000 in
theorem ggX10_complete_X10_number : GoodIn wsX10_complete wsX10_number := goodIn_r _ [10, 6, 30, 31, 32, 33, 34, 35, 36, 37, 38, 39, 40, 41, 42, 43, 44, 45, 46] (by decide +kernel) (by decide +kernel)
set_option maxRecDepth 20000 in
theorem gX10_complete_X10_number : GoodIn wsX10_complete (wsV RX10 50 RX10 yX10_number wsX10_number) := goodIn_app (goodIn_of _ (by decide +kernel)) ggX10_complete_X10_number
set_option maxRecDepth 20000 in
theorem ggX10_complete_X10_lacks : GoodIn wsX10_complete wsX10_lacks := goodIn_r _ [14, 7, 8, 9, 4, 10, 6, 15, 16, 17, 18, 19, 20, 21, 22, 23, 24, 25, 26, 27, 28, 29, 30, 31, 32, 33, 34, 35, 36, 37, 38, 39, 40, 41, 42, 43, 44, 45, 46] (by decide +kernel) (by decide +kernel)
set_option maxRecDepth 20000 in
theorem gX10_complete_X10_lacks : GoodIn wsX10_complete (wsV RX10 112 RX10 yX10_lacks wsX10_lacks) := goodIn_app (goodIn_of _ (by decide +kernel)) ggX10_complete_X10_lacks
theorem dX10_complete_0 : decode cX10_complete 0 = .ok (.iconst 0, 1) := by decide +kernel
theorem dX10_complete_1 : decode cX10_complete 1 = .ok (.istore_n 1, 1) := by decide +kernel
theorem dX10_complete_2 : decode cX10_complete 2 = .ok (.iconst 0, 1) := by decide +kernel
theorem dX10_complete_3 : decode cX10_complete 3 = .ok (.istore_n 2, 1) := by decide +kernel
theorem dX10_complete_4 : decode cX10_complete 4 = .ok (.iload_n 2, 1) := by decide +kernel
theorem dX10_complete_5 : decode cX10_complete 5 = .ok (.aload_n 0, 1) := by decide +kernel
theorem dX10_complete_6 : decode cX10_complete 6 = .ok (.invokevirtual 42, 3) := by decide +kernel
theorem dX10_complete_9 : decode cX10_complete 9 = .ok (.if_icmp .ge 33, 3) := by decide +kernel
theorem dX10_complete_12 : decode cX10_complete 12 = .ok (.iload_n 1, 1) := by decide +kernel
theorem dX10_complete_13 : decode cX10_complete 13 = .ok (.aload_n 0, 1) := by decide +kernel
theorem dX10_complete_14 : decode cX10_complete 14 = .ok (.iload_n 2, 1) := by decide +kernel
theorem dX10_complete_15 : decode cX10_complete 15 = .ok (.invokevirtual 50, 3) := by decide +kernel
theorem dX10_complete_18 : decode cX10_complete 18 = .ok (.ifCond .le 15, 3) := by decide +kernel
theorem dX10_complete_21 : decode cX10_complete 21 = .ok (.aload_n 0, 1) := by decide +kernel
theorem dX10_complete_22 : decode cX10_complete 22 = .ok (.iload_n 2, 1) := by decide +kernel
theorem dX10_complete_23 : decode cX10_complete 23 = .ok (.invokevirtual 112, 3) := by decide +kernel
theorem dX10_complete_26 : decode cX10_complete 26 = .ok (.ifCond .ne 7, 3) := by decide +kernel
theorem dX10_complete_29 : decode cX10_complete 29 = .ok (.iconst 1, 1) := by decide +kernel
theorem dX10_complete_30 : decode cX10_complete 30 = .ok (.goto 4, 3) := by decide +kernel
theorem dX10_complete_33 : decode cX10_complete 33 = .ok (.iconst 0, 1) := by decide +kernel
theorem dX10_complete_34 : decode cX10_complete 34 = .ok (.iadd, 1) := by decide +kernel
theorem dX10_complete_35 : decode cX10_complete 35 = .ok (.istore_n 1, 1) := by decide +kernel
theorem dX10_complete_36 : decode cX10_complete 36 = .ok (.iinc 2 1, 3) := by decide +kernel
theorem dX10_complete_39 : decode cX10_complete 39 = .ok (.goto (-35), 3) := by decide +kernel
theorem dX10_complete_42 : decode cX10_complete 42 = .ok (.iload_n 1, 1) := by decide +kernel
theorem dX10_complete_43 : decode cX10_complete 43 = .ok (.ireturn, 1) := by decide +kernel
set_option maxRecDepth 20000 in
theorem ggX10_isSolved_X10_islands : GoodIn wsX10_isSolved wsX10_islands := goodIn_r _ [5, 6, 7, 8, 4, 9, 10, 11, 12, 13, 14, 54, 55, 56, 57, 58, 59, 60, 61, 62, 63, 64, 65, 66, 67, 68, 69, 70] (by decide +kernel) (by decide +kernel)
set_option maxRecDepth 20000 in
theorem gX10_isSolved_X10_islands : GoodIn wsX10_isSolved (wsV RX10 67 RX10 yX10_islands wsX10_islands) := goodIn_app (goodIn_of _ (by decide +kernel)) ggX10_isSolved_X10_islands
set_option maxRecDepth 20000 in
theorem ggX10_isSolved_X10_complete : GoodIn wsX10_isSolved wsX10_complete := goodIn_r _ [18, 6, 7, 8, 4, 9, 10, 11, 12, 13, 14, 19, 20, 21, 22, 23, 24, 25, 26, 27, 28, 29, 30, 31, 32, 33, 34, 35, 36, 37, 54, 55, 56, 57, 58, 59, 60, 61, 62, 63, 64, 65, 66, 67, 68, 69, 70] (by decide +kernel) (by decide +kernel)
set_option maxRecDepth 20000 in
theorem gX10_isSolved_X10_complete : GoodIn wsX10_isSolved (wsV RX10 115 RX10 yX10_complete wsX10_complete) := goodIn_app (goodIn_of _ (by decide +kernel)) ggX10_isSolved_X10_complete
set_option maxRecDepth 20000 in
theorem ggX10_isSolved_X10_groups : GoodIn wsX10_isSolved wsX10_groups := goodIn_r _ [41, 42, 43, 44, 4, 45, 46, 27, 32, 33, 6, 7, 8, 9, 10, 34, 35, 36, 37, 47, 48, 49, 50, 51, 52, 53, 11, 12, 13, 14, 54, 55, 56, 57, 58, 59, 60, 61, 62, 63, 64, 65, 66, 67, 68, 69, 70] (by decide +kernel) (by decide +kernel)
set_option maxRecDepth 20000 in
theorem gX10_isSolved_X10_groups : GoodIn wsX10_isSolved (wsV RX10 118 RX10 yX10_groups wsX10_groups) := goodIn_app (goodIn_of _ (by decide +kernel)) ggX10_isSolved_X10_groups
theorem dX10_isSolved_0 : decode cX10_isSolved 0 = .ok (.aload_n 0, 1) := by decide +kernel
theorem dX10_isSolved_1 : decode cX10_isSolved 1 = .ok (.invokevirtual 67, 3) := by decide +kernel
theorem dX10_isSolved_4 : decode cX10_isSolved 4 = .ok (.ifCond .le 26, 3) := by decide +kernel
theorem dX10_isSolved_7 : decode cX10_isSolved 7 = .ok (.aload_n 0, 1) := by decide +kernel
theorem dX10_isSolved_8 : decode cX10_isSolved 8 = .ok (.invokevirtual 115, 3) := by decide +kernel
theorem dX10_isSolved_11 : decode cX10_isSolved 11 = .ok (.aload_n 0, 1) := by decide +kernel
theorem dX10_isSolved_12 : decode cX10_isSolved 12 = .ok (.invokevirtual 67, 3) := by decide +kernel
theorem dX10_isSolved_15 : decode cX10_isSolved 15 = .ok (.if_icmp .ne 15, 3) := by decide +kernel
theorem dX10_isSolved_18 : decode cX10_isSolved 18 = .ok (.aload_n 0, 1) := by decide +kernel
theorem dX10_isSolved_19 : decode cX10_isSolved 19 = .ok (.invokevirtual 118, 3) := by decide +kernel
theorem dX10_isSolved_22 : decode cX10_isSolved 22 = .ok (.iconst 1, 1) := by decide +kernel
theorem dX10_isSolved_23 : decode cX10_isSolved 23 = .ok (.if_icmp .ne 7, 3) := by decide +kernel
theorem dX10_isSolved_26 : decode cX10_isSolved 26 = .ok (.iconst 1, 1) := by decide +kernel
theorem dX10_isSolved_27 : decode cX10_isSolved 27 = .ok (.goto 4, 3) := by decide +kernel
theorem dX10_isSolved_30 : decode cX10_isSolved 30 = .ok (.iconst 0, 1) := by decide +kernel
theorem dX10_isSolved_31 : decode cX10_isSolved 31 = .ok (.ireturn, 1) := by decide +kernel
set_option maxRecDepth 20000 in
theorem ggX10_isBroken_X10_cells : GoodIn wsX10_isBroken wsX10_cells := goodIn_r _ [5, 6, 38, 39, 40, 41, 42, 43, 44, 45, 46, 47, 48, 49, 50, 51, 52, 53, 54] (by decide +kernel) (by decide +kernel)
set_option maxRecDepth 20000 in
theorem gX10_isBroken_X10_cells : GoodIn wsX10_isBroken (wsV RX10 42 RX10 yX10_cells wsX10_cells) := goodIn_app (goodIn_of _ (by decide +kernel)) ggX10_isBroken_X10_cells
set_option maxRecDepth 20000 in
theorem ggX10_isBroken_X10_number : GoodIn wsX10_isBroken wsX10_number := goodIn_r _ [10, 6, 38, 39, 40, 41, 42, 43, 44, 45, 46, 47, 48, 49, 50, 51, 52, 53, 54] (by decide +kernel) (by decide +kernel)
set_option maxRecDepth 20000 in
theorem gX10_isBroken_X10_number : GoodIn wsX10_isBroken (wsV RX10 50 RX10 yX10_number wsX10_number) := goodIn_app (goodIn_of _ (by decide +kernel)) ggX10_isBroken_X10_number
set_option maxRecDepth 20000 in
theorem ggX10_isBroken_X10_capsOf : GoodIn wsX10_isBroken wsX10_capsOf := goodIn_r _ [14, 15, 16, 17, 18, 4, 19, 20, 21, 22, 23, 24, 25, 6, 38, 39, 40, 41, 42, 43, 44, 45, 46, 47, 48, 49, 50, 51, 52, 53, 54] (by decide +kernel) (by decide +kernel)
set_option maxRecDepth 20000 in
theorem gX10_isBroken_X10_capsOf : GoodIn wsX10_isBroken (wsV RX10 121 RX10 yX10_capsOf wsX10_capsOf) := goodIn_app (goodIn_of _ (by decide +kernel)) ggX10_isBroken_X10_capsOf
set_option maxRecDepth 20000 in
theorem ggX10_isBroken_X10_lacks : GoodIn wsX10_isBroken wsX10_lacks := goodIn_r _ [29, 7, 8, 9, 4, 10, 6, 30, 31, 32, 33, 15, 16, 17, 18, 19, 20, 21, 34, 35, 36, 37, 38, 39, 40, 41, 42, 43, 44, 45, 46, 47, 48, 49, 50, 51, 52, 53, 54] (by decide +kernel) (by decide +kernel)
set_option maxRecDepth 20000 in
theorem gX10_isBroken_X10_lacks : GoodIn wsX10_isBroken (wsV RX10 112 RX10 yX10_lacks wsX10_lacks) := goodIn_app (goodIn_of _ (by decide +kernel)) ggX10_isBroken_X10_lacks
theorem dX10_isBroken_0 : decode cX10_isBroken 0 = .ok (.iconst 0, 1) := by decide +kernel
theorem dX10_isBroken_1 : decode cX10_isBroken 1 = .ok (.istore_n 1, 1) := by decide +kernel
theorem dX10_isBroken_2 : decode cX10_isBroken 2 = .ok (.iconst 0, 1) := by decide +kernel
theorem dX10_isBroken_3 : decode cX10_isBroken 3 = .ok (.istore_n 2, 1) := by decide +kernel
theorem dX10_isBroken_4 : decode cX10_isBroken 4 = .ok (.iload_n 2, 1) := by decide +kernel
theorem dX10_isBroken_5 : decode cX10_isBroken 5 = .ok (.aload_n 0, 1) := by decide +kernel
theorem dX10_isBroken_6 : decode cX10_isBroken 6 = .ok (.invokevirtual 42, 3) := by decide +kernel
theorem dX10_isBroken_9 : decode cX10_isBroken 9 = .ok (.if_icmp .ge 48, 3) := by decide +kernel
theorem dX10_isBroken_12 : decode cX10_isBroken 12 = .ok (.iload_n 1, 1) := by decide +kernel
theorem dX10_isBroken_13 : decode cX10_isBroken 13 = .ok (.ifCond .ne 32, 3) := by decide +kernel
theorem dX10_isBroken_16 : decode cX10_isBroken 16 = .ok (.aload_n 0, 1) := by decide +kernel
theorem dX10_isBroken_17 : decode cX10_isBroken 17 = .ok (.iload_n 2, 1) := by decide +kernel
theorem dX10_isBroken_18 : decode cX10_isBroken 18 = .ok (.invokevirtual 50, 3) := by decide +kernel
theorem dX10_isBroken_21 : decode cX10_isBroken 21 = .ok (.ifCond .le 28, 3) := by decide +kernel
theorem dX10_isBroken_24 : decode cX10_isBroken 24 = .ok (.aload_n 0, 1) := by decide +kernel
theorem dX10_isBroken_25 : decode cX10_isBroken 25 = .ok (.iload_n 2, 1) := by decide +kernel
theorem dX10_isBroken_26 : decode cX10_isBroken 26 = .ok (.invokevirtual 121, 3) := by decide +kernel
theorem dX10_isBroken_29 : decode cX10_isBroken 29 = .ok (.aload_n 0, 1) := by decide +kernel
theorem dX10_isBroken_30 : decode cX10_isBroken 30 = .ok (.iload_n 2, 1) := by decide +kernel
theorem dX10_isBroken_31 : decode cX10_isBroken 31 = .ok (.invokevirtual 50, 3) := by decide +kernel
theorem dX10_isBroken_34 : decode cX10_isBroken 34 = .ok (.if_icmp .lt 11, 3) := by decide +kernel
theorem dX10_isBroken_37 : decode cX10_isBroken 37 = .ok (.aload_n 0, 1) := by decide +kernel
theorem dX10_isBroken_38 : decode cX10_isBroken 38 = .ok (.iload_n 2, 1) := by decide +kernel
theorem dX10_isBroken_39 : decode cX10_isBroken 39 = .ok (.invokevirtual 112, 3) := by decide +kernel
theorem dX10_isBroken_42 : decode cX10_isBroken 42 = .ok (.ifCond .ge 7, 3) := by decide +kernel
theorem dX10_isBroken_45 : decode cX10_isBroken 45 = .ok (.iconst 1, 1) := by decide +kernel
theorem dX10_isBroken_46 : decode cX10_isBroken 46 = .ok (.goto 4, 3) := by decide +kernel
theorem dX10_isBroken_49 : decode cX10_isBroken 49 = .ok (.iconst 0, 1) := by decide +kernel
theorem dX10_isBroken_50 : decode cX10_isBroken 50 = .ok (.istore_n 1, 1) := by decide +kernel
theorem dX10_isBroken_51 : decode cX10_isBroken 51 = .ok (.iinc 2 1, 3) := by decide +kernel
theorem dX10_isBroken_54 : decode cX10_isBroken 54 = .ok (.goto (-50), 3) := by decide +kernel
theorem dX10_isBroken_57 : decode cX10_isBroken 57 = .ok (.iload_n 1, 1) := by decide +kernel
theorem dX10_isBroken_58 : decode cX10_isBroken 58 = .ok (.ireturn, 1) := by decide +kernel
set_option maxRecDepth 20000 in
theorem ggX10_reason_X10_bridges : GoodIn wsX10_reason wsX10_bridges := goodIn_r _ [7, 8, 46, 47, 48, 49, 50, 51, 52, 53, 54, 55, 56, 57, 58, 59, 60, 61, 62] (by decide +kernel) (by decide +kernel)
set_option maxRecDepth 20000 in
theorem gX10_reason_X10_bridges : GoodIn wsX10_reason (wsV RX10 90 RX10 yX10_bridges wsX10_bridges) := goodIn_app (goodIn_of _ (by decide +kernel)) ggX10_reason_X10_bridges
set_option maxRecDepth 20000 in
theorem ggX10_reason_X10_capOf : GoodIn wsX10_reason wsX10_capOf := goodIn_r _ [12, 8, 46, 47, 48, 49, 50, 51, 52, 53, 54, 55, 56, 57, 58, 59, 60, 61, 62] (by decide +kernel) (by decide +kernel)
set_option maxRecDepth 20000 in
theorem gX10_reason_X10_capOf : GoodIn wsX10_reason (wsV RX10 96 RX10 yX10_capOf wsX10_capOf) := goodIn_app (goodIn_of _ (by decide +kernel)) ggX10_reason_X10_capOf
set_option maxRecDepth 20000 in
theorem ggX10_reason_X10_crossings : GoodIn wsX10_reason wsX10_crossings := goodIn_r _ [16, 17, 18, 19, 20, 6, 21, 1, 8, 22, 23, 24, 25, 2, 26, 27, 28, 29, 3, 4, 5, 7, 46, 47, 48, 49, 50, 51, 52, 53, 54, 55, 56, 57, 58, 59, 60, 61, 62] (by decide +kernel) (by decide +kernel)
set_option maxRecDepth 20000 in
theorem gX10_reason_X10_crossings : GoodIn wsX10_reason (wsV RX10 124 RX10 yX10_crossings wsX10_crossings) := goodIn_app (goodIn_of _ (by decide +kernel)) ggX10_reason_X10_crossings
set_option maxRecDepth 20000 in
theorem ggX10_reason_X10_lacks : GoodIn wsX10_reason wsX10_lacks := goodIn_r _ [33, 34, 35, 36, 6, 37, 8, 38, 39, 40, 41, 17, 42, 43, 44, 45, 1, 2, 3, 4, 5, 7, 46, 47, 48, 49, 50, 51, 52, 53, 54, 55, 56, 57, 58, 59, 60, 61, 62] (by decide +kernel) (by decide +kernel)
set_option maxRecDepth 20000 in
theorem gX10_reason_X10_lacks : GoodIn wsX10_reason (wsV RX10 112 RX10 yX10_lacks wsX10_lacks) := goodIn_app (goodIn_of _ (by decide +kernel)) ggX10_reason_X10_lacks
theorem dX10_reason_0 : decode cX10_reason 0 = .ok (.aload_n 0, 1) := by decide +kernel
theorem dX10_reason_1 : decode cX10_reason 1 = .ok (.iload_n 1, 1) := by decide +kernel
theorem dX10_reason_2 : decode cX10_reason 2 = .ok (.invokevirtual 90, 3) := by decide +kernel
theorem dX10_reason_5 : decode cX10_reason 5 = .ok (.iconst 2, 1) := by decide +kernel
theorem dX10_reason_6 : decode cX10_reason 6 = .ok (.if_icmp .ne 5, 3) := by decide +kernel
theorem dX10_reason_9 : decode cX10_reason 9 = .ok (.iconst 1, 1) := by decide +kernel
theorem dX10_reason_10 : decode cX10_reason 10 = .ok (.ireturn, 1) := by decide +kernel
theorem dX10_reason_11 : decode cX10_reason 11 = .ok (.aload_n 0, 1) := by decide +kernel
theorem dX10_reason_12 : decode cX10_reason 12 = .ok (.iload_n 1, 1) := by decide +kernel
theorem dX10_reason_13 : decode cX10_reason 13 = .ok (.invokevirtual 96, 3) := by decide +kernel
theorem dX10_reason_16 : decode cX10_reason 16 = .ok (.aload_n 0, 1) := by decide +kernel
theorem dX10_reason_17 : decode cX10_reason 17 = .ok (.iload_n 1, 1) := by decide +kernel
theorem dX10_reason_18 : decode cX10_reason 18 = .ok (.invokevirtual 90, 3) := by decide +kernel
theorem dX10_reason_21 : decode cX10_reason 21 = .ok (.if_icmp .ne 5, 3) := by decide +kernel
theorem dX10_reason_24 : decode cX10_reason 24 = .ok (.iconst 2, 1) := by decide +kernel
theorem dX10_reason_25 : decode cX10_reason 25 = .ok (.ireturn, 1) := by decide +kernel
theorem dX10_reason_26 : decode cX10_reason 26 = .ok (.aload_n 0, 1) := by decide +kernel
theorem dX10_reason_27 : decode cX10_reason 27 = .ok (.iload_n 1, 1) := by decide +kernel
theorem dX10_reason_28 : decode cX10_reason 28 = .ok (.iconst 1, 1) := by decide +kernel
theorem dX10_reason_29 : decode cX10_reason 29 = .ok (.invokevirtual 124, 3) := by decide +kernel
theorem dX10_reason_32 : decode cX10_reason 32 = .ok (.ifCond .le 5, 3) := by decide +kernel
theorem dX10_reason_35 : decode cX10_reason 35 = .ok (.iconst 3, 1) := by decide +kernel
theorem dX10_reason_36 : decode cX10_reason 36 = .ok (.ireturn, 1) := by decide +kernel
theorem dX10_reason_37 : decode cX10_reason 37 = .ok (.aload_n 0, 1) := by decide +kernel
theorem dX10_reason_38 : decode cX10_reason 38 = .ok (.aload_n 0, 1) := by decide +kernel
theorem dX10_reason_39 : decode cX10_reason 39 = .ok (.getfield 20, 3) := by decide +kernel
theorem dX10_reason_42 : decode cX10_reason 42 = .ok (.iload_n 1, 1) := by decide +kernel
theorem dX10_reason_43 : decode cX10_reason 43 = .ok (.iaload, 1) := by decide +kernel
theorem dX10_reason_44 : decode cX10_reason 44 = .ok (.invokevirtual 112, 3) := by decide +kernel
theorem dX10_reason_47 : decode cX10_reason 47 = .ok (.ifCond .le 16, 3) := by decide +kernel
theorem dX10_reason_50 : decode cX10_reason 50 = .ok (.aload_n 0, 1) := by decide +kernel
theorem dX10_reason_51 : decode cX10_reason 51 = .ok (.aload_n 0, 1) := by decide +kernel
theorem dX10_reason_52 : decode cX10_reason 52 = .ok (.getfield 23, 3) := by decide +kernel
theorem dX10_reason_55 : decode cX10_reason 55 = .ok (.iload_n 1, 1) := by decide +kernel
theorem dX10_reason_56 : decode cX10_reason 56 = .ok (.iaload, 1) := by decide +kernel
theorem dX10_reason_57 : decode cX10_reason 57 = .ok (.invokevirtual 112, 3) := by decide +kernel
theorem dX10_reason_60 : decode cX10_reason 60 = .ok (.ifCond .gt 7, 3) := by decide +kernel
theorem dX10_reason_63 : decode cX10_reason 63 = .ok (.iconst 4, 1) := by decide +kernel
theorem dX10_reason_64 : decode cX10_reason 64 = .ok (.goto 4, 3) := by decide +kernel
theorem dX10_reason_67 : decode cX10_reason 67 = .ok (.iconst 0, 1) := by decide +kernel
theorem dX10_reason_68 : decode cX10_reason 68 = .ok (.ireturn, 1) := by decide +kernel
set_option maxRecDepth 20000 in
theorem ggX10_at_X10_isCell : GoodIn wsX10_at wsX10_isCell := goodIn_r _ [6, 7, 8, 9, 5, 10, 11, 12, 13, 14, 33, 34, 35, 36, 37, 38, 39, 40, 41, 42, 43, 44, 45, 46, 47, 48, 49] (by decide +kernel) (by decide +kernel)
set_option maxRecDepth 20000 in
theorem gX10_at_X10_isCell : GoodIn wsX10_at (wsV RX10 76 RX10 yX10_isCell wsX10_isCell) := goodIn_app (goodIn_of _ (by decide +kernel)) ggX10_at_X10_isCell
set_option maxRecDepth 20000 in
theorem ggX10_at_X10_number : GoodIn wsX10_at wsX10_number := goodIn_r _ [18, 11, 33, 34, 35, 36, 37, 38, 39, 40, 41, 42, 43, 44, 45, 46, 47, 48, 49] (by decide +kernel) (by decide +kernel)
set_option maxRecDepth 20000 in
theorem gX10_at_X10_number : GoodIn wsX10_at (wsV RX10 50 RX10 yX10_number wsX10_number) := goodIn_app (goodIn_of _ (by decide +kernel)) ggX10_at_X10_number
set_option maxRecDepth 20000 in
theorem ggX10_at_X10_bridges : GoodIn wsX10_at wsX10_bridges := goodIn_r _ [22, 11, 33, 34, 35, 36, 37, 38, 39, 40, 41, 42, 43, 44, 45, 46, 47, 48, 49] (by decide +kernel) (by decide +kernel)
set_option maxRecDepth 20000 in
theorem gX10_at_X10_bridges : GoodIn wsX10_at (wsV RX10 90 RX10 yX10_bridges wsX10_bridges) := goodIn_app (goodIn_of _ (by decide +kernel)) ggX10_at_X10_bridges
set_option maxRecDepth 20000 in
theorem ggX10_at_X10_isBetween : GoodIn wsX10_at wsX10_isBetween := goodIn_r _ [26, 11, 27, 28, 29, 30, 31, 5, 32, 33, 34, 35, 36, 37, 38, 39, 40, 41, 42, 43, 44, 45, 46, 47, 48, 49] (by decide +kernel) (by decide +kernel)
set_option maxRecDepth 20000 in
theorem gX10_at_X10_isBetween : GoodIn wsX10_at (wsV RX10 83 RX10 yX10_isBetween wsX10_isBetween) := goodIn_app (goodIn_of _ (by decide +kernel)) ggX10_at_X10_isBetween
set_option maxRecDepth 20000 in
theorem ggX10_at_X10_isAcross : GoodIn wsX10_at wsX10_isAcross := goodIn_r _ [32, 27, 11, 28, 33, 34, 35, 36, 37, 38, 39, 40, 41, 42, 43, 44, 45, 46, 47, 48, 49] (by decide +kernel) (by decide +kernel)
set_option maxRecDepth 20000 in
theorem gX10_at_X10_isAcross : GoodIn wsX10_at (wsV RX10 80 RX10 yX10_isAcross wsX10_isAcross) := goodIn_app (goodIn_of _ (by decide +kernel)) ggX10_at_X10_isAcross
theorem dX10_at_0 : decode cX10_at 0 = .ok (.aload_n 0, 1) := by decide +kernel
theorem dX10_at_1 : decode cX10_at 1 = .ok (.iload_n 1, 1) := by decide +kernel
theorem dX10_at_2 : decode cX10_at 2 = .ok (.invokevirtual 76, 3) := by decide +kernel
theorem dX10_at_5 : decode cX10_at 5 = .ok (.ifCond .ne 5, 3) := by decide +kernel
theorem dX10_at_8 : decode cX10_at 8 = .ok (.iconst (-1), 1) := by decide +kernel
theorem dX10_at_9 : decode cX10_at 9 = .ok (.ireturn, 1) := by decide +kernel
theorem dX10_at_10 : decode cX10_at 10 = .ok (.aload_n 0, 1) := by decide +kernel
theorem dX10_at_11 : decode cX10_at 11 = .ok (.iload_n 1, 1) := by decide +kernel
theorem dX10_at_12 : decode cX10_at 12 = .ok (.invokevirtual 50, 3) := by decide +kernel
theorem dX10_at_15 : decode cX10_at 15 = .ok (.istore_n 2, 1) := by decide +kernel
theorem dX10_at_16 : decode cX10_at 16 = .ok (.iconst 0, 1) := by decide +kernel
theorem dX10_at_17 : decode cX10_at 17 = .ok (.istore_n 3, 1) := by decide +kernel
theorem dX10_at_18 : decode cX10_at 18 = .ok (.iload_n 3, 1) := by decide +kernel
theorem dX10_at_19 : decode cX10_at 19 = .ok (.aload_n 0, 1) := by decide +kernel
theorem dX10_at_20 : decode cX10_at 20 = .ok (.getfield 54, 3) := by decide +kernel
theorem dX10_at_23 : decode cX10_at 23 = .ok (.if_icmp .ge 79, 3) := by decide +kernel
theorem dX10_at_26 : decode cX10_at 26 = .ok (.aload_n 0, 1) := by decide +kernel
theorem dX10_at_27 : decode cX10_at 27 = .ok (.iload_n 3, 1) := by decide +kernel
theorem dX10_at_28 : decode cX10_at 28 = .ok (.invokevirtual 90, 3) := by decide +kernel
theorem dX10_at_31 : decode cX10_at 31 = .ok (.ifCond .le 16, 3) := by decide +kernel
theorem dX10_at_34 : decode cX10_at 34 = .ok (.aload_n 0, 1) := by decide +kernel
theorem dX10_at_35 : decode cX10_at 35 = .ok (.iload_n 1, 1) := by decide +kernel
theorem dX10_at_36 : decode cX10_at 36 = .ok (.iload_n 3, 1) := by decide +kernel
theorem dX10_at_37 : decode cX10_at 37 = .ok (.invokevirtual 83, 3) := by decide +kernel
theorem dX10_at_40 : decode cX10_at 40 = .ok (.ifCond .eq 7, 3) := by decide +kernel
theorem dX10_at_43 : decode cX10_at 43 = .ok (.iconst 1, 1) := by decide +kernel
theorem dX10_at_44 : decode cX10_at 44 = .ok (.goto 4, 3) := by decide +kernel
theorem dX10_at_47 : decode cX10_at 47 = .ok (.iconst 0, 1) := by decide +kernel
theorem dX10_at_48 : decode cX10_at 48 = .ok (.istore 4, 2) := by decide +kernel
theorem dX10_at_50 : decode cX10_at 50 = .ok (.iload 4, 2) := by decide +kernel
theorem dX10_at_52 : decode cX10_at 52 = .ok (.ifCond .eq 22, 3) := by decide +kernel
theorem dX10_at_55 : decode cX10_at 55 = .ok (.aload_n 0, 1) := by decide +kernel
theorem dX10_at_56 : decode cX10_at 56 = .ok (.iload_n 3, 1) := by decide +kernel
theorem dX10_at_57 : decode cX10_at 57 = .ok (.invokevirtual 80, 3) := by decide +kernel
theorem dX10_at_60 : decode cX10_at 60 = .ok (.ifCond .eq 14, 3) := by decide +kernel
theorem dX10_at_63 : decode cX10_at 63 = .ok (.bipush 10, 2) := by decide +kernel
theorem dX10_at_65 : decode cX10_at 65 = .ok (.aload_n 0, 1) := by decide +kernel
theorem dX10_at_66 : decode cX10_at 66 = .ok (.iload_n 3, 1) := by decide +kernel
theorem dX10_at_67 : decode cX10_at 67 = .ok (.invokevirtual 90, 3) := by decide +kernel
theorem dX10_at_70 : decode cX10_at 70 = .ok (.iadd, 1) := by decide +kernel
theorem dX10_at_71 : decode cX10_at 71 = .ok (.goto 24, 3) := by decide +kernel
theorem dX10_at_74 : decode cX10_at 74 = .ok (.iload 4, 2) := by decide +kernel
theorem dX10_at_76 : decode cX10_at 76 = .ok (.ifCond .eq 18, 3) := by decide +kernel
theorem dX10_at_79 : decode cX10_at 79 = .ok (.iload_n 2, 1) := by decide +kernel
theorem dX10_at_80 : decode cX10_at 80 = .ok (.ifCond .ne 14, 3) := by decide +kernel
theorem dX10_at_83 : decode cX10_at 83 = .ok (.bipush 20, 2) := by decide +kernel
theorem dX10_at_85 : decode cX10_at 85 = .ok (.aload_n 0, 1) := by decide +kernel
theorem dX10_at_86 : decode cX10_at 86 = .ok (.iload_n 3, 1) := by decide +kernel
theorem dX10_at_87 : decode cX10_at 87 = .ok (.invokevirtual 90, 3) := by decide +kernel
theorem dX10_at_90 : decode cX10_at 90 = .ok (.iadd, 1) := by decide +kernel
theorem dX10_at_91 : decode cX10_at 91 = .ok (.goto 4, 3) := by decide +kernel
theorem dX10_at_94 : decode cX10_at 94 = .ok (.iload_n 2, 1) := by decide +kernel
theorem dX10_at_95 : decode cX10_at 95 = .ok (.istore_n 2, 1) := by decide +kernel
theorem dX10_at_96 : decode cX10_at 96 = .ok (.iinc 3 1, 3) := by decide +kernel
theorem dX10_at_99 : decode cX10_at 99 = .ok (.goto (-81), 3) := by decide +kernel
theorem dX10_at_102 : decode cX10_at 102 = .ok (.iload_n 2, 1) := by decide +kernel
theorem dX10_at_103 : decode cX10_at 103 = .ok (.ireturn, 1) := by decide +kernel
set_option maxRecDepth 20000 in
theorem ggX10_islandInfo_X10_isCell : GoodIn wsX10_islandInfo wsX10_isCell := goodIn_r _ [6, 7, 8, 9, 5, 10, 11, 12, 13, 14, 61, 62, 63, 64, 65, 66, 67, 68, 69, 70, 71, 72, 73, 74, 75, 76, 77] (by decide +kernel) (by decide +kernel)
set_option maxRecDepth 20000 in
theorem gX10_islandInfo_X10_isCell : GoodIn wsX10_islandInfo (wsV RX10 76 RX10 yX10_isCell wsX10_isCell) := goodIn_app (goodIn_of _ (by decide +kernel)) ggX10_islandInfo_X10_isCell
set_option maxRecDepth 20000 in
theorem ggX10_islandInfo_X10_in : GoodIn wsX10_islandInfo wsX10_in := goodIn_r _ [14] (by decide +kernel) (by decide +kernel)
set_option maxRecDepth 20000 in
theorem gX10_islandInfo_X10_in : GoodIn wsX10_islandInfo (va_wsS RX10 46 yX10_in wsX10_in) := goodIn_app (goodIn_of _ (by decide +kernel)) ggX10_islandInfo_X10_in
set_option maxRecDepth 20000 in
theorem ggX10_islandInfo_X10_number : GoodIn wsX10_islandInfo wsX10_number := goodIn_r _ [18, 11, 61, 62, 63, 64, 65, 66, 67, 68, 69, 70, 71, 72, 73, 74, 75, 76, 77] (by decide +kernel) (by decide +kernel)
set_option maxRecDepth 20000 in
theorem gX10_islandInfo_X10_number : GoodIn wsX10_islandInfo (wsV RX10 50 RX10 yX10_number wsX10_number) := goodIn_app (goodIn_of _ (by decide +kernel)) ggX10_islandInfo_X10_number
set_option maxRecDepth 20000 in
theorem ggX10_islandInfo_X10_bridgesOf : GoodIn wsX10_islandInfo wsX10_bridgesOf := goodIn_r _ [22, 23, 24, 25, 26, 5, 27, 28, 29, 30, 31, 32, 33, 11, 61, 62, 63, 64, 65, 66, 67, 68, 69, 70, 71, 72, 73, 74, 75, 76, 77] (by decide +kernel) (by decide +kernel)
set_option maxRecDepth 20000 in
theorem gX10_islandInfo_X10_bridgesOf : GoodIn wsX10_islandInfo (wsV RX10 99 RX10 yX10_bridgesOf wsX10_bridgesOf) := goodIn_app (goodIn_of _ (by decide +kernel)) ggX10_islandInfo_X10_bridgesOf
set_option maxRecDepth 20000 in
theorem ggX10_islandInfo_X10_lacks : GoodIn wsX10_islandInfo wsX10_lacks := goodIn_r _ [37, 15, 16, 17, 5, 18, 11, 19, 20, 21, 22, 23, 24, 25, 26, 27, 28, 29, 30, 31, 32, 33, 61, 62, 63, 64, 65, 66, 67, 68, 69, 70, 71, 72, 73, 74, 75, 76, 77] (by decide +kernel) (by decide +kernel)
set_option maxRecDepth 20000 in
theorem gX10_islandInfo_X10_lacks : GoodIn wsX10_islandInfo (wsV RX10 112 RX10 yX10_lacks wsX10_lacks) := goodIn_app (goodIn_of _ (by decide +kernel)) ggX10_islandInfo_X10_lacks
set_option maxRecDepth 20000 in
theorem ggX10_islandInfo_X10_waysOf : GoodIn wsX10_islandInfo wsX10_waysOf := goodIn_r _ [41, 23, 24, 25, 26, 5, 27, 28, 29, 61, 62, 63, 64, 65, 66, 67, 68, 69, 70, 71, 72, 73, 74, 75, 76, 77] (by decide +kernel) (by decide +kernel)
set_option maxRecDepth 20000 in
theorem gX10_islandInfo_X10_waysOf : GoodIn wsX10_islandInfo (wsV RX10 128 RX10 yX10_waysOf wsX10_waysOf) := goodIn_app (goodIn_of _ (by decide +kernel)) ggX10_islandInfo_X10_waysOf
set_option maxRecDepth 20000 in
theorem ggX10_islandInfo_X10_capsOf : GoodIn wsX10_islandInfo wsX10_capsOf := goodIn_r _ [45, 23, 24, 25, 26, 5, 27, 28, 29, 46, 47, 48, 49, 11, 61, 62, 63, 64, 65, 66, 67, 68, 69, 70, 71, 72, 73, 74, 75, 76, 77] (by decide +kernel) (by decide +kernel)
set_option maxRecDepth 20000 in
theorem gX10_islandInfo_X10_capsOf : GoodIn wsX10_islandInfo (wsV RX10 121 RX10 yX10_capsOf wsX10_capsOf) := goodIn_app (goodIn_of _ (by decide +kernel)) ggX10_islandInfo_X10_capsOf
set_option maxRecDepth 20000 in
theorem ggX10_islandInfo_X10_findGroups : GoodIn wsX10_islandInfo wsX10_findGroups := goodIn_r _ [53, 1, 23, 28, 29, 7, 8, 9, 5, 10, 11, 30, 31, 32, 33, 54, 55, 56, 61, 62, 63, 64, 65, 66, 67, 68, 69, 70, 71, 72, 73, 74, 75, 76, 77] (by decide +kernel) (by decide +kernel)
set_option maxRecDepth 20000 in
theorem gX10_islandInfo_X10_findGroups : GoodIn wsX10_islandInfo (wsV RX10 106 RX10 yX10_findGroups wsX10_findGroups) := goodIn_app (goodIn_of _ (by decide +kernel)) ggX10_islandInfo_X10_findGroups
set_option maxRecDepth 20000 in
theorem ggX10_islandInfo_X10_groupsBelow : GoodIn wsX10_islandInfo wsX10_groupsBelow := goodIn_r _ [60, 1, 15, 16, 17, 5, 18, 11, 61, 62, 63, 64, 65, 66, 67, 68, 69, 70, 71, 72, 73, 74, 75, 76, 77] (by decide +kernel) (by decide +kernel)
set_option maxRecDepth 20000 in
theorem gX10_islandInfo_X10_groupsBelow : GoodIn wsX10_islandInfo (wsV RX10 109 RX10 yX10_groupsBelow wsX10_groupsBelow) := goodIn_app (goodIn_of _ (by decide +kernel)) ggX10_islandInfo_X10_groupsBelow
theorem dX10_islandInfo_0 : decode cX10_islandInfo 0 = .ok (.aload_n 0, 1) := by decide +kernel
theorem dX10_islandInfo_1 : decode cX10_islandInfo 1 = .ok (.iload_n 1, 1) := by decide +kernel
theorem dX10_islandInfo_2 : decode cX10_islandInfo 2 = .ok (.invokevirtual 76, 3) := by decide +kernel
theorem dX10_islandInfo_5 : decode cX10_islandInfo 5 = .ok (.ifCond .eq 12, 3) := by decide +kernel
theorem dX10_islandInfo_8 : decode cX10_islandInfo 8 = .ok (.iload_n 2, 1) := by decide +kernel
theorem dX10_islandInfo_9 : decode cX10_islandInfo 9 = .ok (.iconst 0, 1) := by decide +kernel
theorem dX10_islandInfo_10 : decode cX10_islandInfo 10 = .ok (.iconst 5, 1) := by decide +kernel
theorem dX10_islandInfo_11 : decode cX10_islandInfo 11 = .ok (.invokestatic 46, 3) := by decide +kernel
theorem dX10_islandInfo_14 : decode cX10_islandInfo 14 = .ok (.ifCond .ne 5, 3) := by decide +kernel
theorem dX10_islandInfo_17 : decode cX10_islandInfo 17 = .ok (.iconst (-1), 1) := by decide +kernel
theorem dX10_islandInfo_18 : decode cX10_islandInfo 18 = .ok (.ireturn, 1) := by decide +kernel
theorem dX10_islandInfo_19 : decode cX10_islandInfo 19 = .ok (.aload_n 0, 1) := by decide +kernel
theorem dX10_islandInfo_20 : decode cX10_islandInfo 20 = .ok (.iload_n 1, 1) := by decide +kernel
theorem dX10_islandInfo_21 : decode cX10_islandInfo 21 = .ok (.invokevirtual 50, 3) := by decide +kernel
theorem dX10_islandInfo_24 : decode cX10_islandInfo 24 = .ok (.ifCond .ne 6, 3) := by decide +kernel
theorem dX10_islandInfo_27 : decode cX10_islandInfo 27 = .ok (.bipush (-4), 2) := by decide +kernel
theorem dX10_islandInfo_29 : decode cX10_islandInfo 29 = .ok (.ireturn, 1) := by decide +kernel
theorem dX10_islandInfo_30 : decode cX10_islandInfo 30 = .ok (.iload_n 2, 1) := by decide +kernel
theorem dX10_islandInfo_31 : decode cX10_islandInfo 31 = .ok (.tableswitch 63 0 4 #[33, 39, 45, 51, 57], 33) := by decide +kernel
theorem dX10_islandInfo_64 : decode cX10_islandInfo 64 = .ok (.aload_n 0, 1) := by decide +kernel
theorem dX10_islandInfo_65 : decode cX10_islandInfo 65 = .ok (.iload_n 1, 1) := by decide +kernel
theorem dX10_islandInfo_66 : decode cX10_islandInfo 66 = .ok (.invokevirtual 50, 3) := by decide +kernel
theorem dX10_islandInfo_69 : decode cX10_islandInfo 69 = .ok (.ireturn, 1) := by decide +kernel
theorem dX10_islandInfo_70 : decode cX10_islandInfo 70 = .ok (.aload_n 0, 1) := by decide +kernel
theorem dX10_islandInfo_71 : decode cX10_islandInfo 71 = .ok (.iload_n 1, 1) := by decide +kernel
theorem dX10_islandInfo_72 : decode cX10_islandInfo 72 = .ok (.invokevirtual 99, 3) := by decide +kernel
theorem dX10_islandInfo_75 : decode cX10_islandInfo 75 = .ok (.ireturn, 1) := by decide +kernel
theorem dX10_islandInfo_76 : decode cX10_islandInfo 76 = .ok (.aload_n 0, 1) := by decide +kernel
theorem dX10_islandInfo_77 : decode cX10_islandInfo 77 = .ok (.iload_n 1, 1) := by decide +kernel
theorem dX10_islandInfo_78 : decode cX10_islandInfo 78 = .ok (.invokevirtual 112, 3) := by decide +kernel
theorem dX10_islandInfo_81 : decode cX10_islandInfo 81 = .ok (.ireturn, 1) := by decide +kernel
theorem dX10_islandInfo_82 : decode cX10_islandInfo 82 = .ok (.aload_n 0, 1) := by decide +kernel
theorem dX10_islandInfo_83 : decode cX10_islandInfo 83 = .ok (.iload_n 1, 1) := by decide +kernel
theorem dX10_islandInfo_84 : decode cX10_islandInfo 84 = .ok (.invokevirtual 128, 3) := by decide +kernel
theorem dX10_islandInfo_87 : decode cX10_islandInfo 87 = .ok (.ireturn, 1) := by decide +kernel
theorem dX10_islandInfo_88 : decode cX10_islandInfo 88 = .ok (.aload_n 0, 1) := by decide +kernel
theorem dX10_islandInfo_89 : decode cX10_islandInfo 89 = .ok (.iload_n 1, 1) := by decide +kernel
theorem dX10_islandInfo_90 : decode cX10_islandInfo 90 = .ok (.invokevirtual 121, 3) := by decide +kernel
theorem dX10_islandInfo_93 : decode cX10_islandInfo 93 = .ok (.ireturn, 1) := by decide +kernel
theorem dX10_islandInfo_94 : decode cX10_islandInfo 94 = .ok (.aload_n 0, 1) := by decide +kernel
theorem dX10_islandInfo_95 : decode cX10_islandInfo 95 = .ok (.invokevirtual 106, 3) := by decide +kernel
theorem dX10_islandInfo_98 : decode cX10_islandInfo 98 = .ok (.aload_n 0, 1) := by decide +kernel
theorem dX10_islandInfo_99 : decode cX10_islandInfo 99 = .ok (.aload_n 0, 1) := by decide +kernel
theorem dX10_islandInfo_100 : decode cX10_islandInfo 100 = .ok (.getfield 26, 3) := by decide +kernel
theorem dX10_islandInfo_103 : decode cX10_islandInfo 103 = .ok (.iload_n 1, 1) := by decide +kernel
theorem dX10_islandInfo_104 : decode cX10_islandInfo 104 = .ok (.iaload, 1) := by decide +kernel
theorem dX10_islandInfo_105 : decode cX10_islandInfo 105 = .ok (.invokevirtual 109, 3) := by decide +kernel
theorem dX10_islandInfo_108 : decode cX10_islandInfo 108 = .ok (.ireturn, 1) := by decide +kernel
set_option maxRecDepth 20000 in
theorem ggX10_waysOf_X10_isOf : GoodIn wsX10_waysOf wsX10_isOf := goodIn_r _ [6, 7, 8, 9, 10, 11, 12, 13, 14, 15, 16, 17, 18, 19, 20, 21, 22, 23, 24, 25] (by decide +kernel) (by decide +kernel)
set_option maxRecDepth 20000 in
theorem gX10_waysOf_X10_isOf : GoodIn wsX10_waysOf (wsV RX10 93 RX10 yX10_isOf wsX10_isOf) := goodIn_app (goodIn_of _ (by decide +kernel)) ggX10_waysOf_X10_isOf
theorem dX10_waysOf_0 : decode cX10_waysOf 0 = .ok (.iconst 0, 1) := by decide +kernel
theorem dX10_waysOf_1 : decode cX10_waysOf 1 = .ok (.istore_n 2, 1) := by decide +kernel
theorem dX10_waysOf_2 : decode cX10_waysOf 2 = .ok (.iconst 0, 1) := by decide +kernel
theorem dX10_waysOf_3 : decode cX10_waysOf 3 = .ok (.istore_n 3, 1) := by decide +kernel
theorem dX10_waysOf_4 : decode cX10_waysOf 4 = .ok (.iload_n 3, 1) := by decide +kernel
theorem dX10_waysOf_5 : decode cX10_waysOf 5 = .ok (.aload_n 0, 1) := by decide +kernel
theorem dX10_waysOf_6 : decode cX10_waysOf 6 = .ok (.getfield 54, 3) := by decide +kernel
theorem dX10_waysOf_9 : decode cX10_waysOf 9 = .ok (.if_icmp .ge 26, 3) := by decide +kernel
theorem dX10_waysOf_12 : decode cX10_waysOf 12 = .ok (.iload_n 2, 1) := by decide +kernel
theorem dX10_waysOf_13 : decode cX10_waysOf 13 = .ok (.aload_n 0, 1) := by decide +kernel
theorem dX10_waysOf_14 : decode cX10_waysOf 14 = .ok (.iload_n 3, 1) := by decide +kernel
theorem dX10_waysOf_15 : decode cX10_waysOf 15 = .ok (.iload_n 1, 1) := by decide +kernel
theorem dX10_waysOf_16 : decode cX10_waysOf 16 = .ok (.invokevirtual 93, 3) := by decide +kernel
theorem dX10_waysOf_19 : decode cX10_waysOf 19 = .ok (.ifCond .eq 7, 3) := by decide +kernel
theorem dX10_waysOf_22 : decode cX10_waysOf 22 = .ok (.iconst 1, 1) := by decide +kernel
theorem dX10_waysOf_23 : decode cX10_waysOf 23 = .ok (.goto 4, 3) := by decide +kernel
theorem dX10_waysOf_26 : decode cX10_waysOf 26 = .ok (.iconst 0, 1) := by decide +kernel
theorem dX10_waysOf_27 : decode cX10_waysOf 27 = .ok (.iadd, 1) := by decide +kernel
theorem dX10_waysOf_28 : decode cX10_waysOf 28 = .ok (.istore_n 2, 1) := by decide +kernel
theorem dX10_waysOf_29 : decode cX10_waysOf 29 = .ok (.iinc 3 1, 3) := by decide +kernel
theorem dX10_waysOf_32 : decode cX10_waysOf 32 = .ok (.goto (-28), 3) := by decide +kernel
theorem dX10_waysOf_35 : decode cX10_waysOf 35 = .ok (.iload_n 2, 1) := by decide +kernel
theorem dX10_waysOf_36 : decode cX10_waysOf 36 = .ok (.ireturn, 1) := by decide +kernel
set_option maxRecDepth 20000 in
theorem ggX10_isWay_X10_in : GoodIn wsX10_isWay wsX10_in := goodIn_r _ [5] (by decide +kernel) (by decide +kernel)
set_option maxRecDepth 20000 in
theorem gX10_isWay_X10_in : GoodIn wsX10_isWay (va_wsS RX10 46 yX10_in wsX10_in) := goodIn_app (goodIn_of _ (by decide +kernel)) ggX10_isWay_X10_in
theorem dX10_isWay_0 : decode cX10_isWay 0 = .ok (.iload_n 1, 1) := by decide +kernel
theorem dX10_isWay_1 : decode cX10_isWay 1 = .ok (.iconst 0, 1) := by decide +kernel
theorem dX10_isWay_2 : decode cX10_isWay 2 = .ok (.aload_n 0, 1) := by decide +kernel
theorem dX10_isWay_3 : decode cX10_isWay 3 = .ok (.getfield 54, 3) := by decide +kernel
theorem dX10_isWay_6 : decode cX10_isWay 6 = .ok (.iconst 1, 1) := by decide +kernel
theorem dX10_isWay_7 : decode cX10_isWay 7 = .ok (.isub, 1) := by decide +kernel
theorem dX10_isWay_8 : decode cX10_isWay 8 = .ok (.invokestatic 46, 3) := by decide +kernel
theorem dX10_isWay_11 : decode cX10_isWay 11 = .ok (.ireturn, 1) := by decide +kernel
set_option maxRecDepth 20000 in
theorem ggX10_way_X10_isWay : GoodIn wsX10_way wsX10_isWay := goodIn_r _ [8, 9, 10, 11, 7, 12, 57, 58, 59, 60, 61, 62, 63, 64, 65, 66, 67, 68, 69, 70, 71, 72, 73] (by decide +kernel) (by decide +kernel)
set_option maxRecDepth 20000 in
theorem gX10_way_X10_isWay : GoodIn wsX10_way (wsV RX10 131 RX10 yX10_isWay wsX10_isWay) := goodIn_app (goodIn_of _ (by decide +kernel)) ggX10_way_X10_isWay
set_option maxRecDepth 20000 in
theorem ggX10_way_X10_in : GoodIn wsX10_way wsX10_in := goodIn_r _ [12] (by decide +kernel) (by decide +kernel)
set_option maxRecDepth 20000 in
theorem gX10_way_X10_in : GoodIn wsX10_way (va_wsS RX10 46 yX10_in wsX10_in) := goodIn_app (goodIn_of _ (by decide +kernel)) ggX10_way_X10_in
set_option maxRecDepth 20000 in
theorem ggX10_way_X10_bridges : GoodIn wsX10_way wsX10_bridges := goodIn_r _ [16, 3, 57, 58, 59, 60, 61, 62, 63, 64, 65, 66, 67, 68, 69, 70, 71, 72, 73] (by decide +kernel) (by decide +kernel)
set_option maxRecDepth 20000 in
theorem gX10_way_X10_bridges : GoodIn wsX10_way (wsV RX10 90 RX10 yX10_bridges wsX10_bridges) := goodIn_app (goodIn_of _ (by decide +kernel)) ggX10_way_X10_bridges
set_option maxRecDepth 20000 in
theorem ggX10_way_X10_capOf : GoodIn wsX10_way wsX10_capOf := goodIn_r _ [20, 3, 57, 58, 59, 60, 61, 62, 63, 64, 65, 66, 67, 68, 69, 70, 71, 72, 73] (by decide +kernel) (by decide +kernel)
set_option maxRecDepth 20000 in
theorem gX10_way_X10_capOf : GoodIn wsX10_way (wsV RX10 96 RX10 yX10_capOf wsX10_capOf) := goodIn_app (goodIn_of _ (by decide +kernel)) ggX10_way_X10_capOf
set_option maxRecDepth 20000 in
theorem ggX10_way_X10_isAcross : GoodIn wsX10_way wsX10_isAcross := goodIn_r _ [24, 1, 3, 2, 57, 58, 59, 60, 61, 62, 63, 64, 65, 66, 67, 68, 69, 70, 71, 72, 73] (by decide +kernel) (by decide +kernel)
set_option maxRecDepth 20000 in
theorem gX10_way_X10_isAcross : GoodIn wsX10_way (wsV RX10 80 RX10 yX10_isAcross wsX10_isAcross) := goodIn_app (goodIn_of _ (by decide +kernel)) ggX10_way_X10_isAcross
set_option maxRecDepth 20000 in
theorem ggX10_way_X10_crossings : GoodIn wsX10_way wsX10_crossings := goodIn_r _ [28, 9, 29, 30, 31, 7, 32, 1, 3, 21, 22, 23, 24, 2, 33, 34, 35, 36, 13, 14, 15, 16, 57, 58, 59, 60, 61, 62, 63, 64, 65, 66, 67, 68, 69, 70, 71, 72, 73] (by decide +kernel) (by decide +kernel)
set_option maxRecDepth 20000 in
theorem gX10_way_X10_crossings : GoodIn wsX10_way (wsV RX10 124 RX10 yX10_crossings wsX10_crossings) := goodIn_app (goodIn_of _ (by decide +kernel)) ggX10_way_X10_crossings
set_option maxRecDepth 20000 in
theorem ggX10_way_X10_reason : GoodIn wsX10_way wsX10_reason := goodIn_r _ [40, 1, 2, 13, 14, 15, 7, 16, 3, 17, 18, 19, 20, 25, 26, 27, 28, 9, 29, 30, 31, 32, 21, 22, 23, 24, 33, 34, 35, 36, 41, 42, 43, 44, 45, 46, 47, 48, 49, 50, 51, 52, 53, 54, 55, 56, 57, 58, 59, 60, 61, 62, 63, 64, 65, 66, 67, 68, 69, 70, 71, 72, 73] (by decide +kernel) (by decide +kernel)
set_option maxRecDepth 20000 in
theorem gX10_way_X10_reason : GoodIn wsX10_way (wsV RX10 134 RX10 yX10_reason wsX10_reason) := goodIn_app (goodIn_of _ (by decide +kernel)) ggX10_way_X10_reason
theorem dX10_way_0 : decode cX10_way 0 = .ok (.aload_n 0, 1) := by decide +kernel
theorem dX10_way_1 : decode cX10_way 1 = .ok (.iload_n 1, 1) := by decide +kernel
theorem dX10_way_2 : decode cX10_way 2 = .ok (.invokevirtual 131, 3) := by decide +kernel
theorem dX10_way_5 : decode cX10_way 5 = .ok (.ifCond .eq 13, 3) := by decide +kernel
theorem dX10_way_8 : decode cX10_way 8 = .ok (.iload_n 2, 1) := by decide +kernel
theorem dX10_way_9 : decode cX10_way 9 = .ok (.iconst 0, 1) := by decide +kernel
theorem dX10_way_10 : decode cX10_way 10 = .ok (.bipush 7, 2) := by decide +kernel
theorem dX10_way_12 : decode cX10_way 12 = .ok (.invokestatic 46, 3) := by decide +kernel
theorem dX10_way_15 : decode cX10_way 15 = .ok (.ifCond .ne 5, 3) := by decide +kernel
theorem dX10_way_18 : decode cX10_way 18 = .ok (.iconst (-1), 1) := by decide +kernel
theorem dX10_way_19 : decode cX10_way 19 = .ok (.ireturn, 1) := by decide +kernel
theorem dX10_way_20 : decode cX10_way 20 = .ok (.iload_n 2, 1) := by decide +kernel
theorem dX10_way_21 : decode cX10_way 21 = .ok (.tableswitch 118 0 6 #[43, 50, 57, 63, 69, 104, 111], 43) := by decide +kernel
theorem dX10_way_64 : decode cX10_way 64 = .ok (.aload_n 0, 1) := by decide +kernel
theorem dX10_way_65 : decode cX10_way 65 = .ok (.getfield 20, 3) := by decide +kernel
theorem dX10_way_68 : decode cX10_way 68 = .ok (.iload_n 1, 1) := by decide +kernel
theorem dX10_way_69 : decode cX10_way 69 = .ok (.iaload, 1) := by decide +kernel
theorem dX10_way_70 : decode cX10_way 70 = .ok (.ireturn, 1) := by decide +kernel
theorem dX10_way_71 : decode cX10_way 71 = .ok (.aload_n 0, 1) := by decide +kernel
theorem dX10_way_72 : decode cX10_way 72 = .ok (.getfield 23, 3) := by decide +kernel
theorem dX10_way_75 : decode cX10_way 75 = .ok (.iload_n 1, 1) := by decide +kernel
theorem dX10_way_76 : decode cX10_way 76 = .ok (.iaload, 1) := by decide +kernel
theorem dX10_way_77 : decode cX10_way 77 = .ok (.ireturn, 1) := by decide +kernel
theorem dX10_way_78 : decode cX10_way 78 = .ok (.aload_n 0, 1) := by decide +kernel
theorem dX10_way_79 : decode cX10_way 79 = .ok (.iload_n 1, 1) := by decide +kernel
theorem dX10_way_80 : decode cX10_way 80 = .ok (.invokevirtual 90, 3) := by decide +kernel
theorem dX10_way_83 : decode cX10_way 83 = .ok (.ireturn, 1) := by decide +kernel
theorem dX10_way_84 : decode cX10_way 84 = .ok (.aload_n 0, 1) := by decide +kernel
theorem dX10_way_85 : decode cX10_way 85 = .ok (.iload_n 1, 1) := by decide +kernel
theorem dX10_way_86 : decode cX10_way 86 = .ok (.invokevirtual 96, 3) := by decide +kernel
theorem dX10_way_89 : decode cX10_way 89 = .ok (.ireturn, 1) := by decide +kernel
theorem dX10_way_90 : decode cX10_way 90 = .ok (.aload_n 0, 1) := by decide +kernel
theorem dX10_way_91 : decode cX10_way 91 = .ok (.getfield 23, 3) := by decide +kernel
theorem dX10_way_94 : decode cX10_way 94 = .ok (.iload_n 1, 1) := by decide +kernel
theorem dX10_way_95 : decode cX10_way 95 = .ok (.iaload, 1) := by decide +kernel
theorem dX10_way_96 : decode cX10_way 96 = .ok (.aload_n 0, 1) := by decide +kernel
theorem dX10_way_97 : decode cX10_way 97 = .ok (.getfield 20, 3) := by decide +kernel
theorem dX10_way_100 : decode cX10_way 100 = .ok (.iload_n 1, 1) := by decide +kernel
theorem dX10_way_101 : decode cX10_way 101 = .ok (.iaload, 1) := by decide +kernel
theorem dX10_way_102 : decode cX10_way 102 = .ok (.isub, 1) := by decide +kernel
theorem dX10_way_103 : decode cX10_way 103 = .ok (.aload_n 0, 1) := by decide +kernel
theorem dX10_way_104 : decode cX10_way 104 = .ok (.iload_n 1, 1) := by decide +kernel
theorem dX10_way_105 : decode cX10_way 105 = .ok (.invokevirtual 80, 3) := by decide +kernel
theorem dX10_way_108 : decode cX10_way 108 = .ok (.ifCond .eq 7, 3) := by decide +kernel
theorem dX10_way_111 : decode cX10_way 111 = .ok (.iconst 1, 1) := by decide +kernel
theorem dX10_way_112 : decode cX10_way 112 = .ok (.goto 9, 3) := by decide +kernel
theorem dX10_way_115 : decode cX10_way 115 = .ok (.aload_n 0, 1) := by decide +kernel
theorem dX10_way_116 : decode cX10_way 116 = .ok (.getfield 7, 3) := by decide +kernel
theorem dX10_way_119 : decode cX10_way 119 = .ok (.iconst 0, 1) := by decide +kernel
theorem dX10_way_120 : decode cX10_way 120 = .ok (.iaload, 1) := by decide +kernel
theorem dX10_way_121 : decode cX10_way 121 = .ok (.idiv, 1) := by decide +kernel
theorem dX10_way_122 : decode cX10_way 122 = .ok (.iconst 1, 1) := by decide +kernel
theorem dX10_way_123 : decode cX10_way 123 = .ok (.isub, 1) := by decide +kernel
theorem dX10_way_124 : decode cX10_way 124 = .ok (.ireturn, 1) := by decide +kernel
theorem dX10_way_125 : decode cX10_way 125 = .ok (.aload_n 0, 1) := by decide +kernel
theorem dX10_way_126 : decode cX10_way 126 = .ok (.iload_n 1, 1) := by decide +kernel
theorem dX10_way_127 : decode cX10_way 127 = .ok (.iconst 0, 1) := by decide +kernel
theorem dX10_way_128 : decode cX10_way 128 = .ok (.invokevirtual 124, 3) := by decide +kernel
theorem dX10_way_131 : decode cX10_way 131 = .ok (.ireturn, 1) := by decide +kernel
theorem dX10_way_132 : decode cX10_way 132 = .ok (.aload_n 0, 1) := by decide +kernel
theorem dX10_way_133 : decode cX10_way 133 = .ok (.iload_n 1, 1) := by decide +kernel
theorem dX10_way_134 : decode cX10_way 134 = .ok (.iconst 1, 1) := by decide +kernel
theorem dX10_way_135 : decode cX10_way 135 = .ok (.invokevirtual 124, 3) := by decide +kernel
theorem dX10_way_138 : decode cX10_way 138 = .ok (.ireturn, 1) := by decide +kernel
theorem dX10_way_139 : decode cX10_way 139 = .ok (.aload_n 0, 1) := by decide +kernel
theorem dX10_way_140 : decode cX10_way 140 = .ok (.iload_n 1, 1) := by decide +kernel
theorem dX10_way_141 : decode cX10_way 141 = .ok (.invokevirtual 134, 3) := by decide +kernel
theorem dX10_way_144 : decode cX10_way 144 = .ok (.ireturn, 1) := by decide +kernel
set_option maxRecDepth 20000 in
theorem ggX10_between_X10_isCell : GoodIn wsX10_between wsX10_isCell := goodIn_r _ [6, 7, 8, 9, 5, 10, 11, 12, 13, 14, 21, 22, 23, 24, 25, 26, 27, 28, 29, 30, 31, 32, 33, 34, 35, 36, 37] (by decide +kernel) (by decide +kernel)
set_option maxRecDepth 20000 in
theorem gX10_between_X10_isCell : GoodIn wsX10_between (wsV RX10 76 RX10 yX10_isCell wsX10_isCell) := goodIn_app (goodIn_of _ (by decide +kernel)) ggX10_between_X10_isCell
set_option maxRecDepth 20000 in
theorem ggX10_between_X10_isOf : GoodIn wsX10_between wsX10_isOf := goodIn_r _ [18, 19, 20, 21, 22, 23, 24, 25, 26, 27, 28, 29, 30, 31, 32, 33, 34, 35, 36, 37] (by decide +kernel) (by decide +kernel)
set_option maxRecDepth 20000 in
theorem gX10_between_X10_isOf : GoodIn wsX10_between (wsV RX10 93 RX10 yX10_isOf wsX10_isOf) := goodIn_app (goodIn_of _ (by decide +kernel)) ggX10_between_X10_isOf
theorem dX10_between_0 : decode cX10_between 0 = .ok (.aload_n 0, 1) := by decide +kernel
theorem dX10_between_1 : decode cX10_between 1 = .ok (.iload_n 1, 1) := by decide +kernel
theorem dX10_between_2 : decode cX10_between 2 = .ok (.invokevirtual 76, 3) := by decide +kernel
theorem dX10_between_5 : decode cX10_between 5 = .ok (.ifCond .eq 11, 3) := by decide +kernel
theorem dX10_between_8 : decode cX10_between 8 = .ok (.aload_n 0, 1) := by decide +kernel
theorem dX10_between_9 : decode cX10_between 9 = .ok (.iload_n 2, 1) := by decide +kernel
theorem dX10_between_10 : decode cX10_between 10 = .ok (.invokevirtual 76, 3) := by decide +kernel
theorem dX10_between_13 : decode cX10_between 13 = .ok (.ifCond .ne 5, 3) := by decide +kernel
theorem dX10_between_16 : decode cX10_between 16 = .ok (.iconst (-1), 1) := by decide +kernel
theorem dX10_between_17 : decode cX10_between 17 = .ok (.ireturn, 1) := by decide +kernel
theorem dX10_between_18 : decode cX10_between 18 = .ok (.iconst 0, 1) := by decide +kernel
theorem dX10_between_19 : decode cX10_between 19 = .ok (.istore_n 3, 1) := by decide +kernel
theorem dX10_between_20 : decode cX10_between 20 = .ok (.iload_n 3, 1) := by decide +kernel
theorem dX10_between_21 : decode cX10_between 21 = .ok (.aload_n 0, 1) := by decide +kernel
theorem dX10_between_22 : decode cX10_between 22 = .ok (.getfield 54, 3) := by decide +kernel
theorem dX10_between_25 : decode cX10_between 25 = .ok (.if_icmp .ge 34, 3) := by decide +kernel
theorem dX10_between_28 : decode cX10_between 28 = .ok (.iload_n 1, 1) := by decide +kernel
theorem dX10_between_29 : decode cX10_between 29 = .ok (.iload_n 2, 1) := by decide +kernel
theorem dX10_between_30 : decode cX10_between 30 = .ok (.if_icmp .eq 23, 3) := by decide +kernel
theorem dX10_between_33 : decode cX10_between 33 = .ok (.aload_n 0, 1) := by decide +kernel
theorem dX10_between_34 : decode cX10_between 34 = .ok (.iload_n 3, 1) := by decide +kernel
theorem dX10_between_35 : decode cX10_between 35 = .ok (.iload_n 1, 1) := by decide +kernel
theorem dX10_between_36 : decode cX10_between 36 = .ok (.invokevirtual 93, 3) := by decide +kernel
theorem dX10_between_39 : decode cX10_between 39 = .ok (.ifCond .eq 14, 3) := by decide +kernel
theorem dX10_between_42 : decode cX10_between 42 = .ok (.aload_n 0, 1) := by decide +kernel
theorem dX10_between_43 : decode cX10_between 43 = .ok (.iload_n 3, 1) := by decide +kernel
theorem dX10_between_44 : decode cX10_between 44 = .ok (.iload_n 2, 1) := by decide +kernel
theorem dX10_between_45 : decode cX10_between 45 = .ok (.invokevirtual 93, 3) := by decide +kernel
theorem dX10_between_48 : decode cX10_between 48 = .ok (.ifCond .eq 5, 3) := by decide +kernel
theorem dX10_between_51 : decode cX10_between 51 = .ok (.iload_n 3, 1) := by decide +kernel
theorem dX10_between_52 : decode cX10_between 52 = .ok (.ireturn, 1) := by decide +kernel
theorem dX10_between_53 : decode cX10_between 53 = .ok (.iinc 3 1, 3) := by decide +kernel
theorem dX10_between_56 : decode cX10_between 56 = .ok (.goto (-36), 3) := by decide +kernel
theorem dX10_between_59 : decode cX10_between 59 = .ok (.bipush (-4), 2) := by decide +kernel
theorem dX10_between_61 : decode cX10_between 61 = .ok (.ireturn, 1) := by decide +kernel
set_option maxRecDepth 20000 in
theorem ggX10_count_X10_islands : GoodIn wsX10_count wsX10_islands := goodIn_r _ [9, 10, 11, 12, 8, 13, 1, 14, 15, 16, 17, 76, 77, 78, 79, 80, 81, 82, 83, 84, 85, 86, 87, 88, 89, 90, 91, 92] (by decide +kernel) (by decide +kernel)
set_option maxRecDepth 20000 in
theorem gX10_count_X10_islands : GoodIn wsX10_count (wsV RX10 67 RX10 yX10_islands wsX10_islands) := goodIn_app (goodIn_of _ (by decide +kernel)) ggX10_count_X10_islands
set_option maxRecDepth 20000 in
theorem ggX10_count_X10_allBridges : GoodIn wsX10_count wsX10_allBridges := goodIn_r _ [21, 2, 22, 23, 24, 8, 25, 1, 76, 77, 78, 79, 80, 81, 82, 83, 84, 85, 86, 87, 88, 89, 90, 91, 92] (by decide +kernel) (by decide +kernel)
set_option maxRecDepth 20000 in
theorem gX10_count_X10_allBridges : GoodIn wsX10_count (wsV RX10 137 RX10 yX10_allBridges wsX10_allBridges) := goodIn_app (goodIn_of _ (by decide +kernel)) ggX10_count_X10_allBridges
set_option maxRecDepth 20000 in
theorem ggX10_count_X10_complete : GoodIn wsX10_count wsX10_complete := goodIn_r _ [29, 10, 11, 12, 8, 13, 1, 14, 15, 16, 17, 30, 31, 32, 33, 34, 35, 36, 37, 2, 38, 39, 40, 41, 42, 43, 22, 23, 24, 25, 76, 77, 78, 79, 80, 81, 82, 83, 84, 85, 86, 87, 88, 89, 90, 91, 92] (by decide +kernel) (by decide +kernel)
set_option maxRecDepth 20000 in
theorem gX10_count_X10_complete : GoodIn wsX10_count (wsV RX10 115 RX10 yX10_complete wsX10_complete) := goodIn_app (goodIn_of _ (by decide +kernel)) ggX10_count_X10_complete
set_option maxRecDepth 20000 in
theorem ggX10_count_X10_groups : GoodIn wsX10_count wsX10_groups := goodIn_r _ [47, 48, 49, 50, 8, 51, 52, 2, 42, 43, 10, 11, 12, 13, 1, 22, 23, 24, 25, 53, 54, 55, 56, 57, 58, 59, 14, 15, 16, 17, 76, 77, 78, 79, 80, 81, 82, 83, 84, 85, 86, 87, 88, 89, 90, 91, 92] (by decide +kernel) (by decide +kernel)
set_option maxRecDepth 20000 in
theorem gX10_count_X10_groups : GoodIn wsX10_count (wsV RX10 118 RX10 yX10_groups wsX10_groups) := goodIn_app (goodIn_of _ (by decide +kernel)) ggX10_count_X10_groups
set_option maxRecDepth 20000 in
theorem ggX10_count_X10_isSolved : GoodIn wsX10_count wsX10_isSolved := goodIn_r _ [63, 5, 6, 7, 8, 9, 10, 11, 12, 13, 1, 14, 15, 16, 17, 26, 27, 28, 29, 30, 31, 32, 33, 34, 35, 36, 37, 2, 38, 39, 40, 41, 42, 43, 22, 23, 24, 25, 44, 45, 46, 47, 48, 49, 50, 51, 52, 53, 54, 55, 56, 57, 58, 59, 76, 77, 78, 79, 80, 81, 82, 83, 84, 85, 86, 87, 88, 89, 90, 91, 92] (by decide +kernel) (by decide +kernel)
set_option maxRecDepth 20000 in
theorem gX10_count_X10_isSolved : GoodIn wsX10_count (wsV RX10 140 RX10 yX10_isSolved wsX10_isSolved) := goodIn_app (goodIn_of _ (by decide +kernel)) ggX10_count_X10_isSolved
set_option maxRecDepth 20000 in
theorem ggX10_count_X10_isBroken : GoodIn wsX10_count wsX10_isBroken := goodIn_r _ [67, 10, 11, 12, 8, 13, 1, 14, 15, 16, 17, 68, 69, 70, 71, 2, 38, 39, 40, 41, 42, 43, 72, 73, 74, 75, 30, 31, 32, 33, 34, 35, 36, 37, 22, 23, 24, 25, 76, 77, 78, 79, 80, 81, 82, 83, 84, 85, 86, 87, 88, 89, 90, 91, 92] (by decide +kernel) (by decide +kernel)
set_option maxRecDepth 20000 in
theorem gX10_count_X10_isBroken : GoodIn wsX10_count (wsV RX10 144 RX10 yX10_isBroken wsX10_isBroken) := goodIn_app (goodIn_of _ (by decide +kernel)) ggX10_count_X10_isBroken
set_option maxRecDepth 20000 in
theorem ggX10_count_X10_cells : GoodIn wsX10_count wsX10_cells := goodIn_r _ [13, 1, 76, 77, 78, 79, 80, 81, 82, 83, 84, 85, 86, 87, 88, 89, 90, 91, 92] (by decide +kernel) (by decide +kernel)
set_option maxRecDepth 20000 in
theorem gX10_count_X10_cells : GoodIn wsX10_count (wsV RX10 42 RX10 yX10_cells wsX10_cells) := goodIn_app (goodIn_of _ (by decide +kernel)) ggX10_count_X10_cells
set_option maxRecDepth 20000 in
theorem ggX10_count_X10_number : GoodIn wsX10_count wsX10_number := goodIn_r _ [17, 1, 76, 77, 78, 79, 80, 81, 82, 83, 84, 85, 86, 87, 88, 89, 90, 91, 92] (by decide +kernel) (by decide +kernel)
set_option maxRecDepth 20000 in
theorem gX10_count_X10_number : GoodIn wsX10_count (wsV RX10 50 RX10 yX10_number wsX10_number) := goodIn_app (goodIn_of _ (by decide +kernel)) ggX10_count_X10_number
theorem dX10_count_0 : decode cX10_count 0 = .ok (.iconst 0, 1) := by decide +kernel
theorem dX10_count_1 : decode cX10_count 1 = .ok (.istore_n 2, 1) := by decide +kernel
theorem dX10_count_2 : decode cX10_count 2 = .ok (.iload_n 1, 1) := by decide +kernel
theorem dX10_count_3 : decode cX10_count 3 = .ok (.tableswitch 177 0 13 #[69, 69, 76, 81, 86, 91, 96, 101, 114, 127, 153, 160, 167, 172], 69) := by decide +kernel
theorem dX10_count_72 : decode cX10_count 72 = .ok (.aload_n 0, 1) := by decide +kernel
theorem dX10_count_73 : decode cX10_count 73 = .ok (.getfield 7, 3) := by decide +kernel
theorem dX10_count_76 : decode cX10_count 76 = .ok (.iload_n 1, 1) := by decide +kernel
theorem dX10_count_77 : decode cX10_count 77 = .ok (.iaload, 1) := by decide +kernel
theorem dX10_count_78 : decode cX10_count 78 = .ok (.ireturn, 1) := by decide +kernel
theorem dX10_count_79 : decode cX10_count 79 = .ok (.aload_n 0, 1) := by decide +kernel
theorem dX10_count_80 : decode cX10_count 80 = .ok (.invokevirtual 67, 3) := by decide +kernel
theorem dX10_count_83 : decode cX10_count 83 = .ok (.ireturn, 1) := by decide +kernel
theorem dX10_count_84 : decode cX10_count 84 = .ok (.aload_n 0, 1) := by decide +kernel
theorem dX10_count_85 : decode cX10_count 85 = .ok (.getfield 54, 3) := by decide +kernel
theorem dX10_count_88 : decode cX10_count 88 = .ok (.ireturn, 1) := by decide +kernel
theorem dX10_count_89 : decode cX10_count 89 = .ok (.aload_n 0, 1) := by decide +kernel
theorem dX10_count_90 : decode cX10_count 90 = .ok (.invokevirtual 137, 3) := by decide +kernel
theorem dX10_count_93 : decode cX10_count 93 = .ok (.ireturn, 1) := by decide +kernel
theorem dX10_count_94 : decode cX10_count 94 = .ok (.aload_n 0, 1) := by decide +kernel
theorem dX10_count_95 : decode cX10_count 95 = .ok (.invokevirtual 115, 3) := by decide +kernel
theorem dX10_count_98 : decode cX10_count 98 = .ok (.ireturn, 1) := by decide +kernel
theorem dX10_count_99 : decode cX10_count 99 = .ok (.aload_n 0, 1) := by decide +kernel
theorem dX10_count_100 : decode cX10_count 100 = .ok (.invokevirtual 118, 3) := by decide +kernel
theorem dX10_count_103 : decode cX10_count 103 = .ok (.ireturn, 1) := by decide +kernel
theorem dX10_count_104 : decode cX10_count 104 = .ok (.aload_n 0, 1) := by decide +kernel
theorem dX10_count_105 : decode cX10_count 105 = .ok (.invokevirtual 140, 3) := by decide +kernel
theorem dX10_count_108 : decode cX10_count 108 = .ok (.ifCond .eq 7, 3) := by decide +kernel
theorem dX10_count_111 : decode cX10_count 111 = .ok (.iconst 1, 1) := by decide +kernel
theorem dX10_count_112 : decode cX10_count 112 = .ok (.goto 4, 3) := by decide +kernel
theorem dX10_count_115 : decode cX10_count 115 = .ok (.iconst 0, 1) := by decide +kernel
theorem dX10_count_116 : decode cX10_count 116 = .ok (.ireturn, 1) := by decide +kernel
theorem dX10_count_117 : decode cX10_count 117 = .ok (.aload_n 0, 1) := by decide +kernel
theorem dX10_count_118 : decode cX10_count 118 = .ok (.invokevirtual 144, 3) := by decide +kernel
theorem dX10_count_121 : decode cX10_count 121 = .ok (.ifCond .eq 7, 3) := by decide +kernel
theorem dX10_count_124 : decode cX10_count 124 = .ok (.iconst 1, 1) := by decide +kernel
theorem dX10_count_125 : decode cX10_count 125 = .ok (.goto 4, 3) := by decide +kernel
theorem dX10_count_128 : decode cX10_count 128 = .ok (.iconst 0, 1) := by decide +kernel
theorem dX10_count_129 : decode cX10_count 129 = .ok (.ireturn, 1) := by decide +kernel
theorem dX10_count_130 : decode cX10_count 130 = .ok (.iconst 0, 1) := by decide +kernel
theorem dX10_count_131 : decode cX10_count 131 = .ok (.istore_n 3, 1) := by decide +kernel
theorem dX10_count_132 : decode cX10_count 132 = .ok (.iload_n 3, 1) := by decide +kernel
theorem dX10_count_133 : decode cX10_count 133 = .ok (.aload_n 0, 1) := by decide +kernel
theorem dX10_count_134 : decode cX10_count 134 = .ok (.invokevirtual 42, 3) := by decide +kernel
theorem dX10_count_137 : decode cX10_count 137 = .ok (.if_icmp .ge 17, 3) := by decide +kernel
theorem dX10_count_140 : decode cX10_count 140 = .ok (.iload_n 2, 1) := by decide +kernel
theorem dX10_count_141 : decode cX10_count 141 = .ok (.aload_n 0, 1) := by decide +kernel
theorem dX10_count_142 : decode cX10_count 142 = .ok (.iload_n 3, 1) := by decide +kernel
theorem dX10_count_143 : decode cX10_count 143 = .ok (.invokevirtual 50, 3) := by decide +kernel
theorem dX10_count_146 : decode cX10_count 146 = .ok (.iadd, 1) := by decide +kernel
theorem dX10_count_147 : decode cX10_count 147 = .ok (.istore_n 2, 1) := by decide +kernel
theorem dX10_count_148 : decode cX10_count 148 = .ok (.iinc 3 1, 3) := by decide +kernel
theorem dX10_count_151 : decode cX10_count 151 = .ok (.goto (-19), 3) := by decide +kernel
theorem dX10_count_154 : decode cX10_count 154 = .ok (.iload_n 2, 1) := by decide +kernel
theorem dX10_count_155 : decode cX10_count 155 = .ok (.ireturn, 1) := by decide +kernel
theorem dX10_count_156 : decode cX10_count 156 = .ok (.aload_n 0, 1) := by decide +kernel
theorem dX10_count_157 : decode cX10_count 157 = .ok (.getfield 7, 3) := by decide +kernel
theorem dX10_count_160 : decode cX10_count 160 = .ok (.iconst 2, 1) := by decide +kernel
theorem dX10_count_161 : decode cX10_count 161 = .ok (.iaload, 1) := by decide +kernel
theorem dX10_count_162 : decode cX10_count 162 = .ok (.ireturn, 1) := by decide +kernel
theorem dX10_count_163 : decode cX10_count 163 = .ok (.aload_n 0, 1) := by decide +kernel
theorem dX10_count_164 : decode cX10_count 164 = .ok (.getfield 7, 3) := by decide +kernel
theorem dX10_count_167 : decode cX10_count 167 = .ok (.iconst 3, 1) := by decide +kernel
theorem dX10_count_168 : decode cX10_count 168 = .ok (.iaload, 1) := by decide +kernel
theorem dX10_count_169 : decode cX10_count 169 = .ok (.ireturn, 1) := by decide +kernel
theorem dX10_count_170 : decode cX10_count 170 = .ok (.aload_n 0, 1) := by decide +kernel
theorem dX10_count_171 : decode cX10_count 171 = .ok (.getfield 35, 3) := by decide +kernel
theorem dX10_count_174 : decode cX10_count 174 = .ok (.ireturn, 1) := by decide +kernel
theorem dX10_count_175 : decode cX10_count 175 = .ok (.aload_n 0, 1) := by decide +kernel
theorem dX10_count_176 : decode cX10_count 176 = .ok (.getfield 147, 3) := by decide +kernel
theorem dX10_count_179 : decode cX10_count 179 = .ok (.ireturn, 1) := by decide +kernel
theorem dX10_count_180 : decode cX10_count 180 = .ok (.iconst (-1), 1) := by decide +kernel
theorem dX10_count_181 : decode cX10_count 181 = .ok (.ireturn, 1) := by decide +kernel
set_option maxRecDepth 20000 in
theorem ggX10_allBridges_X10_bridges : GoodIn wsX10_allBridges wsX10_bridges := goodIn_r _ [6, 7, 8, 9, 10, 11, 12, 13, 14, 15, 16, 17, 18, 19, 20, 21, 22, 23, 24] (by decide +kernel) (by decide +kernel)
set_option maxRecDepth 20000 in
theorem gX10_allBridges_X10_bridges : GoodIn wsX10_allBridges (wsV RX10 90 RX10 yX10_bridges wsX10_bridges) := goodIn_app (goodIn_of _ (by decide +kernel)) ggX10_allBridges_X10_bridges
theorem dX10_allBridges_0 : decode cX10_allBridges 0 = .ok (.iconst 0, 1) := by decide +kernel
theorem dX10_allBridges_1 : decode cX10_allBridges 1 = .ok (.istore_n 1, 1) := by decide +kernel
theorem dX10_allBridges_2 : decode cX10_allBridges 2 = .ok (.iconst 0, 1) := by decide +kernel
theorem dX10_allBridges_3 : decode cX10_allBridges 3 = .ok (.istore_n 2, 1) := by decide +kernel
theorem dX10_allBridges_4 : decode cX10_allBridges 4 = .ok (.iload_n 2, 1) := by decide +kernel
theorem dX10_allBridges_5 : decode cX10_allBridges 5 = .ok (.aload_n 0, 1) := by decide +kernel
theorem dX10_allBridges_6 : decode cX10_allBridges 6 = .ok (.getfield 54, 3) := by decide +kernel
theorem dX10_allBridges_9 : decode cX10_allBridges 9 = .ok (.if_icmp .ge 17, 3) := by decide +kernel
theorem dX10_allBridges_12 : decode cX10_allBridges 12 = .ok (.iload_n 1, 1) := by decide +kernel
theorem dX10_allBridges_13 : decode cX10_allBridges 13 = .ok (.aload_n 0, 1) := by decide +kernel
theorem dX10_allBridges_14 : decode cX10_allBridges 14 = .ok (.iload_n 2, 1) := by decide +kernel
theorem dX10_allBridges_15 : decode cX10_allBridges 15 = .ok (.invokevirtual 90, 3) := by decide +kernel
theorem dX10_allBridges_18 : decode cX10_allBridges 18 = .ok (.iadd, 1) := by decide +kernel
theorem dX10_allBridges_19 : decode cX10_allBridges 19 = .ok (.istore_n 1, 1) := by decide +kernel
theorem dX10_allBridges_20 : decode cX10_allBridges 20 = .ok (.iinc 2 1, 3) := by decide +kernel
theorem dX10_allBridges_23 : decode cX10_allBridges 23 = .ok (.goto (-19), 3) := by decide +kernel
theorem dX10_allBridges_26 : decode cX10_allBridges 26 = .ok (.iload_n 1, 1) := by decide +kernel
theorem dX10_allBridges_27 : decode cX10_allBridges 27 = .ok (.ireturn, 1) := by decide +kernel
set_option maxRecDepth 20000 in
theorem ggX10_build_X10_isWay : GoodIn wsX10_build wsX10_isWay := goodIn_r _ [6, 7, 8, 9, 5, 10, 63, 64, 65, 66, 67, 68, 69, 70, 71, 72, 73, 74, 75, 76, 77, 78, 79] (by decide +kernel) (by decide +kernel)
set_option maxRecDepth 20000 in
theorem gX10_build_X10_isWay : GoodIn wsX10_build (wsV RX10 131 RX10 yX10_isWay wsX10_isWay) := goodIn_app (goodIn_of _ (by decide +kernel)) ggX10_build_X10_isWay
set_option maxRecDepth 20000 in
theorem ggX10_build_X10_reason : GoodIn wsX10_build wsX10_reason := goodIn_r _ [14, 15, 16, 17, 18, 19, 5, 20, 1, 21, 22, 23, 24, 25, 26, 27, 28, 7, 29, 30, 31, 32, 33, 34, 35, 36, 37, 38, 39, 40, 41, 42, 43, 44, 45, 46, 47, 48, 49, 50, 51, 52, 53, 54, 55, 56, 63, 64, 65, 66, 67, 68, 69, 70, 71, 72, 73, 74, 75, 76, 77, 78, 79] (by decide +kernel) (by decide +kernel)
set_option maxRecDepth 20000 in
theorem gX10_build_X10_reason : GoodIn wsX10_build (wsV RX10 134 RX10 yX10_reason wsX10_reason) := goodIn_app (goodIn_of _ (by decide +kernel)) ggX10_build_X10_reason
set_option maxRecDepth 20000 in
theorem ggX10_build_X10_notes : GoodIn wsX10_build wsX10_notes := goodIn_r _ [60, 61, 62, 1, 63, 64, 65, 66, 67, 68, 69, 70, 71, 72, 73, 74, 75, 76, 77, 78, 79] (by decide +kernel) (by decide +kernel)
set_option maxRecDepth 20000 in
theorem gX10_build_X10_notes : GoodIn wsX10_build (wsV RX10 64 RX10 yX10_notes wsX10_notes) := goodIn_app (goodIn_of _ (by decide +kernel)) ggX10_build_X10_notes
set_option maxRecDepth 20000 in
theorem ggX10_build_X10_bridges : GoodIn wsX10_build wsX10_bridges := goodIn_r _ [20, 1, 63, 64, 65, 66, 67, 68, 69, 70, 71, 72, 73, 74, 75, 76, 77, 78, 79] (by decide +kernel) (by decide +kernel)
set_option maxRecDepth 20000 in
theorem gX10_build_X10_bridges : GoodIn wsX10_build (wsV RX10 90 RX10 yX10_bridges wsX10_bridges) := goodIn_app (goodIn_of _ (by decide +kernel)) ggX10_build_X10_bridges
theorem dX10_build_0 : decode cX10_build 0 = .ok (.aload_n 0, 1) := by decide +kernel
theorem dX10_build_1 : decode cX10_build 1 = .ok (.iload_n 1, 1) := by decide +kernel
theorem dX10_build_2 : decode cX10_build 2 = .ok (.invokevirtual 131, 3) := by decide +kernel
theorem dX10_build_5 : decode cX10_build 5 = .ok (.ifCond .ne 5, 3) := by decide +kernel
theorem dX10_build_8 : decode cX10_build 8 = .ok (.iconst (-1), 1) := by decide +kernel
theorem dX10_build_9 : decode cX10_build 9 = .ok (.ireturn, 1) := by decide +kernel
theorem dX10_build_10 : decode cX10_build 10 = .ok (.aload_n 0, 1) := by decide +kernel
theorem dX10_build_11 : decode cX10_build 11 = .ok (.iload_n 1, 1) := by decide +kernel
theorem dX10_build_12 : decode cX10_build 12 = .ok (.invokevirtual 134, 3) := by decide +kernel
theorem dX10_build_15 : decode cX10_build 15 = .ok (.ifCond .eq 6, 3) := by decide +kernel
theorem dX10_build_18 : decode cX10_build 18 = .ok (.bipush (-2), 2) := by decide +kernel
theorem dX10_build_20 : decode cX10_build 20 = .ok (.ireturn, 1) := by decide +kernel
theorem dX10_build_21 : decode cX10_build 21 = .ok (.aload_n 0, 1) := by decide +kernel
theorem dX10_build_22 : decode cX10_build 22 = .ok (.invokevirtual 64, 3) := by decide +kernel
theorem dX10_build_25 : decode cX10_build 25 = .ok (.aload_n 0, 1) := by decide +kernel
theorem dX10_build_26 : decode cX10_build 26 = .ok (.getfield 7, 3) := by decide +kernel
theorem dX10_build_29 : decode cX10_build 29 = .ok (.sipush 148, 3) := by decide +kernel
theorem dX10_build_32 : decode cX10_build 32 = .ok (.iload_n 1, 1) := by decide +kernel
theorem dX10_build_33 : decode cX10_build 33 = .ok (.iadd, 1) := by decide +kernel
theorem dX10_build_34 : decode cX10_build 34 = .ok (.dup2, 1) := by decide +kernel
theorem dX10_build_35 : decode cX10_build 35 = .ok (.iaload, 1) := by decide +kernel
theorem dX10_build_36 : decode cX10_build 36 = .ok (.iconst 1, 1) := by decide +kernel
theorem dX10_build_37 : decode cX10_build 37 = .ok (.iadd, 1) := by decide +kernel
theorem dX10_build_38 : decode cX10_build 38 = .ok (.iastore, 1) := by decide +kernel
theorem dX10_build_39 : decode cX10_build 39 = .ok (.aload_n 0, 1) := by decide +kernel
theorem dX10_build_40 : decode cX10_build 40 = .ok (.iload_n 1, 1) := by decide +kernel
theorem dX10_build_41 : decode cX10_build 41 = .ok (.invokevirtual 90, 3) := by decide +kernel
theorem dX10_build_44 : decode cX10_build 44 = .ok (.ireturn, 1) := by decide +kernel
set_option maxRecDepth 20000 in
theorem ggX10_take_X10_isWay : GoodIn wsX10_take wsX10_isWay := goodIn_r _ [6, 7, 8, 9, 5, 10, 21, 22, 23, 24, 25, 26, 27, 28, 29, 30, 31, 32, 33, 34, 35, 36, 37] (by decide +kernel) (by decide +kernel)
set_option maxRecDepth 20000 in
theorem gX10_take_X10_isWay : GoodIn wsX10_take (wsV RX10 131 RX10 yX10_isWay wsX10_isWay) := goodIn_app (goodIn_of _ (by decide +kernel)) ggX10_take_X10_isWay
set_option maxRecDepth 20000 in
theorem ggX10_take_X10_bridges : GoodIn wsX10_take wsX10_bridges := goodIn_r _ [14, 1, 21, 22, 23, 24, 25, 26, 27, 28, 29, 30, 31, 32, 33, 34, 35, 36, 37] (by decide +kernel) (by decide +kernel)
set_option maxRecDepth 20000 in
theorem gX10_take_X10_bridges : GoodIn wsX10_take (wsV RX10 90 RX10 yX10_bridges wsX10_bridges) := goodIn_app (goodIn_of _ (by decide +kernel)) ggX10_take_X10_bridges
set_option maxRecDepth 20000 in
theorem ggX10_take_X10_notes : GoodIn wsX10_take wsX10_notes := goodIn_r _ [18, 19, 20, 1, 21, 22, 23, 24, 25, 26, 27, 28, 29, 30, 31, 32, 33, 34, 35, 36, 37] (by decide +kernel) (by decide +kernel)
set_option maxRecDepth 20000 in
theorem gX10_take_X10_notes : GoodIn wsX10_take (wsV RX10 64 RX10 yX10_notes wsX10_notes) := goodIn_app (goodIn_of _ (by decide +kernel)) ggX10_take_X10_notes
theorem dX10_take_0 : decode cX10_take 0 = .ok (.aload_n 0, 1) := by decide +kernel
theorem dX10_take_1 : decode cX10_take 1 = .ok (.iload_n 1, 1) := by decide +kernel
theorem dX10_take_2 : decode cX10_take 2 = .ok (.invokevirtual 131, 3) := by decide +kernel
theorem dX10_take_5 : decode cX10_take 5 = .ok (.ifCond .ne 5, 3) := by decide +kernel
theorem dX10_take_8 : decode cX10_take 8 = .ok (.iconst (-1), 1) := by decide +kernel
theorem dX10_take_9 : decode cX10_take 9 = .ok (.ireturn, 1) := by decide +kernel
theorem dX10_take_10 : decode cX10_take 10 = .ok (.aload_n 0, 1) := by decide +kernel
theorem dX10_take_11 : decode cX10_take 11 = .ok (.iload_n 1, 1) := by decide +kernel
theorem dX10_take_12 : decode cX10_take 12 = .ok (.invokevirtual 90, 3) := by decide +kernel
theorem dX10_take_15 : decode cX10_take 15 = .ok (.ifCond .ne 6, 3) := by decide +kernel
theorem dX10_take_18 : decode cX10_take 18 = .ok (.bipush (-2), 2) := by decide +kernel
theorem dX10_take_20 : decode cX10_take 20 = .ok (.ireturn, 1) := by decide +kernel
theorem dX10_take_21 : decode cX10_take 21 = .ok (.aload_n 0, 1) := by decide +kernel
theorem dX10_take_22 : decode cX10_take 22 = .ok (.invokevirtual 64, 3) := by decide +kernel
theorem dX10_take_25 : decode cX10_take 25 = .ok (.aload_n 0, 1) := by decide +kernel
theorem dX10_take_26 : decode cX10_take 26 = .ok (.getfield 7, 3) := by decide +kernel
theorem dX10_take_29 : decode cX10_take 29 = .ok (.sipush 148, 3) := by decide +kernel
theorem dX10_take_32 : decode cX10_take 32 = .ok (.iload_n 1, 1) := by decide +kernel
theorem dX10_take_33 : decode cX10_take 33 = .ok (.iadd, 1) := by decide +kernel
theorem dX10_take_34 : decode cX10_take 34 = .ok (.dup2, 1) := by decide +kernel
theorem dX10_take_35 : decode cX10_take 35 = .ok (.iaload, 1) := by decide +kernel
theorem dX10_take_36 : decode cX10_take 36 = .ok (.iconst 1, 1) := by decide +kernel
theorem dX10_take_37 : decode cX10_take 37 = .ok (.isub, 1) := by decide +kernel
theorem dX10_take_38 : decode cX10_take 38 = .ok (.iastore, 1) := by decide +kernel
theorem dX10_take_39 : decode cX10_take 39 = .ok (.aload_n 0, 1) := by decide +kernel
theorem dX10_take_40 : decode cX10_take 40 = .ok (.iload_n 1, 1) := by decide +kernel
theorem dX10_take_41 : decode cX10_take 41 = .ok (.invokevirtual 90, 3) := by decide +kernel
theorem dX10_take_44 : decode cX10_take 44 = .ok (.ireturn, 1) := by decide +kernel
set_option maxRecDepth 20000 in
theorem ggX10_cap_X10_isWay : GoodIn wsX10_cap wsX10_isWay := goodIn_r _ [6, 7, 8, 9, 5, 10, 25, 26, 27, 28, 29, 30, 31, 32, 33, 34, 35, 36, 37, 38, 39, 40, 41] (by decide +kernel) (by decide +kernel)
set_option maxRecDepth 20000 in
theorem gX10_cap_X10_isWay : GoodIn wsX10_cap (wsV RX10 131 RX10 yX10_isWay wsX10_isWay) := goodIn_app (goodIn_of _ (by decide +kernel)) ggX10_cap_X10_isWay
set_option maxRecDepth 20000 in
theorem ggX10_cap_X10_in : GoodIn wsX10_cap wsX10_in := goodIn_r _ [10] (by decide +kernel) (by decide +kernel)
set_option maxRecDepth 20000 in
theorem gX10_cap_X10_in : GoodIn wsX10_cap (va_wsS RX10 46 yX10_in wsX10_in) := goodIn_app (goodIn_of _ (by decide +kernel)) ggX10_cap_X10_in
set_option maxRecDepth 20000 in
theorem ggX10_cap_X10_bridges : GoodIn wsX10_cap wsX10_bridges := goodIn_r _ [14, 1, 25, 26, 27, 28, 29, 30, 31, 32, 33, 34, 35, 36, 37, 38, 39, 40, 41] (by decide +kernel) (by decide +kernel)
set_option maxRecDepth 20000 in
theorem gX10_cap_X10_bridges : GoodIn wsX10_cap (wsV RX10 90 RX10 yX10_bridges wsX10_bridges) := goodIn_app (goodIn_of _ (by decide +kernel)) ggX10_cap_X10_bridges
set_option maxRecDepth 20000 in
theorem ggX10_cap_X10_notes : GoodIn wsX10_cap wsX10_notes := goodIn_r _ [18, 19, 20, 1, 25, 26, 27, 28, 29, 30, 31, 32, 33, 34, 35, 36, 37, 38, 39, 40, 41] (by decide +kernel) (by decide +kernel)
set_option maxRecDepth 20000 in
theorem gX10_cap_X10_notes : GoodIn wsX10_cap (wsV RX10 64 RX10 yX10_notes wsX10_notes) := goodIn_app (goodIn_of _ (by decide +kernel)) ggX10_cap_X10_notes
set_option maxRecDepth 20000 in
theorem ggX10_cap_X10_capOf : GoodIn wsX10_cap wsX10_capOf := goodIn_r _ [24, 1, 25, 26, 27, 28, 29, 30, 31, 32, 33, 34, 35, 36, 37, 38, 39, 40, 41] (by decide +kernel) (by decide +kernel)
set_option maxRecDepth 20000 in
theorem gX10_cap_X10_capOf : GoodIn wsX10_cap (wsV RX10 96 RX10 yX10_capOf wsX10_capOf) := goodIn_app (goodIn_of _ (by decide +kernel)) ggX10_cap_X10_capOf
theorem dX10_cap_0 : decode cX10_cap 0 = .ok (.aload_n 0, 1) := by decide +kernel
theorem dX10_cap_1 : decode cX10_cap 1 = .ok (.iload_n 1, 1) := by decide +kernel
theorem dX10_cap_2 : decode cX10_cap 2 = .ok (.invokevirtual 131, 3) := by decide +kernel
theorem dX10_cap_5 : decode cX10_cap 5 = .ok (.ifCond .eq 12, 3) := by decide +kernel
theorem dX10_cap_8 : decode cX10_cap 8 = .ok (.iload_n 2, 1) := by decide +kernel
theorem dX10_cap_9 : decode cX10_cap 9 = .ok (.iconst 0, 1) := by decide +kernel
theorem dX10_cap_10 : decode cX10_cap 10 = .ok (.iconst 2, 1) := by decide +kernel
theorem dX10_cap_11 : decode cX10_cap 11 = .ok (.invokestatic 46, 3) := by decide +kernel
theorem dX10_cap_14 : decode cX10_cap 14 = .ok (.ifCond .ne 5, 3) := by decide +kernel
theorem dX10_cap_17 : decode cX10_cap 17 = .ok (.iconst (-1), 1) := by decide +kernel
theorem dX10_cap_18 : decode cX10_cap 18 = .ok (.ireturn, 1) := by decide +kernel
theorem dX10_cap_19 : decode cX10_cap 19 = .ok (.aload_n 0, 1) := by decide +kernel
theorem dX10_cap_20 : decode cX10_cap 20 = .ok (.iload_n 1, 1) := by decide +kernel
theorem dX10_cap_21 : decode cX10_cap 21 = .ok (.invokevirtual 90, 3) := by decide +kernel
theorem dX10_cap_24 : decode cX10_cap 24 = .ok (.iload_n 2, 1) := by decide +kernel
theorem dX10_cap_25 : decode cX10_cap 25 = .ok (.if_icmp .le 6, 3) := by decide +kernel
theorem dX10_cap_28 : decode cX10_cap 28 = .ok (.bipush (-2), 2) := by decide +kernel
theorem dX10_cap_30 : decode cX10_cap 30 = .ok (.ireturn, 1) := by decide +kernel
theorem dX10_cap_31 : decode cX10_cap 31 = .ok (.aload_n 0, 1) := by decide +kernel
theorem dX10_cap_32 : decode cX10_cap 32 = .ok (.invokevirtual 64, 3) := by decide +kernel
theorem dX10_cap_35 : decode cX10_cap 35 = .ok (.aload_n 0, 1) := by decide +kernel
theorem dX10_cap_36 : decode cX10_cap 36 = .ok (.iload_n 1, 1) := by decide +kernel
theorem dX10_cap_37 : decode cX10_cap 37 = .ok (.invokevirtual 96, 3) := by decide +kernel
theorem dX10_cap_40 : decode cX10_cap 40 = .ok (.istore_n 3, 1) := by decide +kernel
theorem dX10_cap_41 : decode cX10_cap 41 = .ok (.aload_n 0, 1) := by decide +kernel
theorem dX10_cap_42 : decode cX10_cap 42 = .ok (.getfield 7, 3) := by decide +kernel
theorem dX10_cap_45 : decode cX10_cap 45 = .ok (.sipush 196, 3) := by decide +kernel
theorem dX10_cap_48 : decode cX10_cap 48 = .ok (.iload_n 1, 1) := by decide +kernel
theorem dX10_cap_49 : decode cX10_cap 49 = .ok (.iadd, 1) := by decide +kernel
theorem dX10_cap_50 : decode cX10_cap 50 = .ok (.iload_n 2, 1) := by decide +kernel
theorem dX10_cap_51 : decode cX10_cap 51 = .ok (.iastore, 1) := by decide +kernel
theorem dX10_cap_52 : decode cX10_cap 52 = .ok (.iload_n 3, 1) := by decide +kernel
theorem dX10_cap_53 : decode cX10_cap 53 = .ok (.ireturn, 1) := by decide +kernel
set_option maxRecDepth 20000 in
theorem ggX10_clear_X10_notes : GoodIn wsX10_clear wsX10_notes := goodIn_r _ [5, 6, 7, 8, 22, 23, 24, 25, 26, 27, 28, 29, 30, 31, 32, 33, 34, 35, 36, 37, 38] (by decide +kernel) (by decide +kernel)
set_option maxRecDepth 20000 in
theorem gX10_clear_X10_notes : GoodIn wsX10_clear (wsV RX10 64 RX10 yX10_notes wsX10_notes) := goodIn_app (goodIn_of _ (by decide +kernel)) ggX10_clear_X10_notes
set_option maxRecDepth 20000 in
theorem ggX10_clear_X10_allBridges : GoodIn wsX10_clear wsX10_allBridges := goodIn_r _ [12, 13, 14, 15, 16, 4, 17, 8, 22, 23, 24, 25, 26, 27, 28, 29, 30, 31, 32, 33, 34, 35, 36, 37, 38] (by decide +kernel) (by decide +kernel)
set_option maxRecDepth 20000 in
theorem gX10_clear_X10_allBridges : GoodIn wsX10_clear (wsV RX10 137 RX10 yX10_allBridges wsX10_allBridges) := goodIn_app (goodIn_of _ (by decide +kernel)) ggX10_clear_X10_allBridges
set_option maxRecDepth 20000 in
theorem ggX10_clear_X10_clears : GoodIn wsX10_clear wsX10_clears := goodIn_r _ [21, 8, 22, 23, 24, 25, 26, 27, 28, 29, 30, 31, 32, 33, 34, 35, 36, 37, 38] (by decide +kernel) (by decide +kernel)
set_option maxRecDepth 20000 in
theorem gX10_clear_X10_clears : GoodIn wsX10_clear (wsV RX10 61 RX10 yX10_clears wsX10_clears) := goodIn_app (goodIn_of _ (by decide +kernel)) ggX10_clear_X10_clears
theorem dX10_clear_0 : decode cX10_clear 0 = .ok (.aload_n 0, 1) := by decide +kernel
theorem dX10_clear_1 : decode cX10_clear 1 = .ok (.invokevirtual 64, 3) := by decide +kernel
theorem dX10_clear_4 : decode cX10_clear 4 = .ok (.aload_n 0, 1) := by decide +kernel
theorem dX10_clear_5 : decode cX10_clear 5 = .ok (.invokevirtual 137, 3) := by decide +kernel
theorem dX10_clear_8 : decode cX10_clear 8 = .ok (.istore_n 1, 1) := by decide +kernel
theorem dX10_clear_9 : decode cX10_clear 9 = .ok (.aload_n 0, 1) := by decide +kernel
theorem dX10_clear_10 : decode cX10_clear 10 = .ok (.invokevirtual 61, 3) := by decide +kernel
theorem dX10_clear_13 : decode cX10_clear 13 = .ok (.iload_n 1, 1) := by decide +kernel
theorem dX10_clear_14 : decode cX10_clear 14 = .ok (.ireturn, 1) := by decide +kernel
set_option maxRecDepth 20000 in
theorem ggX10_due_X10_number : GoodIn wsX10_due wsX10_number := goodIn_r _ [5, 6, 22, 23, 24, 25, 26, 27, 28, 29, 30, 31, 32, 33, 34, 35, 36, 37, 38] (by decide +kernel) (by decide +kernel)
set_option maxRecDepth 20000 in
theorem gX10_due_X10_number : GoodIn wsX10_due (wsV RX10 50 RX10 yX10_number wsX10_number) := goodIn_app (goodIn_of _ (by decide +kernel)) ggX10_due_X10_number
set_option maxRecDepth 20000 in
theorem ggX10_due_X10_capsOf : GoodIn wsX10_due wsX10_capsOf := goodIn_r _ [10, 11, 12, 13, 14, 4, 15, 16, 17, 18, 19, 20, 21, 6, 22, 23, 24, 25, 26, 27, 28, 29, 30, 31, 32, 33, 34, 35, 36, 37, 38] (by decide +kernel) (by decide +kernel)
set_option maxRecDepth 20000 in
theorem gX10_due_X10_capsOf : GoodIn wsX10_due (wsV RX10 121 RX10 yX10_capsOf wsX10_capsOf) := goodIn_app (goodIn_of _ (by decide +kernel)) ggX10_due_X10_capsOf
set_option maxRecDepth 20000 in
theorem ggX10_due_X10_capOf : GoodIn wsX10_due wsX10_capOf := goodIn_r _ [21, 6, 22, 23, 24, 25, 26, 27, 28, 29, 30, 31, 32, 33, 34, 35, 36, 37, 38] (by decide +kernel) (by decide +kernel)
set_option maxRecDepth 20000 in
theorem gX10_due_X10_capOf : GoodIn wsX10_due (wsV RX10 96 RX10 yX10_capOf wsX10_capOf) := goodIn_app (goodIn_of _ (by decide +kernel)) ggX10_due_X10_capOf
theorem dX10_due_0 : decode cX10_due 0 = .ok (.aload_n 0, 1) := by decide +kernel
theorem dX10_due_1 : decode cX10_due 1 = .ok (.iload_n 2, 1) := by decide +kernel
theorem dX10_due_2 : decode cX10_due 2 = .ok (.invokevirtual 50, 3) := by decide +kernel
theorem dX10_due_5 : decode cX10_due 5 = .ok (.aload_n 0, 1) := by decide +kernel
theorem dX10_due_6 : decode cX10_due 6 = .ok (.iload_n 2, 1) := by decide +kernel
theorem dX10_due_7 : decode cX10_due 7 = .ok (.invokevirtual 121, 3) := by decide +kernel
theorem dX10_due_10 : decode cX10_due 10 = .ok (.aload_n 0, 1) := by decide +kernel
theorem dX10_due_11 : decode cX10_due 11 = .ok (.iload_n 1, 1) := by decide +kernel
theorem dX10_due_12 : decode cX10_due 12 = .ok (.invokevirtual 96, 3) := by decide +kernel
theorem dX10_due_15 : decode cX10_due 15 = .ok (.isub, 1) := by decide +kernel
theorem dX10_due_16 : decode cX10_due 16 = .ok (.isub, 1) := by decide +kernel
theorem dX10_due_17 : decode cX10_due 17 = .ok (.ireturn, 1) := by decide +kernel
set_option maxRecDepth 20000 in
theorem ggX10_closes_X10_capOf : GoodIn wsX10_closes wsX10_capOf := goodIn_r _ [8, 1, 42, 43, 44, 45, 46, 47, 48, 49, 50, 51, 52, 53, 54, 55, 56, 57, 58] (by decide +kernel) (by decide +kernel)
set_option maxRecDepth 20000 in
theorem gX10_closes_X10_capOf : GoodIn wsX10_closes (wsV RX10 96 RX10 yX10_capOf wsX10_capOf) := goodIn_app (goodIn_of _ (by decide +kernel)) ggX10_closes_X10_capOf
set_option maxRecDepth 20000 in
theorem ggX10_closes_X10_bridges : GoodIn wsX10_closes wsX10_bridges := goodIn_r _ [12, 1, 42, 43, 44, 45, 46, 47, 48, 49, 50, 51, 52, 53, 54, 55, 56, 57, 58] (by decide +kernel) (by decide +kernel)
set_option maxRecDepth 20000 in
theorem gX10_closes_X10_bridges : GoodIn wsX10_closes (wsV RX10 90 RX10 yX10_bridges wsX10_bridges) := goodIn_app (goodIn_of _ (by decide +kernel)) ggX10_closes_X10_bridges
set_option maxRecDepth 20000 in
theorem ggX10_closes_X10_findGroups : GoodIn wsX10_closes wsX10_findGroups := goodIn_r _ [16, 2, 17, 3, 18, 19, 20, 21, 7, 22, 1, 9, 10, 11, 12, 23, 24, 25, 42, 43, 44, 45, 46, 47, 48, 49, 50, 51, 52, 53, 54, 55, 56, 57, 58] (by decide +kernel) (by decide +kernel)
set_option maxRecDepth 20000 in
theorem gX10_closes_X10_findGroups : GoodIn wsX10_closes (wsV RX10 106 RX10 yX10_findGroups wsX10_findGroups) := goodIn_app (goodIn_of _ (by decide +kernel)) ggX10_closes_X10_findGroups
set_option maxRecDepth 20000 in
theorem ggX10_closes_X10_cells : GoodIn wsX10_closes wsX10_cells := goodIn_r _ [22, 1, 42, 43, 44, 45, 46, 47, 48, 49, 50, 51, 52, 53, 54, 55, 56, 57, 58] (by decide +kernel) (by decide +kernel)
set_option maxRecDepth 20000 in
theorem gX10_closes_X10_cells : GoodIn wsX10_closes (wsV RX10 42 RX10 yX10_cells wsX10_cells) := goodIn_app (goodIn_of _ (by decide +kernel)) ggX10_closes_X10_cells
set_option maxRecDepth 20000 in
theorem ggX10_closes_X10_number : GoodIn wsX10_closes wsX10_number := goodIn_r _ [29, 1, 42, 43, 44, 45, 46, 47, 48, 49, 50, 51, 52, 53, 54, 55, 56, 57, 58] (by decide +kernel) (by decide +kernel)
set_option maxRecDepth 20000 in
theorem gX10_closes_X10_number : GoodIn wsX10_closes (wsV RX10 50 RX10 yX10_number wsX10_number) := goodIn_app (goodIn_of _ (by decide +kernel)) ggX10_closes_X10_number
set_option maxRecDepth 20000 in
theorem ggX10_closes_X10_lacks : GoodIn wsX10_closes wsX10_lacks := goodIn_r _ [33, 26, 27, 28, 7, 29, 1, 34, 35, 36, 37, 17, 38, 39, 40, 41, 3, 18, 9, 10, 11, 12, 42, 43, 44, 45, 46, 47, 48, 49, 50, 51, 52, 53, 54, 55, 56, 57, 58] (by decide +kernel) (by decide +kernel)
set_option maxRecDepth 20000 in
theorem gX10_closes_X10_lacks : GoodIn wsX10_closes (wsV RX10 112 RX10 yX10_lacks wsX10_lacks) := goodIn_app (goodIn_of _ (by decide +kernel)) ggX10_closes_X10_lacks
theorem dX10_closes_0 : decode cX10_closes 0 = .ok (.aload_n 0, 1) := by decide +kernel
theorem dX10_closes_1 : decode cX10_closes 1 = .ok (.iload_n 1, 1) := by decide +kernel
theorem dX10_closes_2 : decode cX10_closes 2 = .ok (.invokevirtual 96, 3) := by decide +kernel
theorem dX10_closes_5 : decode cX10_closes 5 = .ok (.aload_n 0, 1) := by decide +kernel
theorem dX10_closes_6 : decode cX10_closes 6 = .ok (.iload_n 1, 1) := by decide +kernel
theorem dX10_closes_7 : decode cX10_closes 7 = .ok (.invokevirtual 90, 3) := by decide +kernel
theorem dX10_closes_10 : decode cX10_closes 10 = .ok (.if_icmp .gt 5, 3) := by decide +kernel
theorem dX10_closes_13 : decode cX10_closes 13 = .ok (.iconst 0, 1) := by decide +kernel
theorem dX10_closes_14 : decode cX10_closes 14 = .ok (.ireturn, 1) := by decide +kernel
theorem dX10_closes_15 : decode cX10_closes 15 = .ok (.aload_n 0, 1) := by decide +kernel
theorem dX10_closes_16 : decode cX10_closes 16 = .ok (.iload_n 1, 1) := by decide +kernel
theorem dX10_closes_17 : decode cX10_closes 17 = .ok (.invokevirtual 90, 3) := by decide +kernel
theorem dX10_closes_20 : decode cX10_closes 20 = .ok (.istore_n 2, 1) := by decide +kernel
theorem dX10_closes_21 : decode cX10_closes 21 = .ok (.aload_n 0, 1) := by decide +kernel
theorem dX10_closes_22 : decode cX10_closes 22 = .ok (.getfield 7, 3) := by decide +kernel
theorem dX10_closes_25 : decode cX10_closes 25 = .ok (.sipush 148, 3) := by decide +kernel
theorem dX10_closes_28 : decode cX10_closes 28 = .ok (.iload_n 1, 1) := by decide +kernel
theorem dX10_closes_29 : decode cX10_closes 29 = .ok (.iadd, 1) := by decide +kernel
theorem dX10_closes_30 : decode cX10_closes 30 = .ok (.aload_n 0, 1) := by decide +kernel
theorem dX10_closes_31 : decode cX10_closes 31 = .ok (.iload_n 1, 1) := by decide +kernel
theorem dX10_closes_32 : decode cX10_closes 32 = .ok (.invokevirtual 96, 3) := by decide +kernel
theorem dX10_closes_35 : decode cX10_closes 35 = .ok (.iastore, 1) := by decide +kernel
theorem dX10_closes_36 : decode cX10_closes 36 = .ok (.aload_n 0, 1) := by decide +kernel
theorem dX10_closes_37 : decode cX10_closes 37 = .ok (.invokevirtual 106, 3) := by decide +kernel
theorem dX10_closes_40 : decode cX10_closes 40 = .ok (.iconst 1, 1) := by decide +kernel
theorem dX10_closes_41 : decode cX10_closes 41 = .ok (.istore_n 3, 1) := by decide +kernel
theorem dX10_closes_42 : decode cX10_closes 42 = .ok (.iconst 0, 1) := by decide +kernel
theorem dX10_closes_43 : decode cX10_closes 43 = .ok (.istore 4, 2) := by decide +kernel
theorem dX10_closes_45 : decode cX10_closes 45 = .ok (.iconst 0, 1) := by decide +kernel
theorem dX10_closes_46 : decode cX10_closes 46 = .ok (.istore 5, 2) := by decide +kernel
theorem dX10_closes_48 : decode cX10_closes 48 = .ok (.iload 5, 2) := by decide +kernel
theorem dX10_closes_50 : decode cX10_closes 50 = .ok (.aload_n 0, 1) := by decide +kernel
theorem dX10_closes_51 : decode cX10_closes 51 = .ok (.invokevirtual 42, 3) := by decide +kernel
theorem dX10_closes_54 : decode cX10_closes 54 = .ok (.if_icmp .ge 96, 3) := by decide +kernel
theorem dX10_closes_57 : decode cX10_closes 57 = .ok (.aload_n 0, 1) := by decide +kernel
theorem dX10_closes_58 : decode cX10_closes 58 = .ok (.getfield 26, 3) := by decide +kernel
theorem dX10_closes_61 : decode cX10_closes 61 = .ok (.iload 5, 2) := by decide +kernel
theorem dX10_closes_63 : decode cX10_closes 63 = .ok (.iaload, 1) := by decide +kernel
theorem dX10_closes_64 : decode cX10_closes 64 = .ok (.aload_n 0, 1) := by decide +kernel
theorem dX10_closes_65 : decode cX10_closes 65 = .ok (.getfield 26, 3) := by decide +kernel
theorem dX10_closes_68 : decode cX10_closes 68 = .ok (.aload_n 0, 1) := by decide +kernel
theorem dX10_closes_69 : decode cX10_closes 69 = .ok (.getfield 20, 3) := by decide +kernel
theorem dX10_closes_72 : decode cX10_closes 72 = .ok (.iload_n 1, 1) := by decide +kernel
theorem dX10_closes_73 : decode cX10_closes 73 = .ok (.iaload, 1) := by decide +kernel
theorem dX10_closes_74 : decode cX10_closes 74 = .ok (.iaload, 1) := by decide +kernel
theorem dX10_closes_75 : decode cX10_closes 75 = .ok (.if_icmp .ne 7, 3) := by decide +kernel
theorem dX10_closes_78 : decode cX10_closes 78 = .ok (.iconst 1, 1) := by decide +kernel
theorem dX10_closes_79 : decode cX10_closes 79 = .ok (.goto 4, 3) := by decide +kernel
theorem dX10_closes_82 : decode cX10_closes 82 = .ok (.iconst 0, 1) := by decide +kernel
theorem dX10_closes_83 : decode cX10_closes 83 = .ok (.istore 6, 2) := by decide +kernel
theorem dX10_closes_85 : decode cX10_closes 85 = .ok (.iload_n 3, 1) := by decide +kernel
theorem dX10_closes_86 : decode cX10_closes 86 = .ok (.ifCond .eq 30, 3) := by decide +kernel
theorem dX10_closes_89 : decode cX10_closes 89 = .ok (.aload_n 0, 1) := by decide +kernel
theorem dX10_closes_90 : decode cX10_closes 90 = .ok (.iload 5, 2) := by decide +kernel
theorem dX10_closes_92 : decode cX10_closes 92 = .ok (.invokevirtual 50, 3) := by decide +kernel
theorem dX10_closes_95 : decode cX10_closes 95 = .ok (.ifCond .eq 17, 3) := by decide +kernel
theorem dX10_closes_98 : decode cX10_closes 98 = .ok (.iload 6, 2) := by decide +kernel
theorem dX10_closes_100 : decode cX10_closes 100 = .ok (.ifCond .eq 12, 3) := by decide +kernel
theorem dX10_closes_103 : decode cX10_closes 103 = .ok (.aload_n 0, 1) := by decide +kernel
theorem dX10_closes_104 : decode cX10_closes 104 = .ok (.iload 5, 2) := by decide +kernel
theorem dX10_closes_106 : decode cX10_closes 106 = .ok (.invokevirtual 112, 3) := by decide +kernel
theorem dX10_closes_109 : decode cX10_closes 109 = .ok (.ifCond .ne 7, 3) := by decide +kernel
theorem dX10_closes_112 : decode cX10_closes 112 = .ok (.iconst 1, 1) := by decide +kernel
theorem dX10_closes_113 : decode cX10_closes 113 = .ok (.goto 4, 3) := by decide +kernel
theorem dX10_closes_116 : decode cX10_closes 116 = .ok (.iconst 0, 1) := by decide +kernel
theorem dX10_closes_117 : decode cX10_closes 117 = .ok (.istore_n 3, 1) := by decide +kernel
theorem dX10_closes_118 : decode cX10_closes 118 = .ok (.iload 4, 2) := by decide +kernel
theorem dX10_closes_120 : decode cX10_closes 120 = .ok (.ifCond .ne 17, 3) := by decide +kernel
theorem dX10_closes_123 : decode cX10_closes 123 = .ok (.aload_n 0, 1) := by decide +kernel
theorem dX10_closes_124 : decode cX10_closes 124 = .ok (.iload 5, 2) := by decide +kernel
theorem dX10_closes_126 : decode cX10_closes 126 = .ok (.invokevirtual 50, 3) := by decide +kernel
theorem dX10_closes_129 : decode cX10_closes 129 = .ok (.ifCond .le 12, 3) := by decide +kernel
theorem dX10_closes_132 : decode cX10_closes 132 = .ok (.iload 6, 2) := by decide +kernel
theorem dX10_closes_134 : decode cX10_closes 134 = .ok (.ifCond .ne 7, 3) := by decide +kernel
theorem dX10_closes_137 : decode cX10_closes 137 = .ok (.iconst 1, 1) := by decide +kernel
theorem dX10_closes_138 : decode cX10_closes 138 = .ok (.goto 4, 3) := by decide +kernel
theorem dX10_closes_141 : decode cX10_closes 141 = .ok (.iconst 0, 1) := by decide +kernel
theorem dX10_closes_142 : decode cX10_closes 142 = .ok (.istore 4, 2) := by decide +kernel
theorem dX10_closes_144 : decode cX10_closes 144 = .ok (.iinc 5 1, 3) := by decide +kernel
theorem dX10_closes_147 : decode cX10_closes 147 = .ok (.goto (-99), 3) := by decide +kernel
theorem dX10_closes_150 : decode cX10_closes 150 = .ok (.aload_n 0, 1) := by decide +kernel
theorem dX10_closes_151 : decode cX10_closes 151 = .ok (.getfield 7, 3) := by decide +kernel
theorem dX10_closes_154 : decode cX10_closes 154 = .ok (.sipush 148, 3) := by decide +kernel
theorem dX10_closes_157 : decode cX10_closes 157 = .ok (.iload_n 1, 1) := by decide +kernel
theorem dX10_closes_158 : decode cX10_closes 158 = .ok (.iadd, 1) := by decide +kernel
theorem dX10_closes_159 : decode cX10_closes 159 = .ok (.iload_n 2, 1) := by decide +kernel
theorem dX10_closes_160 : decode cX10_closes 160 = .ok (.iastore, 1) := by decide +kernel
theorem dX10_closes_161 : decode cX10_closes 161 = .ok (.iload_n 3, 1) := by decide +kernel
theorem dX10_closes_162 : decode cX10_closes 162 = .ok (.ifCond .eq 12, 3) := by decide +kernel
theorem dX10_closes_165 : decode cX10_closes 165 = .ok (.iload 4, 2) := by decide +kernel
theorem dX10_closes_167 : decode cX10_closes 167 = .ok (.ifCond .eq 7, 3) := by decide +kernel
theorem dX10_closes_170 : decode cX10_closes 170 = .ok (.iconst 1, 1) := by decide +kernel
theorem dX10_closes_171 : decode cX10_closes 171 = .ok (.goto 4, 3) := by decide +kernel
theorem dX10_closes_174 : decode cX10_closes 174 = .ok (.iconst 0, 1) := by decide +kernel
theorem dX10_closes_175 : decode cX10_closes 175 = .ok (.ireturn, 1) := by decide +kernel
set_option maxRecDepth 20000 in
theorem ggX10_applies_X10_lacks : GoodIn wsX10_applies wsX10_lacks := goodIn_r _ [7, 8, 9, 10, 6, 11, 12, 13, 14, 15, 16, 17, 18, 19, 20, 21, 1, 2, 22, 23, 24, 25, 73, 74, 75, 76, 77, 78, 79, 80, 81, 82, 83, 84, 85, 86, 87, 88, 89] (by decide +kernel) (by decide +kernel)
set_option maxRecDepth 20000 in
theorem gX10_applies_X10_lacks : GoodIn wsX10_applies (wsV RX10 112 RX10 yX10_lacks wsX10_lacks) := goodIn_app (goodIn_of _ (by decide +kernel)) ggX10_applies_X10_lacks
set_option maxRecDepth 20000 in
theorem ggX10_applies_X10_lesser : GoodIn wsX10_applies wsX10_lesser := goodIn_r _ [28] (by decide +kernel) (by decide +kernel)
set_option maxRecDepth 20000 in
theorem gX10_applies_X10_lesser : GoodIn wsX10_applies (va_wsS RX10 102 yX10_lesser wsX10_lesser) := goodIn_app (goodIn_of _ (by decide +kernel)) ggX10_applies_X10_lesser
set_option maxRecDepth 20000 in
theorem ggX10_applies_X10_bridges : GoodIn wsX10_applies wsX10_bridges := goodIn_r _ [25, 12, 73, 74, 75, 76, 77, 78, 79, 80, 81, 82, 83, 84, 85, 86, 87, 88, 89] (by decide +kernel) (by decide +kernel)
set_option maxRecDepth 20000 in
theorem gX10_applies_X10_bridges : GoodIn wsX10_applies (wsV RX10 90 RX10 yX10_bridges wsX10_bridges) := goodIn_app (goodIn_of _ (by decide +kernel)) ggX10_applies_X10_bridges
set_option maxRecDepth 20000 in
theorem ggX10_applies_X10_capOf : GoodIn wsX10_applies wsX10_capOf := goodIn_r _ [32, 12, 73, 74, 75, 76, 77, 78, 79, 80, 81, 82, 83, 84, 85, 86, 87, 88, 89] (by decide +kernel) (by decide +kernel)
set_option maxRecDepth 20000 in
theorem gX10_applies_X10_capOf : GoodIn wsX10_applies (wsV RX10 96 RX10 yX10_capOf wsX10_capOf) := goodIn_app (goodIn_of _ (by decide +kernel)) ggX10_applies_X10_capOf
set_option maxRecDepth 20000 in
theorem ggX10_applies_X10_crossings : GoodIn wsX10_applies wsX10_crossings := goodIn_r _ [36, 17, 37, 38, 39, 6, 40, 1, 12, 41, 42, 43, 44, 2, 45, 46, 47, 48, 22, 23, 24, 25, 73, 74, 75, 76, 77, 78, 79, 80, 81, 82, 83, 84, 85, 86, 87, 88, 89] (by decide +kernel) (by decide +kernel)
set_option maxRecDepth 20000 in
theorem gX10_applies_X10_crossings : GoodIn wsX10_applies (wsV RX10 124 RX10 yX10_crossings wsX10_crossings) := goodIn_app (goodIn_of _ (by decide +kernel)) ggX10_applies_X10_crossings
set_option maxRecDepth 20000 in
theorem ggX10_applies_X10_due : GoodIn wsX10_applies wsX10_due := goodIn_r _ [52, 8, 9, 10, 6, 11, 12, 53, 54, 55, 56, 17, 18, 19, 20, 21, 1, 2, 29, 30, 31, 32, 73, 74, 75, 76, 77, 78, 79, 80, 81, 82, 83, 84, 85, 86, 87, 88, 89] (by decide +kernel) (by decide +kernel)
set_option maxRecDepth 20000 in
theorem gX10_applies_X10_due : GoodIn wsX10_applies (wsV RX10 150 RX10 yX10_due wsX10_due) := goodIn_app (goodIn_of _ (by decide +kernel)) ggX10_applies_X10_due
set_option maxRecDepth 20000 in
theorem ggX10_applies_X10_greater : GoodIn wsX10_applies wsX10_greater := goodIn_r _ [59] (by decide +kernel) (by decide +kernel)
set_option maxRecDepth 20000 in
theorem gX10_applies_X10_greater : GoodIn wsX10_applies (va_wsS RX10 153 yX10_greater wsX10_greater) := goodIn_app (goodIn_of _ (by decide +kernel)) ggX10_applies_X10_greater
set_option maxRecDepth 20000 in
theorem ggX10_applies_X10_closes : GoodIn wsX10_applies wsX10_closes := goodIn_r _ [63, 12, 64, 1, 29, 30, 31, 6, 32, 22, 23, 24, 25, 65, 66, 67, 68, 17, 2, 69, 70, 71, 72, 26, 27, 28, 8, 9, 10, 11, 3, 4, 5, 7, 13, 14, 15, 16, 18, 19, 20, 21, 73, 74, 75, 76, 77, 78, 79, 80, 81, 82, 83, 84, 85, 86, 87, 88, 89] (by decide +kernel) (by decide +kernel)
set_option maxRecDepth 20000 in
theorem gX10_applies_X10_closes : GoodIn wsX10_applies (wsV RX10 156 RX10 yX10_closes wsX10_closes) := goodIn_app (goodIn_of _ (by decide +kernel)) ggX10_applies_X10_closes
theorem dX10_applies_0 : decode cX10_applies 0 = .ok (.aload_n 0, 1) := by decide +kernel
theorem dX10_applies_1 : decode cX10_applies 1 = .ok (.aload_n 0, 1) := by decide +kernel
theorem dX10_applies_2 : decode cX10_applies 2 = .ok (.getfield 20, 3) := by decide +kernel
theorem dX10_applies_5 : decode cX10_applies 5 = .ok (.iload_n 2, 1) := by decide +kernel
theorem dX10_applies_6 : decode cX10_applies 6 = .ok (.iaload, 1) := by decide +kernel
theorem dX10_applies_7 : decode cX10_applies 7 = .ok (.invokevirtual 112, 3) := by decide +kernel
theorem dX10_applies_10 : decode cX10_applies 10 = .ok (.aload_n 0, 1) := by decide +kernel
theorem dX10_applies_11 : decode cX10_applies 11 = .ok (.aload_n 0, 1) := by decide +kernel
theorem dX10_applies_12 : decode cX10_applies 12 = .ok (.getfield 23, 3) := by decide +kernel
theorem dX10_applies_15 : decode cX10_applies 15 = .ok (.iload_n 2, 1) := by decide +kernel
theorem dX10_applies_16 : decode cX10_applies 16 = .ok (.iaload, 1) := by decide +kernel
theorem dX10_applies_17 : decode cX10_applies 17 = .ok (.invokevirtual 112, 3) := by decide +kernel
theorem dX10_applies_20 : decode cX10_applies 20 = .ok (.invokestatic 102, 3) := by decide +kernel
theorem dX10_applies_23 : decode cX10_applies 23 = .ok (.istore_n 3, 1) := by decide +kernel
theorem dX10_applies_24 : decode cX10_applies 24 = .ok (.iload_n 1, 1) := by decide +kernel
theorem dX10_applies_25 : decode cX10_applies 25 = .ok (.tableswitch 118 1 3 #[27, 58, 79], 27) := by decide +kernel
theorem dX10_applies_52 : decode cX10_applies 52 = .ok (.aload_n 0, 1) := by decide +kernel
theorem dX10_applies_53 : decode cX10_applies 53 = .ok (.iload_n 2, 1) := by decide +kernel
theorem dX10_applies_54 : decode cX10_applies 54 = .ok (.invokevirtual 90, 3) := by decide +kernel
theorem dX10_applies_57 : decode cX10_applies 57 = .ok (.ifCond .ne 24, 3) := by decide +kernel
theorem dX10_applies_60 : decode cX10_applies 60 = .ok (.aload_n 0, 1) := by decide +kernel
theorem dX10_applies_61 : decode cX10_applies 61 = .ok (.iload_n 2, 1) := by decide +kernel
theorem dX10_applies_62 : decode cX10_applies 62 = .ok (.invokevirtual 96, 3) := by decide +kernel
theorem dX10_applies_65 : decode cX10_applies 65 = .ok (.ifCond .le 16, 3) := by decide +kernel
theorem dX10_applies_68 : decode cX10_applies 68 = .ok (.aload_n 0, 1) := by decide +kernel
theorem dX10_applies_69 : decode cX10_applies 69 = .ok (.iload_n 2, 1) := by decide +kernel
theorem dX10_applies_70 : decode cX10_applies 70 = .ok (.iconst 1, 1) := by decide +kernel
theorem dX10_applies_71 : decode cX10_applies 71 = .ok (.invokevirtual 124, 3) := by decide +kernel
theorem dX10_applies_74 : decode cX10_applies 74 = .ok (.ifCond .le 7, 3) := by decide +kernel
theorem dX10_applies_77 : decode cX10_applies 77 = .ok (.iconst 1, 1) := by decide +kernel
theorem dX10_applies_78 : decode cX10_applies 78 = .ok (.goto 4, 3) := by decide +kernel
theorem dX10_applies_81 : decode cX10_applies 81 = .ok (.iconst 0, 1) := by decide +kernel
theorem dX10_applies_82 : decode cX10_applies 82 = .ok (.ireturn, 1) := by decide +kernel
theorem dX10_applies_83 : decode cX10_applies 83 = .ok (.aload_n 0, 1) := by decide +kernel
theorem dX10_applies_84 : decode cX10_applies 84 = .ok (.iload_n 2, 1) := by decide +kernel
theorem dX10_applies_85 : decode cX10_applies 85 = .ok (.invokevirtual 96, 3) := by decide +kernel
theorem dX10_applies_88 : decode cX10_applies 88 = .ok (.aload_n 0, 1) := by decide +kernel
theorem dX10_applies_89 : decode cX10_applies 89 = .ok (.iload_n 2, 1) := by decide +kernel
theorem dX10_applies_90 : decode cX10_applies 90 = .ok (.invokevirtual 90, 3) := by decide +kernel
theorem dX10_applies_93 : decode cX10_applies 93 = .ok (.iload_n 3, 1) := by decide +kernel
theorem dX10_applies_94 : decode cX10_applies 94 = .ok (.iadd, 1) := by decide +kernel
theorem dX10_applies_95 : decode cX10_applies 95 = .ok (.if_icmp .le 7, 3) := by decide +kernel
theorem dX10_applies_98 : decode cX10_applies 98 = .ok (.iconst 1, 1) := by decide +kernel
theorem dX10_applies_99 : decode cX10_applies 99 = .ok (.goto 4, 3) := by decide +kernel
theorem dX10_applies_102 : decode cX10_applies 102 = .ok (.iconst 0, 1) := by decide +kernel
theorem dX10_applies_103 : decode cX10_applies 103 = .ok (.ireturn, 1) := by decide +kernel
theorem dX10_applies_104 : decode cX10_applies 104 = .ok (.aload_n 0, 1) := by decide +kernel
theorem dX10_applies_105 : decode cX10_applies 105 = .ok (.iload_n 2, 1) := by decide +kernel
theorem dX10_applies_106 : decode cX10_applies 106 = .ok (.invokevirtual 90, 3) := by decide +kernel
theorem dX10_applies_109 : decode cX10_applies 109 = .ok (.aload_n 0, 1) := by decide +kernel
theorem dX10_applies_110 : decode cX10_applies 110 = .ok (.iload_n 2, 1) := by decide +kernel
theorem dX10_applies_111 : decode cX10_applies 111 = .ok (.aload_n 0, 1) := by decide +kernel
theorem dX10_applies_112 : decode cX10_applies 112 = .ok (.getfield 20, 3) := by decide +kernel
theorem dX10_applies_115 : decode cX10_applies 115 = .ok (.iload_n 2, 1) := by decide +kernel
theorem dX10_applies_116 : decode cX10_applies 116 = .ok (.iaload, 1) := by decide +kernel
theorem dX10_applies_117 : decode cX10_applies 117 = .ok (.invokevirtual 150, 3) := by decide +kernel
theorem dX10_applies_120 : decode cX10_applies 120 = .ok (.aload_n 0, 1) := by decide +kernel
theorem dX10_applies_121 : decode cX10_applies 121 = .ok (.iload_n 2, 1) := by decide +kernel
theorem dX10_applies_122 : decode cX10_applies 122 = .ok (.aload_n 0, 1) := by decide +kernel
theorem dX10_applies_123 : decode cX10_applies 123 = .ok (.getfield 23, 3) := by decide +kernel
theorem dX10_applies_126 : decode cX10_applies 126 = .ok (.iload_n 2, 1) := by decide +kernel
theorem dX10_applies_127 : decode cX10_applies 127 = .ok (.iaload, 1) := by decide +kernel
theorem dX10_applies_128 : decode cX10_applies 128 = .ok (.invokevirtual 150, 3) := by decide +kernel
theorem dX10_applies_131 : decode cX10_applies 131 = .ok (.invokestatic 153, 3) := by decide +kernel
theorem dX10_applies_134 : decode cX10_applies 134 = .ok (.if_icmp .ge 7, 3) := by decide +kernel
theorem dX10_applies_137 : decode cX10_applies 137 = .ok (.iconst 1, 1) := by decide +kernel
theorem dX10_applies_138 : decode cX10_applies 138 = .ok (.goto 4, 3) := by decide +kernel
theorem dX10_applies_141 : decode cX10_applies 141 = .ok (.iconst 0, 1) := by decide +kernel
theorem dX10_applies_142 : decode cX10_applies 142 = .ok (.ireturn, 1) := by decide +kernel
theorem dX10_applies_143 : decode cX10_applies 143 = .ok (.aload_n 0, 1) := by decide +kernel
theorem dX10_applies_144 : decode cX10_applies 144 = .ok (.iload_n 2, 1) := by decide +kernel
theorem dX10_applies_145 : decode cX10_applies 145 = .ok (.invokevirtual 156, 3) := by decide +kernel
theorem dX10_applies_148 : decode cX10_applies 148 = .ok (.ireturn, 1) := by decide +kernel
set_option maxRecDepth 20000 in
theorem ggX10_next_X10_isBroken : GoodIn wsX10_next wsX10_isBroken := goodIn_r _ [6, 7, 8, 9, 5, 10, 11, 12, 13, 14, 15, 16, 17, 18, 19, 1, 20, 21, 22, 23, 24, 25, 26, 27, 28, 29, 30, 31, 32, 33, 34, 35, 36, 37, 38, 39, 40, 41, 81, 82, 83, 84, 85, 86, 87, 88, 89, 90, 91, 92, 93, 94, 95, 96, 97] (by decide +kernel) (by decide +kernel)
set_option maxRecDepth 20000 in
theorem gX10_next_X10_isBroken : GoodIn wsX10_next (wsV RX10 144 RX10 yX10_isBroken wsX10_isBroken) := goodIn_app (goodIn_of _ (by decide +kernel)) ggX10_next_X10_isBroken
set_option maxRecDepth 20000 in
theorem ggX10_next_X10_applies : GoodIn wsX10_next wsX10_applies := goodIn_r _ [45, 24, 25, 30, 31, 32, 5, 33, 12, 13, 14, 15, 11, 34, 35, 36, 37, 1, 20, 21, 22, 23, 38, 39, 40, 41, 46, 47, 48, 26, 27, 28, 29, 49, 50, 51, 52, 53, 54, 55, 56, 57, 58, 59, 60, 61, 62, 63, 64, 65, 66, 67, 68, 16, 17, 18, 19, 69, 70, 71, 72, 73, 74, 75, 76, 77, 78, 79, 80, 7, 8, 9, 10, 81, 82, 83, 84, 85, 86, 87, 88, 89, 90, 91, 92, 93, 94, 95, 96, 97] (by decide +kernel) (by decide +kernel)
set_option maxRecDepth 20000 in
theorem gX10_next_X10_applies : GoodIn wsX10_next (wsV RX10 159 RX10 yX10_applies wsX10_applies) := goodIn_app (goodIn_of _ (by decide +kernel)) ggX10_next_X10_applies
theorem dX10_next_0 : decode cX10_next 0 = .ok (.aload_n 0, 1) := by decide +kernel
theorem dX10_next_1 : decode cX10_next 1 = .ok (.invokevirtual 144, 3) := by decide +kernel
theorem dX10_next_4 : decode cX10_next 4 = .ok (.ifCond .eq 6, 3) := by decide +kernel
theorem dX10_next_7 : decode cX10_next 7 = .ok (.bipush (-2), 2) := by decide +kernel
theorem dX10_next_9 : decode cX10_next 9 = .ok (.ireturn, 1) := by decide +kernel
theorem dX10_next_10 : decode cX10_next 10 = .ok (.iconst 1, 1) := by decide +kernel
theorem dX10_next_11 : decode cX10_next 11 = .ok (.istore_n 1, 1) := by decide +kernel
theorem dX10_next_12 : decode cX10_next 12 = .ok (.iload_n 1, 1) := by decide +kernel
theorem dX10_next_13 : decode cX10_next 13 = .ok (.iconst 4, 1) := by decide +kernel
theorem dX10_next_14 : decode cX10_next 14 = .ok (.if_icmp .gt 41, 3) := by decide +kernel
theorem dX10_next_17 : decode cX10_next 17 = .ok (.iconst 0, 1) := by decide +kernel
theorem dX10_next_18 : decode cX10_next 18 = .ok (.istore_n 2, 1) := by decide +kernel
theorem dX10_next_19 : decode cX10_next 19 = .ok (.iload_n 2, 1) := by decide +kernel
theorem dX10_next_20 : decode cX10_next 20 = .ok (.aload_n 0, 1) := by decide +kernel
theorem dX10_next_21 : decode cX10_next 21 = .ok (.getfield 54, 3) := by decide +kernel
theorem dX10_next_24 : decode cX10_next 24 = .ok (.if_icmp .ge 25, 3) := by decide +kernel
theorem dX10_next_27 : decode cX10_next 27 = .ok (.aload_n 0, 1) := by decide +kernel
theorem dX10_next_28 : decode cX10_next 28 = .ok (.iload_n 1, 1) := by decide +kernel
theorem dX10_next_29 : decode cX10_next 29 = .ok (.iload_n 2, 1) := by decide +kernel
theorem dX10_next_30 : decode cX10_next 30 = .ok (.invokevirtual 159, 3) := by decide +kernel
theorem dX10_next_33 : decode cX10_next 33 = .ok (.ifCond .eq 10, 3) := by decide +kernel
theorem dX10_next_36 : decode cX10_next 36 = .ok (.bipush 100, 2) := by decide +kernel
theorem dX10_next_38 : decode cX10_next 38 = .ok (.iload_n 1, 1) := by decide +kernel
theorem dX10_next_39 : decode cX10_next 39 = .ok (.imul, 1) := by decide +kernel
theorem dX10_next_40 : decode cX10_next 40 = .ok (.iload_n 2, 1) := by decide +kernel
theorem dX10_next_41 : decode cX10_next 41 = .ok (.iadd, 1) := by decide +kernel
theorem dX10_next_42 : decode cX10_next 42 = .ok (.ireturn, 1) := by decide +kernel
theorem dX10_next_43 : decode cX10_next 43 = .ok (.iinc 2 1, 3) := by decide +kernel
theorem dX10_next_46 : decode cX10_next 46 = .ok (.goto (-27), 3) := by decide +kernel
theorem dX10_next_49 : decode cX10_next 49 = .ok (.iinc 1 1, 3) := by decide +kernel
theorem dX10_next_52 : decode cX10_next 52 = .ok (.goto (-40), 3) := by decide +kernel
theorem dX10_next_55 : decode cX10_next 55 = .ok (.bipush (-4), 2) := by decide +kernel
theorem dX10_next_57 : decode cX10_next 57 = .ok (.ireturn, 1) := by decide +kernel
set_option maxRecDepth 20000 in
theorem ggX10_makes_X10_bridges : GoodIn wsX10_makes wsX10_bridges := goodIn_r _ [8, 1, 44, 45, 46, 47, 48, 49, 50, 51, 52, 53, 54, 55, 56, 57, 58, 59, 60] (by decide +kernel) (by decide +kernel)
set_option maxRecDepth 20000 in
theorem gX10_makes_X10_bridges : GoodIn wsX10_makes (wsV RX10 90 RX10 yX10_bridges wsX10_bridges) := goodIn_app (goodIn_of _ (by decide +kernel)) ggX10_makes_X10_bridges
set_option maxRecDepth 20000 in
theorem ggX10_makes_X10_lacks : GoodIn wsX10_makes wsX10_lacks := goodIn_r _ [12, 13, 14, 15, 7, 16, 1, 17, 18, 19, 20, 21, 22, 23, 24, 25, 2, 3, 4, 5, 6, 8, 44, 45, 46, 47, 48, 49, 50, 51, 52, 53, 54, 55, 56, 57, 58, 59, 60] (by decide +kernel) (by decide +kernel)
set_option maxRecDepth 20000 in
theorem gX10_makes_X10_lacks : GoodIn wsX10_makes (wsV RX10 112 RX10 yX10_lacks wsX10_lacks) := goodIn_app (goodIn_of _ (by decide +kernel)) ggX10_makes_X10_lacks
set_option maxRecDepth 20000 in
theorem ggX10_makes_X10_lesser : GoodIn wsX10_makes wsX10_lesser := goodIn_r _ [28] (by decide +kernel) (by decide +kernel)
set_option maxRecDepth 20000 in
theorem gX10_makes_X10_lesser : GoodIn wsX10_makes (va_wsS RX10 102 yX10_lesser wsX10_lesser) := goodIn_app (goodIn_of _ (by decide +kernel)) ggX10_makes_X10_lesser
set_option maxRecDepth 20000 in
theorem ggX10_makes_X10_due : GoodIn wsX10_makes wsX10_due := goodIn_r _ [32, 13, 14, 15, 7, 16, 1, 33, 34, 35, 36, 21, 22, 23, 24, 25, 2, 3, 37, 38, 39, 40, 44, 45, 46, 47, 48, 49, 50, 51, 52, 53, 54, 55, 56, 57, 58, 59, 60] (by decide +kernel) (by decide +kernel)
set_option maxRecDepth 20000 in
theorem gX10_makes_X10_due : GoodIn wsX10_makes (wsV RX10 150 RX10 yX10_due wsX10_due) := goodIn_app (goodIn_of _ (by decide +kernel)) ggX10_makes_X10_due
set_option maxRecDepth 20000 in
theorem ggX10_makes_X10_greater : GoodIn wsX10_makes wsX10_greater := goodIn_r _ [43] (by decide +kernel) (by decide +kernel)
set_option maxRecDepth 20000 in
theorem gX10_makes_X10_greater : GoodIn wsX10_makes (va_wsS RX10 153 yX10_greater wsX10_greater) := goodIn_app (goodIn_of _ (by decide +kernel)) ggX10_makes_X10_greater
theorem dX10_makes_0 : decode cX10_makes 0 = .ok (.iload_n 1, 1) := by decide +kernel
theorem dX10_makes_1 : decode cX10_makes 1 = .ok (.bipush 100, 2) := by decide +kernel
theorem dX10_makes_3 : decode cX10_makes 3 = .ok (.idiv, 1) := by decide +kernel
theorem dX10_makes_4 : decode cX10_makes 4 = .ok (.istore_n 2, 1) := by decide +kernel
theorem dX10_makes_5 : decode cX10_makes 5 = .ok (.iload_n 1, 1) := by decide +kernel
theorem dX10_makes_6 : decode cX10_makes 6 = .ok (.bipush 100, 2) := by decide +kernel
theorem dX10_makes_8 : decode cX10_makes 8 = .ok (.irem, 1) := by decide +kernel
theorem dX10_makes_9 : decode cX10_makes 9 = .ok (.istore_n 3, 1) := by decide +kernel
theorem dX10_makes_10 : decode cX10_makes 10 = .ok (.iload_n 2, 1) := by decide +kernel
theorem dX10_makes_11 : decode cX10_makes 11 = .ok (.tableswitch 119 1 3 #[25, 39, 81], 25) := by decide +kernel
theorem dX10_makes_36 : decode cX10_makes 36 = .ok (.aload_n 0, 1) := by decide +kernel
theorem dX10_makes_37 : decode cX10_makes 37 = .ok (.getfield 7, 3) := by decide +kernel
theorem dX10_makes_40 : decode cX10_makes 40 = .ok (.sipush 196, 3) := by decide +kernel
theorem dX10_makes_43 : decode cX10_makes 43 = .ok (.iload_n 3, 1) := by decide +kernel
theorem dX10_makes_44 : decode cX10_makes 44 = .ok (.iadd, 1) := by decide +kernel
theorem dX10_makes_45 : decode cX10_makes 45 = .ok (.iconst 0, 1) := by decide +kernel
theorem dX10_makes_46 : decode cX10_makes 46 = .ok (.iastore, 1) := by decide +kernel
theorem dX10_makes_47 : decode cX10_makes 47 = .ok (.goto 97, 3) := by decide +kernel
theorem dX10_makes_50 : decode cX10_makes 50 = .ok (.aload_n 0, 1) := by decide +kernel
theorem dX10_makes_51 : decode cX10_makes 51 = .ok (.getfield 7, 3) := by decide +kernel
theorem dX10_makes_54 : decode cX10_makes 54 = .ok (.sipush 196, 3) := by decide +kernel
theorem dX10_makes_57 : decode cX10_makes 57 = .ok (.iload_n 3, 1) := by decide +kernel
theorem dX10_makes_58 : decode cX10_makes 58 = .ok (.iadd, 1) := by decide +kernel
theorem dX10_makes_59 : decode cX10_makes 59 = .ok (.aload_n 0, 1) := by decide +kernel
theorem dX10_makes_60 : decode cX10_makes 60 = .ok (.iload_n 3, 1) := by decide +kernel
theorem dX10_makes_61 : decode cX10_makes 61 = .ok (.invokevirtual 90, 3) := by decide +kernel
theorem dX10_makes_64 : decode cX10_makes 64 = .ok (.aload_n 0, 1) := by decide +kernel
theorem dX10_makes_65 : decode cX10_makes 65 = .ok (.aload_n 0, 1) := by decide +kernel
theorem dX10_makes_66 : decode cX10_makes 66 = .ok (.getfield 20, 3) := by decide +kernel
theorem dX10_makes_69 : decode cX10_makes 69 = .ok (.iload_n 3, 1) := by decide +kernel
theorem dX10_makes_70 : decode cX10_makes 70 = .ok (.iaload, 1) := by decide +kernel
theorem dX10_makes_71 : decode cX10_makes 71 = .ok (.invokevirtual 112, 3) := by decide +kernel
theorem dX10_makes_74 : decode cX10_makes 74 = .ok (.aload_n 0, 1) := by decide +kernel
theorem dX10_makes_75 : decode cX10_makes 75 = .ok (.aload_n 0, 1) := by decide +kernel
theorem dX10_makes_76 : decode cX10_makes 76 = .ok (.getfield 23, 3) := by decide +kernel
theorem dX10_makes_79 : decode cX10_makes 79 = .ok (.iload_n 3, 1) := by decide +kernel
theorem dX10_makes_80 : decode cX10_makes 80 = .ok (.iaload, 1) := by decide +kernel
theorem dX10_makes_81 : decode cX10_makes 81 = .ok (.invokevirtual 112, 3) := by decide +kernel
theorem dX10_makes_84 : decode cX10_makes 84 = .ok (.invokestatic 102, 3) := by decide +kernel
theorem dX10_makes_87 : decode cX10_makes 87 = .ok (.iadd, 1) := by decide +kernel
theorem dX10_makes_88 : decode cX10_makes 88 = .ok (.iastore, 1) := by decide +kernel
theorem dX10_makes_89 : decode cX10_makes 89 = .ok (.goto 55, 3) := by decide +kernel
theorem dX10_makes_92 : decode cX10_makes 92 = .ok (.aload_n 0, 1) := by decide +kernel
theorem dX10_makes_93 : decode cX10_makes 93 = .ok (.getfield 7, 3) := by decide +kernel
theorem dX10_makes_96 : decode cX10_makes 96 = .ok (.sipush 148, 3) := by decide +kernel
theorem dX10_makes_99 : decode cX10_makes 99 = .ok (.iload_n 3, 1) := by decide +kernel
theorem dX10_makes_100 : decode cX10_makes 100 = .ok (.iadd, 1) := by decide +kernel
theorem dX10_makes_101 : decode cX10_makes 101 = .ok (.aload_n 0, 1) := by decide +kernel
theorem dX10_makes_102 : decode cX10_makes 102 = .ok (.iload_n 3, 1) := by decide +kernel
theorem dX10_makes_103 : decode cX10_makes 103 = .ok (.aload_n 0, 1) := by decide +kernel
theorem dX10_makes_104 : decode cX10_makes 104 = .ok (.getfield 20, 3) := by decide +kernel
theorem dX10_makes_107 : decode cX10_makes 107 = .ok (.iload_n 3, 1) := by decide +kernel
theorem dX10_makes_108 : decode cX10_makes 108 = .ok (.iaload, 1) := by decide +kernel
theorem dX10_makes_109 : decode cX10_makes 109 = .ok (.invokevirtual 150, 3) := by decide +kernel
theorem dX10_makes_112 : decode cX10_makes 112 = .ok (.aload_n 0, 1) := by decide +kernel
theorem dX10_makes_113 : decode cX10_makes 113 = .ok (.iload_n 3, 1) := by decide +kernel
theorem dX10_makes_114 : decode cX10_makes 114 = .ok (.aload_n 0, 1) := by decide +kernel
theorem dX10_makes_115 : decode cX10_makes 115 = .ok (.getfield 23, 3) := by decide +kernel
theorem dX10_makes_118 : decode cX10_makes 118 = .ok (.iload_n 3, 1) := by decide +kernel
theorem dX10_makes_119 : decode cX10_makes 119 = .ok (.iaload, 1) := by decide +kernel
theorem dX10_makes_120 : decode cX10_makes 120 = .ok (.invokevirtual 150, 3) := by decide +kernel
theorem dX10_makes_123 : decode cX10_makes 123 = .ok (.invokestatic 153, 3) := by decide +kernel
theorem dX10_makes_126 : decode cX10_makes 126 = .ok (.iastore, 1) := by decide +kernel
theorem dX10_makes_127 : decode cX10_makes 127 = .ok (.goto 17, 3) := by decide +kernel
theorem dX10_makes_130 : decode cX10_makes 130 = .ok (.aload_n 0, 1) := by decide +kernel
theorem dX10_makes_131 : decode cX10_makes 131 = .ok (.getfield 7, 3) := by decide +kernel
theorem dX10_makes_134 : decode cX10_makes 134 = .ok (.sipush 196, 3) := by decide +kernel
theorem dX10_makes_137 : decode cX10_makes 137 = .ok (.iload_n 3, 1) := by decide +kernel
theorem dX10_makes_138 : decode cX10_makes 138 = .ok (.iadd, 1) := by decide +kernel
theorem dX10_makes_139 : decode cX10_makes 139 = .ok (.dup2, 1) := by decide +kernel
theorem dX10_makes_140 : decode cX10_makes 140 = .ok (.iaload, 1) := by decide +kernel
theorem dX10_makes_141 : decode cX10_makes 141 = .ok (.iconst 1, 1) := by decide +kernel
theorem dX10_makes_142 : decode cX10_makes 142 = .ok (.isub, 1) := by decide +kernel
theorem dX10_makes_143 : decode cX10_makes 143 = .ok (.iastore, 1) := by decide +kernel
theorem dX10_makes_144 : decode cX10_makes 144 = .ok (.aload_n 0, 1) := by decide +kernel
theorem dX10_makes_145 : decode cX10_makes 145 = .ok (.getfield 7, 3) := by decide +kernel
theorem dX10_makes_148 : decode cX10_makes 148 = .ok (.iconst 2, 1) := by decide +kernel
theorem dX10_makes_149 : decode cX10_makes 149 = .ok (.aload_n 0, 1) := by decide +kernel
theorem dX10_makes_150 : decode cX10_makes 150 = .ok (.getfield 7, 3) := by decide +kernel
theorem dX10_makes_153 : decode cX10_makes 153 = .ok (.iconst 2, 1) := by decide +kernel
theorem dX10_makes_154 : decode cX10_makes 154 = .ok (.iaload, 1) := by decide +kernel
theorem dX10_makes_155 : decode cX10_makes 155 = .ok (.iload_n 2, 1) := by decide +kernel
theorem dX10_makes_156 : decode cX10_makes 156 = .ok (.invokestatic 153, 3) := by decide +kernel
theorem dX10_makes_159 : decode cX10_makes 159 = .ok (.iastore, 1) := by decide +kernel
theorem dX10_makes_160 : decode cX10_makes 160 = .ok (.aload_n 0, 1) := by decide +kernel
theorem dX10_makes_161 : decode cX10_makes 161 = .ok (.getfield 7, 3) := by decide +kernel
theorem dX10_makes_164 : decode cX10_makes 164 = .ok (.iconst 3, 1) := by decide +kernel
theorem dX10_makes_165 : decode cX10_makes 165 = .ok (.dup2, 1) := by decide +kernel
theorem dX10_makes_166 : decode cX10_makes 166 = .ok (.iaload, 1) := by decide +kernel
theorem dX10_makes_167 : decode cX10_makes 167 = .ok (.iconst 1, 1) := by decide +kernel
theorem dX10_makes_168 : decode cX10_makes 168 = .ok (.iadd, 1) := by decide +kernel
theorem dX10_makes_169 : decode cX10_makes 169 = .ok (.iastore, 1) := by decide +kernel
theorem dX10_makes_170 : decode cX10_makes 170 = .ok (.return_, 1) := by decide +kernel
set_option maxRecDepth 20000 in
theorem ggX10_step_X10_next : GoodIn wsX10_step wsX10_next := goodIn_r _ [5, 6, 7, 8, 9, 4, 10, 11, 12, 13, 14, 15, 16, 17, 18, 19, 20, 21, 22, 23, 24, 25, 26, 27, 28, 29, 30, 31, 32, 33, 34, 35, 36, 37, 38, 39, 40, 41, 42, 43, 44, 45, 46, 47, 48, 49, 50, 51, 52, 53, 54, 55, 56, 57, 58, 59, 60, 61, 62, 63, 64, 65, 66, 67, 68, 69, 70, 71, 72, 73, 74, 75, 76, 77, 78, 79, 80, 81, 82, 83, 84, 95, 96, 97, 98, 99, 100, 101, 102, 103, 104, 105, 106, 107, 108, 109, 110, 111] (by decide +kernel) (by decide +kernel)
set_option maxRecDepth 20000 in
theorem gX10_step_X10_next : GoodIn wsX10_step (wsV RX10 162 RX10 yX10_next wsX10_next) := goodIn_app (goodIn_of _ (by decide +kernel)) ggX10_step_X10_next
set_option maxRecDepth 20000 in
theorem ggX10_step_X10_notes : GoodIn wsX10_step wsX10_notes := goodIn_r _ [88, 89, 90, 15, 95, 96, 97, 98, 99, 100, 101, 102, 103, 104, 105, 106, 107, 108, 109, 110, 111] (by decide +kernel) (by decide +kernel)
set_option maxRecDepth 20000 in
theorem gX10_step_X10_notes : GoodIn wsX10_step (wsV RX10 64 RX10 yX10_notes wsX10_notes) := goodIn_app (goodIn_of _ (by decide +kernel)) ggX10_step_X10_notes
set_option maxRecDepth 20000 in
theorem ggX10_step_X10_makes : GoodIn wsX10_step wsX10_makes := goodIn_r _ [94, 15, 28, 29, 42, 43, 44, 4, 45, 34, 35, 36, 37, 16, 17, 18, 19, 38, 39, 40, 41, 6, 24, 25, 26, 27, 50, 51, 52, 69, 70, 71, 72, 20, 21, 22, 23, 30, 31, 32, 33, 73, 74, 75, 95, 96, 97, 98, 99, 100, 101, 102, 103, 104, 105, 106, 107, 108, 109, 110, 111] (by decide +kernel) (by decide +kernel)
set_option maxRecDepth 20000 in
theorem gX10_step_X10_makes : GoodIn wsX10_step (wsV RX10 165 RX10 yX10_makes wsX10_makes) := goodIn_app (goodIn_of _ (by decide +kernel)) ggX10_step_X10_makes
theorem dX10_step_0 : decode cX10_step 0 = .ok (.aload_n 0, 1) := by decide +kernel
theorem dX10_step_1 : decode cX10_step 1 = .ok (.invokevirtual 162, 3) := by decide +kernel
theorem dX10_step_4 : decode cX10_step 4 = .ok (.istore_n 1, 1) := by decide +kernel
theorem dX10_step_5 : decode cX10_step 5 = .ok (.iload_n 1, 1) := by decide +kernel
theorem dX10_step_6 : decode cX10_step 6 = .ok (.ifCond .lt 12, 3) := by decide +kernel
theorem dX10_step_9 : decode cX10_step 9 = .ok (.aload_n 0, 1) := by decide +kernel
theorem dX10_step_10 : decode cX10_step 10 = .ok (.invokevirtual 64, 3) := by decide +kernel
theorem dX10_step_13 : decode cX10_step 13 = .ok (.aload_n 0, 1) := by decide +kernel
theorem dX10_step_14 : decode cX10_step 14 = .ok (.iload_n 1, 1) := by decide +kernel
theorem dX10_step_15 : decode cX10_step 15 = .ok (.invokevirtual 165, 3) := by decide +kernel
theorem dX10_step_18 : decode cX10_step 18 = .ok (.iload_n 1, 1) := by decide +kernel
theorem dX10_step_19 : decode cX10_step 19 = .ok (.ireturn, 1) := by decide +kernel
set_option maxRecDepth 20000 in
theorem ggX10_hint_X10_next : GoodIn wsX10_hint wsX10_next := goodIn_r _ [5, 6, 7, 8, 9, 4, 10, 11, 12, 13, 14, 15, 16, 17, 18, 19, 20, 21, 22, 23, 24, 25, 26, 27, 28, 29, 30, 31, 32, 33, 34, 35, 36, 37, 38, 39, 40, 41, 42, 43, 44, 45, 46, 47, 48, 49, 50, 51, 52, 53, 54, 55, 56, 57, 58, 59, 60, 61, 62, 63, 64, 65, 66, 67, 68, 69, 70, 71, 72, 73, 74, 75, 76, 77, 78, 79, 80, 81, 82, 83, 84, 85, 86, 87, 88, 89, 90, 91, 92, 93, 94, 95, 96, 97, 98, 99, 100, 101] (by decide +kernel) (by decide +kernel)
set_option maxRecDepth 20000 in
theorem gX10_hint_X10_next : GoodIn wsX10_hint (wsV RX10 162 RX10 yX10_next wsX10_next) := goodIn_app (goodIn_of _ (by decide +kernel)) ggX10_hint_X10_next
theorem dX10_hint_0 : decode cX10_hint 0 = .ok (.aload_n 0, 1) := by decide +kernel
theorem dX10_hint_1 : decode cX10_hint 1 = .ok (.invokevirtual 162, 3) := by decide +kernel
theorem dX10_hint_4 : decode cX10_hint 4 = .ok (.ireturn, 1) := by decide +kernel
set_option maxRecDepth 20000 in
theorem ggX10_steps_X10_in : GoodIn wsX10_steps wsX10_in := goodIn_r _ [4] (by decide +kernel) (by decide +kernel)
set_option maxRecDepth 20000 in
theorem gX10_steps_X10_in : GoodIn wsX10_steps (va_wsS RX10 46 yX10_in wsX10_in) := goodIn_app (goodIn_of _ (by decide +kernel)) ggX10_steps_X10_in
set_option maxRecDepth 20000 in
theorem ggX10_steps_X10_notes : GoodIn wsX10_steps wsX10_notes := goodIn_r _ [8, 9, 10, 11, 98, 99, 100, 101, 102, 103, 104, 105, 106, 107, 108, 109, 110, 111, 112, 113, 114] (by decide +kernel) (by decide +kernel)
set_option maxRecDepth 20000 in
theorem gX10_steps_X10_notes : GoodIn wsX10_steps (wsV RX10 64 RX10 yX10_notes wsX10_notes) := goodIn_app (goodIn_of _ (by decide +kernel)) ggX10_steps_X10_notes
set_option maxRecDepth 20000 in
theorem ggX10_steps_X10_next : GoodIn wsX10_steps wsX10_next := goodIn_r _ [15, 16, 17, 18, 19, 3, 20, 21, 22, 23, 24, 11, 25, 26, 27, 28, 29, 30, 31, 32, 33, 34, 35, 36, 37, 38, 39, 40, 41, 42, 43, 44, 45, 46, 47, 48, 49, 50, 51, 52, 53, 54, 55, 56, 57, 58, 59, 60, 61, 62, 63, 64, 65, 66, 67, 68, 69, 70, 71, 72, 73, 74, 75, 76, 77, 78, 79, 80, 81, 82, 83, 84, 85, 86, 87, 88, 89, 90, 91, 92, 93, 98, 99, 100, 101, 102, 103, 104, 105, 106, 107, 108, 109, 110, 111, 112, 113, 114] (by decide +kernel) (by decide +kernel)
set_option maxRecDepth 20000 in
theorem gX10_steps_X10_next : GoodIn wsX10_steps (wsV RX10 162 RX10 yX10_next wsX10_next) := goodIn_app (goodIn_of _ (by decide +kernel)) ggX10_steps_X10_next
set_option maxRecDepth 20000 in
theorem ggX10_steps_X10_makes : GoodIn wsX10_steps wsX10_makes := goodIn_r _ [97, 11, 37, 38, 51, 52, 53, 3, 54, 43, 44, 45, 46, 25, 26, 27, 28, 47, 48, 49, 50, 16, 33, 34, 35, 36, 59, 60, 61, 78, 79, 80, 81, 29, 30, 31, 32, 39, 40, 41, 42, 82, 83, 84, 98, 99, 100, 101, 102, 103, 104, 105, 106, 107, 108, 109, 110, 111, 112, 113, 114] (by decide +kernel) (by decide +kernel)
set_option maxRecDepth 20000 in
theorem gX10_steps_X10_makes : GoodIn wsX10_steps (wsV RX10 165 RX10 yX10_makes wsX10_makes) := goodIn_app (goodIn_of _ (by decide +kernel)) ggX10_steps_X10_makes
theorem dX10_steps_0 : decode cX10_steps 0 = .ok (.iload_n 1, 1) := by decide +kernel
theorem dX10_steps_1 : decode cX10_steps 1 = .ok (.iconst 1, 1) := by decide +kernel
theorem dX10_steps_2 : decode cX10_steps 2 = .ok (.sipush 200, 3) := by decide +kernel
theorem dX10_steps_5 : decode cX10_steps 5 = .ok (.invokestatic 46, 3) := by decide +kernel
theorem dX10_steps_8 : decode cX10_steps 8 = .ok (.ifCond .ne 5, 3) := by decide +kernel
theorem dX10_steps_11 : decode cX10_steps 11 = .ok (.iconst (-1), 1) := by decide +kernel
theorem dX10_steps_12 : decode cX10_steps 12 = .ok (.ireturn, 1) := by decide +kernel
theorem dX10_steps_13 : decode cX10_steps 13 = .ok (.aload_n 0, 1) := by decide +kernel
theorem dX10_steps_14 : decode cX10_steps 14 = .ok (.invokevirtual 64, 3) := by decide +kernel
theorem dX10_steps_17 : decode cX10_steps 17 = .ok (.iconst 0, 1) := by decide +kernel
theorem dX10_steps_18 : decode cX10_steps 18 = .ok (.istore_n 2, 1) := by decide +kernel
theorem dX10_steps_19 : decode cX10_steps 19 = .ok (.aload_n 0, 1) := by decide +kernel
theorem dX10_steps_20 : decode cX10_steps 20 = .ok (.invokevirtual 162, 3) := by decide +kernel
theorem dX10_steps_23 : decode cX10_steps 23 = .ok (.istore_n 3, 1) := by decide +kernel
theorem dX10_steps_24 : decode cX10_steps 24 = .ok (.iload_n 3, 1) := by decide +kernel
theorem dX10_steps_25 : decode cX10_steps 25 = .ok (.ifCond .lt 24, 3) := by decide +kernel
theorem dX10_steps_28 : decode cX10_steps 28 = .ok (.iload_n 2, 1) := by decide +kernel
theorem dX10_steps_29 : decode cX10_steps 29 = .ok (.iload_n 1, 1) := by decide +kernel
theorem dX10_steps_30 : decode cX10_steps 30 = .ok (.if_icmp .ge 19, 3) := by decide +kernel
theorem dX10_steps_33 : decode cX10_steps 33 = .ok (.aload_n 0, 1) := by decide +kernel
theorem dX10_steps_34 : decode cX10_steps 34 = .ok (.iload_n 3, 1) := by decide +kernel
theorem dX10_steps_35 : decode cX10_steps 35 = .ok (.invokevirtual 165, 3) := by decide +kernel
theorem dX10_steps_38 : decode cX10_steps 38 = .ok (.iinc 2 1, 3) := by decide +kernel
theorem dX10_steps_41 : decode cX10_steps 41 = .ok (.aload_n 0, 1) := by decide +kernel
theorem dX10_steps_42 : decode cX10_steps 42 = .ok (.invokevirtual 162, 3) := by decide +kernel
theorem dX10_steps_45 : decode cX10_steps 45 = .ok (.istore_n 3, 1) := by decide +kernel
theorem dX10_steps_46 : decode cX10_steps 46 = .ok (.goto (-22), 3) := by decide +kernel
theorem dX10_steps_49 : decode cX10_steps 49 = .ok (.iload_n 2, 1) := by decide +kernel
theorem dX10_steps_50 : decode cX10_steps 50 = .ok (.ireturn, 1) := by decide +kernel
set_option maxRecDepth 20000 in
theorem ggX10_could_X10_cross : GoodIn wsX10_could wsX10_cross := goodIn_r _ [8, 2, 9, 10, 11, 12, 7, 13, 3, 14, 15, 16, 17, 31, 32, 33, 34, 35, 36, 37, 38, 39, 40, 41, 42, 43, 44, 45, 46, 47] (by decide +kernel) (by decide +kernel)
set_option maxRecDepth 20000 in
theorem gX10_could_X10_cross : GoodIn wsX10_could (wsV RX10 87 RX10 yX10_cross wsX10_cross) := goodIn_app (goodIn_of _ (by decide +kernel)) ggX10_could_X10_cross
set_option maxRecDepth 20000 in
theorem ggX10_could_X10_couldBe : GoodIn wsX10_could wsX10_couldBe := goodIn_r _ [21, 22, 1, 23, 24, 25, 7, 26, 2, 3, 27, 28, 29, 30, 9, 31, 32, 33, 34, 35, 36, 37, 38, 39, 40, 41, 42, 43, 44, 45, 46, 47] (by decide +kernel) (by decide +kernel)
set_option maxRecDepth 20000 in
theorem gX10_could_X10_couldBe : GoodIn wsX10_could (wsV RX10 169 RX10 yX10_couldBe wsX10_couldBe) := goodIn_app (goodIn_of _ (by decide +kernel)) ggX10_could_X10_couldBe
theorem dX10_could_0 : decode cX10_could 0 = .ok (.iconst 1, 1) := by decide +kernel
theorem dX10_could_1 : decode cX10_could 1 = .ok (.istore_n 2, 1) := by decide +kernel
theorem dX10_could_2 : decode cX10_could 2 = .ok (.iconst 0, 1) := by decide +kernel
theorem dX10_could_3 : decode cX10_could 3 = .ok (.istore_n 3, 1) := by decide +kernel
theorem dX10_could_4 : decode cX10_could 4 = .ok (.iload_n 3, 1) := by decide +kernel
theorem dX10_could_5 : decode cX10_could 5 = .ok (.iload_n 1, 1) := by decide +kernel
theorem dX10_could_6 : decode cX10_could 6 = .ok (.if_icmp .ge 46, 3) := by decide +kernel
theorem dX10_could_9 : decode cX10_could 9 = .ok (.iload_n 2, 1) := by decide +kernel
theorem dX10_could_10 : decode cX10_could 10 = .ok (.ifCond .eq 34, 3) := by decide +kernel
theorem dX10_could_13 : decode cX10_could 13 = .ok (.aload_n 0, 1) := by decide +kernel
theorem dX10_could_14 : decode cX10_could 14 = .ok (.getfield 29, 3) := by decide +kernel
theorem dX10_could_17 : decode cX10_could 17 = .ok (.iload_n 1, 1) := by decide +kernel
theorem dX10_could_18 : decode cX10_could 18 = .ok (.iaload, 1) := by decide +kernel
theorem dX10_could_19 : decode cX10_could 19 = .ok (.ifCond .eq 21, 3) := by decide +kernel
theorem dX10_could_22 : decode cX10_could 22 = .ok (.aload_n 0, 1) := by decide +kernel
theorem dX10_could_23 : decode cX10_could 23 = .ok (.getfield 29, 3) := by decide +kernel
theorem dX10_could_26 : decode cX10_could 26 = .ok (.iload_n 3, 1) := by decide +kernel
theorem dX10_could_27 : decode cX10_could 27 = .ok (.iaload, 1) := by decide +kernel
theorem dX10_could_28 : decode cX10_could 28 = .ok (.ifCond .eq 12, 3) := by decide +kernel
theorem dX10_could_31 : decode cX10_could 31 = .ok (.aload_n 0, 1) := by decide +kernel
theorem dX10_could_32 : decode cX10_could 32 = .ok (.iload_n 1, 1) := by decide +kernel
theorem dX10_could_33 : decode cX10_could 33 = .ok (.iload_n 3, 1) := by decide +kernel
theorem dX10_could_34 : decode cX10_could 34 = .ok (.invokevirtual 87, 3) := by decide +kernel
theorem dX10_could_37 : decode cX10_could 37 = .ok (.ifCond .ne 7, 3) := by decide +kernel
theorem dX10_could_40 : decode cX10_could 40 = .ok (.iconst 1, 1) := by decide +kernel
theorem dX10_could_41 : decode cX10_could 41 = .ok (.goto 4, 3) := by decide +kernel
theorem dX10_could_44 : decode cX10_could 44 = .ok (.iconst 0, 1) := by decide +kernel
theorem dX10_could_45 : decode cX10_could 45 = .ok (.istore_n 2, 1) := by decide +kernel
theorem dX10_could_46 : decode cX10_could 46 = .ok (.iinc 3 1, 3) := by decide +kernel
theorem dX10_could_49 : decode cX10_could 49 = .ok (.goto (-45), 3) := by decide +kernel
theorem dX10_could_52 : decode cX10_could 52 = .ok (.iload_n 2, 1) := by decide +kernel
theorem dX10_could_53 : decode cX10_could 53 = .ok (.ifCond .eq 35, 3) := by decide +kernel
theorem dX10_could_56 : decode cX10_could 56 = .ok (.aload_n 0, 1) := by decide +kernel
theorem dX10_could_57 : decode cX10_could 57 = .ok (.aload_n 0, 1) := by decide +kernel
theorem dX10_could_58 : decode cX10_could 58 = .ok (.getfield 20, 3) := by decide +kernel
theorem dX10_could_61 : decode cX10_could 61 = .ok (.iload_n 1, 1) := by decide +kernel
theorem dX10_could_62 : decode cX10_could 62 = .ok (.iaload, 1) := by decide +kernel
theorem dX10_could_63 : decode cX10_could 63 = .ok (.iload_n 1, 1) := by decide +kernel
theorem dX10_could_64 : decode cX10_could 64 = .ok (.invokevirtual 169, 3) := by decide +kernel
theorem dX10_could_67 : decode cX10_could 67 = .ok (.ifCond .eq 21, 3) := by decide +kernel
theorem dX10_could_70 : decode cX10_could 70 = .ok (.aload_n 0, 1) := by decide +kernel
theorem dX10_could_71 : decode cX10_could 71 = .ok (.aload_n 0, 1) := by decide +kernel
theorem dX10_could_72 : decode cX10_could 72 = .ok (.getfield 23, 3) := by decide +kernel
theorem dX10_could_75 : decode cX10_could 75 = .ok (.iload_n 1, 1) := by decide +kernel
theorem dX10_could_76 : decode cX10_could 76 = .ok (.iaload, 1) := by decide +kernel
theorem dX10_could_77 : decode cX10_could 77 = .ok (.iload_n 1, 1) := by decide +kernel
theorem dX10_could_78 : decode cX10_could 78 = .ok (.invokevirtual 169, 3) := by decide +kernel
theorem dX10_could_81 : decode cX10_could 81 = .ok (.ifCond .eq 7, 3) := by decide +kernel
theorem dX10_could_84 : decode cX10_could 84 = .ok (.iconst 1, 1) := by decide +kernel
theorem dX10_could_85 : decode cX10_could 85 = .ok (.goto 4, 3) := by decide +kernel
theorem dX10_could_88 : decode cX10_could 88 = .ok (.iconst 0, 1) := by decide +kernel
theorem dX10_could_89 : decode cX10_could 89 = .ok (.ireturn, 1) := by decide +kernel
set_option maxRecDepth 20000 in
theorem ggX10_couldBe_X10_isOf : GoodIn wsX10_couldBe wsX10_isOf := goodIn_r _ [7, 8, 9, 15, 16, 17, 18, 19, 20, 21, 22, 23, 24, 25, 26, 27, 28, 29, 30, 31] (by decide +kernel) (by decide +kernel)
set_option maxRecDepth 20000 in
theorem gX10_couldBe_X10_isOf : GoodIn wsX10_couldBe (wsV RX10 93 RX10 yX10_isOf wsX10_isOf) := goodIn_app (goodIn_of _ (by decide +kernel)) ggX10_couldBe_X10_isOf
set_option maxRecDepth 20000 in
theorem ggX10_couldBe_X10_number : GoodIn wsX10_couldBe wsX10_number := goodIn_r _ [13, 14, 15, 16, 17, 18, 19, 20, 21, 22, 23, 24, 25, 26, 27, 28, 29, 30, 31] (by decide +kernel) (by decide +kernel)
set_option maxRecDepth 20000 in
theorem gX10_couldBe_X10_number : GoodIn wsX10_couldBe (wsV RX10 50 RX10 yX10_number wsX10_number) := goodIn_app (goodIn_of _ (by decide +kernel)) ggX10_couldBe_X10_number
theorem dX10_couldBe_0 : decode cX10_couldBe 0 = .ok (.iconst 0, 1) := by decide +kernel
theorem dX10_couldBe_1 : decode cX10_couldBe 1 = .ok (.istore_n 3, 1) := by decide +kernel
theorem dX10_couldBe_2 : decode cX10_couldBe 2 = .ok (.iconst 0, 1) := by decide +kernel
theorem dX10_couldBe_3 : decode cX10_couldBe 3 = .ok (.istore 4, 2) := by decide +kernel
theorem dX10_couldBe_5 : decode cX10_couldBe 5 = .ok (.iconst 0, 1) := by decide +kernel
theorem dX10_couldBe_6 : decode cX10_couldBe 6 = .ok (.istore 5, 2) := by decide +kernel
theorem dX10_couldBe_8 : decode cX10_couldBe 8 = .ok (.iload 5, 2) := by decide +kernel
theorem dX10_couldBe_10 : decode cX10_couldBe 10 = .ok (.aload_n 0, 1) := by decide +kernel
theorem dX10_couldBe_11 : decode cX10_couldBe 11 = .ok (.getfield 54, 3) := by decide +kernel
theorem dX10_couldBe_14 : decode cX10_couldBe 14 = .ok (.if_icmp .ge 55, 3) := by decide +kernel
theorem dX10_couldBe_17 : decode cX10_couldBe 17 = .ok (.aload_n 0, 1) := by decide +kernel
theorem dX10_couldBe_18 : decode cX10_couldBe 18 = .ok (.iload 5, 2) := by decide +kernel
theorem dX10_couldBe_20 : decode cX10_couldBe 20 = .ok (.iload_n 1, 1) := by decide +kernel
theorem dX10_couldBe_21 : decode cX10_couldBe 21 = .ok (.invokevirtual 93, 3) := by decide +kernel
theorem dX10_couldBe_24 : decode cX10_couldBe 24 = .ok (.ifCond .eq 39, 3) := by decide +kernel
theorem dX10_couldBe_27 : decode cX10_couldBe 27 = .ok (.iload_n 3, 1) := by decide +kernel
theorem dX10_couldBe_28 : decode cX10_couldBe 28 = .ok (.iload 5, 2) := by decide +kernel
theorem dX10_couldBe_30 : decode cX10_couldBe 30 = .ok (.iload_n 2, 1) := by decide +kernel
theorem dX10_couldBe_31 : decode cX10_couldBe 31 = .ok (.if_icmp .gt 13, 3) := by decide +kernel
theorem dX10_couldBe_34 : decode cX10_couldBe 34 = .ok (.aload_n 0, 1) := by decide +kernel
theorem dX10_couldBe_35 : decode cX10_couldBe 35 = .ok (.getfield 29, 3) := by decide +kernel
theorem dX10_couldBe_38 : decode cX10_couldBe 38 = .ok (.iload 5, 2) := by decide +kernel
theorem dX10_couldBe_40 : decode cX10_couldBe 40 = .ok (.iaload, 1) := by decide +kernel
theorem dX10_couldBe_41 : decode cX10_couldBe 41 = .ok (.goto 4, 3) := by decide +kernel
theorem dX10_couldBe_44 : decode cX10_couldBe 44 = .ok (.iconst 0, 1) := by decide +kernel
theorem dX10_couldBe_45 : decode cX10_couldBe 45 = .ok (.iadd, 1) := by decide +kernel
theorem dX10_couldBe_46 : decode cX10_couldBe 46 = .ok (.istore_n 3, 1) := by decide +kernel
theorem dX10_couldBe_47 : decode cX10_couldBe 47 = .ok (.iload 4, 2) := by decide +kernel
theorem dX10_couldBe_49 : decode cX10_couldBe 49 = .ok (.iload 5, 2) := by decide +kernel
theorem dX10_couldBe_51 : decode cX10_couldBe 51 = .ok (.iload_n 2, 1) := by decide +kernel
theorem dX10_couldBe_52 : decode cX10_couldBe 52 = .ok (.if_icmp .le 7, 3) := by decide +kernel
theorem dX10_couldBe_55 : decode cX10_couldBe 55 = .ok (.iconst 2, 1) := by decide +kernel
theorem dX10_couldBe_56 : decode cX10_couldBe 56 = .ok (.goto 4, 3) := by decide +kernel
theorem dX10_couldBe_59 : decode cX10_couldBe 59 = .ok (.iconst 0, 1) := by decide +kernel
theorem dX10_couldBe_60 : decode cX10_couldBe 60 = .ok (.iadd, 1) := by decide +kernel
theorem dX10_couldBe_61 : decode cX10_couldBe 61 = .ok (.istore 4, 2) := by decide +kernel
theorem dX10_couldBe_63 : decode cX10_couldBe 63 = .ok (.iinc 5 1, 3) := by decide +kernel
theorem dX10_couldBe_66 : decode cX10_couldBe 66 = .ok (.goto (-58), 3) := by decide +kernel
theorem dX10_couldBe_69 : decode cX10_couldBe 69 = .ok (.iload_n 3, 1) := by decide +kernel
theorem dX10_couldBe_70 : decode cX10_couldBe 70 = .ok (.aload_n 0, 1) := by decide +kernel
theorem dX10_couldBe_71 : decode cX10_couldBe 71 = .ok (.iload_n 1, 1) := by decide +kernel
theorem dX10_couldBe_72 : decode cX10_couldBe 72 = .ok (.invokevirtual 50, 3) := by decide +kernel
theorem dX10_couldBe_75 : decode cX10_couldBe 75 = .ok (.if_icmp .gt 19, 3) := by decide +kernel
theorem dX10_couldBe_78 : decode cX10_couldBe 78 = .ok (.iload_n 3, 1) := by decide +kernel
theorem dX10_couldBe_79 : decode cX10_couldBe 79 = .ok (.iload 4, 2) := by decide +kernel
theorem dX10_couldBe_81 : decode cX10_couldBe 81 = .ok (.iadd, 1) := by decide +kernel
theorem dX10_couldBe_82 : decode cX10_couldBe 82 = .ok (.aload_n 0, 1) := by decide +kernel
theorem dX10_couldBe_83 : decode cX10_couldBe 83 = .ok (.iload_n 1, 1) := by decide +kernel
theorem dX10_couldBe_84 : decode cX10_couldBe 84 = .ok (.invokevirtual 50, 3) := by decide +kernel
theorem dX10_couldBe_87 : decode cX10_couldBe 87 = .ok (.if_icmp .lt 7, 3) := by decide +kernel
theorem dX10_couldBe_90 : decode cX10_couldBe 90 = .ok (.iconst 1, 1) := by decide +kernel
theorem dX10_couldBe_91 : decode cX10_couldBe 91 = .ok (.goto 4, 3) := by decide +kernel
theorem dX10_couldBe_94 : decode cX10_couldBe 94 = .ok (.iconst 0, 1) := by decide +kernel
theorem dX10_couldBe_95 : decode cX10_couldBe 95 = .ok (.ireturn, 1) := by decide +kernel
set_option maxRecDepth 20000 in
theorem ggX10_isWhole_X10_cells : GoodIn wsX10_isWhole wsX10_cells := goodIn_r _ [10, 11, 31, 32, 33, 34, 35, 36, 37, 38, 39, 40, 41, 42, 43, 44, 45, 46, 47] (by decide +kernel) (by decide +kernel)
set_option maxRecDepth 20000 in
theorem gX10_isWhole_X10_cells : GoodIn wsX10_isWhole (wsV RX10 42 RX10 yX10_cells wsX10_cells) := goodIn_app (goodIn_of _ (by decide +kernel)) ggX10_isWhole_X10_cells
set_option maxRecDepth 20000 in
theorem ggX10_isWhole_X10_number : GoodIn wsX10_isWhole wsX10_number := goodIn_r _ [15, 11, 31, 32, 33, 34, 35, 36, 37, 38, 39, 40, 41, 42, 43, 44, 45, 46, 47] (by decide +kernel) (by decide +kernel)
set_option maxRecDepth 20000 in
theorem gX10_isWhole_X10_number : GoodIn wsX10_isWhole (wsV RX10 50 RX10 yX10_number wsX10_number) := goodIn_app (goodIn_of _ (by decide +kernel)) ggX10_isWhole_X10_number
set_option maxRecDepth 20000 in
theorem ggX10_isWhole_X10_waysOf : GoodIn wsX10_isWhole wsX10_waysOf := goodIn_r _ [19, 2, 20, 21, 22, 9, 23, 3, 4, 31, 32, 33, 34, 35, 36, 37, 38, 39, 40, 41, 42, 43, 44, 45, 46, 47] (by decide +kernel) (by decide +kernel)
set_option maxRecDepth 20000 in
theorem gX10_isWhole_X10_waysOf : GoodIn wsX10_isWhole (wsV RX10 128 RX10 yX10_waysOf wsX10_waysOf) := goodIn_app (goodIn_of _ (by decide +kernel)) ggX10_isWhole_X10_waysOf
set_option maxRecDepth 20000 in
theorem ggX10_isWhole_X10_lesser : GoodIn wsX10_isWhole wsX10_lesser := goodIn_r _ [26] (by decide +kernel) (by decide +kernel)
set_option maxRecDepth 20000 in
theorem gX10_isWhole_X10_lesser : GoodIn wsX10_isWhole (va_wsS RX10 102 yX10_lesser wsX10_lesser) := goodIn_app (goodIn_of _ (by decide +kernel)) ggX10_isWhole_X10_lesser
set_option maxRecDepth 20000 in
theorem ggX10_isWhole_X10_groupsBelow : GoodIn wsX10_isWhole wsX10_groupsBelow := goodIn_r _ [30, 1, 12, 13, 14, 9, 15, 11, 31, 32, 33, 34, 35, 36, 37, 38, 39, 40, 41, 42, 43, 44, 45, 46, 47] (by decide +kernel) (by decide +kernel)
set_option maxRecDepth 20000 in
theorem gX10_isWhole_X10_groupsBelow : GoodIn wsX10_isWhole (wsV RX10 109 RX10 yX10_groupsBelow wsX10_groupsBelow) := goodIn_app (goodIn_of _ (by decide +kernel)) ggX10_isWhole_X10_groupsBelow
theorem dX10_isWhole_0 : decode cX10_isWhole 0 = .ok (.iconst 1, 1) := by decide +kernel
theorem dX10_isWhole_1 : decode cX10_isWhole 1 = .ok (.istore_n 1, 1) := by decide +kernel
theorem dX10_isWhole_2 : decode cX10_isWhole 2 = .ok (.iconst 0, 1) := by decide +kernel
theorem dX10_isWhole_3 : decode cX10_isWhole 3 = .ok (.istore_n 2, 1) := by decide +kernel
theorem dX10_isWhole_4 : decode cX10_isWhole 4 = .ok (.iload_n 2, 1) := by decide +kernel
theorem dX10_isWhole_5 : decode cX10_isWhole 5 = .ok (.aload_n 0, 1) := by decide +kernel
theorem dX10_isWhole_6 : decode cX10_isWhole 6 = .ok (.invokevirtual 42, 3) := by decide +kernel
theorem dX10_isWhole_9 : decode cX10_isWhole 9 = .ok (.if_icmp .ge 42, 3) := by decide +kernel
theorem dX10_isWhole_12 : decode cX10_isWhole 12 = .ok (.iload_n 1, 1) := by decide +kernel
theorem dX10_isWhole_13 : decode cX10_isWhole 13 = .ok (.ifCond .eq 23, 3) := by decide +kernel
theorem dX10_isWhole_16 : decode cX10_isWhole 16 = .ok (.aload_n 0, 1) := by decide +kernel
theorem dX10_isWhole_17 : decode cX10_isWhole 17 = .ok (.iload_n 2, 1) := by decide +kernel
theorem dX10_isWhole_18 : decode cX10_isWhole 18 = .ok (.invokevirtual 50, 3) := by decide +kernel
theorem dX10_isWhole_21 : decode cX10_isWhole 21 = .ok (.ifCond .eq 11, 3) := by decide +kernel
theorem dX10_isWhole_24 : decode cX10_isWhole 24 = .ok (.aload_n 0, 1) := by decide +kernel
theorem dX10_isWhole_25 : decode cX10_isWhole 25 = .ok (.iload_n 2, 1) := by decide +kernel
theorem dX10_isWhole_26 : decode cX10_isWhole 26 = .ok (.invokevirtual 128, 3) := by decide +kernel
theorem dX10_isWhole_29 : decode cX10_isWhole 29 = .ok (.ifCond .le 7, 3) := by decide +kernel
theorem dX10_isWhole_32 : decode cX10_isWhole 32 = .ok (.iconst 1, 1) := by decide +kernel
theorem dX10_isWhole_33 : decode cX10_isWhole 33 = .ok (.goto 4, 3) := by decide +kernel
theorem dX10_isWhole_36 : decode cX10_isWhole 36 = .ok (.iconst 0, 1) := by decide +kernel
theorem dX10_isWhole_37 : decode cX10_isWhole 37 = .ok (.istore_n 1, 1) := by decide +kernel
theorem dX10_isWhole_38 : decode cX10_isWhole 38 = .ok (.aload_n 0, 1) := by decide +kernel
theorem dX10_isWhole_39 : decode cX10_isWhole 39 = .ok (.getfield 26, 3) := by decide +kernel
theorem dX10_isWhole_42 : decode cX10_isWhole 42 = .ok (.iload_n 2, 1) := by decide +kernel
theorem dX10_isWhole_43 : decode cX10_isWhole 43 = .ok (.iload_n 2, 1) := by decide +kernel
theorem dX10_isWhole_44 : decode cX10_isWhole 44 = .ok (.iastore, 1) := by decide +kernel
theorem dX10_isWhole_45 : decode cX10_isWhole 45 = .ok (.iinc 2 1, 3) := by decide +kernel
theorem dX10_isWhole_48 : decode cX10_isWhole 48 = .ok (.goto (-44), 3) := by decide +kernel
theorem dX10_isWhole_51 : decode cX10_isWhole 51 = .ok (.iconst 1, 1) := by decide +kernel
theorem dX10_isWhole_52 : decode cX10_isWhole 52 = .ok (.istore_n 2, 1) := by decide +kernel
theorem dX10_isWhole_53 : decode cX10_isWhole 53 = .ok (.iload_n 2, 1) := by decide +kernel
theorem dX10_isWhole_54 : decode cX10_isWhole 54 = .ok (.ifCond .eq 104, 3) := by decide +kernel
theorem dX10_isWhole_57 : decode cX10_isWhole 57 = .ok (.iconst 0, 1) := by decide +kernel
theorem dX10_isWhole_58 : decode cX10_isWhole 58 = .ok (.istore_n 2, 1) := by decide +kernel
theorem dX10_isWhole_59 : decode cX10_isWhole 59 = .ok (.iconst 0, 1) := by decide +kernel
theorem dX10_isWhole_60 : decode cX10_isWhole 60 = .ok (.istore_n 3, 1) := by decide +kernel
theorem dX10_isWhole_61 : decode cX10_isWhole 61 = .ok (.iload_n 3, 1) := by decide +kernel
theorem dX10_isWhole_62 : decode cX10_isWhole 62 = .ok (.aload_n 0, 1) := by decide +kernel
theorem dX10_isWhole_63 : decode cX10_isWhole 63 = .ok (.getfield 54, 3) := by decide +kernel
theorem dX10_isWhole_66 : decode cX10_isWhole 66 = .ok (.if_icmp .ge 89, 3) := by decide +kernel
theorem dX10_isWhole_69 : decode cX10_isWhole 69 = .ok (.aload_n 0, 1) := by decide +kernel
theorem dX10_isWhole_70 : decode cX10_isWhole 70 = .ok (.getfield 26, 3) := by decide +kernel
theorem dX10_isWhole_73 : decode cX10_isWhole 73 = .ok (.aload_n 0, 1) := by decide +kernel
theorem dX10_isWhole_74 : decode cX10_isWhole 74 = .ok (.getfield 20, 3) := by decide +kernel
theorem dX10_isWhole_77 : decode cX10_isWhole 77 = .ok (.iload_n 3, 1) := by decide +kernel
theorem dX10_isWhole_78 : decode cX10_isWhole 78 = .ok (.iaload, 1) := by decide +kernel
theorem dX10_isWhole_79 : decode cX10_isWhole 79 = .ok (.iaload, 1) := by decide +kernel
theorem dX10_isWhole_80 : decode cX10_isWhole 80 = .ok (.istore 4, 2) := by decide +kernel
theorem dX10_isWhole_82 : decode cX10_isWhole 82 = .ok (.aload_n 0, 1) := by decide +kernel
theorem dX10_isWhole_83 : decode cX10_isWhole 83 = .ok (.getfield 26, 3) := by decide +kernel
theorem dX10_isWhole_86 : decode cX10_isWhole 86 = .ok (.aload_n 0, 1) := by decide +kernel
theorem dX10_isWhole_87 : decode cX10_isWhole 87 = .ok (.getfield 23, 3) := by decide +kernel
theorem dX10_isWhole_90 : decode cX10_isWhole 90 = .ok (.iload_n 3, 1) := by decide +kernel
theorem dX10_isWhole_91 : decode cX10_isWhole 91 = .ok (.iaload, 1) := by decide +kernel
theorem dX10_isWhole_92 : decode cX10_isWhole 92 = .ok (.iaload, 1) := by decide +kernel
theorem dX10_isWhole_93 : decode cX10_isWhole 93 = .ok (.istore 5, 2) := by decide +kernel
theorem dX10_isWhole_95 : decode cX10_isWhole 95 = .ok (.aload_n 0, 1) := by decide +kernel
theorem dX10_isWhole_96 : decode cX10_isWhole 96 = .ok (.getfield 29, 3) := by decide +kernel
theorem dX10_isWhole_99 : decode cX10_isWhole 99 = .ok (.iload_n 3, 1) := by decide +kernel
theorem dX10_isWhole_100 : decode cX10_isWhole 100 = .ok (.iaload, 1) := by decide +kernel
theorem dX10_isWhole_101 : decode cX10_isWhole 101 = .ok (.ifCond .le 48, 3) := by decide +kernel
theorem dX10_isWhole_104 : decode cX10_isWhole 104 = .ok (.iload 4, 2) := by decide +kernel
theorem dX10_isWhole_106 : decode cX10_isWhole 106 = .ok (.iload 5, 2) := by decide +kernel
theorem dX10_isWhole_108 : decode cX10_isWhole 108 = .ok (.if_icmp .eq 41, 3) := by decide +kernel
theorem dX10_isWhole_111 : decode cX10_isWhole 111 = .ok (.aload_n 0, 1) := by decide +kernel
theorem dX10_isWhole_112 : decode cX10_isWhole 112 = .ok (.getfield 26, 3) := by decide +kernel
theorem dX10_isWhole_115 : decode cX10_isWhole 115 = .ok (.aload_n 0, 1) := by decide +kernel
theorem dX10_isWhole_116 : decode cX10_isWhole 116 = .ok (.getfield 20, 3) := by decide +kernel
theorem dX10_isWhole_119 : decode cX10_isWhole 119 = .ok (.iload_n 3, 1) := by decide +kernel
theorem dX10_isWhole_120 : decode cX10_isWhole 120 = .ok (.iaload, 1) := by decide +kernel
theorem dX10_isWhole_121 : decode cX10_isWhole 121 = .ok (.iload 4, 2) := by decide +kernel
theorem dX10_isWhole_123 : decode cX10_isWhole 123 = .ok (.iload 5, 2) := by decide +kernel
theorem dX10_isWhole_125 : decode cX10_isWhole 125 = .ok (.invokestatic 102, 3) := by decide +kernel
theorem dX10_isWhole_128 : decode cX10_isWhole 128 = .ok (.iastore, 1) := by decide +kernel
theorem dX10_isWhole_129 : decode cX10_isWhole 129 = .ok (.aload_n 0, 1) := by decide +kernel
theorem dX10_isWhole_130 : decode cX10_isWhole 130 = .ok (.getfield 26, 3) := by decide +kernel
theorem dX10_isWhole_133 : decode cX10_isWhole 133 = .ok (.aload_n 0, 1) := by decide +kernel
theorem dX10_isWhole_134 : decode cX10_isWhole 134 = .ok (.getfield 23, 3) := by decide +kernel
theorem dX10_isWhole_137 : decode cX10_isWhole 137 = .ok (.iload_n 3, 1) := by decide +kernel
theorem dX10_isWhole_138 : decode cX10_isWhole 138 = .ok (.iaload, 1) := by decide +kernel
theorem dX10_isWhole_139 : decode cX10_isWhole 139 = .ok (.iload 4, 2) := by decide +kernel
theorem dX10_isWhole_141 : decode cX10_isWhole 141 = .ok (.iload 5, 2) := by decide +kernel
theorem dX10_isWhole_143 : decode cX10_isWhole 143 = .ok (.invokestatic 102, 3) := by decide +kernel
theorem dX10_isWhole_146 : decode cX10_isWhole 146 = .ok (.iastore, 1) := by decide +kernel
theorem dX10_isWhole_147 : decode cX10_isWhole 147 = .ok (.iconst 1, 1) := by decide +kernel
theorem dX10_isWhole_148 : decode cX10_isWhole 148 = .ok (.istore_n 2, 1) := by decide +kernel
theorem dX10_isWhole_149 : decode cX10_isWhole 149 = .ok (.iinc 3 1, 3) := by decide +kernel
theorem dX10_isWhole_152 : decode cX10_isWhole 152 = .ok (.goto (-91), 3) := by decide +kernel
theorem dX10_isWhole_155 : decode cX10_isWhole 155 = .ok (.goto (-102), 3) := by decide +kernel
theorem dX10_isWhole_158 : decode cX10_isWhole 158 = .ok (.iload_n 1, 1) := by decide +kernel
theorem dX10_isWhole_159 : decode cX10_isWhole 159 = .ok (.ifCond .eq 19, 3) := by decide +kernel
theorem dX10_isWhole_162 : decode cX10_isWhole 162 = .ok (.aload_n 0, 1) := by decide +kernel
theorem dX10_isWhole_163 : decode cX10_isWhole 163 = .ok (.aload_n 0, 1) := by decide +kernel
theorem dX10_isWhole_164 : decode cX10_isWhole 164 = .ok (.invokevirtual 42, 3) := by decide +kernel
theorem dX10_isWhole_167 : decode cX10_isWhole 167 = .ok (.invokevirtual 109, 3) := by decide +kernel
theorem dX10_isWhole_170 : decode cX10_isWhole 170 = .ok (.iconst 1, 1) := by decide +kernel
theorem dX10_isWhole_171 : decode cX10_isWhole 171 = .ok (.if_icmp .ne 7, 3) := by decide +kernel
theorem dX10_isWhole_174 : decode cX10_isWhole 174 = .ok (.iconst 1, 1) := by decide +kernel
theorem dX10_isWhole_175 : decode cX10_isWhole 175 = .ok (.goto 4, 3) := by decide +kernel
theorem dX10_isWhole_178 : decode cX10_isWhole 178 = .ok (.iconst 0, 1) := by decide +kernel
theorem dX10_isWhole_179 : decode cX10_isWhole 179 = .ok (.ireturn, 1) := by decide +kernel
set_option maxRecDepth 20000 in
theorem ggX10_solves_X10_could : GoodIn wsX10_solves wsX10_could := goodIn_r _ [7, 1, 8, 9, 10, 11, 12, 6, 13, 14, 15, 16, 17, 18, 19, 20, 21, 22, 23, 24, 25, 26, 2, 27, 28, 29, 30, 31, 32, 33, 34, 55, 56, 57, 58, 59, 60, 61, 62, 63, 64, 65, 66, 67, 68, 69, 70, 71] (by decide +kernel) (by decide +kernel)
set_option maxRecDepth 20000 in
theorem gX10_solves_X10_could : GoodIn wsX10_solves (wsV RX10 172 RX10 yX10_could wsX10_could) := goodIn_app (goodIn_of _ (by decide +kernel)) ggX10_solves_X10_could
set_option maxRecDepth 20000 in
theorem ggX10_solves_X10_isWhole : GoodIn wsX10_solves wsX10_isWhole := goodIn_r _ [38, 39, 2, 8, 9, 1, 40, 41, 42, 6, 43, 14, 31, 32, 33, 34, 44, 45, 46, 47, 27, 28, 29, 30, 48, 49, 50, 51, 52, 53, 54, 55, 56, 57, 58, 59, 60, 61, 62, 63, 64, 65, 66, 67, 68, 69, 70, 71] (by decide +kernel) (by decide +kernel)
set_option maxRecDepth 20000 in
theorem gX10_solves_X10_isWhole : GoodIn wsX10_solves (wsV RX10 175 RX10 yX10_isWhole wsX10_isWhole) := goodIn_app (goodIn_of _ (by decide +kernel)) ggX10_solves_X10_isWhole
theorem dX10_solves_0 : decode cX10_solves 0 = .ok (.iconst 0, 1) := by decide +kernel
theorem dX10_solves_1 : decode cX10_solves 1 = .ok (.istore 4, 2) := by decide +kernel
theorem dX10_solves_3 : decode cX10_solves 3 = .ok (.iconst 0, 1) := by decide +kernel
theorem dX10_solves_4 : decode cX10_solves 4 = .ok (.istore 5, 2) := by decide +kernel
theorem dX10_solves_6 : decode cX10_solves 6 = .ok (.aload_n 0, 1) := by decide +kernel
theorem dX10_solves_7 : decode cX10_solves 7 = .ok (.getfield 29, 3) := by decide +kernel
theorem dX10_solves_10 : decode cX10_solves 10 = .ok (.iconst 0, 1) := by decide +kernel
theorem dX10_solves_11 : decode cX10_solves 11 = .ok (.iconst (-1), 1) := by decide +kernel
theorem dX10_solves_12 : decode cX10_solves 12 = .ok (.iastore, 1) := by decide +kernel
theorem dX10_solves_13 : decode cX10_solves 13 = .ok (.aload_n 0, 1) := by decide +kernel
theorem dX10_solves_14 : decode cX10_solves 14 = .ok (.getfield 54, 3) := by decide +kernel
theorem dX10_solves_17 : decode cX10_solves 17 = .ok (.ifCond .ne 5, 3) := by decide +kernel
theorem dX10_solves_20 : decode cX10_solves 20 = .ok (.iconst 0, 1) := by decide +kernel
theorem dX10_solves_21 : decode cX10_solves 21 = .ok (.ireturn, 1) := by decide +kernel
theorem dX10_solves_22 : decode cX10_solves 22 = .ok (.iload 5, 2) := by decide +kernel
theorem dX10_solves_24 : decode cX10_solves 24 = .ok (.ifCond .lt 108, 3) := by decide +kernel
theorem dX10_solves_27 : decode cX10_solves 27 = .ok (.iload 4, 2) := by decide +kernel
theorem dX10_solves_29 : decode cX10_solves 29 = .ok (.iload_n 1, 1) := by decide +kernel
theorem dX10_solves_30 : decode cX10_solves 30 = .ok (.if_icmp .ge 102, 3) := by decide +kernel
theorem dX10_solves_33 : decode cX10_solves 33 = .ok (.aload_n 0, 1) := by decide +kernel
theorem dX10_solves_34 : decode cX10_solves 34 = .ok (.getfield 29, 3) := by decide +kernel
theorem dX10_solves_37 : decode cX10_solves 37 = .ok (.iload 5, 2) := by decide +kernel
theorem dX10_solves_39 : decode cX10_solves 39 = .ok (.dup2, 1) := by decide +kernel
theorem dX10_solves_40 : decode cX10_solves 40 = .ok (.iaload, 1) := by decide +kernel
theorem dX10_solves_41 : decode cX10_solves 41 = .ok (.iconst 1, 1) := by decide +kernel
theorem dX10_solves_42 : decode cX10_solves 42 = .ok (.iadd, 1) := by decide +kernel
theorem dX10_solves_43 : decode cX10_solves 43 = .ok (.iastore, 1) := by decide +kernel
theorem dX10_solves_44 : decode cX10_solves 44 = .ok (.aload_n 0, 1) := by decide +kernel
theorem dX10_solves_45 : decode cX10_solves 45 = .ok (.getfield 29, 3) := by decide +kernel
theorem dX10_solves_48 : decode cX10_solves 48 = .ok (.iload 5, 2) := by decide +kernel
theorem dX10_solves_50 : decode cX10_solves 50 = .ok (.iaload, 1) := by decide +kernel
theorem dX10_solves_51 : decode cX10_solves 51 = .ok (.iconst 2, 1) := by decide +kernel
theorem dX10_solves_52 : decode cX10_solves 52 = .ok (.if_icmp .le 9, 3) := by decide +kernel
theorem dX10_solves_55 : decode cX10_solves 55 = .ok (.iinc 5 (-1), 3) := by decide +kernel
theorem dX10_solves_58 : decode cX10_solves 58 = .ok (.goto (-36), 3) := by decide +kernel
theorem dX10_solves_61 : decode cX10_solves 61 = .ok (.iload 5, 2) := by decide +kernel
theorem dX10_solves_63 : decode cX10_solves 63 = .ok (.iload_n 2, 1) := by decide +kernel
theorem dX10_solves_64 : decode cX10_solves 64 = .ok (.if_icmp .ne 14, 3) := by decide +kernel
theorem dX10_solves_67 : decode cX10_solves 67 = .ok (.aload_n 0, 1) := by decide +kernel
theorem dX10_solves_68 : decode cX10_solves 68 = .ok (.getfield 29, 3) := by decide +kernel
theorem dX10_solves_71 : decode cX10_solves 71 = .ok (.iload 5, 2) := by decide +kernel
theorem dX10_solves_73 : decode cX10_solves 73 = .ok (.iaload, 1) := by decide +kernel
theorem dX10_solves_74 : decode cX10_solves 74 = .ok (.iload_n 3, 1) := by decide +kernel
theorem dX10_solves_75 : decode cX10_solves 75 = .ok (.if_icmp .ne (-53), 3) := by decide +kernel
theorem dX10_solves_78 : decode cX10_solves 78 = .ok (.aload_n 0, 1) := by decide +kernel
theorem dX10_solves_79 : decode cX10_solves 79 = .ok (.iload 5, 2) := by decide +kernel
theorem dX10_solves_81 : decode cX10_solves 81 = .ok (.invokevirtual 172, 3) := by decide +kernel
theorem dX10_solves_84 : decode cX10_solves 84 = .ok (.ifCond .eq (-62), 3) := by decide +kernel
theorem dX10_solves_87 : decode cX10_solves 87 = .ok (.iload 5, 2) := by decide +kernel
theorem dX10_solves_89 : decode cX10_solves 89 = .ok (.aload_n 0, 1) := by decide +kernel
theorem dX10_solves_90 : decode cX10_solves 90 = .ok (.getfield 54, 3) := by decide +kernel
theorem dX10_solves_93 : decode cX10_solves 93 = .ok (.iconst 1, 1) := by decide +kernel
theorem dX10_solves_94 : decode cX10_solves 94 = .ok (.isub, 1) := by decide +kernel
theorem dX10_solves_95 : decode cX10_solves 95 = .ok (.if_icmp .ne 23, 3) := by decide +kernel
theorem dX10_solves_98 : decode cX10_solves 98 = .ok (.iload 4, 2) := by decide +kernel
theorem dX10_solves_100 : decode cX10_solves 100 = .ok (.aload_n 0, 1) := by decide +kernel
theorem dX10_solves_101 : decode cX10_solves 101 = .ok (.invokevirtual 175, 3) := by decide +kernel
theorem dX10_solves_104 : decode cX10_solves 104 = .ok (.ifCond .eq 7, 3) := by decide +kernel
theorem dX10_solves_107 : decode cX10_solves 107 = .ok (.iconst 1, 1) := by decide +kernel
theorem dX10_solves_108 : decode cX10_solves 108 = .ok (.goto 4, 3) := by decide +kernel
theorem dX10_solves_111 : decode cX10_solves 111 = .ok (.iconst 0, 1) := by decide +kernel
theorem dX10_solves_112 : decode cX10_solves 112 = .ok (.iadd, 1) := by decide +kernel
theorem dX10_solves_113 : decode cX10_solves 113 = .ok (.istore 4, 2) := by decide +kernel
theorem dX10_solves_115 : decode cX10_solves 115 = .ok (.goto (-93), 3) := by decide +kernel
theorem dX10_solves_118 : decode cX10_solves 118 = .ok (.iinc 5 1, 3) := by decide +kernel
theorem dX10_solves_121 : decode cX10_solves 121 = .ok (.aload_n 0, 1) := by decide +kernel
theorem dX10_solves_122 : decode cX10_solves 122 = .ok (.getfield 29, 3) := by decide +kernel
theorem dX10_solves_125 : decode cX10_solves 125 = .ok (.iload 5, 2) := by decide +kernel
theorem dX10_solves_127 : decode cX10_solves 127 = .ok (.iconst (-1), 1) := by decide +kernel
theorem dX10_solves_128 : decode cX10_solves 128 = .ok (.iastore, 1) := by decide +kernel
theorem dX10_solves_129 : decode cX10_solves 129 = .ok (.goto (-107), 3) := by decide +kernel
theorem dX10_solves_132 : decode cX10_solves 132 = .ok (.iload 4, 2) := by decide +kernel
theorem dX10_solves_134 : decode cX10_solves 134 = .ok (.ireturn, 1) := by decide +kernel
set_option maxRecDepth 20000 in
theorem ggX10_solutions_X10_islands : GoodIn wsX10_solutions wsX10_islands := goodIn_r _ [6, 7, 8, 9, 5, 10, 11, 12, 13, 14, 15, 63, 64, 65, 66, 67, 68, 69, 70, 71, 72, 73, 74, 75, 76, 77, 78, 79] (by decide +kernel) (by decide +kernel)
set_option maxRecDepth 20000 in
theorem gX10_solutions_X10_islands : GoodIn wsX10_solutions (wsV RX10 67 RX10 yX10_islands wsX10_islands) := goodIn_app (goodIn_of _ (by decide +kernel)) ggX10_solutions_X10_islands
set_option maxRecDepth 20000 in
theorem ggX10_solutions_X10_solves : GoodIn wsX10_solutions wsX10_solves := goodIn_r _ [19, 20, 1, 21, 22, 23, 5, 24, 25, 26, 27, 28, 29, 30, 11, 31, 32, 33, 34, 35, 36, 37, 38, 39, 40, 41, 42, 43, 44, 45, 46, 12, 13, 14, 15, 47, 48, 49, 50, 51, 7, 8, 9, 10, 52, 53, 54, 55, 56, 57, 58, 59, 60, 61, 62, 63, 64, 65, 66, 67, 68, 69, 70, 71, 72, 73, 74, 75, 76, 77, 78, 79] (by decide +kernel) (by decide +kernel)
set_option maxRecDepth 20000 in
theorem gX10_solutions_X10_solves : GoodIn wsX10_solutions (wsV RX10 178 RX10 yX10_solves wsX10_solves) := goodIn_app (goodIn_of _ (by decide +kernel)) ggX10_solutions_X10_solves
theorem dX10_solutions_0 : decode cX10_solutions 0 = .ok (.aload_n 0, 1) := by decide +kernel
theorem dX10_solutions_1 : decode cX10_solutions 1 = .ok (.invokevirtual 67, 3) := by decide +kernel
theorem dX10_solutions_4 : decode cX10_solutions 4 = .ok (.ifCond .ne 6, 3) := by decide +kernel
theorem dX10_solutions_7 : decode cX10_solutions 7 = .ok (.bipush (-2), 2) := by decide +kernel
theorem dX10_solutions_9 : decode cX10_solutions 9 = .ok (.ireturn, 1) := by decide +kernel
theorem dX10_solutions_10 : decode cX10_solutions 10 = .ok (.aload_n 0, 1) := by decide +kernel
theorem dX10_solutions_11 : decode cX10_solutions 11 = .ok (.getfield 54, 3) := by decide +kernel
theorem dX10_solutions_14 : decode cX10_solutions 14 = .ok (.bipush 14, 2) := by decide +kernel
theorem dX10_solutions_16 : decode cX10_solutions 16 = .ok (.if_icmp .le 8, 3) := by decide +kernel
theorem dX10_solutions_19 : decode cX10_solutions 19 = .ok (.bipush (-3), 2) := by decide +kernel
theorem dX10_solutions_21 : decode cX10_solutions 21 = .ok (.goto 11, 3) := by decide +kernel
theorem dX10_solutions_24 : decode cX10_solutions 24 = .ok (.aload_n 0, 1) := by decide +kernel
theorem dX10_solutions_25 : decode cX10_solutions 25 = .ok (.bipush 50, 2) := by decide +kernel
theorem dX10_solutions_27 : decode cX10_solutions 27 = .ok (.iconst (-1), 1) := by decide +kernel
theorem dX10_solutions_28 : decode cX10_solutions 28 = .ok (.iconst 0, 1) := by decide +kernel
theorem dX10_solutions_29 : decode cX10_solutions 29 = .ok (.invokevirtual 178, 3) := by decide +kernel
theorem dX10_solutions_32 : decode cX10_solutions 32 = .ok (.ireturn, 1) := by decide +kernel
set_option maxRecDepth 20000 in
theorem ggX10_inAll_X10_isWay : GoodIn wsX10_inAll wsX10_isWay := goodIn_r _ [6, 1, 7, 8, 5, 9, 66, 67, 68, 69, 70, 71, 72, 73, 74, 75, 76, 77, 78, 79, 80, 81, 82] (by decide +kernel) (by decide +kernel)
set_option maxRecDepth 20000 in
theorem gX10_inAll_X10_isWay : GoodIn wsX10_inAll (wsV RX10 131 RX10 yX10_isWay wsX10_isWay) := goodIn_app (goodIn_of _ (by decide +kernel)) ggX10_inAll_X10_isWay
set_option maxRecDepth 20000 in
theorem ggX10_inAll_X10_solves : GoodIn wsX10_inAll wsX10_solves := goodIn_r _ [13, 14, 1, 15, 16, 17, 5, 18, 19, 20, 21, 22, 23, 24, 25, 26, 27, 28, 29, 30, 31, 32, 33, 34, 35, 36, 37, 38, 39, 40, 41, 42, 43, 44, 45, 46, 47, 48, 49, 50, 51, 52, 53, 54, 55, 56, 57, 58, 59, 60, 61, 62, 63, 64, 65, 66, 67, 68, 69, 70, 71, 72, 73, 74, 75, 76, 77, 78, 79, 80, 81, 82] (by decide +kernel) (by decide +kernel)
set_option maxRecDepth 20000 in
theorem gX10_inAll_X10_solves : GoodIn wsX10_inAll (wsV RX10 178 RX10 yX10_solves wsX10_solves) := goodIn_app (goodIn_of _ (by decide +kernel)) ggX10_inAll_X10_solves
theorem dX10_inAll_0 : decode cX10_inAll 0 = .ok (.aload_n 0, 1) := by decide +kernel
theorem dX10_inAll_1 : decode cX10_inAll 1 = .ok (.iload_n 1, 1) := by decide +kernel
theorem dX10_inAll_2 : decode cX10_inAll 2 = .ok (.invokevirtual 131, 3) := by decide +kernel
theorem dX10_inAll_5 : decode cX10_inAll 5 = .ok (.ifCond .ne 5, 3) := by decide +kernel
theorem dX10_inAll_8 : decode cX10_inAll 8 = .ok (.iconst (-1), 1) := by decide +kernel
theorem dX10_inAll_9 : decode cX10_inAll 9 = .ok (.ireturn, 1) := by decide +kernel
theorem dX10_inAll_10 : decode cX10_inAll 10 = .ok (.aload_n 0, 1) := by decide +kernel
theorem dX10_inAll_11 : decode cX10_inAll 11 = .ok (.getfield 54, 3) := by decide +kernel
theorem dX10_inAll_14 : decode cX10_inAll 14 = .ok (.bipush 14, 2) := by decide +kernel
theorem dX10_inAll_16 : decode cX10_inAll 16 = .ok (.if_icmp .le 6, 3) := by decide +kernel
theorem dX10_inAll_19 : decode cX10_inAll 19 = .ok (.bipush (-3), 2) := by decide +kernel
theorem dX10_inAll_21 : decode cX10_inAll 21 = .ok (.ireturn, 1) := by decide +kernel
theorem dX10_inAll_22 : decode cX10_inAll 22 = .ok (.bipush (-4), 2) := by decide +kernel
theorem dX10_inAll_24 : decode cX10_inAll 24 = .ok (.istore_n 2, 1) := by decide +kernel
theorem dX10_inAll_25 : decode cX10_inAll 25 = .ok (.iconst 0, 1) := by decide +kernel
theorem dX10_inAll_26 : decode cX10_inAll 26 = .ok (.istore_n 3, 1) := by decide +kernel
theorem dX10_inAll_27 : decode cX10_inAll 27 = .ok (.iconst 0, 1) := by decide +kernel
theorem dX10_inAll_28 : decode cX10_inAll 28 = .ok (.istore 4, 2) := by decide +kernel
theorem dX10_inAll_30 : decode cX10_inAll 30 = .ok (.iload 4, 2) := by decide +kernel
theorem dX10_inAll_32 : decode cX10_inAll 32 = .ok (.iconst 3, 1) := by decide +kernel
theorem dX10_inAll_33 : decode cX10_inAll 33 = .ok (.if_icmp .ge 53, 3) := by decide +kernel
theorem dX10_inAll_36 : decode cX10_inAll 36 = .ok (.aload_n 0, 1) := by decide +kernel
theorem dX10_inAll_37 : decode cX10_inAll 37 = .ok (.iconst 1, 1) := by decide +kernel
theorem dX10_inAll_38 : decode cX10_inAll 38 = .ok (.iload_n 1, 1) := by decide +kernel
theorem dX10_inAll_39 : decode cX10_inAll 39 = .ok (.iload 4, 2) := by decide +kernel
theorem dX10_inAll_41 : decode cX10_inAll 41 = .ok (.invokevirtual 178, 3) := by decide +kernel
theorem dX10_inAll_44 : decode cX10_inAll 44 = .ok (.iconst 1, 1) := by decide +kernel
theorem dX10_inAll_45 : decode cX10_inAll 45 = .ok (.if_icmp .ne 7, 3) := by decide +kernel
theorem dX10_inAll_48 : decode cX10_inAll 48 = .ok (.iconst 1, 1) := by decide +kernel
theorem dX10_inAll_49 : decode cX10_inAll 49 = .ok (.goto 4, 3) := by decide +kernel
theorem dX10_inAll_52 : decode cX10_inAll 52 = .ok (.iconst 0, 1) := by decide +kernel
theorem dX10_inAll_53 : decode cX10_inAll 53 = .ok (.istore 5, 2) := by decide +kernel
theorem dX10_inAll_55 : decode cX10_inAll 55 = .ok (.iload 5, 2) := by decide +kernel
theorem dX10_inAll_57 : decode cX10_inAll 57 = .ok (.ifCond .eq 8, 3) := by decide +kernel
theorem dX10_inAll_60 : decode cX10_inAll 60 = .ok (.iload 4, 2) := by decide +kernel
theorem dX10_inAll_62 : decode cX10_inAll 62 = .ok (.goto 4, 3) := by decide +kernel
theorem dX10_inAll_65 : decode cX10_inAll 65 = .ok (.iload_n 2, 1) := by decide +kernel
theorem dX10_inAll_66 : decode cX10_inAll 66 = .ok (.istore_n 2, 1) := by decide +kernel
theorem dX10_inAll_67 : decode cX10_inAll 67 = .ok (.iload_n 3, 1) := by decide +kernel
theorem dX10_inAll_68 : decode cX10_inAll 68 = .ok (.iload 5, 2) := by decide +kernel
theorem dX10_inAll_70 : decode cX10_inAll 70 = .ok (.ifCond .eq 7, 3) := by decide +kernel
theorem dX10_inAll_73 : decode cX10_inAll 73 = .ok (.iconst 1, 1) := by decide +kernel
theorem dX10_inAll_74 : decode cX10_inAll 74 = .ok (.goto 4, 3) := by decide +kernel
theorem dX10_inAll_77 : decode cX10_inAll 77 = .ok (.iconst 0, 1) := by decide +kernel
theorem dX10_inAll_78 : decode cX10_inAll 78 = .ok (.iadd, 1) := by decide +kernel
theorem dX10_inAll_79 : decode cX10_inAll 79 = .ok (.istore_n 3, 1) := by decide +kernel
theorem dX10_inAll_80 : decode cX10_inAll 80 = .ok (.iinc 4 1, 3) := by decide +kernel
theorem dX10_inAll_83 : decode cX10_inAll 83 = .ok (.goto (-53), 3) := by decide +kernel
theorem dX10_inAll_86 : decode cX10_inAll 86 = .ok (.iload_n 3, 1) := by decide +kernel
theorem dX10_inAll_87 : decode cX10_inAll 87 = .ok (.iconst 1, 1) := by decide +kernel
theorem dX10_inAll_88 : decode cX10_inAll 88 = .ok (.if_icmp .ne 7, 3) := by decide +kernel
theorem dX10_inAll_91 : decode cX10_inAll 91 = .ok (.iload_n 2, 1) := by decide +kernel
theorem dX10_inAll_92 : decode cX10_inAll 92 = .ok (.goto 5, 3) := by decide +kernel
theorem dX10_inAll_95 : decode cX10_inAll 95 = .ok (.bipush (-4), 2) := by decide +kernel
theorem dX10_inAll_97 : decode cX10_inAll 97 = .ok (.ireturn, 1) := by decide +kernel
theorem dX10_draw_0 : decode cX10_draw 0 = .ok (.aload_n 0, 1) := by decide +kernel
theorem dX10_draw_1 : decode cX10_draw 1 = .ok (.bipush 75, 2) := by decide +kernel
theorem dX10_draw_3 : decode cX10_draw 3 = .ok (.aload_n 0, 1) := by decide +kernel
theorem dX10_draw_4 : decode cX10_draw 4 = .ok (.getfield 182, 3) := by decide +kernel
theorem dX10_draw_7 : decode cX10_draw 7 = .ok (.imul, 1) := by decide +kernel
theorem dX10_draw_8 : decode cX10_draw 8 = .ok (.bipush 74, 2) := by decide +kernel
theorem dX10_draw_10 : decode cX10_draw 10 = .ok (.iadd, 1) := by decide +kernel
theorem dX10_draw_11 : decode cX10_draw 11 = .ok (.ldc 185, 2) := by decide +kernel
theorem dX10_draw_13 : decode cX10_draw 13 = .ok (.irem, 1) := by decide +kernel
theorem dX10_draw_14 : decode cX10_draw 14 = .ok (.putfield 182, 3) := by decide +kernel
theorem dX10_draw_17 : decode cX10_draw 17 = .ok (.aload_n 0, 1) := by decide +kernel
theorem dX10_draw_18 : decode cX10_draw 18 = .ok (.getfield 182, 3) := by decide +kernel
theorem dX10_draw_21 : decode cX10_draw 21 = .ok (.iload_n 1, 1) := by decide +kernel
theorem dX10_draw_22 : decode cX10_draw 22 = .ok (.irem, 1) := by decide +kernel
theorem dX10_draw_23 : decode cX10_draw 23 = .ok (.ireturn, 1) := by decide +kernel
set_option maxRecDepth 20000 in
theorem ggX10_islandAt_X10_number : GoodIn wsX10_islandAt wsX10_number := goodIn_r _ [5, 6, 7, 8, 9, 10, 11, 12, 13, 14, 15, 16, 17, 18, 19, 20, 21, 22, 23] (by decide +kernel) (by decide +kernel)
set_option maxRecDepth 20000 in
theorem gX10_islandAt_X10_number : GoodIn wsX10_islandAt (wsV RX10 50 RX10 yX10_number wsX10_number) := goodIn_app (goodIn_of _ (by decide +kernel)) ggX10_islandAt_X10_number
theorem dX10_islandAt_0 : decode cX10_islandAt 0 = .ok (.iload_n 1, 1) := by decide +kernel
theorem dX10_islandAt_1 : decode cX10_islandAt 1 = .ok (.istore_n 2, 1) := by decide +kernel
theorem dX10_islandAt_2 : decode cX10_islandAt 2 = .ok (.iconst 0, 1) := by decide +kernel
theorem dX10_islandAt_3 : decode cX10_islandAt 3 = .ok (.istore_n 3, 1) := by decide +kernel
theorem dX10_islandAt_4 : decode cX10_islandAt 4 = .ok (.aload_n 0, 1) := by decide +kernel
theorem dX10_islandAt_5 : decode cX10_islandAt 5 = .ok (.iload_n 3, 1) := by decide +kernel
theorem dX10_islandAt_6 : decode cX10_islandAt 6 = .ok (.invokevirtual 50, 3) := by decide +kernel
theorem dX10_islandAt_9 : decode cX10_islandAt 9 = .ok (.ifCond .eq 7, 3) := by decide +kernel
theorem dX10_islandAt_12 : decode cX10_islandAt 12 = .ok (.iload_n 2, 1) := by decide +kernel
theorem dX10_islandAt_13 : decode cX10_islandAt 13 = .ok (.ifCond .le 25, 3) := by decide +kernel
theorem dX10_islandAt_16 : decode cX10_islandAt 16 = .ok (.iload_n 2, 1) := by decide +kernel
theorem dX10_islandAt_17 : decode cX10_islandAt 17 = .ok (.aload_n 0, 1) := by decide +kernel
theorem dX10_islandAt_18 : decode cX10_islandAt 18 = .ok (.iload_n 3, 1) := by decide +kernel
theorem dX10_islandAt_19 : decode cX10_islandAt 19 = .ok (.invokevirtual 50, 3) := by decide +kernel
theorem dX10_islandAt_22 : decode cX10_islandAt 22 = .ok (.ifCond .le 7, 3) := by decide +kernel
theorem dX10_islandAt_25 : decode cX10_islandAt 25 = .ok (.iconst 1, 1) := by decide +kernel
theorem dX10_islandAt_26 : decode cX10_islandAt 26 = .ok (.goto 4, 3) := by decide +kernel
theorem dX10_islandAt_29 : decode cX10_islandAt 29 = .ok (.iconst 0, 1) := by decide +kernel
theorem dX10_islandAt_30 : decode cX10_islandAt 30 = .ok (.isub, 1) := by decide +kernel
theorem dX10_islandAt_31 : decode cX10_islandAt 31 = .ok (.istore_n 2, 1) := by decide +kernel
theorem dX10_islandAt_32 : decode cX10_islandAt 32 = .ok (.iinc 3 1, 3) := by decide +kernel
theorem dX10_islandAt_35 : decode cX10_islandAt 35 = .ok (.goto (-31), 3) := by decide +kernel
theorem dX10_islandAt_38 : decode cX10_islandAt 38 = .ok (.iload_n 3, 1) := by decide +kernel
theorem dX10_islandAt_39 : decode cX10_islandAt 39 = .ok (.ireturn, 1) := by decide +kernel
set_option maxRecDepth 20000 in
theorem ggX10_grows_X10_in : GoodIn wsX10_grows wsX10_in := goodIn_r _ [6] (by decide +kernel) (by decide +kernel)
set_option maxRecDepth 20000 in
theorem gX10_grows_X10_in : GoodIn wsX10_grows (va_wsS RX10 46 yX10_in wsX10_in) := goodIn_app (goodIn_of _ (by decide +kernel)) ggX10_grows_X10_in
set_option maxRecDepth 20000 in
theorem ggX10_grows_X10_number : GoodIn wsX10_grows wsX10_number := goodIn_r _ [10, 1, 11, 12, 13, 14, 15, 16, 17, 18, 19, 20, 21, 22, 23, 24, 25, 26, 27] (by decide +kernel) (by decide +kernel)
set_option maxRecDepth 20000 in
theorem gX10_grows_X10_number : GoodIn wsX10_grows (wsV RX10 50 RX10 yX10_number wsX10_number) := goodIn_app (goodIn_of _ (by decide +kernel)) ggX10_grows_X10_number
theorem dX10_grows_0 : decode cX10_grows 0 = .ok (.iload_n 1, 1) := by decide +kernel
theorem dX10_grows_1 : decode cX10_grows 1 = .ok (.aload_n 0, 1) := by decide +kernel
theorem dX10_grows_2 : decode cX10_grows 2 = .ok (.getfield 7, 3) := by decide +kernel
theorem dX10_grows_5 : decode cX10_grows 5 = .ok (.iconst 0, 1) := by decide +kernel
theorem dX10_grows_6 : decode cX10_grows 6 = .ok (.iaload, 1) := by decide +kernel
theorem dX10_grows_7 : decode cX10_grows 7 = .ok (.irem, 1) := by decide +kernel
theorem dX10_grows_8 : decode cX10_grows 8 = .ok (.istore 5, 2) := by decide +kernel
theorem dX10_grows_10 : decode cX10_grows 10 = .ok (.iload_n 1, 1) := by decide +kernel
theorem dX10_grows_11 : decode cX10_grows 11 = .ok (.aload_n 0, 1) := by decide +kernel
theorem dX10_grows_12 : decode cX10_grows 12 = .ok (.getfield 7, 3) := by decide +kernel
theorem dX10_grows_15 : decode cX10_grows 15 = .ok (.iconst 0, 1) := by decide +kernel
theorem dX10_grows_16 : decode cX10_grows 16 = .ok (.iaload, 1) := by decide +kernel
theorem dX10_grows_17 : decode cX10_grows 17 = .ok (.idiv, 1) := by decide +kernel
theorem dX10_grows_18 : decode cX10_grows 18 = .ok (.istore 6, 2) := by decide +kernel
theorem dX10_grows_20 : decode cX10_grows 20 = .ok (.iload_n 2, 1) := by decide +kernel
theorem dX10_grows_21 : decode cX10_grows 21 = .ok (.ifCond .ne 7, 3) := by decide +kernel
theorem dX10_grows_24 : decode cX10_grows 24 = .ok (.iconst 1, 1) := by decide +kernel
theorem dX10_grows_25 : decode cX10_grows 25 = .ok (.goto 13, 3) := by decide +kernel
theorem dX10_grows_28 : decode cX10_grows 28 = .ok (.iload_n 2, 1) := by decide +kernel
theorem dX10_grows_29 : decode cX10_grows 29 = .ok (.iconst 2, 1) := by decide +kernel
theorem dX10_grows_30 : decode cX10_grows 30 = .ok (.if_icmp .ne 7, 3) := by decide +kernel
theorem dX10_grows_33 : decode cX10_grows 33 = .ok (.iconst (-1), 1) := by decide +kernel
theorem dX10_grows_34 : decode cX10_grows 34 = .ok (.goto 4, 3) := by decide +kernel
theorem dX10_grows_37 : decode cX10_grows 37 = .ok (.iconst 0, 1) := by decide +kernel
theorem dX10_grows_38 : decode cX10_grows 38 = .ok (.istore 7, 2) := by decide +kernel
theorem dX10_grows_40 : decode cX10_grows 40 = .ok (.iload_n 2, 1) := by decide +kernel
theorem dX10_grows_41 : decode cX10_grows 41 = .ok (.iconst 1, 1) := by decide +kernel
theorem dX10_grows_42 : decode cX10_grows 42 = .ok (.if_icmp .ne 7, 3) := by decide +kernel
theorem dX10_grows_45 : decode cX10_grows 45 = .ok (.iconst 1, 1) := by decide +kernel
theorem dX10_grows_46 : decode cX10_grows 46 = .ok (.goto 13, 3) := by decide +kernel
theorem dX10_grows_49 : decode cX10_grows 49 = .ok (.iload_n 2, 1) := by decide +kernel
theorem dX10_grows_50 : decode cX10_grows 50 = .ok (.iconst 3, 1) := by decide +kernel
theorem dX10_grows_51 : decode cX10_grows 51 = .ok (.if_icmp .ne 7, 3) := by decide +kernel
theorem dX10_grows_54 : decode cX10_grows 54 = .ok (.iconst (-1), 1) := by decide +kernel
theorem dX10_grows_55 : decode cX10_grows 55 = .ok (.goto 4, 3) := by decide +kernel
theorem dX10_grows_58 : decode cX10_grows 58 = .ok (.iconst 0, 1) := by decide +kernel
theorem dX10_grows_59 : decode cX10_grows 59 = .ok (.istore 8, 2) := by decide +kernel
theorem dX10_grows_61 : decode cX10_grows 61 = .ok (.iload 5, 2) := by decide +kernel
theorem dX10_grows_63 : decode cX10_grows 63 = .ok (.iload_n 3, 1) := by decide +kernel
theorem dX10_grows_64 : decode cX10_grows 64 = .ok (.iload 7, 2) := by decide +kernel
theorem dX10_grows_66 : decode cX10_grows 66 = .ok (.imul, 1) := by decide +kernel
theorem dX10_grows_67 : decode cX10_grows 67 = .ok (.iadd, 1) := by decide +kernel
theorem dX10_grows_68 : decode cX10_grows 68 = .ok (.iconst 0, 1) := by decide +kernel
theorem dX10_grows_69 : decode cX10_grows 69 = .ok (.aload_n 0, 1) := by decide +kernel
theorem dX10_grows_70 : decode cX10_grows 70 = .ok (.getfield 7, 3) := by decide +kernel
theorem dX10_grows_73 : decode cX10_grows 73 = .ok (.iconst 0, 1) := by decide +kernel
theorem dX10_grows_74 : decode cX10_grows 74 = .ok (.iaload, 1) := by decide +kernel
theorem dX10_grows_75 : decode cX10_grows 75 = .ok (.iconst 1, 1) := by decide +kernel
theorem dX10_grows_76 : decode cX10_grows 76 = .ok (.isub, 1) := by decide +kernel
theorem dX10_grows_77 : decode cX10_grows 77 = .ok (.invokestatic 46, 3) := by decide +kernel
theorem dX10_grows_80 : decode cX10_grows 80 = .ok (.ifCond .eq 25, 3) := by decide +kernel
theorem dX10_grows_83 : decode cX10_grows 83 = .ok (.iload 6, 2) := by decide +kernel
theorem dX10_grows_85 : decode cX10_grows 85 = .ok (.iload_n 3, 1) := by decide +kernel
theorem dX10_grows_86 : decode cX10_grows 86 = .ok (.iload 8, 2) := by decide +kernel
theorem dX10_grows_88 : decode cX10_grows 88 = .ok (.imul, 1) := by decide +kernel
theorem dX10_grows_89 : decode cX10_grows 89 = .ok (.iadd, 1) := by decide +kernel
theorem dX10_grows_90 : decode cX10_grows 90 = .ok (.iconst 0, 1) := by decide +kernel
theorem dX10_grows_91 : decode cX10_grows 91 = .ok (.aload_n 0, 1) := by decide +kernel
theorem dX10_grows_92 : decode cX10_grows 92 = .ok (.getfield 7, 3) := by decide +kernel
theorem dX10_grows_95 : decode cX10_grows 95 = .ok (.iconst 1, 1) := by decide +kernel
theorem dX10_grows_96 : decode cX10_grows 96 = .ok (.iaload, 1) := by decide +kernel
theorem dX10_grows_97 : decode cX10_grows 97 = .ok (.iconst 1, 1) := by decide +kernel
theorem dX10_grows_98 : decode cX10_grows 98 = .ok (.isub, 1) := by decide +kernel
theorem dX10_grows_99 : decode cX10_grows 99 = .ok (.invokestatic 46, 3) := by decide +kernel
theorem dX10_grows_102 : decode cX10_grows 102 = .ok (.ifCond .ne 4, 3) := by decide +kernel
theorem dX10_grows_105 : decode cX10_grows 105 = .ok (.return_, 1) := by decide +kernel
theorem dX10_grows_106 : decode cX10_grows 106 = .ok (.iconst 1, 1) := by decide +kernel
theorem dX10_grows_107 : decode cX10_grows 107 = .ok (.istore 9, 2) := by decide +kernel
theorem dX10_grows_109 : decode cX10_grows 109 = .ok (.iload 7, 2) := by decide +kernel
theorem dX10_grows_111 : decode cX10_grows 111 = .ok (.aload_n 0, 1) := by decide +kernel
theorem dX10_grows_112 : decode cX10_grows 112 = .ok (.getfield 7, 3) := by decide +kernel
theorem dX10_grows_115 : decode cX10_grows 115 = .ok (.iconst 0, 1) := by decide +kernel
theorem dX10_grows_116 : decode cX10_grows 116 = .ok (.iaload, 1) := by decide +kernel
theorem dX10_grows_117 : decode cX10_grows 117 = .ok (.iload 8, 2) := by decide +kernel
theorem dX10_grows_119 : decode cX10_grows 119 = .ok (.imul, 1) := by decide +kernel
theorem dX10_grows_120 : decode cX10_grows 120 = .ok (.iadd, 1) := by decide +kernel
theorem dX10_grows_121 : decode cX10_grows 121 = .ok (.istore 10, 2) := by decide +kernel
theorem dX10_grows_123 : decode cX10_grows 123 = .ok (.iconst 1, 1) := by decide +kernel
theorem dX10_grows_124 : decode cX10_grows 124 = .ok (.istore 11, 2) := by decide +kernel
theorem dX10_grows_126 : decode cX10_grows 126 = .ok (.iload 11, 2) := by decide +kernel
theorem dX10_grows_128 : decode cX10_grows 128 = .ok (.iload_n 3, 1) := by decide +kernel
theorem dX10_grows_129 : decode cX10_grows 129 = .ok (.if_icmp .gt 50, 3) := by decide +kernel
theorem dX10_grows_132 : decode cX10_grows 132 = .ok (.iload 9, 2) := by decide +kernel
theorem dX10_grows_134 : decode cX10_grows 134 = .ok (.ifCond .eq 36, 3) := by decide +kernel
theorem dX10_grows_137 : decode cX10_grows 137 = .ok (.aload_n 0, 1) := by decide +kernel
theorem dX10_grows_138 : decode cX10_grows 138 = .ok (.iload_n 1, 1) := by decide +kernel
theorem dX10_grows_139 : decode cX10_grows 139 = .ok (.iload 11, 2) := by decide +kernel
theorem dX10_grows_141 : decode cX10_grows 141 = .ok (.iload 10, 2) := by decide +kernel
theorem dX10_grows_143 : decode cX10_grows 143 = .ok (.imul, 1) := by decide +kernel
theorem dX10_grows_144 : decode cX10_grows 144 = .ok (.iadd, 1) := by decide +kernel
theorem dX10_grows_145 : decode cX10_grows 145 = .ok (.invokevirtual 50, 3) := by decide +kernel
theorem dX10_grows_148 : decode cX10_grows 148 = .ok (.ifCond .ne 22, 3) := by decide +kernel
theorem dX10_grows_151 : decode cX10_grows 151 = .ok (.aload_n 0, 1) := by decide +kernel
theorem dX10_grows_152 : decode cX10_grows 152 = .ok (.getfield 32, 3) := by decide +kernel
theorem dX10_grows_155 : decode cX10_grows 155 = .ok (.iload_n 1, 1) := by decide +kernel
theorem dX10_grows_156 : decode cX10_grows 156 = .ok (.iload 11, 2) := by decide +kernel
theorem dX10_grows_158 : decode cX10_grows 158 = .ok (.iload 10, 2) := by decide +kernel
theorem dX10_grows_160 : decode cX10_grows 160 = .ok (.imul, 1) := by decide +kernel
theorem dX10_grows_161 : decode cX10_grows 161 = .ok (.iadd, 1) := by decide +kernel
theorem dX10_grows_162 : decode cX10_grows 162 = .ok (.iaload, 1) := by decide +kernel
theorem dX10_grows_163 : decode cX10_grows 163 = .ok (.ifCond .ne 7, 3) := by decide +kernel
theorem dX10_grows_166 : decode cX10_grows 166 = .ok (.iconst 1, 1) := by decide +kernel
theorem dX10_grows_167 : decode cX10_grows 167 = .ok (.goto 4, 3) := by decide +kernel
theorem dX10_grows_170 : decode cX10_grows 170 = .ok (.iconst 0, 1) := by decide +kernel
theorem dX10_grows_171 : decode cX10_grows 171 = .ok (.istore 9, 2) := by decide +kernel
theorem dX10_grows_173 : decode cX10_grows 173 = .ok (.iinc 11 1, 3) := by decide +kernel
theorem dX10_grows_176 : decode cX10_grows 176 = .ok (.goto (-50), 3) := by decide +kernel
theorem dX10_grows_179 : decode cX10_grows 179 = .ok (.iload 9, 2) := by decide +kernel
theorem dX10_grows_181 : decode cX10_grows 181 = .ok (.ifCond .eq 61, 3) := by decide +kernel
theorem dX10_grows_184 : decode cX10_grows 184 = .ok (.iconst 1, 1) := by decide +kernel
theorem dX10_grows_185 : decode cX10_grows 185 = .ok (.istore 11, 2) := by decide +kernel
theorem dX10_grows_187 : decode cX10_grows 187 = .ok (.iload 11, 2) := by decide +kernel
theorem dX10_grows_189 : decode cX10_grows 189 = .ok (.iload_n 3, 1) := by decide +kernel
theorem dX10_grows_190 : decode cX10_grows 190 = .ok (.if_icmp .ge 22, 3) := by decide +kernel
theorem dX10_grows_193 : decode cX10_grows 193 = .ok (.aload_n 0, 1) := by decide +kernel
theorem dX10_grows_194 : decode cX10_grows 194 = .ok (.getfield 32, 3) := by decide +kernel
theorem dX10_grows_197 : decode cX10_grows 197 = .ok (.iload_n 1, 1) := by decide +kernel
theorem dX10_grows_198 : decode cX10_grows 198 = .ok (.iload 11, 2) := by decide +kernel
theorem dX10_grows_200 : decode cX10_grows 200 = .ok (.iload 10, 2) := by decide +kernel
theorem dX10_grows_202 : decode cX10_grows 202 = .ok (.imul, 1) := by decide +kernel
theorem dX10_grows_203 : decode cX10_grows 203 = .ok (.iadd, 1) := by decide +kernel
theorem dX10_grows_204 : decode cX10_grows 204 = .ok (.iconst 1, 1) := by decide +kernel
theorem dX10_grows_205 : decode cX10_grows 205 = .ok (.iastore, 1) := by decide +kernel
theorem dX10_grows_206 : decode cX10_grows 206 = .ok (.iinc 11 1, 3) := by decide +kernel
theorem dX10_grows_209 : decode cX10_grows 209 = .ok (.goto (-22), 3) := by decide +kernel
theorem dX10_grows_212 : decode cX10_grows 212 = .ok (.aload_n 0, 1) := by decide +kernel
theorem dX10_grows_213 : decode cX10_grows 213 = .ok (.getfield 7, 3) := by decide +kernel
theorem dX10_grows_216 : decode cX10_grows 216 = .ok (.iconst 4, 1) := by decide +kernel
theorem dX10_grows_217 : decode cX10_grows 217 = .ok (.iload_n 1, 1) := by decide +kernel
theorem dX10_grows_218 : decode cX10_grows 218 = .ok (.iadd, 1) := by decide +kernel
theorem dX10_grows_219 : decode cX10_grows 219 = .ok (.dup2, 1) := by decide +kernel
theorem dX10_grows_220 : decode cX10_grows 220 = .ok (.iaload, 1) := by decide +kernel
theorem dX10_grows_221 : decode cX10_grows 221 = .ok (.iload 4, 2) := by decide +kernel
theorem dX10_grows_223 : decode cX10_grows 223 = .ok (.iadd, 1) := by decide +kernel
theorem dX10_grows_224 : decode cX10_grows 224 = .ok (.iastore, 1) := by decide +kernel
theorem dX10_grows_225 : decode cX10_grows 225 = .ok (.aload_n 0, 1) := by decide +kernel
theorem dX10_grows_226 : decode cX10_grows 226 = .ok (.getfield 7, 3) := by decide +kernel
theorem dX10_grows_229 : decode cX10_grows 229 = .ok (.iconst 4, 1) := by decide +kernel
theorem dX10_grows_230 : decode cX10_grows 230 = .ok (.iload_n 1, 1) := by decide +kernel
theorem dX10_grows_231 : decode cX10_grows 231 = .ok (.iadd, 1) := by decide +kernel
theorem dX10_grows_232 : decode cX10_grows 232 = .ok (.iload_n 3, 1) := by decide +kernel
theorem dX10_grows_233 : decode cX10_grows 233 = .ok (.iload 10, 2) := by decide +kernel
theorem dX10_grows_235 : decode cX10_grows 235 = .ok (.imul, 1) := by decide +kernel
theorem dX10_grows_236 : decode cX10_grows 236 = .ok (.iadd, 1) := by decide +kernel
theorem dX10_grows_237 : decode cX10_grows 237 = .ok (.iconst 1, 1) := by decide +kernel
theorem dX10_grows_238 : decode cX10_grows 238 = .ok (.iload 4, 2) := by decide +kernel
theorem dX10_grows_240 : decode cX10_grows 240 = .ok (.iadd, 1) := by decide +kernel
theorem dX10_grows_241 : decode cX10_grows 241 = .ok (.iastore, 1) := by decide +kernel
theorem dX10_grows_242 : decode cX10_grows 242 = .ok (.return_, 1) := by decide +kernel
set_option maxRecDepth 20000 in
theorem ggX10_make_X10_in : GoodIn wsX10_make wsX10_in := goodIn_r _ [8] (by decide +kernel) (by decide +kernel)
set_option maxRecDepth 20000 in
theorem gX10_make_X10_in : GoodIn wsX10_make (va_wsS RX10 46 yX10_in wsX10_in) := goodIn_app (goodIn_of _ (by decide +kernel)) ggX10_make_X10_in
set_option maxRecDepth 20000 in
theorem ggX10_make_X10_notes : GoodIn wsX10_make wsX10_notes := goodIn_r _ [12, 13, 14, 4, 63, 64, 65, 66, 67, 68, 69, 70, 71, 72, 73, 74, 75, 76, 77, 78, 79] (by decide +kernel) (by decide +kernel)
set_option maxRecDepth 20000 in
theorem gX10_make_X10_notes : GoodIn wsX10_make (wsV RX10 64 RX10 yX10_notes wsX10_notes) := goodIn_app (goodIn_of _ (by decide +kernel)) ggX10_make_X10_notes
set_option maxRecDepth 20000 in
theorem ggX10_make_X10_empties : GoodIn wsX10_make wsX10_empties := goodIn_r _ [18, 4, 63, 64, 65, 66, 67, 68, 69, 70, 71, 72, 73, 74, 75, 76, 77, 78, 79] (by decide +kernel) (by decide +kernel)
set_option maxRecDepth 20000 in
theorem gX10_make_X10_empties : GoodIn wsX10_make (wsV RX10 70 RX10 yX10_empties wsX10_empties) := goodIn_app (goodIn_of _ (by decide +kernel)) ggX10_make_X10_empties
set_option maxRecDepth 20000 in
theorem ggX10_make_X10_cells : GoodIn wsX10_make wsX10_cells := goodIn_r _ [22, 4, 63, 64, 65, 66, 67, 68, 69, 70, 71, 72, 73, 74, 75, 76, 77, 78, 79] (by decide +kernel) (by decide +kernel)
set_option maxRecDepth 20000 in
theorem gX10_make_X10_cells : GoodIn wsX10_make (wsV RX10 42 RX10 yX10_cells wsX10_cells) := goodIn_app (goodIn_of _ (by decide +kernel)) ggX10_make_X10_cells
set_option maxRecDepth 20000 in
theorem ggX10_make_X10_draw : GoodIn wsX10_make wsX10_draw := goodIn_r _ [26, 3, 27, 63, 64, 65, 66, 67, 68, 69, 70, 71, 72, 73, 74, 75, 76, 77, 78, 79] (by decide +kernel) (by decide +kernel)
set_option maxRecDepth 20000 in
theorem gX10_make_X10_draw : GoodIn wsX10_make (wsV RX10 187 RX10 yX10_draw wsX10_draw) := goodIn_app (goodIn_of _ (by decide +kernel)) ggX10_make_X10_draw
set_option maxRecDepth 20000 in
theorem ggX10_make_X10_islands : GoodIn wsX10_make wsX10_islands := goodIn_r _ [31, 19, 20, 21, 7, 22, 4, 32, 33, 34, 35, 63, 64, 65, 66, 67, 68, 69, 70, 71, 72, 73, 74, 75, 76, 77, 78, 79] (by decide +kernel) (by decide +kernel)
set_option maxRecDepth 20000 in
theorem gX10_make_X10_islands : GoodIn wsX10_make (wsV RX10 67 RX10 yX10_islands wsX10_islands) := goodIn_app (goodIn_of _ (by decide +kernel)) ggX10_make_X10_islands
set_option maxRecDepth 20000 in
theorem ggX10_make_X10_islandAt : GoodIn wsX10_make wsX10_islandAt := goodIn_r _ [39, 32, 33, 34, 7, 35, 4, 63, 64, 65, 66, 67, 68, 69, 70, 71, 72, 73, 74, 75, 76, 77, 78, 79] (by decide +kernel) (by decide +kernel)
set_option maxRecDepth 20000 in
theorem gX10_make_X10_islandAt : GoodIn wsX10_make (wsV RX10 190 RX10 yX10_islandAt wsX10_islandAt) := goodIn_app (goodIn_of _ (by decide +kernel)) ggX10_make_X10_islandAt
set_option maxRecDepth 20000 in
theorem ggX10_make_X10_grows : GoodIn wsX10_make wsX10_grows := goodIn_r _ [43, 4, 2, 5, 6, 7, 8, 32, 33, 34, 35, 63, 64, 65, 66, 67, 68, 69, 70, 71, 72, 73, 74, 75, 76, 77, 78, 79] (by decide +kernel) (by decide +kernel)
set_option maxRecDepth 20000 in
theorem gX10_make_X10_grows : GoodIn wsX10_make (wsV RX10 193 RX10 yX10_grows wsX10_grows) := goodIn_app (goodIn_of _ (by decide +kernel)) ggX10_make_X10_grows
set_option maxRecDepth 20000 in
theorem ggX10_make_X10_number : GoodIn wsX10_make wsX10_number := goodIn_r _ [35, 4, 63, 64, 65, 66, 67, 68, 69, 70, 71, 72, 73, 74, 75, 76, 77, 78, 79] (by decide +kernel) (by decide +kernel)
set_option maxRecDepth 20000 in
theorem gX10_make_X10_number : GoodIn wsX10_make (wsV RX10 50 RX10 yX10_number wsX10_number) := goodIn_app (goodIn_of _ (by decide +kernel)) ggX10_make_X10_number
set_option maxRecDepth 20000 in
theorem ggX10_make_X10_anew : GoodIn wsX10_make wsX10_anew := goodIn_r _ [47, 48, 49, 50, 7, 51, 52, 4, 19, 20, 21, 22, 32, 33, 34, 35, 53, 54, 55, 56, 57, 58, 59, 60, 61, 62, 63, 64, 65, 66, 67, 68, 69, 70, 71, 72, 73, 74, 75, 76, 77, 78, 79] (by decide +kernel) (by decide +kernel)
set_option maxRecDepth 20000 in
theorem gX10_make_X10_anew : GoodIn wsX10_make (wsV RX10 73 RX10 yX10_anew wsX10_anew) := goodIn_app (goodIn_of _ (by decide +kernel)) ggX10_make_X10_anew
theorem dX10_make_0 : decode cX10_make 0 = .ok (.iload_n 1, 1) := by decide +kernel
theorem dX10_make_1 : decode cX10_make 1 = .ok (.iconst 0, 1) := by decide +kernel
theorem dX10_make_2 : decode cX10_make 2 = .ok (.ldc 186, 2) := by decide +kernel
theorem dX10_make_4 : decode cX10_make 4 = .ok (.invokestatic 46, 3) := by decide +kernel
theorem dX10_make_7 : decode cX10_make 7 = .ok (.ifCond .eq 13, 3) := by decide +kernel
theorem dX10_make_10 : decode cX10_make 10 = .ok (.iload_n 2, 1) := by decide +kernel
theorem dX10_make_11 : decode cX10_make 11 = .ok (.iconst 2, 1) := by decide +kernel
theorem dX10_make_12 : decode cX10_make 12 = .ok (.bipush 24, 2) := by decide +kernel
theorem dX10_make_14 : decode cX10_make 14 = .ok (.invokestatic 46, 3) := by decide +kernel
theorem dX10_make_17 : decode cX10_make 17 = .ok (.ifCond .ne 5, 3) := by decide +kernel
theorem dX10_make_20 : decode cX10_make 20 = .ok (.iconst (-1), 1) := by decide +kernel
theorem dX10_make_21 : decode cX10_make 21 = .ok (.ireturn, 1) := by decide +kernel
theorem dX10_make_22 : decode cX10_make 22 = .ok (.aload_n 0, 1) := by decide +kernel
theorem dX10_make_23 : decode cX10_make 23 = .ok (.invokevirtual 64, 3) := by decide +kernel
theorem dX10_make_26 : decode cX10_make 26 = .ok (.aload_n 0, 1) := by decide +kernel
theorem dX10_make_27 : decode cX10_make 27 = .ok (.invokevirtual 70, 3) := by decide +kernel
theorem dX10_make_30 : decode cX10_make 30 = .ok (.iconst 0, 1) := by decide +kernel
theorem dX10_make_31 : decode cX10_make 31 = .ok (.istore_n 3, 1) := by decide +kernel
theorem dX10_make_32 : decode cX10_make 32 = .ok (.iload_n 3, 1) := by decide +kernel
theorem dX10_make_33 : decode cX10_make 33 = .ok (.sipush 144, 3) := by decide +kernel
theorem dX10_make_36 : decode cX10_make 36 = .ok (.if_icmp .ge 16, 3) := by decide +kernel
theorem dX10_make_39 : decode cX10_make 39 = .ok (.aload_n 0, 1) := by decide +kernel
theorem dX10_make_40 : decode cX10_make 40 = .ok (.getfield 32, 3) := by decide +kernel
theorem dX10_make_43 : decode cX10_make 43 = .ok (.iload_n 3, 1) := by decide +kernel
theorem dX10_make_44 : decode cX10_make 44 = .ok (.iconst 0, 1) := by decide +kernel
theorem dX10_make_45 : decode cX10_make 45 = .ok (.iastore, 1) := by decide +kernel
theorem dX10_make_46 : decode cX10_make 46 = .ok (.iinc 3 1, 3) := by decide +kernel
theorem dX10_make_49 : decode cX10_make 49 = .ok (.goto (-17), 3) := by decide +kernel
theorem dX10_make_52 : decode cX10_make 52 = .ok (.aload_n 0, 1) := by decide +kernel
theorem dX10_make_53 : decode cX10_make 53 = .ok (.iload_n 1, 1) := by decide +kernel
theorem dX10_make_54 : decode cX10_make 54 = .ok (.putfield 182, 3) := by decide +kernel
theorem dX10_make_57 : decode cX10_make 57 = .ok (.aload_n 0, 1) := by decide +kernel
theorem dX10_make_58 : decode cX10_make 58 = .ok (.getfield 7, 3) := by decide +kernel
theorem dX10_make_61 : decode cX10_make 61 = .ok (.iconst 4, 1) := by decide +kernel
theorem dX10_make_62 : decode cX10_make 62 = .ok (.aload_n 0, 1) := by decide +kernel
theorem dX10_make_63 : decode cX10_make 63 = .ok (.aload_n 0, 1) := by decide +kernel
theorem dX10_make_64 : decode cX10_make 64 = .ok (.invokevirtual 42, 3) := by decide +kernel
theorem dX10_make_67 : decode cX10_make 67 = .ok (.invokevirtual 187, 3) := by decide +kernel
theorem dX10_make_70 : decode cX10_make 70 = .ok (.iadd, 1) := by decide +kernel
theorem dX10_make_71 : decode cX10_make 71 = .ok (.iconst 1, 1) := by decide +kernel
theorem dX10_make_72 : decode cX10_make 72 = .ok (.iastore, 1) := by decide +kernel
theorem dX10_make_73 : decode cX10_make 73 = .ok (.iconst 0, 1) := by decide +kernel
theorem dX10_make_74 : decode cX10_make 74 = .ok (.istore_n 3, 1) := by decide +kernel
theorem dX10_make_75 : decode cX10_make 75 = .ok (.iload_n 3, 1) := by decide +kernel
theorem dX10_make_76 : decode cX10_make 76 = .ok (.sipush 200, 3) := by decide +kernel
theorem dX10_make_79 : decode cX10_make 79 = .ok (.if_icmp .ge 68, 3) := by decide +kernel
theorem dX10_make_82 : decode cX10_make 82 = .ok (.aload_n 0, 1) := by decide +kernel
theorem dX10_make_83 : decode cX10_make 83 = .ok (.invokevirtual 67, 3) := by decide +kernel
theorem dX10_make_86 : decode cX10_make 86 = .ok (.iload_n 2, 1) := by decide +kernel
theorem dX10_make_87 : decode cX10_make 87 = .ok (.if_icmp .ge 60, 3) := by decide +kernel
theorem dX10_make_90 : decode cX10_make 90 = .ok (.aload_n 0, 1) := by decide +kernel
theorem dX10_make_91 : decode cX10_make 91 = .ok (.aload_n 0, 1) := by decide +kernel
theorem dX10_make_92 : decode cX10_make 92 = .ok (.aload_n 0, 1) := by decide +kernel
theorem dX10_make_93 : decode cX10_make 93 = .ok (.invokevirtual 67, 3) := by decide +kernel
theorem dX10_make_96 : decode cX10_make 96 = .ok (.invokevirtual 187, 3) := by decide +kernel
theorem dX10_make_99 : decode cX10_make 99 = .ok (.invokevirtual 190, 3) := by decide +kernel
theorem dX10_make_102 : decode cX10_make 102 = .ok (.istore 4, 2) := by decide +kernel
theorem dX10_make_104 : decode cX10_make 104 = .ok (.aload_n 0, 1) := by decide +kernel
theorem dX10_make_105 : decode cX10_make 105 = .ok (.iconst 4, 1) := by decide +kernel
theorem dX10_make_106 : decode cX10_make 106 = .ok (.invokevirtual 187, 3) := by decide +kernel
theorem dX10_make_109 : decode cX10_make 109 = .ok (.istore 5, 2) := by decide +kernel
theorem dX10_make_111 : decode cX10_make 111 = .ok (.iconst 2, 1) := by decide +kernel
theorem dX10_make_112 : decode cX10_make 112 = .ok (.aload_n 0, 1) := by decide +kernel
theorem dX10_make_113 : decode cX10_make 113 = .ok (.iconst 4, 1) := by decide +kernel
theorem dX10_make_114 : decode cX10_make 114 = .ok (.invokevirtual 187, 3) := by decide +kernel
theorem dX10_make_117 : decode cX10_make 117 = .ok (.iadd, 1) := by decide +kernel
theorem dX10_make_118 : decode cX10_make 118 = .ok (.istore 6, 2) := by decide +kernel
theorem dX10_make_120 : decode cX10_make 120 = .ok (.iconst 1, 1) := by decide +kernel
theorem dX10_make_121 : decode cX10_make 121 = .ok (.aload_n 0, 1) := by decide +kernel
theorem dX10_make_122 : decode cX10_make 122 = .ok (.iconst 2, 1) := by decide +kernel
theorem dX10_make_123 : decode cX10_make 123 = .ok (.invokevirtual 187, 3) := by decide +kernel
theorem dX10_make_126 : decode cX10_make 126 = .ok (.iadd, 1) := by decide +kernel
theorem dX10_make_127 : decode cX10_make 127 = .ok (.istore 7, 2) := by decide +kernel
theorem dX10_make_129 : decode cX10_make 129 = .ok (.aload_n 0, 1) := by decide +kernel
theorem dX10_make_130 : decode cX10_make 130 = .ok (.iload 4, 2) := by decide +kernel
theorem dX10_make_132 : decode cX10_make 132 = .ok (.iload 5, 2) := by decide +kernel
theorem dX10_make_134 : decode cX10_make 134 = .ok (.iload 6, 2) := by decide +kernel
theorem dX10_make_136 : decode cX10_make 136 = .ok (.iload 7, 2) := by decide +kernel
theorem dX10_make_138 : decode cX10_make 138 = .ok (.invokevirtual 193, 3) := by decide +kernel
theorem dX10_make_141 : decode cX10_make 141 = .ok (.iinc 3 1, 3) := by decide +kernel
theorem dX10_make_144 : decode cX10_make 144 = .ok (.goto (-69), 3) := by decide +kernel
theorem dX10_make_147 : decode cX10_make 147 = .ok (.aload_n 0, 1) := by decide +kernel
theorem dX10_make_148 : decode cX10_make 148 = .ok (.invokevirtual 67, 3) := by decide +kernel
theorem dX10_make_151 : decode cX10_make 151 = .ok (.istore_n 3, 1) := by decide +kernel
theorem dX10_make_152 : decode cX10_make 152 = .ok (.iconst 0, 1) := by decide +kernel
theorem dX10_make_153 : decode cX10_make 153 = .ok (.istore 4, 2) := by decide +kernel
theorem dX10_make_155 : decode cX10_make 155 = .ok (.iload 4, 2) := by decide +kernel
theorem dX10_make_157 : decode cX10_make 157 = .ok (.aload_n 0, 1) := by decide +kernel
theorem dX10_make_158 : decode cX10_make 158 = .ok (.invokevirtual 42, 3) := by decide +kernel
theorem dX10_make_161 : decode cX10_make 161 = .ok (.if_icmp .ge 40, 3) := by decide +kernel
theorem dX10_make_164 : decode cX10_make 164 = .ok (.aload_n 0, 1) := by decide +kernel
theorem dX10_make_165 : decode cX10_make 165 = .ok (.getfield 7, 3) := by decide +kernel
theorem dX10_make_168 : decode cX10_make 168 = .ok (.iconst 4, 1) := by decide +kernel
theorem dX10_make_169 : decode cX10_make 169 = .ok (.iload 4, 2) := by decide +kernel
theorem dX10_make_171 : decode cX10_make 171 = .ok (.iadd, 1) := by decide +kernel
theorem dX10_make_172 : decode cX10_make 172 = .ok (.dup2, 1) := by decide +kernel
theorem dX10_make_173 : decode cX10_make 173 = .ok (.iaload, 1) := by decide +kernel
theorem dX10_make_174 : decode cX10_make 174 = .ok (.aload_n 0, 1) := by decide +kernel
theorem dX10_make_175 : decode cX10_make 175 = .ok (.iload 4, 2) := by decide +kernel
theorem dX10_make_177 : decode cX10_make 177 = .ok (.invokevirtual 50, 3) := by decide +kernel
theorem dX10_make_180 : decode cX10_make 180 = .ok (.ifCond .le 12, 3) := by decide +kernel
theorem dX10_make_183 : decode cX10_make 183 = .ok (.iload_n 3, 1) := by decide +kernel
theorem dX10_make_184 : decode cX10_make 184 = .ok (.iconst 1, 1) := by decide +kernel
theorem dX10_make_185 : decode cX10_make 185 = .ok (.if_icmp .le 7, 3) := by decide +kernel
theorem dX10_make_188 : decode cX10_make 188 = .ok (.iconst 1, 1) := by decide +kernel
theorem dX10_make_189 : decode cX10_make 189 = .ok (.goto 4, 3) := by decide +kernel
theorem dX10_make_192 : decode cX10_make 192 = .ok (.iconst 0, 1) := by decide +kernel
theorem dX10_make_193 : decode cX10_make 193 = .ok (.isub, 1) := by decide +kernel
theorem dX10_make_194 : decode cX10_make 194 = .ok (.iastore, 1) := by decide +kernel
theorem dX10_make_195 : decode cX10_make 195 = .ok (.iinc 4 1, 3) := by decide +kernel
theorem dX10_make_198 : decode cX10_make 198 = .ok (.goto (-43), 3) := by decide +kernel
theorem dX10_make_201 : decode cX10_make 201 = .ok (.aload_n 0, 1) := by decide +kernel
theorem dX10_make_202 : decode cX10_make 202 = .ok (.invokevirtual 73, 3) := by decide +kernel
theorem dX10_make_205 : decode cX10_make 205 = .ok (.iload_n 3, 1) := by decide +kernel
theorem dX10_make_206 : decode cX10_make 206 = .ok (.ireturn, 1) := by decide +kernel
set_option maxRecDepth 20000 in
theorem ggX10_type_X10_in : GoodIn wsX10_type wsX10_in := goodIn_r _ [6] (by decide +kernel) (by decide +kernel)
set_option maxRecDepth 20000 in
theorem gX10_type_X10_in : GoodIn wsX10_type (va_wsS RX10 46 yX10_in wsX10_in) := goodIn_app (goodIn_of _ (by decide +kernel)) ggX10_type_X10_in
theorem dX10_type_0 : decode cX10_type 0 = .ok (.iload_n 1, 1) := by decide +kernel
theorem dX10_type_1 : decode cX10_type 1 = .ok (.bipush 32, 2) := by decide +kernel
theorem dX10_type_3 : decode cX10_type 3 = .ok (.bipush 126, 2) := by decide +kernel
theorem dX10_type_5 : decode cX10_type 5 = .ok (.invokestatic 46, 3) := by decide +kernel
theorem dX10_type_8 : decode cX10_type 8 = .ok (.ifCond .ne 5, 3) := by decide +kernel
theorem dX10_type_11 : decode cX10_type 11 = .ok (.iconst (-1), 1) := by decide +kernel
theorem dX10_type_12 : decode cX10_type 12 = .ok (.ireturn, 1) := by decide +kernel
theorem dX10_type_13 : decode cX10_type 13 = .ok (.aload_n 0, 1) := by decide +kernel
theorem dX10_type_14 : decode cX10_type 14 = .ok (.getfield 147, 3) := by decide +kernel
theorem dX10_type_17 : decode cX10_type 17 = .ok (.sipush 160, 3) := by decide +kernel
theorem dX10_type_20 : decode cX10_type 20 = .ok (.if_icmp .ne 6, 3) := by decide +kernel
theorem dX10_type_23 : decode cX10_type 23 = .ok (.bipush (-3), 2) := by decide +kernel
theorem dX10_type_25 : decode cX10_type 25 = .ok (.ireturn, 1) := by decide +kernel
theorem dX10_type_26 : decode cX10_type 26 = .ok (.aload_n 0, 1) := by decide +kernel
theorem dX10_type_27 : decode cX10_type 27 = .ok (.getfield 16, 3) := by decide +kernel
theorem dX10_type_30 : decode cX10_type 30 = .ok (.aload_n 0, 1) := by decide +kernel
theorem dX10_type_31 : decode cX10_type 31 = .ok (.getfield 147, 3) := by decide +kernel
theorem dX10_type_34 : decode cX10_type 34 = .ok (.iload_n 1, 1) := by decide +kernel
theorem dX10_type_35 : decode cX10_type 35 = .ok (.i2b, 1) := by decide +kernel
theorem dX10_type_36 : decode cX10_type 36 = .ok (.bastore, 1) := by decide +kernel
theorem dX10_type_37 : decode cX10_type 37 = .ok (.aload_n 0, 1) := by decide +kernel
theorem dX10_type_38 : decode cX10_type 38 = .ok (.dup, 1) := by decide +kernel
theorem dX10_type_39 : decode cX10_type 39 = .ok (.getfield 147, 3) := by decide +kernel
theorem dX10_type_42 : decode cX10_type 42 = .ok (.iconst 1, 1) := by decide +kernel
theorem dX10_type_43 : decode cX10_type 43 = .ok (.iadd, 1) := by decide +kernel
theorem dX10_type_44 : decode cX10_type 44 = .ok (.putfield 147, 3) := by decide +kernel
theorem dX10_type_47 : decode cX10_type 47 = .ok (.aload_n 0, 1) := by decide +kernel
theorem dX10_type_48 : decode cX10_type 48 = .ok (.getfield 147, 3) := by decide +kernel
theorem dX10_type_51 : decode cX10_type 51 = .ok (.ireturn, 1) := by decide +kernel
theorem dX10_clearText_0 : decode cX10_clearText 0 = .ok (.aload_n 0, 1) := by decide +kernel
theorem dX10_clearText_1 : decode cX10_clearText 1 = .ok (.getfield 147, 3) := by decide +kernel
theorem dX10_clearText_4 : decode cX10_clearText 4 = .ok (.istore_n 1, 1) := by decide +kernel
theorem dX10_clearText_5 : decode cX10_clearText 5 = .ok (.aload_n 0, 1) := by decide +kernel
theorem dX10_clearText_6 : decode cX10_clearText 6 = .ok (.iconst 0, 1) := by decide +kernel
theorem dX10_clearText_7 : decode cX10_clearText 7 = .ok (.putfield 147, 3) := by decide +kernel
theorem dX10_clearText_10 : decode cX10_clearText 10 = .ok (.iload_n 1, 1) := by decide +kernel
theorem dX10_clearText_11 : decode cX10_clearText 11 = .ok (.ireturn, 1) := by decide +kernel
set_option maxRecDepth 20000 in
theorem ggX10_reads_X10_in : GoodIn wsX10_reads wsX10_in := goodIn_r _ [8] (by decide +kernel) (by decide +kernel)
set_option maxRecDepth 20000 in
theorem gX10_reads_X10_in : GoodIn wsX10_reads (va_wsS RX10 46 yX10_in wsX10_in) := goodIn_app (goodIn_of _ (by decide +kernel)) ggX10_reads_X10_in
theorem dX10_reads_0 : decode cX10_reads 0 = .ok (.aload_n 0, 1) := by decide +kernel
theorem dX10_reads_1 : decode cX10_reads 1 = .ok (.getfield 197, 3) := by decide +kernel
theorem dX10_reads_4 : decode cX10_reads 4 = .ok (.iconst 1, 1) := by decide +kernel
theorem dX10_reads_5 : decode cX10_reads 5 = .ok (.if_icmp .ne 7, 3) := by decide +kernel
theorem dX10_reads_8 : decode cX10_reads 8 = .ok (.iconst 1, 1) := by decide +kernel
theorem dX10_reads_9 : decode cX10_reads 9 = .ok (.goto 4, 3) := by decide +kernel
theorem dX10_reads_12 : decode cX10_reads 12 = .ok (.iconst 0, 1) := by decide +kernel
theorem dX10_reads_13 : decode cX10_reads 13 = .ok (.istore_n 2, 1) := by decide +kernel
theorem dX10_reads_14 : decode cX10_reads 14 = .ok (.iload_n 1, 1) := by decide +kernel
theorem dX10_reads_15 : decode cX10_reads 15 = .ok (.bipush 47, 2) := by decide +kernel
theorem dX10_reads_17 : decode cX10_reads 17 = .ok (.if_icmp .ne 67, 3) := by decide +kernel
theorem dX10_reads_20 : decode cX10_reads 20 = .ok (.iload_n 2, 1) := by decide +kernel
theorem dX10_reads_21 : decode cX10_reads 21 = .ok (.ifCond .eq 14, 3) := by decide +kernel
theorem dX10_reads_24 : decode cX10_reads 24 = .ok (.aload_n 0, 1) := by decide +kernel
theorem dX10_reads_25 : decode cX10_reads 25 = .ok (.getfield 200, 3) := by decide +kernel
theorem dX10_reads_28 : decode cX10_reads 28 = .ok (.iconst 3, 1) := by decide +kernel
theorem dX10_reads_29 : decode cX10_reads 29 = .ok (.if_icmp .ge 19, 3) := by decide +kernel
theorem dX10_reads_32 : decode cX10_reads 32 = .ok (.goto 14, 3) := by decide +kernel
theorem dX10_reads_35 : decode cX10_reads 35 = .ok (.aload_n 0, 1) := by decide +kernel
theorem dX10_reads_36 : decode cX10_reads 36 = .ok (.getfield 200, 3) := by decide +kernel
theorem dX10_reads_39 : decode cX10_reads 39 = .ok (.aload_n 0, 1) := by decide +kernel
theorem dX10_reads_40 : decode cX10_reads 40 = .ok (.getfield 203, 3) := by decide +kernel
theorem dX10_reads_43 : decode cX10_reads 43 = .ok (.if_icmp .ge 5, 3) := by decide +kernel
theorem dX10_reads_46 : decode cX10_reads 46 = .ok (.iconst 2, 1) := by decide +kernel
theorem dX10_reads_47 : decode cX10_reads 47 = .ok (.ireturn, 1) := by decide +kernel
theorem dX10_reads_48 : decode cX10_reads 48 = .ok (.aload_n 0, 1) := by decide +kernel
theorem dX10_reads_49 : decode cX10_reads 49 = .ok (.getfield 197, 3) := by decide +kernel
theorem dX10_reads_52 : decode cX10_reads 52 = .ok (.bipush 12, 2) := by decide +kernel
theorem dX10_reads_54 : decode cX10_reads 54 = .ok (.if_icmp .ne 5, 3) := by decide +kernel
theorem dX10_reads_57 : decode cX10_reads 57 = .ok (.iconst 3, 1) := by decide +kernel
theorem dX10_reads_58 : decode cX10_reads 58 = .ok (.ireturn, 1) := by decide +kernel
theorem dX10_reads_59 : decode cX10_reads 59 = .ok (.aload_n 0, 1) := by decide +kernel
theorem dX10_reads_60 : decode cX10_reads 60 = .ok (.aload_n 0, 1) := by decide +kernel
theorem dX10_reads_61 : decode cX10_reads 61 = .ok (.getfield 200, 3) := by decide +kernel
theorem dX10_reads_64 : decode cX10_reads 64 = .ok (.putfield 203, 3) := by decide +kernel
theorem dX10_reads_67 : decode cX10_reads 67 = .ok (.aload_n 0, 1) := by decide +kernel
theorem dX10_reads_68 : decode cX10_reads 68 = .ok (.iconst 0, 1) := by decide +kernel
theorem dX10_reads_69 : decode cX10_reads 69 = .ok (.putfield 200, 3) := by decide +kernel
theorem dX10_reads_72 : decode cX10_reads 72 = .ok (.aload_n 0, 1) := by decide +kernel
theorem dX10_reads_73 : decode cX10_reads 73 = .ok (.dup, 1) := by decide +kernel
theorem dX10_reads_74 : decode cX10_reads 74 = .ok (.getfield 197, 3) := by decide +kernel
theorem dX10_reads_77 : decode cX10_reads 77 = .ok (.iconst 1, 1) := by decide +kernel
theorem dX10_reads_78 : decode cX10_reads 78 = .ok (.iadd, 1) := by decide +kernel
theorem dX10_reads_79 : decode cX10_reads 79 = .ok (.putfield 197, 3) := by decide +kernel
theorem dX10_reads_82 : decode cX10_reads 82 = .ok (.iconst 0, 1) := by decide +kernel
theorem dX10_reads_83 : decode cX10_reads 83 = .ok (.ireturn, 1) := by decide +kernel
theorem dX10_reads_84 : decode cX10_reads 84 = .ok (.iload_n 1, 1) := by decide +kernel
theorem dX10_reads_85 : decode cX10_reads 85 = .ok (.bipush 46, 2) := by decide +kernel
theorem dX10_reads_87 : decode cX10_reads 87 = .ok (.if_icmp .eq 16, 3) := by decide +kernel
theorem dX10_reads_90 : decode cX10_reads 90 = .ok (.iload_n 1, 1) := by decide +kernel
theorem dX10_reads_91 : decode cX10_reads 91 = .ok (.bipush 49, 2) := by decide +kernel
theorem dX10_reads_93 : decode cX10_reads 93 = .ok (.bipush 56, 2) := by decide +kernel
theorem dX10_reads_95 : decode cX10_reads 95 = .ok (.invokestatic 46, 3) := by decide +kernel
theorem dX10_reads_98 : decode cX10_reads 98 = .ok (.ifCond .ne 5, 3) := by decide +kernel
theorem dX10_reads_101 : decode cX10_reads 101 = .ok (.iconst 1, 1) := by decide +kernel
theorem dX10_reads_102 : decode cX10_reads 102 = .ok (.ireturn, 1) := by decide +kernel
theorem dX10_reads_103 : decode cX10_reads 103 = .ok (.aload_n 0, 1) := by decide +kernel
theorem dX10_reads_104 : decode cX10_reads 104 = .ok (.getfield 200, 3) := by decide +kernel
theorem dX10_reads_107 : decode cX10_reads 107 = .ok (.iload_n 2, 1) := by decide +kernel
theorem dX10_reads_108 : decode cX10_reads 108 = .ok (.ifCond .eq 8, 3) := by decide +kernel
theorem dX10_reads_111 : decode cX10_reads 111 = .ok (.bipush 12, 2) := by decide +kernel
theorem dX10_reads_113 : decode cX10_reads 113 = .ok (.goto 7, 3) := by decide +kernel
theorem dX10_reads_116 : decode cX10_reads 116 = .ok (.aload_n 0, 1) := by decide +kernel
theorem dX10_reads_117 : decode cX10_reads 117 = .ok (.getfield 203, 3) := by decide +kernel
theorem dX10_reads_120 : decode cX10_reads 120 = .ok (.if_icmp .ne 5, 3) := by decide +kernel
theorem dX10_reads_123 : decode cX10_reads 123 = .ok (.iconst 2, 1) := by decide +kernel
theorem dX10_reads_124 : decode cX10_reads 124 = .ok (.ireturn, 1) := by decide +kernel
theorem dX10_reads_125 : decode cX10_reads 125 = .ok (.iload_n 1, 1) := by decide +kernel
theorem dX10_reads_126 : decode cX10_reads 126 = .ok (.bipush 46, 2) := by decide +kernel
theorem dX10_reads_128 : decode cX10_reads 128 = .ok (.if_icmp .eq 14, 3) := by decide +kernel
theorem dX10_reads_131 : decode cX10_reads 131 = .ok (.aload_n 0, 1) := by decide +kernel
theorem dX10_reads_132 : decode cX10_reads 132 = .ok (.getfield 206, 3) := by decide +kernel
theorem dX10_reads_135 : decode cX10_reads 135 = .ok (.bipush 24, 2) := by decide +kernel
theorem dX10_reads_137 : decode cX10_reads 137 = .ok (.if_icmp .ne 5, 3) := by decide +kernel
theorem dX10_reads_140 : decode cX10_reads 140 = .ok (.iconst 4, 1) := by decide +kernel
theorem dX10_reads_141 : decode cX10_reads 141 = .ok (.ireturn, 1) := by decide +kernel
theorem dX10_reads_142 : decode cX10_reads 142 = .ok (.aload_n 0, 1) := by decide +kernel
theorem dX10_reads_143 : decode cX10_reads 143 = .ok (.dup, 1) := by decide +kernel
theorem dX10_reads_144 : decode cX10_reads 144 = .ok (.getfield 206, 3) := by decide +kernel
theorem dX10_reads_147 : decode cX10_reads 147 = .ok (.iload_n 1, 1) := by decide +kernel
theorem dX10_reads_148 : decode cX10_reads 148 = .ok (.bipush 46, 2) := by decide +kernel
theorem dX10_reads_150 : decode cX10_reads 150 = .ok (.if_icmp .ne 7, 3) := by decide +kernel
theorem dX10_reads_153 : decode cX10_reads 153 = .ok (.iconst 0, 1) := by decide +kernel
theorem dX10_reads_154 : decode cX10_reads 154 = .ok (.goto 4, 3) := by decide +kernel
theorem dX10_reads_157 : decode cX10_reads 157 = .ok (.iconst 1, 1) := by decide +kernel
theorem dX10_reads_158 : decode cX10_reads 158 = .ok (.iadd, 1) := by decide +kernel
theorem dX10_reads_159 : decode cX10_reads 159 = .ok (.putfield 206, 3) := by decide +kernel
theorem dX10_reads_162 : decode cX10_reads 162 = .ok (.aload_n 0, 1) := by decide +kernel
theorem dX10_reads_163 : decode cX10_reads 163 = .ok (.dup, 1) := by decide +kernel
theorem dX10_reads_164 : decode cX10_reads 164 = .ok (.getfield 200, 3) := by decide +kernel
theorem dX10_reads_167 : decode cX10_reads 167 = .ok (.iconst 1, 1) := by decide +kernel
theorem dX10_reads_168 : decode cX10_reads 168 = .ok (.iadd, 1) := by decide +kernel
theorem dX10_reads_169 : decode cX10_reads 169 = .ok (.putfield 200, 3) := by decide +kernel
theorem dX10_reads_172 : decode cX10_reads 172 = .ok (.iconst 0, 1) := by decide +kernel
theorem dX10_reads_173 : decode cX10_reads 173 = .ok (.ireturn, 1) := by decide +kernel
set_option maxRecDepth 20000 in
theorem ggX10_wrongAt_X10_reads : GoodIn wsX10_wrongAt wsX10_reads := goodIn_r _ [12, 1, 3, 2, 4, 13, 14, 11, 15, 16, 17, 18, 19, 20, 21, 22, 23, 24, 25, 26, 27, 28, 29, 30, 31, 32] (by decide +kernel) (by decide +kernel)
set_option maxRecDepth 20000 in
theorem gX10_wrongAt_X10_reads : GoodIn wsX10_wrongAt (wsV RX10 212 RX10 yX10_reads wsX10_reads) := goodIn_app (goodIn_of _ (by decide +kernel)) ggX10_wrongAt_X10_reads
theorem dX10_wrongAt_0 : decode cX10_wrongAt 0 = .ok (.aload_n 0, 1) := by decide +kernel
theorem dX10_wrongAt_1 : decode cX10_wrongAt 1 = .ok (.iconst 1, 1) := by decide +kernel
theorem dX10_wrongAt_2 : decode cX10_wrongAt 2 = .ok (.putfield 197, 3) := by decide +kernel
theorem dX10_wrongAt_5 : decode cX10_wrongAt 5 = .ok (.aload_n 0, 1) := by decide +kernel
theorem dX10_wrongAt_6 : decode cX10_wrongAt 6 = .ok (.iconst 0, 1) := by decide +kernel
theorem dX10_wrongAt_7 : decode cX10_wrongAt 7 = .ok (.putfield 203, 3) := by decide +kernel
theorem dX10_wrongAt_10 : decode cX10_wrongAt 10 = .ok (.aload_n 0, 1) := by decide +kernel
theorem dX10_wrongAt_11 : decode cX10_wrongAt 11 = .ok (.iconst 0, 1) := by decide +kernel
theorem dX10_wrongAt_12 : decode cX10_wrongAt 12 = .ok (.putfield 200, 3) := by decide +kernel
theorem dX10_wrongAt_15 : decode cX10_wrongAt 15 = .ok (.aload_n 0, 1) := by decide +kernel
theorem dX10_wrongAt_16 : decode cX10_wrongAt 16 = .ok (.iconst 0, 1) := by decide +kernel
theorem dX10_wrongAt_17 : decode cX10_wrongAt 17 = .ok (.putfield 206, 3) := by decide +kernel
theorem dX10_wrongAt_20 : decode cX10_wrongAt 20 = .ok (.aload_n 0, 1) := by decide +kernel
theorem dX10_wrongAt_21 : decode cX10_wrongAt 21 = .ok (.iconst 0, 1) := by decide +kernel
theorem dX10_wrongAt_22 : decode cX10_wrongAt 22 = .ok (.putfield 209, 3) := by decide +kernel
theorem dX10_wrongAt_25 : decode cX10_wrongAt 25 = .ok (.iconst 0, 1) := by decide +kernel
theorem dX10_wrongAt_26 : decode cX10_wrongAt 26 = .ok (.istore_n 1, 1) := by decide +kernel
theorem dX10_wrongAt_27 : decode cX10_wrongAt 27 = .ok (.iload_n 1, 1) := by decide +kernel
theorem dX10_wrongAt_28 : decode cX10_wrongAt 28 = .ok (.aload_n 0, 1) := by decide +kernel
theorem dX10_wrongAt_29 : decode cX10_wrongAt 29 = .ok (.getfield 147, 3) := by decide +kernel
theorem dX10_wrongAt_32 : decode cX10_wrongAt 32 = .ok (.if_icmp .ge 32, 3) := by decide +kernel
theorem dX10_wrongAt_35 : decode cX10_wrongAt 35 = .ok (.aload_n 0, 1) := by decide +kernel
theorem dX10_wrongAt_36 : decode cX10_wrongAt 36 = .ok (.aload_n 0, 1) := by decide +kernel
theorem dX10_wrongAt_37 : decode cX10_wrongAt 37 = .ok (.aload_n 0, 1) := by decide +kernel
theorem dX10_wrongAt_38 : decode cX10_wrongAt 38 = .ok (.getfield 16, 3) := by decide +kernel
theorem dX10_wrongAt_41 : decode cX10_wrongAt 41 = .ok (.iload_n 1, 1) := by decide +kernel
theorem dX10_wrongAt_42 : decode cX10_wrongAt 42 = .ok (.baload, 1) := by decide +kernel
theorem dX10_wrongAt_43 : decode cX10_wrongAt 43 = .ok (.invokevirtual 212, 3) := by decide +kernel
theorem dX10_wrongAt_46 : decode cX10_wrongAt 46 = .ok (.putfield 209, 3) := by decide +kernel
theorem dX10_wrongAt_49 : decode cX10_wrongAt 49 = .ok (.aload_n 0, 1) := by decide +kernel
theorem dX10_wrongAt_50 : decode cX10_wrongAt 50 = .ok (.getfield 209, 3) := by decide +kernel
theorem dX10_wrongAt_53 : decode cX10_wrongAt 53 = .ok (.ifCond .eq 5, 3) := by decide +kernel
theorem dX10_wrongAt_56 : decode cX10_wrongAt 56 = .ok (.iload_n 1, 1) := by decide +kernel
theorem dX10_wrongAt_57 : decode cX10_wrongAt 57 = .ok (.ireturn, 1) := by decide +kernel
theorem dX10_wrongAt_58 : decode cX10_wrongAt 58 = .ok (.iinc 1 1, 3) := by decide +kernel
theorem dX10_wrongAt_61 : decode cX10_wrongAt 61 = .ok (.goto (-34), 3) := by decide +kernel
theorem dX10_wrongAt_64 : decode cX10_wrongAt 64 = .ok (.aload_n 0, 1) := by decide +kernel
theorem dX10_wrongAt_65 : decode cX10_wrongAt 65 = .ok (.aload_n 0, 1) := by decide +kernel
theorem dX10_wrongAt_66 : decode cX10_wrongAt 66 = .ok (.getfield 197, 3) := by decide +kernel
theorem dX10_wrongAt_69 : decode cX10_wrongAt 69 = .ok (.iconst 3, 1) := by decide +kernel
theorem dX10_wrongAt_70 : decode cX10_wrongAt 70 = .ok (.if_icmp .lt 14, 3) := by decide +kernel
theorem dX10_wrongAt_73 : decode cX10_wrongAt 73 = .ok (.aload_n 0, 1) := by decide +kernel
theorem dX10_wrongAt_74 : decode cX10_wrongAt 74 = .ok (.getfield 200, 3) := by decide +kernel
theorem dX10_wrongAt_77 : decode cX10_wrongAt 77 = .ok (.aload_n 0, 1) := by decide +kernel
theorem dX10_wrongAt_78 : decode cX10_wrongAt 78 = .ok (.getfield 203, 3) := by decide +kernel
theorem dX10_wrongAt_81 : decode cX10_wrongAt 81 = .ok (.if_icmp .ge 7, 3) := by decide +kernel
theorem dX10_wrongAt_84 : decode cX10_wrongAt 84 = .ok (.iconst 5, 1) := by decide +kernel
theorem dX10_wrongAt_85 : decode cX10_wrongAt 85 = .ok (.goto 4, 3) := by decide +kernel
theorem dX10_wrongAt_88 : decode cX10_wrongAt 88 = .ok (.iconst 0, 1) := by decide +kernel
theorem dX10_wrongAt_89 : decode cX10_wrongAt 89 = .ok (.putfield 209, 3) := by decide +kernel
theorem dX10_wrongAt_92 : decode cX10_wrongAt 92 = .ok (.aload_n 0, 1) := by decide +kernel
theorem dX10_wrongAt_93 : decode cX10_wrongAt 93 = .ok (.getfield 209, 3) := by decide +kernel
theorem dX10_wrongAt_96 : decode cX10_wrongAt 96 = .ok (.ifCond .ne 8, 3) := by decide +kernel
theorem dX10_wrongAt_99 : decode cX10_wrongAt 99 = .ok (.bipush (-4), 2) := by decide +kernel
theorem dX10_wrongAt_101 : decode cX10_wrongAt 101 = .ok (.goto 7, 3) := by decide +kernel
theorem dX10_wrongAt_104 : decode cX10_wrongAt 104 = .ok (.aload_n 0, 1) := by decide +kernel
theorem dX10_wrongAt_105 : decode cX10_wrongAt 105 = .ok (.getfield 147, 3) := by decide +kernel
theorem dX10_wrongAt_108 : decode cX10_wrongAt 108 = .ok (.ireturn, 1) := by decide +kernel
set_option maxRecDepth 20000 in
theorem ggX10_fault_X10_in : GoodIn wsX10_fault wsX10_in := goodIn_r _ [5] (by decide +kernel) (by decide +kernel)
set_option maxRecDepth 20000 in
theorem gX10_fault_X10_in : GoodIn wsX10_fault (va_wsS RX10 46 yX10_in wsX10_in) := goodIn_app (goodIn_of _ (by decide +kernel)) ggX10_fault_X10_in
set_option maxRecDepth 20000 in
theorem ggX10_fault_X10_wrongAt : GoodIn wsX10_fault wsX10_wrongAt := goodIn_r _ [9, 10, 11, 12, 13, 1, 14, 15, 16, 17, 18, 4, 19, 2, 3, 5, 20, 21, 22, 23, 24, 25, 26, 27, 28, 29, 30, 31, 32, 33, 34, 35, 36] (by decide +kernel) (by decide +kernel)
set_option maxRecDepth 20000 in
theorem gX10_fault_X10_wrongAt : GoodIn wsX10_fault (wsV RX10 215 RX10 yX10_wrongAt wsX10_wrongAt) := goodIn_app (goodIn_of _ (by decide +kernel)) ggX10_fault_X10_wrongAt
theorem dX10_fault_0 : decode cX10_fault 0 = .ok (.iload_n 1, 1) := by decide +kernel
theorem dX10_fault_1 : decode cX10_fault 1 = .ok (.iconst 0, 1) := by decide +kernel
theorem dX10_fault_2 : decode cX10_fault 2 = .ok (.iconst 1, 1) := by decide +kernel
theorem dX10_fault_3 : decode cX10_fault 3 = .ok (.invokestatic 46, 3) := by decide +kernel
theorem dX10_fault_6 : decode cX10_fault 6 = .ok (.ifCond .ne 5, 3) := by decide +kernel
theorem dX10_fault_9 : decode cX10_fault 9 = .ok (.iconst (-1), 1) := by decide +kernel
theorem dX10_fault_10 : decode cX10_fault 10 = .ok (.ireturn, 1) := by decide +kernel
theorem dX10_fault_11 : decode cX10_fault 11 = .ok (.aload_n 0, 1) := by decide +kernel
theorem dX10_fault_12 : decode cX10_fault 12 = .ok (.invokevirtual 215, 3) := by decide +kernel
theorem dX10_fault_15 : decode cX10_fault 15 = .ok (.istore_n 2, 1) := by decide +kernel
theorem dX10_fault_16 : decode cX10_fault 16 = .ok (.iload_n 2, 1) := by decide +kernel
theorem dX10_fault_17 : decode cX10_fault 17 = .ok (.ifCond .lt 7, 3) := by decide +kernel
theorem dX10_fault_20 : decode cX10_fault 20 = .ok (.iload_n 1, 1) := by decide +kernel
theorem dX10_fault_21 : decode cX10_fault 21 = .ok (.ifCond .ne 7, 3) := by decide +kernel
theorem dX10_fault_24 : decode cX10_fault 24 = .ok (.iload_n 2, 1) := by decide +kernel
theorem dX10_fault_25 : decode cX10_fault 25 = .ok (.goto 7, 3) := by decide +kernel
theorem dX10_fault_28 : decode cX10_fault 28 = .ok (.aload_n 0, 1) := by decide +kernel
theorem dX10_fault_29 : decode cX10_fault 29 = .ok (.getfield 209, 3) := by decide +kernel
theorem dX10_fault_32 : decode cX10_fault 32 = .ok (.ireturn, 1) := by decide +kernel
set_option maxRecDepth 20000 in
theorem ggX10_load_X10_wrongAt : GoodIn wsX10_load wsX10_wrongAt := goodIn_r _ [10, 3, 2, 11, 12, 13, 4, 5, 14, 15, 16, 9, 17, 18, 19, 20, 62, 63, 64, 65, 66, 67, 68, 69, 70, 71, 72, 73, 74, 75, 76, 77, 78] (by decide +kernel) (by decide +kernel)
set_option maxRecDepth 20000 in
theorem gX10_load_X10_wrongAt : GoodIn wsX10_load (wsV RX10 215 RX10 yX10_wrongAt wsX10_wrongAt) := goodIn_app (goodIn_of _ (by decide +kernel)) ggX10_load_X10_wrongAt
set_option maxRecDepth 20000 in
theorem ggX10_load_X10_notes : GoodIn wsX10_load wsX10_notes := goodIn_r _ [24, 25, 26, 1, 62, 63, 64, 65, 66, 67, 68, 69, 70, 71, 72, 73, 74, 75, 76, 77, 78] (by decide +kernel) (by decide +kernel)
set_option maxRecDepth 20000 in
theorem gX10_load_X10_notes : GoodIn wsX10_load (wsV RX10 64 RX10 yX10_notes wsX10_notes) := goodIn_app (goodIn_of _ (by decide +kernel)) ggX10_load_X10_notes
set_option maxRecDepth 20000 in
theorem ggX10_load_X10_empties : GoodIn wsX10_load wsX10_empties := goodIn_r _ [30, 1, 62, 63, 64, 65, 66, 67, 68, 69, 70, 71, 72, 73, 74, 75, 76, 77, 78] (by decide +kernel) (by decide +kernel)
set_option maxRecDepth 20000 in
theorem gX10_load_X10_empties : GoodIn wsX10_load (wsV RX10 70 RX10 yX10_empties wsX10_empties) := goodIn_app (goodIn_of _ (by decide +kernel)) ggX10_load_X10_empties
set_option maxRecDepth 20000 in
theorem ggX10_load_X10_anew : GoodIn wsX10_load wsX10_anew := goodIn_r _ [34, 35, 36, 37, 9, 38, 39, 1, 40, 41, 42, 43, 44, 45, 46, 47, 48, 49, 50, 51, 52, 53, 54, 55, 56, 57, 62, 63, 64, 65, 66, 67, 68, 69, 70, 71, 72, 73, 74, 75, 76, 77, 78] (by decide +kernel) (by decide +kernel)
set_option maxRecDepth 20000 in
theorem gX10_load_X10_anew : GoodIn wsX10_load (wsV RX10 73 RX10 yX10_anew wsX10_anew) := goodIn_app (goodIn_of _ (by decide +kernel)) ggX10_load_X10_anew
set_option maxRecDepth 20000 in
theorem ggX10_load_X10_islands : GoodIn wsX10_load wsX10_islands := goodIn_r _ [61, 40, 41, 42, 9, 43, 1, 44, 45, 46, 47, 62, 63, 64, 65, 66, 67, 68, 69, 70, 71, 72, 73, 74, 75, 76, 77, 78] (by decide +kernel) (by decide +kernel)
set_option maxRecDepth 20000 in
theorem gX10_load_X10_islands : GoodIn wsX10_load (wsV RX10 67 RX10 yX10_islands wsX10_islands) := goodIn_app (goodIn_of _ (by decide +kernel)) ggX10_load_X10_islands
theorem dX10_load_0 : decode cX10_load 0 = .ok (.aload_n 0, 1) := by decide +kernel
theorem dX10_load_1 : decode cX10_load 1 = .ok (.invokevirtual 215, 3) := by decide +kernel
theorem dX10_load_4 : decode cX10_load 4 = .ok (.ifCond .lt 6, 3) := by decide +kernel
theorem dX10_load_7 : decode cX10_load 7 = .ok (.bipush (-2), 2) := by decide +kernel
theorem dX10_load_9 : decode cX10_load 9 = .ok (.ireturn, 1) := by decide +kernel
theorem dX10_load_10 : decode cX10_load 10 = .ok (.aload_n 0, 1) := by decide +kernel
theorem dX10_load_11 : decode cX10_load 11 = .ok (.invokevirtual 64, 3) := by decide +kernel
theorem dX10_load_14 : decode cX10_load 14 = .ok (.aload_n 0, 1) := by decide +kernel
theorem dX10_load_15 : decode cX10_load 15 = .ok (.getfield 7, 3) := by decide +kernel
theorem dX10_load_18 : decode cX10_load 18 = .ok (.iconst 0, 1) := by decide +kernel
theorem dX10_load_19 : decode cX10_load 19 = .ok (.aload_n 0, 1) := by decide +kernel
theorem dX10_load_20 : decode cX10_load 20 = .ok (.getfield 203, 3) := by decide +kernel
theorem dX10_load_23 : decode cX10_load 23 = .ok (.iastore, 1) := by decide +kernel
theorem dX10_load_24 : decode cX10_load 24 = .ok (.aload_n 0, 1) := by decide +kernel
theorem dX10_load_25 : decode cX10_load 25 = .ok (.getfield 7, 3) := by decide +kernel
theorem dX10_load_28 : decode cX10_load 28 = .ok (.iconst 1, 1) := by decide +kernel
theorem dX10_load_29 : decode cX10_load 29 = .ok (.aload_n 0, 1) := by decide +kernel
theorem dX10_load_30 : decode cX10_load 30 = .ok (.getfield 197, 3) := by decide +kernel
theorem dX10_load_33 : decode cX10_load 33 = .ok (.iastore, 1) := by decide +kernel
theorem dX10_load_34 : decode cX10_load 34 = .ok (.aload_n 0, 1) := by decide +kernel
theorem dX10_load_35 : decode cX10_load 35 = .ok (.invokevirtual 70, 3) := by decide +kernel
theorem dX10_load_38 : decode cX10_load 38 = .ok (.iconst 0, 1) := by decide +kernel
theorem dX10_load_39 : decode cX10_load 39 = .ok (.istore_n 1, 1) := by decide +kernel
theorem dX10_load_40 : decode cX10_load 40 = .ok (.iconst 0, 1) := by decide +kernel
theorem dX10_load_41 : decode cX10_load 41 = .ok (.istore_n 2, 1) := by decide +kernel
theorem dX10_load_42 : decode cX10_load 42 = .ok (.iload_n 2, 1) := by decide +kernel
theorem dX10_load_43 : decode cX10_load 43 = .ok (.aload_n 0, 1) := by decide +kernel
theorem dX10_load_44 : decode cX10_load 44 = .ok (.getfield 147, 3) := by decide +kernel
theorem dX10_load_47 : decode cX10_load 47 = .ok (.if_icmp .ge 55, 3) := by decide +kernel
theorem dX10_load_50 : decode cX10_load 50 = .ok (.aload_n 0, 1) := by decide +kernel
theorem dX10_load_51 : decode cX10_load 51 = .ok (.getfield 16, 3) := by decide +kernel
theorem dX10_load_54 : decode cX10_load 54 = .ok (.iload_n 2, 1) := by decide +kernel
theorem dX10_load_55 : decode cX10_load 55 = .ok (.baload, 1) := by decide +kernel
theorem dX10_load_56 : decode cX10_load 56 = .ok (.bipush 47, 2) := by decide +kernel
theorem dX10_load_58 : decode cX10_load 58 = .ok (.if_icmp .eq 38, 3) := by decide +kernel
theorem dX10_load_61 : decode cX10_load 61 = .ok (.aload_n 0, 1) := by decide +kernel
theorem dX10_load_62 : decode cX10_load 62 = .ok (.getfield 7, 3) := by decide +kernel
theorem dX10_load_65 : decode cX10_load 65 = .ok (.iconst 4, 1) := by decide +kernel
theorem dX10_load_66 : decode cX10_load 66 = .ok (.iload_n 1, 1) := by decide +kernel
theorem dX10_load_67 : decode cX10_load 67 = .ok (.iadd, 1) := by decide +kernel
theorem dX10_load_68 : decode cX10_load 68 = .ok (.aload_n 0, 1) := by decide +kernel
theorem dX10_load_69 : decode cX10_load 69 = .ok (.getfield 16, 3) := by decide +kernel
theorem dX10_load_72 : decode cX10_load 72 = .ok (.iload_n 2, 1) := by decide +kernel
theorem dX10_load_73 : decode cX10_load 73 = .ok (.baload, 1) := by decide +kernel
theorem dX10_load_74 : decode cX10_load 74 = .ok (.bipush 46, 2) := by decide +kernel
theorem dX10_load_76 : decode cX10_load 76 = .ok (.if_icmp .ne 7, 3) := by decide +kernel
theorem dX10_load_79 : decode cX10_load 79 = .ok (.iconst 0, 1) := by decide +kernel
theorem dX10_load_80 : decode cX10_load 80 = .ok (.goto 12, 3) := by decide +kernel
theorem dX10_load_83 : decode cX10_load 83 = .ok (.aload_n 0, 1) := by decide +kernel
theorem dX10_load_84 : decode cX10_load 84 = .ok (.getfield 16, 3) := by decide +kernel
theorem dX10_load_87 : decode cX10_load 87 = .ok (.iload_n 2, 1) := by decide +kernel
theorem dX10_load_88 : decode cX10_load 88 = .ok (.baload, 1) := by decide +kernel
theorem dX10_load_89 : decode cX10_load 89 = .ok (.bipush 48, 2) := by decide +kernel
theorem dX10_load_91 : decode cX10_load 91 = .ok (.isub, 1) := by decide +kernel
theorem dX10_load_92 : decode cX10_load 92 = .ok (.iastore, 1) := by decide +kernel
theorem dX10_load_93 : decode cX10_load 93 = .ok (.iinc 1 1, 3) := by decide +kernel
theorem dX10_load_96 : decode cX10_load 96 = .ok (.iinc 2 1, 3) := by decide +kernel
theorem dX10_load_99 : decode cX10_load 99 = .ok (.goto (-57), 3) := by decide +kernel
theorem dX10_load_102 : decode cX10_load 102 = .ok (.aload_n 0, 1) := by decide +kernel
theorem dX10_load_103 : decode cX10_load 103 = .ok (.invokevirtual 73, 3) := by decide +kernel
theorem dX10_load_106 : decode cX10_load 106 = .ok (.aload_n 0, 1) := by decide +kernel
theorem dX10_load_107 : decode cX10_load 107 = .ok (.invokevirtual 67, 3) := by decide +kernel
theorem dX10_load_110 : decode cX10_load 110 = .ok (.ireturn, 1) := by decide +kernel
theorem dJ9_max_7cf53_0 : decode cJ9_max_7cf53 0 = .ok (.iload_n 0, 1) := by decide +kernel
theorem dJ9_max_7cf53_1 : decode cJ9_max_7cf53 1 = .ok (.iload_n 1, 1) := by decide +kernel
theorem dJ9_max_7cf53_2 : decode cJ9_max_7cf53 2 = .ok (.if_icmp .lt 7, 3) := by decide +kernel
theorem dJ9_max_7cf53_5 : decode cJ9_max_7cf53 5 = .ok (.iload_n 0, 1) := by decide +kernel
theorem dJ9_max_7cf53_6 : decode cJ9_max_7cf53 6 = .ok (.goto 4, 3) := by decide +kernel
theorem dJ9_max_7cf53_9 : decode cJ9_max_7cf53 9 = .ok (.iload_n 1, 1) := by decide +kernel
theorem dJ9_max_7cf53_10 : decode cJ9_max_7cf53 10 = .ok (.ireturn, 1) := by decide +kernel
theorem dJ9_min_7cf53_0 : decode cJ9_min_7cf53 0 = .ok (.iload_n 0, 1) := by decide +kernel
theorem dJ9_min_7cf53_1 : decode cJ9_min_7cf53 1 = .ok (.iload_n 1, 1) := by decide +kernel
theorem dJ9_min_7cf53_2 : decode cJ9_min_7cf53 2 = .ok (.if_icmp .gt 7, 3) := by decide +kernel
theorem dJ9_min_7cf53_5 : decode cJ9_min_7cf53 5 = .ok (.iload_n 0, 1) := by decide +kernel
theorem dJ9_min_7cf53_6 : decode cJ9_min_7cf53 6 = .ok (.goto 4, 3) := by decide +kernel
theorem dJ9_min_7cf53_9 : decode cJ9_min_7cf53 9 = .ok (.iload_n 1, 1) := by decide +kernel
theorem dJ9_min_7cf53_10 : decode cJ9_min_7cf53 10 = .ok (.ireturn, 1) := by decide +kernel
