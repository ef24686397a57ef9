set_option maxRecDepth 20000 in
theorem ggX8_weed_X4_measure : GoodIn wsX8_weed wsX4_measure := goodIn_r _ [9, 10, 11, 12, 13, 14, 15, 16, 17, 18, 19, 20, 21, 8, 22, 23, 24, 25, 26, 27, 28, 29, 30, 31, 32, 33, 34, 35, 36, 37, 38, 85, 86, 87, 88, 89, 90, 91] (by decide +kernel) (by decide +kernel)
set_option maxRecDepth 20000 in
theorem gX8_weed_X4_measure : GoodIn wsX8_weed (wsV RX8 116 RX4 yX4_measure wsX4_measure) := goodIn_app (goodIn_of _ (by decide +kernel)) ggX8_weed_X4_measure
set_option maxRecDepth 20000 in
theorem ggX8_weed_X4_daysBelow : GoodIn wsX8_weed wsX4_daysBelow := goodIn_r _ [42, 18, 88, 89, 90, 91] (by decide +kernel) (by decide +kernel)
set_option maxRecDepth 20000 in
theorem gX8_weed_X4_daysBelow : GoodIn wsX8_weed (wsV RX8 224 RX4 yX4_daysBelow wsX4_daysBelow) := goodIn_app (goodIn_of _ (by decide +kernel)) ggX8_weed_X4_daysBelow
set_option maxRecDepth 20000 in
theorem ggX8_weed_X0_keep : GoodIn wsX8_weed wsX0_keep := goodIn_r _ [47, 48, 49, 50, 51, 12, 13, 14, 52, 53, 54, 26, 55, 28, 37, 38, 56, 57, 58, 59, 92, 93, 94, 85, 86, 87] (by decide +kernel) (by decide +kernel)
set_option maxRecDepth 20000 in
theorem gX8_weed_X0_keep : GoodIn wsX8_weed (wsV RX8 172 RX0 yX0_keep wsX0_keep) := goodIn_app (goodIn_of _ (by decide +kernel)) ggX8_weed_X0_keep
set_option maxRecDepth 20000 in
theorem ggX8_weed_X4_signOf : GoodIn wsX8_weed wsX4_signOf := goodIn_r _ [63, 15, 17, 88, 89, 90, 91] (by decide +kernel) (by decide +kernel)
set_option maxRecDepth 20000 in
theorem gX8_weed_X4_signOf : GoodIn wsX8_weed (wsV RX8 151 RX4 yX4_signOf wsX4_signOf) := goodIn_app (goodIn_of _ (by decide +kernel)) ggX8_weed_X4_signOf
set_option maxRecDepth 20000 in
theorem ggX8_weed_X3_remove : GoodIn wsX8_weed wsX3_remove := goodIn_r _ [67, 37, 38, 56, 57, 58, 59, 68, 69, 70, 26, 71, 85, 86, 87] (by decide +kernel) (by decide +kernel)
set_option maxRecDepth 20000 in
theorem gX8_weed_X3_remove : GoodIn wsX8_weed (wsV RX8 221 RX3 yX3_remove wsX3_remove) := goodIn_app (goodIn_of _ (by decide +kernel)) ggX8_weed_X3_remove
theorem dX8_weed_0 : decode cX8_weed 0 = .ok (.aload_n 0, 1) := by decide +kernel
theorem dX8_weed_1 : decode cX8_weed 1 = .ok (.getfield 62, 3) := by decide +kernel
theorem dX8_weed_4 : decode cX8_weed 4 = .ok (.aload_n 0, 1) := by decide +kernel
theorem dX8_weed_5 : decode cX8_weed 5 = .ok (.getfield 26, 3) := by decide +kernel
theorem dX8_weed_8 : decode cX8_weed 8 = .ok (.invokevirtual 116, 3) := by decide +kernel
theorem dX8_weed_11 : decode cX8_weed 11 = .ok (.aload_n 0, 1) := by decide +kernel
theorem dX8_weed_12 : decode cX8_weed 12 = .ok (.getfield 62, 3) := by decide +kernel
theorem dX8_weed_15 : decode cX8_weed 15 = .ok (.iload_n 1, 1) := by decide +kernel
theorem dX8_weed_16 : decode cX8_weed 16 = .ok (.invokevirtual 224, 3) := by decide +kernel
theorem dX8_weed_19 : decode cX8_weed 19 = .ok (.istore_n 2, 1) := by decide +kernel
theorem dX8_weed_20 : decode cX8_weed 20 = .ok (.iload_n 2, 1) := by decide +kernel
theorem dX8_weed_21 : decode cX8_weed 21 = .ok (.ifCond .ne 5, 3) := by decide +kernel
theorem dX8_weed_24 : decode cX8_weed 24 = .ok (.iconst 0, 1) := by decide +kernel
theorem dX8_weed_25 : decode cX8_weed 25 = .ok (.ireturn, 1) := by decide +kernel
theorem dX8_weed_26 : decode cX8_weed 26 = .ok (.aload_n 0, 1) := by decide +kernel
theorem dX8_weed_27 : decode cX8_weed 27 = .ok (.getfield 41, 3) := by decide +kernel
theorem dX8_weed_30 : decode cX8_weed 30 = .ok (.aload_n 0, 1) := by decide +kernel
theorem dX8_weed_31 : decode cX8_weed 31 = .ok (.getfield 26, 3) := by decide +kernel
theorem dX8_weed_34 : decode cX8_weed 34 = .ok (.invokevirtual 172, 3) := by decide +kernel
theorem dX8_weed_37 : decode cX8_weed 37 = .ok (.aload_n 0, 1) := by decide +kernel
theorem dX8_weed_38 : decode cX8_weed 38 = .ok (.getfield 26, 3) := by decide +kernel
theorem dX8_weed_41 : decode cX8_weed 41 = .ok (.getfield 113, 3) := by decide +kernel
theorem dX8_weed_44 : decode cX8_weed 44 = .ok (.iconst 1, 1) := by decide +kernel
theorem dX8_weed_45 : decode cX8_weed 45 = .ok (.isub, 1) := by decide +kernel
theorem dX8_weed_46 : decode cX8_weed 46 = .ok (.istore_n 3, 1) := by decide +kernel
theorem dX8_weed_47 : decode cX8_weed 47 = .ok (.iload_n 3, 1) := by decide +kernel
theorem dX8_weed_48 : decode cX8_weed 48 = .ok (.ifCond .lt 29, 3) := by decide +kernel
theorem dX8_weed_51 : decode cX8_weed 51 = .ok (.aload_n 0, 1) := by decide +kernel
theorem dX8_weed_52 : decode cX8_weed 52 = .ok (.getfield 62, 3) := by decide +kernel
theorem dX8_weed_55 : decode cX8_weed 55 = .ok (.iload_n 3, 1) := by decide +kernel
theorem dX8_weed_56 : decode cX8_weed 56 = .ok (.invokevirtual 151, 3) := by decide +kernel
theorem dX8_weed_59 : decode cX8_weed 59 = .ok (.iload_n 1, 1) := by decide +kernel
theorem dX8_weed_60 : decode cX8_weed 60 = .ok (.if_icmp .ge 11, 3) := by decide +kernel
theorem dX8_weed_63 : decode cX8_weed 63 = .ok (.aload_n 0, 1) := by decide +kernel
theorem dX8_weed_64 : decode cX8_weed 64 = .ok (.getfield 26, 3) := by decide +kernel
theorem dX8_weed_67 : decode cX8_weed 67 = .ok (.iload_n 3, 1) := by decide +kernel
theorem dX8_weed_68 : decode cX8_weed 68 = .ok (.invokevirtual 221, 3) := by decide +kernel
theorem dX8_weed_71 : decode cX8_weed 71 = .ok (.iinc 3 (-1), 3) := by decide +kernel
theorem dX8_weed_74 : decode cX8_weed 74 = .ok (.goto (-27), 3) := by decide +kernel
theorem dX8_weed_77 : decode cX8_weed 77 = .ok (.iload_n 2, 1) := by decide +kernel
theorem dX8_weed_78 : decode cX8_weed 78 = .ok (.ireturn, 1) := by decide +kernel
set_option maxRecDepth 20000 in
theorem ggX8_name_X3_hasTwoTeams : GoodIn wsX8_name wsX3_hasTwoTeams := goodIn_r _ [7, 8, 57, 58, 59] (by decide +kernel) (by decide +kernel)
set_option maxRecDepth 20000 in
theorem gX8_name_X3_hasTwoTeams : GoodIn wsX8_name (wsV RX8 227 RX3 yX3_hasTwoTeams wsX3_hasTwoTeams) := goodIn_app (goodIn_of _ (by decide +kernel)) ggX8_name_X3_hasTwoTeams
set_option maxRecDepth 20000 in
theorem ggX8_name_X0_keep : GoodIn wsX8_name wsX0_keep := goodIn_r _ [13, 14, 15, 16, 17, 18, 19, 20, 21, 22, 23, 6, 24, 8, 25, 26, 27, 28, 29, 30, 60, 61, 62, 57, 58, 59] (by decide +kernel) (by decide +kernel)
set_option maxRecDepth 20000 in
theorem gX8_name_X0_keep : GoodIn wsX8_name (wsV RX8 172 RX0 yX0_keep wsX0_keep) := goodIn_app (goodIn_of _ (by decide +kernel)) ggX8_name_X0_keep
set_option maxRecDepth 20000 in
theorem ggX8_name_X3_swapTeams : GoodIn wsX8_name wsX3_swapTeams := goodIn_r _ [34, 25, 35, 4, 5, 6, 7, 8, 36, 37, 38, 39, 26, 40, 41, 42, 43, 57, 58, 59] (by decide +kernel) (by decide +kernel)
set_option maxRecDepth 20000 in
theorem gX8_name_X3_swapTeams : GoodIn wsX8_name (wsV RX8 230 RX3 yX3_swapTeams wsX3_swapTeams) := goodIn_app (goodIn_of _ (by decide +kernel)) ggX8_name_X3_swapTeams
theorem dX8_name_0 : decode cX8_name 0 = .ok (.aload_n 0, 1) := by decide +kernel
theorem dX8_name_1 : decode cX8_name 1 = .ok (.getfield 26, 3) := by decide +kernel
theorem dX8_name_4 : decode cX8_name 4 = .ok (.iload_n 1, 1) := by decide +kernel
theorem dX8_name_5 : decode cX8_name 5 = .ok (.iload_n 2, 1) := by decide +kernel
theorem dX8_name_6 : decode cX8_name 6 = .ok (.invokevirtual 227, 3) := by decide +kernel
theorem dX8_name_9 : decode cX8_name 9 = .ok (.ifCond .ne 5, 3) := by decide +kernel
theorem dX8_name_12 : decode cX8_name 12 = .ok (.iconst (-1), 1) := by decide +kernel
theorem dX8_name_13 : decode cX8_name 13 = .ok (.ireturn, 1) := by decide +kernel
theorem dX8_name_14 : decode cX8_name 14 = .ok (.aload_n 0, 1) := by decide +kernel
theorem dX8_name_15 : decode cX8_name 15 = .ok (.getfield 41, 3) := by decide +kernel
theorem dX8_name_18 : decode cX8_name 18 = .ok (.aload_n 0, 1) := by decide +kernel
theorem dX8_name_19 : decode cX8_name 19 = .ok (.getfield 26, 3) := by decide +kernel
theorem dX8_name_22 : decode cX8_name 22 = .ok (.invokevirtual 172, 3) := by decide +kernel
theorem dX8_name_25 : decode cX8_name 25 = .ok (.aload_n 0, 1) := by decide +kernel
theorem dX8_name_26 : decode cX8_name 26 = .ok (.getfield 26, 3) := by decide +kernel
theorem dX8_name_29 : decode cX8_name 29 = .ok (.iload_n 1, 1) := by decide +kernel
theorem dX8_name_30 : decode cX8_name 30 = .ok (.iload_n 2, 1) := by decide +kernel
theorem dX8_name_31 : decode cX8_name 31 = .ok (.invokevirtual 230, 3) := by decide +kernel
theorem dX8_name_34 : decode cX8_name 34 = .ok (.ireturn, 1) := by decide +kernel
set_option maxRecDepth 20000 in
theorem ggX8_sort_X3_outOfOrder : GoodIn wsX8_sort wsX3_outOfOrder := goodIn_r _ [7, 8, 9, 10, 11, 6, 12, 13, 14, 15, 16, 17, 18, 64, 65, 66] (by decide +kernel) (by decide +kernel)
set_option maxRecDepth 20000 in
theorem gX8_sort_X3_outOfOrder : GoodIn wsX8_sort (wsV RX8 233 RX3 yX3_outOfOrder wsX3_outOfOrder) := goodIn_app (goodIn_of _ (by decide +kernel)) ggX8_sort_X3_outOfOrder
set_option maxRecDepth 20000 in
theorem ggX8_sort_X0_keep : GoodIn wsX8_sort wsX0_keep := goodIn_r _ [23, 24, 25, 26, 27, 28, 29, 30, 31, 32, 33, 6, 34, 13, 8, 18, 35, 36, 37, 38, 67, 68, 69, 64, 65, 66] (by decide +kernel) (by decide +kernel)
set_option maxRecDepth 20000 in
theorem gX8_sort_X0_keep : GoodIn wsX8_sort (wsV RX8 172 RX0 yX0_keep wsX0_keep) := goodIn_app (goodIn_of _ (by decide +kernel)) ggX8_sort_X0_keep
set_option maxRecDepth 20000 in
theorem ggX8_sort_X3_putInOrder : GoodIn wsX8_sort wsX3_putInOrder := goodIn_r _ [42, 8, 9, 10, 11, 6, 12, 13, 14, 15, 16, 17, 18, 43, 44, 45, 46, 47, 48, 49, 50, 64, 65, 66] (by decide +kernel) (by decide +kernel)
set_option maxRecDepth 20000 in
theorem gX8_sort_X3_putInOrder : GoodIn wsX8_sort (wsV RX8 236 RX3 yX3_putInOrder wsX3_putInOrder) := goodIn_app (goodIn_of _ (by decide +kernel)) ggX8_sort_X3_putInOrder
theorem dX8_sort_0 : decode cX8_sort 0 = .ok (.aload_n 0, 1) := by decide +kernel
theorem dX8_sort_1 : decode cX8_sort 1 = .ok (.getfield 26, 3) := by decide +kernel
theorem dX8_sort_4 : decode cX8_sort 4 = .ok (.invokevirtual 233, 3) := by decide +kernel
theorem dX8_sort_7 : decode cX8_sort 7 = .ok (.istore_n 1, 1) := by decide +kernel
theorem dX8_sort_8 : decode cX8_sort 8 = .ok (.iload_n 1, 1) := by decide +kernel
theorem dX8_sort_9 : decode cX8_sort 9 = .ok (.ifCond .le 21, 3) := by decide +kernel
theorem dX8_sort_12 : decode cX8_sort 12 = .ok (.aload_n 0, 1) := by decide +kernel
theorem dX8_sort_13 : decode cX8_sort 13 = .ok (.getfield 41, 3) := by decide +kernel
theorem dX8_sort_16 : decode cX8_sort 16 = .ok (.aload_n 0, 1) := by decide +kernel
theorem dX8_sort_17 : decode cX8_sort 17 = .ok (.getfield 26, 3) := by decide +kernel
theorem dX8_sort_20 : decode cX8_sort 20 = .ok (.invokevirtual 172, 3) := by decide +kernel
theorem dX8_sort_23 : decode cX8_sort 23 = .ok (.aload_n 0, 1) := by decide +kernel
theorem dX8_sort_24 : decode cX8_sort 24 = .ok (.getfield 26, 3) := by decide +kernel
theorem dX8_sort_27 : decode cX8_sort 27 = .ok (.invokevirtual 236, 3) := by decide +kernel
theorem dX8_sort_30 : decode cX8_sort 30 = .ok (.iload_n 1, 1) := by decide +kernel
theorem dX8_sort_31 : decode cX8_sort 31 = .ok (.ireturn, 1) := by decide +kernel
set_option maxRecDepth 20000 in
theorem ggX8_drawn_X0_keep : GoodIn wsX8_drawn wsX0_keep := goodIn_r _ [11, 12, 13, 14, 15, 16, 17, 18, 19, 20, 21, 22, 23, 24, 25, 26, 27, 28, 29, 30, 159, 160, 161, 155, 156, 157] (by decide +kernel) (by decide +kernel)
set_option maxRecDepth 20000 in
theorem gX8_drawn_X0_keep : GoodIn wsX8_drawn (wsV RX8 172 RX0 yX0_keep wsX0_keep) := goodIn_app (goodIn_of _ (by decide +kernel)) ggX8_drawn_X0_keep
set_option maxRecDepth 20000 in
theorem ggX8_drawn_X8_doDrawnDeed : GoodIn wsX8_drawn wsX8_doDrawnDeed := goodIn_r _ [35, 4, 36, 37, 38, 39, 40, 41, 42, 43, 44, 45, 34, 46, 1, 6, 47, 48, 49, 22, 50, 25, 26, 27, 28, 29, 30, 51, 52, 53, 54, 55, 56, 57, 58, 2, 59, 60, 61, 62, 63, 64, 65, 66, 67, 68, 24, 69, 70, 71, 72, 73, 74, 75, 76, 77, 78, 79, 80, 81, 82, 83, 84, 85, 86, 87, 88, 89, 16, 17, 18, 90, 91, 92, 93, 94, 95, 96, 97, 98, 99, 100, 101, 102, 103, 104, 105, 106, 107, 108, 109, 110, 111, 112, 113, 114, 115, 116, 117, 118, 119, 120, 121, 122, 123, 124, 125, 126, 127, 128, 129, 130, 131, 132, 133, 134, 135, 136, 137, 138, 139, 140, 141, 142, 143, 144, 145, 146, 147, 148, 149, 150, 151, 152, 153, 154, 158, 155, 156, 157, 162, 163, 164, 165, 166, 167, 168, 169] (by decide +kernel) (by decide +kernel)
set_option maxRecDepth 20000 in
theorem gX8_drawn_X8_doDrawnDeed : GoodIn wsX8_drawn (wsV RX8 242 RX8 yX8_doDrawnDeed wsX8_doDrawnDeed) := goodIn_app (goodIn_of _ (by decide +kernel)) ggX8_drawn_X8_doDrawnDeed
theorem dX8_drawn_0 : decode cX8_drawn 0 = .ok (.iload_n 1, 1) := by decide +kernel
theorem dX8_drawn_1 : decode cX8_drawn 1 = .ok (.iconst 1, 1) := by decide +kernel
theorem dX8_drawn_2 : decode cX8_drawn 2 = .ok (.if_icmp .lt 9, 3) := by decide +kernel
theorem dX8_drawn_5 : decode cX8_drawn 5 = .ok (.iload_n 1, 1) := by decide +kernel
theorem dX8_drawn_6 : decode cX8_drawn 6 = .ok (.bipush 60, 2) := by decide +kernel
theorem dX8_drawn_8 : decode cX8_drawn 8 = .ok (.if_icmp .le 5, 3) := by decide +kernel
theorem dX8_drawn_11 : decode cX8_drawn 11 = .ok (.iconst (-1), 1) := by decide +kernel
theorem dX8_drawn_12 : decode cX8_drawn 12 = .ok (.ireturn, 1) := by decide +kernel
theorem dX8_drawn_13 : decode cX8_drawn 13 = .ok (.aload_n 0, 1) := by decide +kernel
theorem dX8_drawn_14 : decode cX8_drawn 14 = .ok (.getfield 26, 3) := by decide +kernel
theorem dX8_drawn_17 : decode cX8_drawn 17 = .ok (.getfield 110, 3) := by decide +kernel
theorem dX8_drawn_20 : decode cX8_drawn 20 = .ok (.ifCond .ne 5, 3) := by decide +kernel
theorem dX8_drawn_23 : decode cX8_drawn 23 = .ok (.iconst 0, 1) := by decide +kernel
theorem dX8_drawn_24 : decode cX8_drawn 24 = .ok (.ireturn, 1) := by decide +kernel
theorem dX8_drawn_25 : decode cX8_drawn 25 = .ok (.aload_n 0, 1) := by decide +kernel
theorem dX8_drawn_26 : decode cX8_drawn 26 = .ok (.getfield 41, 3) := by decide +kernel
theorem dX8_drawn_29 : decode cX8_drawn 29 = .ok (.aload_n 0, 1) := by decide +kernel
theorem dX8_drawn_30 : decode cX8_drawn 30 = .ok (.getfield 26, 3) := by decide +kernel
theorem dX8_drawn_33 : decode cX8_drawn 33 = .ok (.invokevirtual 172, 3) := by decide +kernel
theorem dX8_drawn_36 : decode cX8_drawn 36 = .ok (.aload_n 0, 1) := by decide +kernel
theorem dX8_drawn_37 : decode cX8_drawn 37 = .ok (.getfield 72, 3) := by decide +kernel
theorem dX8_drawn_40 : decode cX8_drawn 40 = .ok (.iload_n 2, 1) := by decide +kernel
theorem dX8_drawn_41 : decode cX8_drawn 41 = .ok (.putfield 239, 3) := by decide +kernel
theorem dX8_drawn_44 : decode cX8_drawn 44 = .ok (.iconst 0, 1) := by decide +kernel
theorem dX8_drawn_45 : decode cX8_drawn 45 = .ok (.istore_n 3, 1) := by decide +kernel
theorem dX8_drawn_46 : decode cX8_drawn 46 = .ok (.iload_n 3, 1) := by decide +kernel
theorem dX8_drawn_47 : decode cX8_drawn 47 = .ok (.iload_n 1, 1) := by decide +kernel
theorem dX8_drawn_48 : decode cX8_drawn 48 = .ok (.if_icmp .ge 13, 3) := by decide +kernel
theorem dX8_drawn_51 : decode cX8_drawn 51 = .ok (.aload_n 0, 1) := by decide +kernel
theorem dX8_drawn_52 : decode cX8_drawn 52 = .ok (.invokevirtual 242, 3) := by decide +kernel
theorem dX8_drawn_55 : decode cX8_drawn 55 = .ok (.iinc 3 1, 3) := by decide +kernel
theorem dX8_drawn_58 : decode cX8_drawn 58 = .ok (.goto (-12), 3) := by decide +kernel
theorem dX8_drawn_61 : decode cX8_drawn 61 = .ok (.aload_n 0, 1) := by decide +kernel
theorem dX8_drawn_62 : decode cX8_drawn 62 = .ok (.getfield 26, 3) := by decide +kernel
theorem dX8_drawn_65 : decode cX8_drawn 65 = .ok (.getfield 113, 3) := by decide +kernel
theorem dX8_drawn_68 : decode cX8_drawn 68 = .ok (.ireturn, 1) := by decide +kernel
set_option maxRecDepth 20000 in
theorem ggX8_undo_X0_takeBack : GoodIn wsX8_undo wsX0_takeBack := goodIn_r _ [8, 9, 10, 11, 12, 13, 14, 15, 16, 17, 18, 19, 20, 21, 22, 23, 37, 38, 39, 40, 41, 42] (by decide +kernel) (by decide +kernel)
set_option maxRecDepth 20000 in
theorem gX8_undo_X0_takeBack : GoodIn wsX8_undo (wsV RX8 245 RX0 yX0_takeBack wsX0_takeBack) := goodIn_app (goodIn_of _ (by decide +kernel)) ggX8_undo_X0_takeBack
theorem dX8_undo_0 : decode cX8_undo 0 = .ok (.aload_n 0, 1) := by decide +kernel
theorem dX8_undo_1 : decode cX8_undo 1 = .ok (.getfield 41, 3) := by decide +kernel
theorem dX8_undo_4 : decode cX8_undo 4 = .ok (.aload_n 0, 1) := by decide +kernel
theorem dX8_undo_5 : decode cX8_undo 5 = .ok (.getfield 26, 3) := by decide +kernel
theorem dX8_undo_8 : decode cX8_undo 8 = .ok (.invokevirtual 245, 3) := by decide +kernel
theorem dX8_undo_11 : decode cX8_undo 11 = .ok (.ifCond .eq 13, 3) := by decide +kernel
theorem dX8_undo_14 : decode cX8_undo 14 = .ok (.aload_n 0, 1) := by decide +kernel
theorem dX8_undo_15 : decode cX8_undo 15 = .ok (.getfield 41, 3) := by decide +kernel
theorem dX8_undo_18 : decode cX8_undo 18 = .ok (.getfield 123, 3) := by decide +kernel
theorem dX8_undo_21 : decode cX8_undo 21 = .ok (.goto 4, 3) := by decide +kernel
theorem dX8_undo_24 : decode cX8_undo 24 = .ok (.iconst (-1), 1) := by decide +kernel
theorem dX8_undo_25 : decode cX8_undo 25 = .ok (.ireturn, 1) := by decide +kernel
set_option maxRecDepth 20000 in
theorem ggX8_image_X3_copy : GoodIn wsX8_image wsX3_copy := goodIn_r _ [8, 9, 10, 11, 12, 13, 14, 15, 29, 30, 31] (by decide +kernel) (by decide +kernel)
set_option maxRecDepth 20000 in
theorem gX8_image_X3_copy : GoodIn wsX8_image (wsV RX8 100 RX3 yX3_copy wsX3_copy) := goodIn_app (goodIn_of _ (by decide +kernel)) ggX8_image_X3_copy
theorem dX8_image_0 : decode cX8_image 0 = .ok (.iload_n 1, 1) := by decide +kernel
theorem dX8_image_1 : decode cX8_image 1 = .ok (.ifCond .lt 8, 3) := by decide +kernel
theorem dX8_image_4 : decode cX8_image 4 = .ok (.iload_n 1, 1) := by decide +kernel
theorem dX8_image_5 : decode cX8_image 5 = .ok (.iconst 2, 1) := by decide +kernel
theorem dX8_image_6 : decode cX8_image 6 = .ok (.if_icmp .lt 5, 3) := by decide +kernel
theorem dX8_image_9 : decode cX8_image 9 = .ok (.iconst 0, 1) := by decide +kernel
theorem dX8_image_10 : decode cX8_image 10 = .ok (.ireturn, 1) := by decide +kernel
theorem dX8_image_11 : decode cX8_image 11 = .ok (.aload_n 0, 1) := by decide +kernel
theorem dX8_image_12 : decode cX8_image 12 = .ok (.getfield 30, 3) := by decide +kernel
theorem dX8_image_15 : decode cX8_image 15 = .ok (.iload_n 1, 1) := by decide +kernel
theorem dX8_image_16 : decode cX8_image 16 = .ok (.aaload, 1) := by decide +kernel
theorem dX8_image_17 : decode cX8_image 17 = .ok (.aload_n 0, 1) := by decide +kernel
theorem dX8_image_18 : decode cX8_image 18 = .ok (.getfield 26, 3) := by decide +kernel
theorem dX8_image_21 : decode cX8_image 21 = .ok (.invokevirtual 100, 3) := by decide +kernel
theorem dX8_image_24 : decode cX8_image 24 = .ok (.aload_n 0, 1) := by decide +kernel
theorem dX8_image_25 : decode cX8_image 25 = .ok (.getfield 34, 3) := by decide +kernel
theorem dX8_image_28 : decode cX8_image 28 = .ok (.iload_n 1, 1) := by decide +kernel
theorem dX8_image_29 : decode cX8_image 29 = .ok (.iconst 1, 1) := by decide +kernel
theorem dX8_image_30 : decode cX8_image 30 = .ok (.bastore, 1) := by decide +kernel
theorem dX8_image_31 : decode cX8_image 31 = .ok (.iconst 1, 1) := by decide +kernel
theorem dX8_image_32 : decode cX8_image 32 = .ok (.ireturn, 1) := by decide +kernel
set_option maxRecDepth 20000 in
theorem ggX8_restore_X8_isFilled : GoodIn wsX8_restore wsX8_isFilled := goodIn_r _ [8, 9, 28, 29, 30, 31, 32, 33, 34, 35, 36, 37, 38, 39, 40] (by decide +kernel) (by decide +kernel)
set_option maxRecDepth 20000 in
theorem gX8_restore_X8_isFilled : GoodIn wsX8_restore (wsV RX8 206 RX8 yX8_isFilled wsX8_isFilled) := goodIn_app (goodIn_of _ (by decide +kernel)) ggX8_restore_X8_isFilled
set_option maxRecDepth 20000 in
theorem ggX8_restore_X3_copy : GoodIn wsX8_restore wsX3_copy := goodIn_r _ [14, 15, 16, 17, 18, 19, 20, 21, 41, 42, 43] (by decide +kernel) (by decide +kernel)
set_option maxRecDepth 20000 in
theorem gX8_restore_X3_copy : GoodIn wsX8_restore (wsV RX8 100 RX3 yX3_copy wsX3_copy) := goodIn_app (goodIn_of _ (by decide +kernel)) ggX8_restore_X3_copy
set_option maxRecDepth 20000 in
theorem ggX8_restore_X0_forget : GoodIn wsX8_restore wsX0_forget := goodIn_r _ [26, 27, 44, 45, 46] (by decide +kernel) (by decide +kernel)
set_option maxRecDepth 20000 in
theorem gX8_restore_X0_forget : GoodIn wsX8_restore (wsV RX8 104 RX0 yX0_forget wsX0_forget) := goodIn_app (goodIn_of _ (by decide +kernel)) ggX8_restore_X0_forget
theorem dX8_restore_0 : decode cX8_restore 0 = .ok (.aload_n 0, 1) := by decide +kernel
theorem dX8_restore_1 : decode cX8_restore 1 = .ok (.iload_n 1, 1) := by decide +kernel
theorem dX8_restore_2 : decode cX8_restore 2 = .ok (.invokevirtual 206, 3) := by decide +kernel
theorem dX8_restore_5 : decode cX8_restore 5 = .ok (.ifCond .ne 5, 3) := by decide +kernel
theorem dX8_restore_8 : decode cX8_restore 8 = .ok (.iconst 0, 1) := by decide +kernel
theorem dX8_restore_9 : decode cX8_restore 9 = .ok (.ireturn, 1) := by decide +kernel
theorem dX8_restore_10 : decode cX8_restore 10 = .ok (.aload_n 0, 1) := by decide +kernel
theorem dX8_restore_11 : decode cX8_restore 11 = .ok (.getfield 26, 3) := by decide +kernel
theorem dX8_restore_14 : decode cX8_restore 14 = .ok (.aload_n 0, 1) := by decide +kernel
theorem dX8_restore_15 : decode cX8_restore 15 = .ok (.getfield 30, 3) := by decide +kernel
theorem dX8_restore_18 : decode cX8_restore 18 = .ok (.iload_n 1, 1) := by decide +kernel
theorem dX8_restore_19 : decode cX8_restore 19 = .ok (.aaload, 1) := by decide +kernel
theorem dX8_restore_20 : decode cX8_restore 20 = .ok (.invokevirtual 100, 3) := by decide +kernel
theorem dX8_restore_23 : decode cX8_restore 23 = .ok (.aload_n 0, 1) := by decide +kernel
theorem dX8_restore_24 : decode cX8_restore 24 = .ok (.getfield 41, 3) := by decide +kernel
theorem dX8_restore_27 : decode cX8_restore 27 = .ok (.invokevirtual 104, 3) := by decide +kernel
theorem dX8_restore_30 : decode cX8_restore 30 = .ok (.iconst 1, 1) := by decide +kernel
theorem dX8_restore_31 : decode cX8_restore 31 = .ok (.ireturn, 1) := by decide +kernel
theorem dX8_isFilled_0 : decode cX8_isFilled 0 = .ok (.iload_n 1, 1) := by decide +kernel
theorem dX8_isFilled_1 : decode cX8_isFilled 1 = .ok (.ifCond .lt 21, 3) := by decide +kernel
theorem dX8_isFilled_4 : decode cX8_isFilled 4 = .ok (.iload_n 1, 1) := by decide +kernel
theorem dX8_isFilled_5 : decode cX8_isFilled 5 = .ok (.iconst 2, 1) := by decide +kernel
theorem dX8_isFilled_6 : decode cX8_isFilled 6 = .ok (.if_icmp .ge 16, 3) := by decide +kernel
theorem dX8_isFilled_9 : decode cX8_isFilled 9 = .ok (.aload_n 0, 1) := by decide +kernel
theorem dX8_isFilled_10 : decode cX8_isFilled 10 = .ok (.getfield 34, 3) := by decide +kernel
theorem dX8_isFilled_13 : decode cX8_isFilled 13 = .ok (.iload_n 1, 1) := by decide +kernel
theorem dX8_isFilled_14 : decode cX8_isFilled 14 = .ok (.baload, 1) := by decide +kernel
theorem dX8_isFilled_15 : decode cX8_isFilled 15 = .ok (.ifCond .eq 7, 3) := by decide +kernel
theorem dX8_isFilled_18 : decode cX8_isFilled 18 = .ok (.iconst 1, 1) := by decide +kernel
theorem dX8_isFilled_19 : decode cX8_isFilled 19 = .ok (.goto 4, 3) := by decide +kernel
theorem dX8_isFilled_22 : decode cX8_isFilled 22 = .ok (.iconst 0, 1) := by decide +kernel
theorem dX8_isFilled_23 : decode cX8_isFilled 23 = .ok (.ireturn, 1) := by decide +kernel
theorem dX8_isStarterSize_0 : decode cX8_isStarterSize 0 = .ok (.iload_n 0, 1) := by decide +kernel
theorem dX8_isStarterSize_1 : decode cX8_isStarterSize 1 = .ok (.iconst 3, 1) := by decide +kernel
theorem dX8_isStarterSize_2 : decode cX8_isStarterSize 2 = .ok (.if_icmp .lt 20, 3) := by decide +kernel
theorem dX8_isStarterSize_5 : decode cX8_isStarterSize 5 = .ok (.iload_n 0, 1) := by decide +kernel
theorem dX8_isStarterSize_6 : decode cX8_isStarterSize 6 = .ok (.bipush 13, 2) := by decide +kernel
theorem dX8_isStarterSize_8 : decode cX8_isStarterSize 8 = .ok (.if_icmp .gt 14, 3) := by decide +kernel
theorem dX8_isStarterSize_11 : decode cX8_isStarterSize 11 = .ok (.iload_n 0, 1) := by decide +kernel
theorem dX8_isStarterSize_12 : decode cX8_isStarterSize 12 = .ok (.iconst 1, 1) := by decide +kernel
theorem dX8_isStarterSize_13 : decode cX8_isStarterSize 13 = .ok (.iand, 1) := by decide +kernel
theorem dX8_isStarterSize_14 : decode cX8_isStarterSize 14 = .ok (.iconst 1, 1) := by decide +kernel
theorem dX8_isStarterSize_15 : decode cX8_isStarterSize 15 = .ok (.if_icmp .ne 7, 3) := by decide +kernel
theorem dX8_isStarterSize_18 : decode cX8_isStarterSize 18 = .ok (.iconst 1, 1) := by decide +kernel
theorem dX8_isStarterSize_19 : decode cX8_isStarterSize 19 = .ok (.goto 4, 3) := by decide +kernel
theorem dX8_isStarterSize_22 : decode cX8_isStarterSize 22 = .ok (.iconst 0, 1) := by decide +kernel
theorem dX8_isStarterSize_23 : decode cX8_isStarterSize 23 = .ok (.ireturn, 1) := by decide +kernel
set_option maxRecDepth 20000 in
theorem ggX8_readTold_X7_at : GoodIn wsX8_readTold wsX7_at := goodIn_r _ [10, 11, 12, 42, 43] (by decide +kernel) (by decide +kernel)
set_option maxRecDepth 20000 in
theorem gX8_readTold_X7_at : GoodIn wsX8_readTold (wsV RX8 249 RX7 yX7_at wsX7_at) := goodIn_app (goodIn_of _ (by decide +kernel)) ggX8_readTold_X7_at
set_option maxRecDepth 20000 in
theorem ggX8_readTold_X3_hasTwoTeams : GoodIn wsX8_readTold wsX3_hasTwoTeams := goodIn_r _ [17, 18, 39, 40, 41] (by decide +kernel) (by decide +kernel)
set_option maxRecDepth 20000 in
theorem gX8_readTold_X3_hasTwoTeams : GoodIn wsX8_readTold (wsV RX8 227 RX3 yX3_hasTwoTeams wsX3_hasTwoTeams) := goodIn_app (goodIn_of _ (by decide +kernel)) ggX8_readTold_X3_hasTwoTeams
set_option maxRecDepth 20000 in
theorem ggX8_readTold_X3_dayOf : GoodIn wsX8_readTold wsX3_dayOf := goodIn_r _ [22, 23, 24, 25, 14, 15, 16, 17, 18, 39, 40, 41] (by decide +kernel) (by decide +kernel)
set_option maxRecDepth 20000 in
theorem gX8_readTold_X3_dayOf : GoodIn wsX8_readTold (wsV RX8 130 RX3 yX3_dayOf wsX3_dayOf) := goodIn_app (goodIn_of _ (by decide +kernel)) ggX8_readTold_X3_dayOf
theorem dX8_readTold_0 : decode cX8_readTold 0 = .ok (.aload_n 0, 1) := by decide +kernel
theorem dX8_readTold_1 : decode cX8_readTold 1 = .ok (.getfield 26, 3) := by decide +kernel
theorem dX8_readTold_4 : decode cX8_readTold 4 = .ok (.getfield 110, 3) := by decide +kernel
theorem dX8_readTold_7 : decode cX8_readTold 7 = .ok (.ifCond .eq 20, 3) := by decide +kernel
theorem dX8_readTold_10 : decode cX8_readTold 10 = .ok (.aload_n 0, 1) := by decide +kernel
theorem dX8_readTold_11 : decode cX8_readTold 11 = .ok (.getfield 10, 3) := by decide +kernel
theorem dX8_readTold_14 : decode cX8_readTold 14 = .ok (.getfield 84, 3) := by decide +kernel
theorem dX8_readTold_17 : decode cX8_readTold 17 = .ok (.aload_n 0, 1) := by decide +kernel
theorem dX8_readTold_18 : decode cX8_readTold 18 = .ok (.getfield 26, 3) := by decide +kernel
theorem dX8_readTold_21 : decode cX8_readTold 21 = .ok (.getfield 110, 3) := by decide +kernel
theorem dX8_readTold_24 : decode cX8_readTold 24 = .ok (.if_icmp .eq 5, 3) := by decide +kernel
theorem dX8_readTold_27 : decode cX8_readTold 27 = .ok (.iconst 0, 1) := by decide +kernel
theorem dX8_readTold_28 : decode cX8_readTold 28 = .ok (.ireturn, 1) := by decide +kernel
theorem dX8_readTold_29 : decode cX8_readTold 29 = .ok (.iconst 0, 1) := by decide +kernel
theorem dX8_readTold_30 : decode cX8_readTold 30 = .ok (.istore_n 1, 1) := by decide +kernel
theorem dX8_readTold_31 : decode cX8_readTold 31 = .ok (.iload_n 1, 1) := by decide +kernel
theorem dX8_readTold_32 : decode cX8_readTold 32 = .ok (.aload_n 0, 1) := by decide +kernel
theorem dX8_readTold_33 : decode cX8_readTold 33 = .ok (.getfield 26, 3) := by decide +kernel
theorem dX8_readTold_36 : decode cX8_readTold 36 = .ok (.getfield 110, 3) := by decide +kernel
theorem dX8_readTold_39 : decode cX8_readTold 39 = .ok (.if_icmp .ge 64, 3) := by decide +kernel
theorem dX8_readTold_42 : decode cX8_readTold 42 = .ok (.aload_n 0, 1) := by decide +kernel
theorem dX8_readTold_43 : decode cX8_readTold 43 = .ok (.getfield 10, 3) := by decide +kernel
theorem dX8_readTold_46 : decode cX8_readTold 46 = .ok (.iload_n 1, 1) := by decide +kernel
theorem dX8_readTold_47 : decode cX8_readTold 47 = .ok (.invokevirtual 249, 3) := by decide +kernel
theorem dX8_readTold_50 : decode cX8_readTold 50 = .ok (.istore_n 2, 1) := by decide +kernel
theorem dX8_readTold_51 : decode cX8_readTold 51 = .ok (.aload_n 0, 1) := by decide +kernel
theorem dX8_readTold_52 : decode cX8_readTold 52 = .ok (.getfield 26, 3) := by decide +kernel
theorem dX8_readTold_55 : decode cX8_readTold 55 = .ok (.iload_n 1, 1) := by decide +kernel
theorem dX8_readTold_56 : decode cX8_readTold 56 = .ok (.iload_n 2, 1) := by decide +kernel
theorem dX8_readTold_57 : decode cX8_readTold 57 = .ok (.invokevirtual 227, 3) := by decide +kernel
theorem dX8_readTold_60 : decode cX8_readTold 60 = .ok (.ifCond .eq 28, 3) := by decide +kernel
theorem dX8_readTold_63 : decode cX8_readTold 63 = .ok (.aload_n 0, 1) := by decide +kernel
theorem dX8_readTold_64 : decode cX8_readTold 64 = .ok (.getfield 10, 3) := by decide +kernel
theorem dX8_readTold_67 : decode cX8_readTold 67 = .ok (.iload_n 2, 1) := by decide +kernel
theorem dX8_readTold_68 : decode cX8_readTold 68 = .ok (.invokevirtual 249, 3) := by decide +kernel
theorem dX8_readTold_71 : decode cX8_readTold 71 = .ok (.iload_n 1, 1) := by decide +kernel
theorem dX8_readTold_72 : decode cX8_readTold 72 = .ok (.if_icmp .ne 16, 3) := by decide +kernel
theorem dX8_readTold_75 : decode cX8_readTold 75 = .ok (.aload_n 0, 1) := by decide +kernel
theorem dX8_readTold_76 : decode cX8_readTold 76 = .ok (.getfield 26, 3) := by decide +kernel
theorem dX8_readTold_79 : decode cX8_readTold 79 = .ok (.iload_n 1, 1) := by decide +kernel
theorem dX8_readTold_80 : decode cX8_readTold 80 = .ok (.iload_n 2, 1) := by decide +kernel
theorem dX8_readTold_81 : decode cX8_readTold 81 = .ok (.invokevirtual 130, 3) := by decide +kernel
theorem dX8_readTold_84 : decode cX8_readTold 84 = .ok (.iconst (-1), 1) := by decide +kernel
theorem dX8_readTold_85 : decode cX8_readTold 85 = .ok (.if_icmp .eq 5, 3) := by decide +kernel
theorem dX8_readTold_88 : decode cX8_readTold 88 = .ok (.iconst 0, 1) := by decide +kernel
theorem dX8_readTold_89 : decode cX8_readTold 89 = .ok (.ireturn, 1) := by decide +kernel
theorem dX8_readTold_90 : decode cX8_readTold 90 = .ok (.aload_n 0, 1) := by decide +kernel
theorem dX8_readTold_91 : decode cX8_readTold 91 = .ok (.getfield 76, 3) := by decide +kernel
theorem dX8_readTold_94 : decode cX8_readTold 94 = .ok (.iload_n 1, 1) := by decide +kernel
theorem dX8_readTold_95 : decode cX8_readTold 95 = .ok (.iload_n 2, 1) := by decide +kernel
theorem dX8_readTold_96 : decode cX8_readTold 96 = .ok (.iastore, 1) := by decide +kernel
theorem dX8_readTold_97 : decode cX8_readTold 97 = .ok (.iinc 1 1, 3) := by decide +kernel
theorem dX8_readTold_100 : decode cX8_readTold 100 = .ok (.goto (-69), 3) := by decide +kernel
theorem dX8_readTold_103 : decode cX8_readTold 103 = .ok (.iconst 1, 1) := by decide +kernel
theorem dX8_readTold_104 : decode cX8_readTold 104 = .ok (.ireturn, 1) := by decide +kernel
set_option maxRecDepth 20000 in
theorem ggX8_doDrawnDeed_X1_draw : GoodIn wsX8_doDrawnDeed wsX1_draw := goodIn_r _ [6, 7, 8, 136] (by decide +kernel) (by decide +kernel)
set_option maxRecDepth 20000 in
theorem gX8_doDrawnDeed_X1_draw : GoodIn wsX8_doDrawnDeed (wsV RX8 252 RX1 yX1_draw wsX1_draw) := goodIn_app (goodIn_of _ (by decide +kernel)) ggX8_doDrawnDeed_X1_draw
set_option maxRecDepth 20000 in
theorem ggX8_doDrawnDeed_X8_dropDrawnDay : GoodIn wsX8_doDrawnDeed wsX8_dropDrawnDay := goodIn_r _ [13, 14, 15, 1, 2, 3, 4, 5, 6, 7, 8, 16, 17, 18, 19, 20, 21, 22, 23, 24, 25, 26, 27, 28, 29, 30, 123, 124, 125, 126, 127, 128, 129, 130, 131, 132, 133, 134, 135, 137, 138, 139, 136] (by decide +kernel) (by decide +kernel)
set_option maxRecDepth 20000 in
theorem gX8_doDrawnDeed_X8_dropDrawnDay : GoodIn wsX8_doDrawnDeed (wsV RX8 255 RX8 yX8_dropDrawnDay wsX8_dropDrawnDay) := goodIn_app (goodIn_of _ (by decide +kernel)) ggX8_doDrawnDeed_X8_dropDrawnDay
set_option maxRecDepth 20000 in
theorem ggX8_doDrawnDeed_X8_renameDrawnTeams : GoodIn wsX8_doDrawnDeed wsX8_renameDrawnTeams := goodIn_r _ [34, 1, 14, 35, 36, 37, 2, 3, 4, 5, 6, 7, 8, 38, 39, 40, 19, 41, 21, 42, 43, 44, 45, 46, 47, 48, 49, 50, 22, 51, 52, 53, 54, 55, 56, 57, 58, 59, 60, 61, 62, 63, 64, 65, 66, 67, 68, 69, 70, 71, 72, 73, 74, 75, 76, 77, 78, 79, 80, 81, 82, 83, 84, 85, 86, 87, 88, 89, 90, 91, 92, 93, 94, 95, 96, 97, 98, 99, 100, 101, 102, 103, 104, 105, 106, 107, 108, 109, 110, 111, 112, 113, 114, 115, 116, 117, 118, 119, 120, 121, 122, 23, 24, 25, 26, 123, 124, 125, 126, 127, 128, 129, 130, 131, 132, 133, 134, 135, 137, 138, 139, 140, 141, 142, 143, 144, 145, 146, 147, 136] (by decide +kernel) (by decide +kernel)
set_option maxRecDepth 20000 in
theorem gX8_doDrawnDeed_X8_renameDrawnTeams : GoodIn wsX8_doDrawnDeed (wsV RX8 258 RX8 yX8_renameDrawnTeams wsX8_renameDrawnTeams) := goodIn_app (goodIn_of _ (by decide +kernel)) ggX8_doDrawnDeed_X8_renameDrawnTeams
theorem dX8_doDrawnDeed_0 : decode cX8_doDrawnDeed 0 = .ok (.aload_n 0, 1) := by decide +kernel
theorem dX8_doDrawnDeed_1 : decode cX8_doDrawnDeed 1 = .ok (.getfield 72, 3) := by decide +kernel
theorem dX8_doDrawnDeed_4 : decode cX8_doDrawnDeed 4 = .ok (.iconst 4, 1) := by decide +kernel
theorem dX8_doDrawnDeed_5 : decode cX8_doDrawnDeed 5 = .ok (.invokevirtual 252, 3) := by decide +kernel
theorem dX8_doDrawnDeed_8 : decode cX8_doDrawnDeed 8 = .ok (.ifCond .ne 10, 3) := by decide +kernel
theorem dX8_doDrawnDeed_11 : decode cX8_doDrawnDeed 11 = .ok (.aload_n 0, 1) := by decide +kernel
theorem dX8_doDrawnDeed_12 : decode cX8_doDrawnDeed 12 = .ok (.invokevirtual 255, 3) := by decide +kernel
theorem dX8_doDrawnDeed_15 : decode cX8_doDrawnDeed 15 = .ok (.goto 7, 3) := by decide +kernel
theorem dX8_doDrawnDeed_18 : decode cX8_doDrawnDeed 18 = .ok (.aload_n 0, 1) := by decide +kernel
theorem dX8_doDrawnDeed_19 : decode cX8_doDrawnDeed 19 = .ok (.invokevirtual 258, 3) := by decide +kernel
theorem dX8_doDrawnDeed_22 : decode cX8_doDrawnDeed 22 = .ok (.return_, 1) := by decide +kernel
set_option maxRecDepth 20000 in
theorem ggX8_dropDrawnDay_X1_draw : GoodIn wsX8_dropDrawnDay wsX1_draw := goodIn_r _ [8, 9, 10, 42] (by decide +kernel) (by decide +kernel)
set_option maxRecDepth 20000 in
theorem gX8_dropDrawnDay_X1_draw : GoodIn wsX8_dropDrawnDay (wsV RX8 252 RX1 yX1_draw wsX1_draw) := goodIn_app (goodIn_of _ (by decide +kernel)) ggX8_dropDrawnDay_X1_draw
set_option maxRecDepth 20000 in
theorem ggX8_dropDrawnDay_X3_remove : GoodIn wsX8_dropDrawnDay wsX3_remove := goodIn_r _ [15, 16, 17, 18, 19, 20, 21, 22, 23, 24, 14, 25, 39, 40, 41] (by decide +kernel) (by decide +kernel)
set_option maxRecDepth 20000 in
theorem gX8_dropDrawnDay_X3_remove : GoodIn wsX8_dropDrawnDay (wsV RX8 221 RX3 yX3_remove wsX3_remove) := goodIn_app (goodIn_of _ (by decide +kernel)) ggX8_dropDrawnDay_X3_remove
theorem dX8_dropDrawnDay_0 : decode cX8_dropDrawnDay 0 = .ok (.aload_n 0, 1) := by decide +kernel
theorem dX8_dropDrawnDay_1 : decode cX8_dropDrawnDay 1 = .ok (.getfield 26, 3) := by decide +kernel
theorem dX8_dropDrawnDay_4 : decode cX8_dropDrawnDay 4 = .ok (.getfield 113, 3) := by decide +kernel
theorem dX8_dropDrawnDay_7 : decode cX8_dropDrawnDay 7 = .ok (.ifCond .le 24, 3) := by decide +kernel
theorem dX8_dropDrawnDay_10 : decode cX8_dropDrawnDay 10 = .ok (.aload_n 0, 1) := by decide +kernel
theorem dX8_dropDrawnDay_11 : decode cX8_dropDrawnDay 11 = .ok (.getfield 26, 3) := by decide +kernel
theorem dX8_dropDrawnDay_14 : decode cX8_dropDrawnDay 14 = .ok (.aload_n 0, 1) := by decide +kernel
theorem dX8_dropDrawnDay_15 : decode cX8_dropDrawnDay 15 = .ok (.getfield 72, 3) := by decide +kernel
theorem dX8_dropDrawnDay_18 : decode cX8_dropDrawnDay 18 = .ok (.aload_n 0, 1) := by decide +kernel
theorem dX8_dropDrawnDay_19 : decode cX8_dropDrawnDay 19 = .ok (.getfield 26, 3) := by decide +kernel
theorem dX8_dropDrawnDay_22 : decode cX8_dropDrawnDay 22 = .ok (.getfield 113, 3) := by decide +kernel
theorem dX8_dropDrawnDay_25 : decode cX8_dropDrawnDay 25 = .ok (.invokevirtual 252, 3) := by decide +kernel
theorem dX8_dropDrawnDay_28 : decode cX8_dropDrawnDay 28 = .ok (.invokevirtual 221, 3) := by decide +kernel
theorem dX8_dropDrawnDay_31 : decode cX8_dropDrawnDay 31 = .ok (.return_, 1) := by decide +kernel
set_option maxRecDepth 20000 in
theorem ggX8_renameDrawnTeams_X1_draw : GoodIn wsX8_renameDrawnTeams wsX1_draw := goodIn_r _ [10, 11, 12, 129] (by decide +kernel) (by decide +kernel)
set_option maxRecDepth 20000 in
theorem gX8_renameDrawnTeams_X1_draw : GoodIn wsX8_renameDrawnTeams (wsV RX8 252 RX1 yX1_draw wsX1_draw) := goodIn_app (goodIn_of _ (by decide +kernel)) ggX8_renameDrawnTeams_X1_draw
set_option maxRecDepth 20000 in
theorem ggX8_renameDrawnTeams_X3_swapTeams : GoodIn wsX8_renameDrawnTeams wsX3_swapTeams := goodIn_r _ [17, 18, 19, 20, 21, 16, 22, 23, 24, 25, 26, 27, 28, 29, 30, 31, 32, 118, 119, 120] (by decide +kernel) (by decide +kernel)
set_option maxRecDepth 20000 in
theorem gX8_renameDrawnTeams_X3_swapTeams : GoodIn wsX8_renameDrawnTeams (wsV RX8 230 RX3 yX3_swapTeams wsX3_swapTeams) := goodIn_app (goodIn_of _ (by decide +kernel)) ggX8_renameDrawnTeams_X3_swapTeams
set_option maxRecDepth 20000 in
theorem ggX8_renameDrawnTeams_X2_find : GoodIn wsX8_renameDrawnTeams wsX2_find := goodIn_r _ [37, 38, 39, 40, 41, 42, 36, 43, 44, 45, 46, 47, 48, 49, 50, 51, 52, 53, 25, 26, 16, 27, 18, 23, 28, 54, 55, 56, 57, 58, 59, 60, 61, 62, 63, 64, 65, 66, 67, 68, 69, 70, 71, 72, 73, 74, 75, 76, 77, 78, 79, 80, 81, 82, 83, 84, 85, 86, 87, 88, 89, 90, 91, 92, 93, 94, 95, 96, 118, 119, 120, 121, 122, 123, 124, 125, 126, 127, 128] (by decide +kernel) (by decide +kernel)
set_option maxRecDepth 20000 in
theorem gX8_renameDrawnTeams_X2_find : GoodIn wsX8_renameDrawnTeams (wsV RX8 161 RX2 yX2_find wsX2_find) := goodIn_app (goodIn_of _ (by decide +kernel)) ggX8_renameDrawnTeams_X2_find
set_option maxRecDepth 20000 in
theorem ggX8_renameDrawnTeams_X3_append : GoodIn wsX8_renameDrawnTeams wsX3_append := goodIn_r _ [100, 18, 28, 101, 102, 103, 104, 118, 119, 120] (by decide +kernel) (by decide +kernel)
set_option maxRecDepth 20000 in
theorem gX8_renameDrawnTeams_X3_append : GoodIn wsX8_renameDrawnTeams (wsV RX8 217 RX3 yX3_append wsX3_append) := goodIn_app (goodIn_of _ (by decide +kernel)) ggX8_renameDrawnTeams_X3_append
theorem dX8_renameDrawnTeams_0 : decode cX8_renameDrawnTeams 0 = .ok (.aload_n 0, 1) := by decide +kernel
theorem dX8_renameDrawnTeams_1 : decode cX8_renameDrawnTeams 1 = .ok (.getfield 72, 3) := by decide +kernel
theorem dX8_renameDrawnTeams_4 : decode cX8_renameDrawnTeams 4 = .ok (.aload_n 0, 1) := by decide +kernel
theorem dX8_renameDrawnTeams_5 : decode cX8_renameDrawnTeams 5 = .ok (.getfield 26, 3) := by decide +kernel
theorem dX8_renameDrawnTeams_8 : decode cX8_renameDrawnTeams 8 = .ok (.getfield 110, 3) := by decide +kernel
theorem dX8_renameDrawnTeams_11 : decode cX8_renameDrawnTeams 11 = .ok (.invokevirtual 252, 3) := by decide +kernel
theorem dX8_renameDrawnTeams_14 : decode cX8_renameDrawnTeams 14 = .ok (.istore_n 1, 1) := by decide +kernel
theorem dX8_renameDrawnTeams_15 : decode cX8_renameDrawnTeams 15 = .ok (.aload_n 0, 1) := by decide +kernel
theorem dX8_renameDrawnTeams_16 : decode cX8_renameDrawnTeams 16 = .ok (.getfield 72, 3) := by decide +kernel
theorem dX8_renameDrawnTeams_19 : decode cX8_renameDrawnTeams 19 = .ok (.aload_n 0, 1) := by decide +kernel
theorem dX8_renameDrawnTeams_20 : decode cX8_renameDrawnTeams 20 = .ok (.getfield 26, 3) := by decide +kernel
theorem dX8_renameDrawnTeams_23 : decode cX8_renameDrawnTeams 23 = .ok (.getfield 110, 3) := by decide +kernel
theorem dX8_renameDrawnTeams_26 : decode cX8_renameDrawnTeams 26 = .ok (.invokevirtual 252, 3) := by decide +kernel
theorem dX8_renameDrawnTeams_29 : decode cX8_renameDrawnTeams 29 = .ok (.istore_n 2, 1) := by decide +kernel
theorem dX8_renameDrawnTeams_30 : decode cX8_renameDrawnTeams 30 = .ok (.iload_n 1, 1) := by decide +kernel
theorem dX8_renameDrawnTeams_31 : decode cX8_renameDrawnTeams 31 = .ok (.iload_n 2, 1) := by decide +kernel
theorem dX8_renameDrawnTeams_32 : decode cX8_renameDrawnTeams 32 = .ok (.if_icmp .eq 13, 3) := by decide +kernel
theorem dX8_renameDrawnTeams_35 : decode cX8_renameDrawnTeams 35 = .ok (.aload_n 0, 1) := by decide +kernel
theorem dX8_renameDrawnTeams_36 : decode cX8_renameDrawnTeams 36 = .ok (.getfield 26, 3) := by decide +kernel
theorem dX8_renameDrawnTeams_39 : decode cX8_renameDrawnTeams 39 = .ok (.iload_n 1, 1) := by decide +kernel
theorem dX8_renameDrawnTeams_40 : decode cX8_renameDrawnTeams 40 = .ok (.iload_n 2, 1) := by decide +kernel
theorem dX8_renameDrawnTeams_41 : decode cX8_renameDrawnTeams 41 = .ok (.invokevirtual 230, 3) := by decide +kernel
theorem dX8_renameDrawnTeams_44 : decode cX8_renameDrawnTeams 44 = .ok (.pop, 1) := by decide +kernel
theorem dX8_renameDrawnTeams_45 : decode cX8_renameDrawnTeams 45 = .ok (.aload_n 0, 1) := by decide +kernel
theorem dX8_renameDrawnTeams_46 : decode cX8_renameDrawnTeams 46 = .ok (.getfield 48, 3) := by decide +kernel
theorem dX8_renameDrawnTeams_49 : decode cX8_renameDrawnTeams 49 = .ok (.aload_n 0, 1) := by decide +kernel
theorem dX8_renameDrawnTeams_50 : decode cX8_renameDrawnTeams 50 = .ok (.getfield 26, 3) := by decide +kernel
theorem dX8_renameDrawnTeams_53 : decode cX8_renameDrawnTeams 53 = .ok (.iconst 0, 1) := by decide +kernel
theorem dX8_renameDrawnTeams_54 : decode cX8_renameDrawnTeams 54 = .ok (.invokevirtual 161, 3) := by decide +kernel
theorem dX8_renameDrawnTeams_57 : decode cX8_renameDrawnTeams 57 = .ok (.ifCond .eq 17, 3) := by decide +kernel
theorem dX8_renameDrawnTeams_60 : decode cX8_renameDrawnTeams 60 = .ok (.aload_n 0, 1) := by decide +kernel
theorem dX8_renameDrawnTeams_61 : decode cX8_renameDrawnTeams 61 = .ok (.getfield 26, 3) := by decide +kernel
theorem dX8_renameDrawnTeams_64 : decode cX8_renameDrawnTeams 64 = .ok (.aload_n 0, 1) := by decide +kernel
theorem dX8_renameDrawnTeams_65 : decode cX8_renameDrawnTeams 65 = .ok (.getfield 48, 3) := by decide +kernel
theorem dX8_renameDrawnTeams_68 : decode cX8_renameDrawnTeams 68 = .ok (.getfield 165, 3) := by decide +kernel
theorem dX8_renameDrawnTeams_71 : decode cX8_renameDrawnTeams 71 = .ok (.invokevirtual 217, 3) := by decide +kernel
theorem dX8_renameDrawnTeams_74 : decode cX8_renameDrawnTeams 74 = .ok (.return_, 1) := by decide +kernel
theorem dX9_thrown_0 : decode cX9_thrown 0 = .ok (.aload_n 0, 1) := by decide +kernel
theorem dX9_thrown_1 : decode cX9_thrown 1 = .ok (.getfield 1, 3) := by decide +kernel
theorem dX9_thrown_4 : decode cX9_thrown 4 = .ok (.ireturn, 1) := by decide +kernel
theorem dX9_refuse_0 : decode cX9_refuse 0 = .ok (.aload_n 0, 1) := by decide +kernel
theorem dX9_refuse_1 : decode cX9_refuse 1 = .ok (.iconst 1, 1) := by decide +kernel
theorem dX9_refuse_2 : decode cX9_refuse 2 = .ok (.putfield 1, 3) := by decide +kernel
theorem dX9_refuse_5 : decode cX9_refuse 5 = .ok (.iconst 0, 1) := by decide +kernel
theorem dX9_refuse_6 : decode cX9_refuse 6 = .ok (.ireturn, 1) := by decide +kernel
theorem dX9_isIn_0 : decode cX9_isIn 0 = .ok (.iload_n 0, 1) := by decide +kernel
theorem dX9_isIn_1 : decode cX9_isIn 1 = .ok (.iload_n 1, 1) := by decide +kernel
theorem dX9_isIn_2 : decode cX9_isIn 2 = .ok (.if_icmp .lt 12, 3) := by decide +kernel
theorem dX9_isIn_5 : decode cX9_isIn 5 = .ok (.iload_n 0, 1) := by decide +kernel
theorem dX9_isIn_6 : decode cX9_isIn 6 = .ok (.iload_n 2, 1) := by decide +kernel
theorem dX9_isIn_7 : decode cX9_isIn 7 = .ok (.if_icmp .gt 7, 3) := by decide +kernel
theorem dX9_isIn_10 : decode cX9_isIn 10 = .ok (.iconst 1, 1) := by decide +kernel
theorem dX9_isIn_11 : decode cX9_isIn 11 = .ok (.goto 4, 3) := by decide +kernel
theorem dX9_isIn_14 : decode cX9_isIn 14 = .ok (.iconst 0, 1) := by decide +kernel
theorem dX9_isIn_15 : decode cX9_isIn 15 = .ok (.ireturn, 1) := by decide +kernel
theorem dX9_has_0 : decode cX9_has 0 = .ok (.iload_n 0, 1) := by decide +kernel
theorem dX9_has_1 : decode cX9_has 1 = .ok (.iload_n 1, 1) := by decide +kernel
theorem dX9_has_2 : decode cX9_has 2 = .ok (.ishr, 1) := by decide +kernel
theorem dX9_has_3 : decode cX9_has 3 = .ok (.iconst 1, 1) := by decide +kernel
theorem dX9_has_4 : decode cX9_has 4 = .ok (.iand, 1) := by decide +kernel
theorem dX9_has_5 : decode cX9_has 5 = .ok (.iconst 1, 1) := by decide +kernel
theorem dX9_has_6 : decode cX9_has 6 = .ok (.if_icmp .ne 7, 3) := by decide +kernel
theorem dX9_has_9 : decode cX9_has 9 = .ok (.iconst 1, 1) := by decide +kernel
theorem dX9_has_10 : decode cX9_has 10 = .ok (.goto 4, 3) := by decide +kernel
theorem dX9_has_13 : decode cX9_has 13 = .ok (.iconst 0, 1) := by decide +kernel
theorem dX9_has_14 : decode cX9_has 14 = .ok (.ireturn, 1) := by decide +kernel
set_option maxRecDepth 20000 in
theorem ggX9_least_X9_has : GoodIn wsX9_least wsX9_has := goodIn_r _ [4] (by decide +kernel) (by decide +kernel)
set_option maxRecDepth 20000 in
theorem gX9_least_X9_has : GoodIn wsX9_least (va_wsS RX9 7 yX9_has wsX9_has) := goodIn_app (goodIn_of _ (by decide +kernel)) ggX9_least_X9_has
theorem dX9_least_0 : decode cX9_least 0 = .ok (.iconst 0, 1) := by decide +kernel
theorem dX9_least_1 : decode cX9_least 1 = .ok (.istore_n 1, 1) := by decide +kernel
theorem dX9_least_2 : decode cX9_least 2 = .ok (.iload_n 0, 1) := by decide +kernel
theorem dX9_least_3 : decode cX9_least 3 = .ok (.iload_n 1, 1) := by decide +kernel
theorem dX9_least_4 : decode cX9_least 4 = .ok (.invokestatic 7, 3) := by decide +kernel
theorem dX9_least_7 : decode cX9_least 7 = .ok (.ifCond .ne 9, 3) := by decide +kernel
theorem dX9_least_10 : decode cX9_least 10 = .ok (.iinc 1 1, 3) := by decide +kernel
theorem dX9_least_13 : decode cX9_least 13 = .ok (.goto (-11), 3) := by decide +kernel
theorem dX9_least_16 : decode cX9_least 16 = .ok (.iload_n 1, 1) := by decide +kernel
theorem dX9_least_17 : decode cX9_least 17 = .ok (.ireturn, 1) := by decide +kernel
theorem dX9_lay_0 : decode cX9_lay 0 = .ok (.bipush 24, 2) := by decide +kernel
theorem dX9_lay_2 : decode cX9_lay 2 = .ok (.istore_n 2, 1) := by decide +kernel
theorem dX9_lay_3 : decode cX9_lay 3 = .ok (.iload_n 2, 1) := by decide +kernel
theorem dX9_lay_4 : decode cX9_lay 4 = .ok (.ifCond .lt 35, 3) := by decide +kernel
theorem dX9_lay_7 : decode cX9_lay 7 = .ok (.aload_n 0, 1) := by decide +kernel
theorem dX9_lay_8 : decode cX9_lay 8 = .ok (.getfield 11, 3) := by decide +kernel
theorem dX9_lay_11 : decode cX9_lay 11 = .ok (.aload_n 0, 1) := by decide +kernel
theorem dX9_lay_12 : decode cX9_lay 12 = .ok (.getfield 15, 3) := by decide +kernel
theorem dX9_lay_15 : decode cX9_lay 15 = .ok (.iload_n 1, 1) := by decide +kernel
theorem dX9_lay_16 : decode cX9_lay 16 = .ok (.iload_n 2, 1) := by decide +kernel
theorem dX9_lay_17 : decode cX9_lay 17 = .ok (.iushr, 1) := by decide +kernel
theorem dX9_lay_18 : decode cX9_lay 18 = .ok (.sipush 255, 3) := by decide +kernel
theorem dX9_lay_21 : decode cX9_lay 21 = .ok (.iand, 1) := by decide +kernel
theorem dX9_lay_22 : decode cX9_lay 22 = .ok (.iastore, 1) := by decide +kernel
theorem dX9_lay_23 : decode cX9_lay 23 = .ok (.aload_n 0, 1) := by decide +kernel
theorem dX9_lay_24 : decode cX9_lay 24 = .ok (.dup, 1) := by decide +kernel
theorem dX9_lay_25 : decode cX9_lay 25 = .ok (.getfield 15, 3) := by decide +kernel
theorem dX9_lay_28 : decode cX9_lay 28 = .ok (.iconst 1, 1) := by decide +kernel
theorem dX9_lay_29 : decode cX9_lay 29 = .ok (.iadd, 1) := by decide +kernel
theorem dX9_lay_30 : decode cX9_lay 30 = .ok (.putfield 15, 3) := by decide +kernel
theorem dX9_lay_33 : decode cX9_lay 33 = .ok (.iinc 2 (-8), 3) := by decide +kernel
theorem dX9_lay_36 : decode cX9_lay 36 = .ok (.goto (-33), 3) := by decide +kernel
theorem dX9_lay_39 : decode cX9_lay 39 = .ok (.return_, 1) := by decide +kernel
set_option maxRecDepth 20000 in
theorem ggX9_feed_X9_lay : GoodIn wsX9_feed wsX9_lay := goodIn_r _ [7, 8, 2, 9, 10, 11, 12, 13, 14, 15, 16, 17, 18, 19, 20, 21, 22, 23, 24, 25, 26, 27, 28, 29, 30, 31, 32, 33, 34, 35, 36, 37] (by decide +kernel) (by decide +kernel)
set_option maxRecDepth 20000 in
theorem gX9_feed_X9_lay : GoodIn wsX9_feed (wsV RX9 18 RX9 yX9_lay wsX9_lay) := goodIn_app (goodIn_of _ (by decide +kernel)) ggX9_feed_X9_lay
theorem dX9_feed_0 : decode cX9_feed 0 = .ok (.aload_n 0, 1) := by decide +kernel
theorem dX9_feed_1 : decode cX9_feed 1 = .ok (.iconst 0, 1) := by decide +kernel
theorem dX9_feed_2 : decode cX9_feed 2 = .ok (.putfield 1, 3) := by decide +kernel
theorem dX9_feed_5 : decode cX9_feed 5 = .ok (.aload_n 0, 1) := by decide +kernel
theorem dX9_feed_6 : decode cX9_feed 6 = .ok (.getfield 15, 3) := by decide +kernel
theorem dX9_feed_9 : decode cX9_feed 9 = .ok (.bipush 20, 2) := by decide +kernel
theorem dX9_feed_11 : decode cX9_feed 11 = .ok (.iadd, 1) := by decide +kernel
theorem dX9_feed_12 : decode cX9_feed 12 = .ok (.sipush 740, 3) := by decide +kernel
theorem dX9_feed_15 : decode cX9_feed 15 = .ok (.if_icmp .le 5, 3) := by decide +kernel
theorem dX9_feed_18 : decode cX9_feed 18 = .ok (.iconst (-1), 1) := by decide +kernel
theorem dX9_feed_19 : decode cX9_feed 19 = .ok (.ireturn, 1) := by decide +kernel
theorem dX9_feed_20 : decode cX9_feed 20 = .ok (.aload_n 0, 1) := by decide +kernel
theorem dX9_feed_21 : decode cX9_feed 21 = .ok (.iload_n 1, 1) := by decide +kernel
theorem dX9_feed_22 : decode cX9_feed 22 = .ok (.invokevirtual 18, 3) := by decide +kernel
theorem dX9_feed_25 : decode cX9_feed 25 = .ok (.aload_n 0, 1) := by decide +kernel
theorem dX9_feed_26 : decode cX9_feed 26 = .ok (.iload_n 2, 1) := by decide +kernel
theorem dX9_feed_27 : decode cX9_feed 27 = .ok (.invokevirtual 18, 3) := by decide +kernel
theorem dX9_feed_30 : decode cX9_feed 30 = .ok (.aload_n 0, 1) := by decide +kernel
theorem dX9_feed_31 : decode cX9_feed 31 = .ok (.iload_n 3, 1) := by decide +kernel
theorem dX9_feed_32 : decode cX9_feed 32 = .ok (.invokevirtual 18, 3) := by decide +kernel
theorem dX9_feed_35 : decode cX9_feed 35 = .ok (.aload_n 0, 1) := by decide +kernel
theorem dX9_feed_36 : decode cX9_feed 36 = .ok (.iload 4, 2) := by decide +kernel
theorem dX9_feed_38 : decode cX9_feed 38 = .ok (.invokevirtual 18, 3) := by decide +kernel
theorem dX9_feed_41 : decode cX9_feed 41 = .ok (.aload_n 0, 1) := by decide +kernel
theorem dX9_feed_42 : decode cX9_feed 42 = .ok (.iload 5, 2) := by decide +kernel
theorem dX9_feed_44 : decode cX9_feed 44 = .ok (.invokevirtual 18, 3) := by decide +kernel
theorem dX9_feed_47 : decode cX9_feed 47 = .ok (.aload_n 0, 1) := by decide +kernel
theorem dX9_feed_48 : decode cX9_feed 48 = .ok (.getfield 15, 3) := by decide +kernel
theorem dX9_feed_51 : decode cX9_feed 51 = .ok (.ireturn, 1) := by decide +kernel
theorem dX9_end_0 : decode cX9_end 0 = .ok (.aload_n 0, 1) := by decide +kernel
theorem dX9_end_1 : decode cX9_end 1 = .ok (.iconst 0, 1) := by decide +kernel
theorem dX9_end_2 : decode cX9_end 2 = .ok (.putfield 1, 3) := by decide +kernel
theorem dX9_end_5 : decode cX9_end 5 = .ok (.iload_n 1, 1) := by decide +kernel
theorem dX9_end_6 : decode cX9_end 6 = .ok (.ifCond .lt 11, 3) := by decide +kernel
theorem dX9_end_9 : decode cX9_end 9 = .ok (.iload_n 1, 1) := by decide +kernel
theorem dX9_end_10 : decode cX9_end 10 = .ok (.aload_n 0, 1) := by decide +kernel
theorem dX9_end_11 : decode cX9_end 11 = .ok (.getfield 15, 3) := by decide +kernel
theorem dX9_end_14 : decode cX9_end 14 = .ok (.if_icmp .le 5, 3) := by decide +kernel
theorem dX9_end_17 : decode cX9_end 17 = .ok (.iconst 0, 1) := by decide +kernel
theorem dX9_end_18 : decode cX9_end 18 = .ok (.ireturn, 1) := by decide +kernel
theorem dX9_end_19 : decode cX9_end 19 = .ok (.aload_n 0, 1) := by decide +kernel
theorem dX9_end_20 : decode cX9_end 20 = .ok (.iload_n 1, 1) := by decide +kernel
theorem dX9_end_21 : decode cX9_end 21 = .ok (.putfield 15, 3) := by decide +kernel
theorem dX9_end_24 : decode cX9_end 24 = .ok (.iconst 1, 1) := by decide +kernel
theorem dX9_end_25 : decode cX9_end 25 = .ok (.ireturn, 1) := by decide +kernel
theorem dX9_tapeAt_0 : decode cX9_tapeAt 0 = .ok (.iload_n 1, 1) := by decide +kernel
theorem dX9_tapeAt_1 : decode cX9_tapeAt 1 = .ok (.aload_n 0, 1) := by decide +kernel
theorem dX9_tapeAt_2 : decode cX9_tapeAt 2 = .ok (.getfield 22, 3) := by decide +kernel
theorem dX9_tapeAt_5 : decode cX9_tapeAt 5 = .ok (.if_icmp .ge 12, 3) := by decide +kernel
theorem dX9_tapeAt_8 : decode cX9_tapeAt 8 = .ok (.aload_n 0, 1) := by decide +kernel
theorem dX9_tapeAt_9 : decode cX9_tapeAt 9 = .ok (.getfield 11, 3) := by decide +kernel
theorem dX9_tapeAt_12 : decode cX9_tapeAt 12 = .ok (.iload_n 1, 1) := by decide +kernel
theorem dX9_tapeAt_13 : decode cX9_tapeAt 13 = .ok (.iaload, 1) := by decide +kernel
theorem dX9_tapeAt_14 : decode cX9_tapeAt 14 = .ok (.goto 4, 3) := by decide +kernel
theorem dX9_tapeAt_17 : decode cX9_tapeAt 17 = .ok (.iconst 0, 1) := by decide +kernel
theorem dX9_tapeAt_18 : decode cX9_tapeAt 18 = .ok (.ireturn, 1) := by decide +kernel
theorem dX9_isDigit_0 : decode cX9_isDigit 0 = .ok (.iload_n 0, 1) := by decide +kernel
theorem dX9_isDigit_1 : decode cX9_isDigit 1 = .ok (.bipush 48, 2) := by decide +kernel
theorem dX9_isDigit_3 : decode cX9_isDigit 3 = .ok (.if_icmp .lt 13, 3) := by decide +kernel
theorem dX9_isDigit_6 : decode cX9_isDigit 6 = .ok (.iload_n 0, 1) := by decide +kernel
theorem dX9_isDigit_7 : decode cX9_isDigit 7 = .ok (.bipush 57, 2) := by decide +kernel
theorem dX9_isDigit_9 : decode cX9_isDigit 9 = .ok (.if_icmp .gt 7, 3) := by decide +kernel
theorem dX9_isDigit_12 : decode cX9_isDigit 12 = .ok (.iconst 1, 1) := by decide +kernel
theorem dX9_isDigit_13 : decode cX9_isDigit 13 = .ok (.goto 4, 3) := by decide +kernel
theorem dX9_isDigit_16 : decode cX9_isDigit 16 = .ok (.iconst 0, 1) := by decide +kernel
theorem dX9_isDigit_17 : decode cX9_isDigit 17 = .ok (.ireturn, 1) := by decide +kernel
theorem dX9_isLetter_0 : decode cX9_isLetter 0 = .ok (.iload_n 0, 1) := by decide +kernel
theorem dX9_isLetter_1 : decode cX9_isLetter 1 = .ok (.bipush 97, 2) := by decide +kernel
theorem dX9_isLetter_3 : decode cX9_isLetter 3 = .ok (.if_icmp .lt 13, 3) := by decide +kernel
theorem dX9_isLetter_6 : decode cX9_isLetter 6 = .ok (.iload_n 0, 1) := by decide +kernel
theorem dX9_isLetter_7 : decode cX9_isLetter 7 = .ok (.bipush 122, 2) := by decide +kernel
theorem dX9_isLetter_9 : decode cX9_isLetter 9 = .ok (.if_icmp .gt 7, 3) := by decide +kernel
theorem dX9_isLetter_12 : decode cX9_isLetter 12 = .ok (.iconst 1, 1) := by decide +kernel
theorem dX9_isLetter_13 : decode cX9_isLetter 13 = .ok (.goto 4, 3) := by decide +kernel
theorem dX9_isLetter_16 : decode cX9_isLetter 16 = .ok (.iconst 0, 1) := by decide +kernel
theorem dX9_isLetter_17 : decode cX9_isLetter 17 = .ok (.ireturn, 1) := by decide +kernel
set_option maxRecDepth 20000 in
theorem ggX9_next_X9_isLetter : GoodIn wsX9_next wsX9_isLetter := goodIn_r _ [13] (by decide +kernel) (by decide +kernel)
set_option maxRecDepth 20000 in
theorem gX9_next_X9_isLetter : GoodIn wsX9_next (va_wsS RX9 34 yX9_isLetter wsX9_isLetter) := goodIn_app (goodIn_of _ (by decide +kernel)) ggX9_next_X9_isLetter
set_option maxRecDepth 20000 in
theorem ggX9_next_X9_isDigit : GoodIn wsX9_next wsX9_isDigit := goodIn_r _ [16] (by decide +kernel) (by decide +kernel)
set_option maxRecDepth 20000 in
theorem gX9_next_X9_isDigit : GoodIn wsX9_next (va_wsS RX9 38 yX9_isDigit wsX9_isDigit) := goodIn_app (goodIn_of _ (by decide +kernel)) ggX9_next_X9_isDigit
set_option maxRecDepth 20000 in
theorem ggX9_next_X9_tapeAt : GoodIn wsX9_next wsX9_tapeAt := goodIn_r _ [20, 2, 3, 21, 22, 23, 24, 25, 26, 27, 28, 29, 30, 31, 32, 33, 34, 35, 36, 37, 38, 39, 40, 41, 42, 43, 44, 45, 46, 47, 48, 49] (by decide +kernel) (by decide +kernel)
set_option maxRecDepth 20000 in
theorem gX9_next_X9_tapeAt : GoodIn wsX9_next (wsV RX9 48 RX9 yX9_tapeAt wsX9_tapeAt) := goodIn_app (goodIn_of _ (by decide +kernel)) ggX9_next_X9_tapeAt
theorem dX9_next_0 : decode cX9_next 0 = .ok (.aload_n 0, 1) := by decide +kernel
theorem dX9_next_1 : decode cX9_next 1 = .ok (.getfield 25, 3) := by decide +kernel
theorem dX9_next_4 : decode cX9_next 4 = .ok (.aload_n 0, 1) := by decide +kernel
theorem dX9_next_5 : decode cX9_next 5 = .ok (.getfield 22, 3) := by decide +kernel
theorem dX9_next_8 : decode cX9_next 8 = .ok (.if_icmp .ge 44, 3) := by decide +kernel
theorem dX9_next_11 : decode cX9_next 11 = .ok (.aload_n 0, 1) := by decide +kernel
theorem dX9_next_12 : decode cX9_next 12 = .ok (.getfield 11, 3) := by decide +kernel
theorem dX9_next_15 : decode cX9_next 15 = .ok (.aload_n 0, 1) := by decide +kernel
theorem dX9_next_16 : decode cX9_next 16 = .ok (.getfield 25, 3) := by decide +kernel
theorem dX9_next_19 : decode cX9_next 19 = .ok (.iaload, 1) := by decide +kernel
theorem dX9_next_20 : decode cX9_next 20 = .ok (.bipush 32, 2) := by decide +kernel
theorem dX9_next_22 : decode cX9_next 22 = .ok (.if_icmp .eq 17, 3) := by decide +kernel
theorem dX9_next_25 : decode cX9_next 25 = .ok (.aload_n 0, 1) := by decide +kernel
theorem dX9_next_26 : decode cX9_next 26 = .ok (.getfield 11, 3) := by decide +kernel
theorem dX9_next_29 : decode cX9_next 29 = .ok (.aload_n 0, 1) := by decide +kernel
theorem dX9_next_30 : decode cX9_next 30 = .ok (.getfield 25, 3) := by decide +kernel
theorem dX9_next_33 : decode cX9_next 33 = .ok (.iaload, 1) := by decide +kernel
theorem dX9_next_34 : decode cX9_next 34 = .ok (.bipush 10, 2) := by decide +kernel
theorem dX9_next_36 : decode cX9_next 36 = .ok (.if_icmp .ne 16, 3) := by decide +kernel
theorem dX9_next_39 : decode cX9_next 39 = .ok (.aload_n 0, 1) := by decide +kernel
theorem dX9_next_40 : decode cX9_next 40 = .ok (.dup, 1) := by decide +kernel
theorem dX9_next_41 : decode cX9_next 41 = .ok (.getfield 25, 3) := by decide +kernel
theorem dX9_next_44 : decode cX9_next 44 = .ok (.iconst 1, 1) := by decide +kernel
theorem dX9_next_45 : decode cX9_next 45 = .ok (.iadd, 1) := by decide +kernel
theorem dX9_next_46 : decode cX9_next 46 = .ok (.putfield 25, 3) := by decide +kernel
theorem dX9_next_49 : decode cX9_next 49 = .ok (.goto (-49), 3) := by decide +kernel
theorem dX9_next_52 : decode cX9_next 52 = .ok (.aload_n 0, 1) := by decide +kernel
theorem dX9_next_53 : decode cX9_next 53 = .ok (.aload_n 0, 1) := by decide +kernel
theorem dX9_next_54 : decode cX9_next 54 = .ok (.getfield 25, 3) := by decide +kernel
theorem dX9_next_57 : decode cX9_next 57 = .ok (.putfield 28, 3) := by decide +kernel
theorem dX9_next_60 : decode cX9_next 60 = .ok (.aload_n 0, 1) := by decide +kernel
theorem dX9_next_61 : decode cX9_next 61 = .ok (.getfield 22, 3) := by decide +kernel
theorem dX9_next_64 : decode cX9_next 64 = .ok (.sipush 700, 3) := by decide +kernel
theorem dX9_next_67 : decode cX9_next 67 = .ok (.if_icmp .le 26, 3) := by decide +kernel
theorem dX9_next_70 : decode cX9_next 70 = .ok (.aload_n 0, 1) := by decide +kernel
theorem dX9_next_71 : decode cX9_next 71 = .ok (.getfield 28, 3) := by decide +kernel
theorem dX9_next_74 : decode cX9_next 74 = .ok (.sipush 700, 3) := by decide +kernel
theorem dX9_next_77 : decode cX9_next 77 = .ok (.if_icmp .lt 16, 3) := by decide +kernel
theorem dX9_next_80 : decode cX9_next 80 = .ok (.aload_n 0, 1) := by decide +kernel
theorem dX9_next_81 : decode cX9_next 81 = .ok (.sipush 700, 3) := by decide +kernel
theorem dX9_next_84 : decode cX9_next 84 = .ok (.putfield 28, 3) := by decide +kernel
theorem dX9_next_87 : decode cX9_next 87 = .ok (.aload_n 0, 1) := by decide +kernel
theorem dX9_next_88 : decode cX9_next 88 = .ok (.iconst 1, 1) := by decide +kernel
theorem dX9_next_89 : decode cX9_next 89 = .ok (.putfield 31, 3) := by decide +kernel
theorem dX9_next_92 : decode cX9_next 92 = .ok (.return_, 1) := by decide +kernel
theorem dX9_next_93 : decode cX9_next 93 = .ok (.aload_n 0, 1) := by decide +kernel
theorem dX9_next_94 : decode cX9_next 94 = .ok (.getfield 25, 3) := by decide +kernel
theorem dX9_next_97 : decode cX9_next 97 = .ok (.aload_n 0, 1) := by decide +kernel
theorem dX9_next_98 : decode cX9_next 98 = .ok (.getfield 22, 3) := by decide +kernel
theorem dX9_next_101 : decode cX9_next 101 = .ok (.if_icmp .lt 9, 3) := by decide +kernel
theorem dX9_next_104 : decode cX9_next 104 = .ok (.aload_n 0, 1) := by decide +kernel
theorem dX9_next_105 : decode cX9_next 105 = .ok (.iconst 0, 1) := by decide +kernel
theorem dX9_next_106 : decode cX9_next 106 = .ok (.putfield 31, 3) := by decide +kernel
theorem dX9_next_109 : decode cX9_next 109 = .ok (.return_, 1) := by decide +kernel
theorem dX9_next_110 : decode cX9_next 110 = .ok (.aload_n 0, 1) := by decide +kernel
theorem dX9_next_111 : decode cX9_next 111 = .ok (.getfield 11, 3) := by decide +kernel
theorem dX9_next_114 : decode cX9_next 114 = .ok (.aload_n 0, 1) := by decide +kernel
theorem dX9_next_115 : decode cX9_next 115 = .ok (.getfield 25, 3) := by decide +kernel
theorem dX9_next_118 : decode cX9_next 118 = .ok (.iaload, 1) := by decide +kernel
theorem dX9_next_119 : decode cX9_next 119 = .ok (.istore_n 1, 1) := by decide +kernel
theorem dX9_next_120 : decode cX9_next 120 = .ok (.iload_n 1, 1) := by decide +kernel
theorem dX9_next_121 : decode cX9_next 121 = .ok (.invokestatic 34, 3) := by decide +kernel
theorem dX9_next_124 : decode cX9_next 124 = .ok (.ifCond .ne 36, 3) := by decide +kernel
theorem dX9_next_127 : decode cX9_next 127 = .ok (.iload_n 1, 1) := by decide +kernel
theorem dX9_next_128 : decode cX9_next 128 = .ok (.invokestatic 38, 3) := by decide +kernel
theorem dX9_next_131 : decode cX9_next 131 = .ok (.ifCond .ne 29, 3) := by decide +kernel
theorem dX9_next_134 : decode cX9_next 134 = .ok (.aload_n 0, 1) := by decide +kernel
theorem dX9_next_135 : decode cX9_next 135 = .ok (.iload_n 1, 1) := by decide +kernel
theorem dX9_next_136 : decode cX9_next 136 = .ok (.bipush 59, 2) := by decide +kernel
theorem dX9_next_138 : decode cX9_next 138 = .ok (.if_icmp .ne 7, 3) := by decide +kernel
theorem dX9_next_141 : decode cX9_next 141 = .ok (.iconst 4, 1) := by decide +kernel
theorem dX9_next_142 : decode cX9_next 142 = .ok (.goto 4, 3) := by decide +kernel
theorem dX9_next_145 : decode cX9_next 145 = .ok (.iconst 1, 1) := by decide +kernel
theorem dX9_next_146 : decode cX9_next 146 = .ok (.putfield 31, 3) := by decide +kernel
theorem dX9_next_149 : decode cX9_next 149 = .ok (.aload_n 0, 1) := by decide +kernel
theorem dX9_next_150 : decode cX9_next 150 = .ok (.dup, 1) := by decide +kernel
theorem dX9_next_151 : decode cX9_next 151 = .ok (.getfield 25, 3) := by decide +kernel
theorem dX9_next_154 : decode cX9_next 154 = .ok (.iconst 1, 1) := by decide +kernel
theorem dX9_next_155 : decode cX9_next 155 = .ok (.iadd, 1) := by decide +kernel
theorem dX9_next_156 : decode cX9_next 156 = .ok (.putfield 25, 3) := by decide +kernel
theorem dX9_next_159 : decode cX9_next 159 = .ok (.return_, 1) := by decide +kernel
theorem dX9_next_160 : decode cX9_next 160 = .ok (.iload_n 1, 1) := by decide +kernel
theorem dX9_next_161 : decode cX9_next 161 = .ok (.invokestatic 34, 3) := by decide +kernel
theorem dX9_next_164 : decode cX9_next 164 = .ok (.istore_n 2, 1) := by decide +kernel
theorem dX9_next_165 : decode cX9_next 165 = .ok (.iconst 1, 1) := by decide +kernel
theorem dX9_next_166 : decode cX9_next 166 = .ok (.istore_n 3, 1) := by decide +kernel
theorem dX9_next_167 : decode cX9_next 167 = .ok (.aload_n 0, 1) := by decide +kernel
theorem dX9_next_168 : decode cX9_next 168 = .ok (.lconst 0, 1) := by decide +kernel
theorem dX9_next_169 : decode cX9_next 169 = .ok (.putfield 41, 3) := by decide +kernel
theorem dX9_next_172 : decode cX9_next 172 = .ok (.aload_n 0, 1) := by decide +kernel
theorem dX9_next_173 : decode cX9_next 173 = .ok (.iconst 0, 1) := by decide +kernel
theorem dX9_next_174 : decode cX9_next 174 = .ok (.putfield 45, 3) := by decide +kernel
theorem dX9_next_177 : decode cX9_next 177 = .ok (.aload_n 0, 1) := by decide +kernel
theorem dX9_next_178 : decode cX9_next 178 = .ok (.aload_n 0, 1) := by decide +kernel
theorem dX9_next_179 : decode cX9_next 179 = .ok (.getfield 25, 3) := by decide +kernel
theorem dX9_next_182 : decode cX9_next 182 = .ok (.invokevirtual 48, 3) := by decide +kernel
theorem dX9_next_185 : decode cX9_next 185 = .ok (.invokestatic 34, 3) := by decide +kernel
theorem dX9_next_188 : decode cX9_next 188 = .ok (.ifCond .ne 17, 3) := by decide +kernel
theorem dX9_next_191 : decode cX9_next 191 = .ok (.aload_n 0, 1) := by decide +kernel
theorem dX9_next_192 : decode cX9_next 192 = .ok (.aload_n 0, 1) := by decide +kernel
theorem dX9_next_193 : decode cX9_next 193 = .ok (.getfield 25, 3) := by decide +kernel
theorem dX9_next_196 : decode cX9_next 196 = .ok (.invokevirtual 48, 3) := by decide +kernel
theorem dX9_next_199 : decode cX9_next 199 = .ok (.invokestatic 38, 3) := by decide +kernel
theorem dX9_next_202 : decode cX9_next 202 = .ok (.ifCond .eq 110, 3) := by decide +kernel
theorem dX9_next_205 : decode cX9_next 205 = .ok (.aload_n 0, 1) := by decide +kernel
theorem dX9_next_206 : decode cX9_next 206 = .ok (.getfield 11, 3) := by decide +kernel
theorem dX9_next_209 : decode cX9_next 209 = .ok (.aload_n 0, 1) := by decide +kernel
theorem dX9_next_210 : decode cX9_next 210 = .ok (.getfield 25, 3) := by decide +kernel
theorem dX9_next_213 : decode cX9_next 213 = .ok (.iaload, 1) := by decide +kernel
theorem dX9_next_214 : decode cX9_next 214 = .ok (.istore 4, 2) := by decide +kernel
theorem dX9_next_216 : decode cX9_next 216 = .ok (.iload_n 3, 1) := by decide +kernel
theorem dX9_next_217 : decode cX9_next 217 = .ok (.ifCond .eq 16, 3) := by decide +kernel
theorem dX9_next_220 : decode cX9_next 220 = .ok (.iload 4, 2) := by decide +kernel
theorem dX9_next_222 : decode cX9_next 222 = .ok (.invokestatic 34, 3) := by decide +kernel
theorem dX9_next_225 : decode cX9_next 225 = .ok (.iload_n 2, 1) := by decide +kernel
theorem dX9_next_226 : decode cX9_next 226 = .ok (.if_icmp .ne 7, 3) := by decide +kernel
theorem dX9_next_229 : decode cX9_next 229 = .ok (.iconst 1, 1) := by decide +kernel
theorem dX9_next_230 : decode cX9_next 230 = .ok (.goto 4, 3) := by decide +kernel
theorem dX9_next_233 : decode cX9_next 233 = .ok (.iconst 0, 1) := by decide +kernel
theorem dX9_next_234 : decode cX9_next 234 = .ok (.istore_n 3, 1) := by decide +kernel
theorem dX9_next_235 : decode cX9_next 235 = .ok (.aload_n 0, 1) := by decide +kernel
theorem dX9_next_236 : decode cX9_next 236 = .ok (.getfield 25, 3) := by decide +kernel
theorem dX9_next_239 : decode cX9_next 239 = .ok (.aload_n 0, 1) := by decide +kernel
theorem dX9_next_240 : decode cX9_next 240 = .ok (.getfield 28, 3) := by decide +kernel
theorem dX9_next_243 : decode cX9_next 243 = .ok (.isub, 1) := by decide +kernel
theorem dX9_next_244 : decode cX9_next 244 = .ok (.bipush 6, 2) := by decide +kernel
theorem dX9_next_246 : decode cX9_next 246 = .ok (.if_icmp .ge 23, 3) := by decide +kernel
theorem dX9_next_249 : decode cX9_next 249 = .ok (.aload_n 0, 1) := by decide +kernel
theorem dX9_next_250 : decode cX9_next 250 = .ok (.ldc2_w 52, 3) := by decide +kernel
theorem dX9_next_253 : decode cX9_next 253 = .ok (.aload_n 0, 1) := by decide +kernel
theorem dX9_next_254 : decode cX9_next 254 = .ok (.getfield 41, 3) := by decide +kernel
theorem dX9_next_257 : decode cX9_next 257 = .ok (.lmul, 1) := by decide +kernel
theorem dX9_next_258 : decode cX9_next 258 = .ok (.iload 4, 2) := by decide +kernel
theorem dX9_next_260 : decode cX9_next 260 = .ok (.i2l, 1) := by decide +kernel
theorem dX9_next_261 : decode cX9_next 261 = .ok (.ladd, 1) := by decide +kernel
theorem dX9_next_262 : decode cX9_next 262 = .ok (.ldc2_w 54, 3) := by decide +kernel
theorem dX9_next_265 : decode cX9_next 265 = .ok (.lsub, 1) := by decide +kernel
theorem dX9_next_266 : decode cX9_next 266 = .ok (.putfield 41, 3) := by decide +kernel
theorem dX9_next_269 : decode cX9_next 269 = .ok (.aload_n 0, 1) := by decide +kernel
theorem dX9_next_270 : decode cX9_next 270 = .ok (.getfield 25, 3) := by decide +kernel
theorem dX9_next_273 : decode cX9_next 273 = .ok (.aload_n 0, 1) := by decide +kernel
theorem dX9_next_274 : decode cX9_next 274 = .ok (.getfield 28, 3) := by decide +kernel
theorem dX9_next_277 : decode cX9_next 277 = .ok (.isub, 1) := by decide +kernel
theorem dX9_next_278 : decode cX9_next 278 = .ok (.iconst 2, 1) := by decide +kernel
theorem dX9_next_279 : decode cX9_next 279 = .ok (.if_icmp .ge 20, 3) := by decide +kernel
theorem dX9_next_282 : decode cX9_next 282 = .ok (.aload_n 0, 1) := by decide +kernel
theorem dX9_next_283 : decode cX9_next 283 = .ok (.bipush 10, 2) := by decide +kernel
theorem dX9_next_285 : decode cX9_next 285 = .ok (.aload_n 0, 1) := by decide +kernel
theorem dX9_next_286 : decode cX9_next 286 = .ok (.getfield 45, 3) := by decide +kernel
theorem dX9_next_289 : decode cX9_next 289 = .ok (.imul, 1) := by decide +kernel
theorem dX9_next_290 : decode cX9_next 290 = .ok (.iload 4, 2) := by decide +kernel
theorem dX9_next_292 : decode cX9_next 292 = .ok (.iadd, 1) := by decide +kernel
theorem dX9_next_293 : decode cX9_next 293 = .ok (.bipush 48, 2) := by decide +kernel
theorem dX9_next_295 : decode cX9_next 295 = .ok (.isub, 1) := by decide +kernel
theorem dX9_next_296 : decode cX9_next 296 = .ok (.putfield 45, 3) := by decide +kernel
theorem dX9_next_299 : decode cX9_next 299 = .ok (.aload_n 0, 1) := by decide +kernel
theorem dX9_next_300 : decode cX9_next 300 = .ok (.dup, 1) := by decide +kernel
theorem dX9_next_301 : decode cX9_next 301 = .ok (.getfield 25, 3) := by decide +kernel
theorem dX9_next_304 : decode cX9_next 304 = .ok (.iconst 1, 1) := by decide +kernel
theorem dX9_next_305 : decode cX9_next 305 = .ok (.iadd, 1) := by decide +kernel
theorem dX9_next_306 : decode cX9_next 306 = .ok (.putfield 25, 3) := by decide +kernel
theorem dX9_next_309 : decode cX9_next 309 = .ok (.goto (-132), 3) := by decide +kernel
theorem dX9_next_312 : decode cX9_next 312 = .ok (.aload_n 0, 1) := by decide +kernel
theorem dX9_next_313 : decode cX9_next 313 = .ok (.iload_n 3, 1) := by decide +kernel
theorem dX9_next_314 : decode cX9_next 314 = .ok (.ifCond .eq 20, 3) := by decide +kernel
theorem dX9_next_317 : decode cX9_next 317 = .ok (.iload_n 2, 1) := by decide +kernel
theorem dX9_next_318 : decode cX9_next 318 = .ok (.ifCond .ne 20, 3) := by decide +kernel
theorem dX9_next_321 : decode cX9_next 321 = .ok (.aload_n 0, 1) := by decide +kernel
theorem dX9_next_322 : decode cX9_next 322 = .ok (.getfield 25, 3) := by decide +kernel
theorem dX9_next_325 : decode cX9_next 325 = .ok (.aload_n 0, 1) := by decide +kernel
theorem dX9_next_326 : decode cX9_next 326 = .ok (.getfield 28, 3) := by decide +kernel
theorem dX9_next_329 : decode cX9_next 329 = .ok (.isub, 1) := by decide +kernel
theorem dX9_next_330 : decode cX9_next 330 = .ok (.iconst 2, 1) := by decide +kernel
theorem dX9_next_331 : decode cX9_next 331 = .ok (.if_icmp .le 7, 3) := by decide +kernel
theorem dX9_next_334 : decode cX9_next 334 = .ok (.iconst 1, 1) := by decide +kernel
theorem dX9_next_335 : decode cX9_next 335 = .ok (.goto 12, 3) := by decide +kernel
theorem dX9_next_338 : decode cX9_next 338 = .ok (.iload_n 2, 1) := by decide +kernel
theorem dX9_next_339 : decode cX9_next 339 = .ok (.ifCond .eq 7, 3) := by decide +kernel
theorem dX9_next_342 : decode cX9_next 342 = .ok (.iconst 2, 1) := by decide +kernel
theorem dX9_next_343 : decode cX9_next 343 = .ok (.goto 4, 3) := by decide +kernel
theorem dX9_next_346 : decode cX9_next 346 = .ok (.iconst 3, 1) := by decide +kernel
theorem dX9_next_347 : decode cX9_next 347 = .ok (.putfield 31, 3) := by decide +kernel
theorem dX9_next_350 : decode cX9_next 350 = .ok (.return_, 1) := by decide +kernel
theorem dX9_spelt_0 : decode cX9_spelt 0 = .ok (.ldc2_w 52, 3) := by decide +kernel
theorem dX9_spelt_3 : decode cX9_spelt 3 = .ok (.ldc2_w 52, 3) := by decide +kernel
theorem dX9_spelt_6 : decode cX9_spelt 6 = .ok (.iload_n 0, 1) := by decide +kernel
theorem dX9_spelt_7 : decode cX9_spelt 7 = .ok (.i2l, 1) := by decide +kernel
theorem dX9_spelt_8 : decode cX9_spelt 8 = .ok (.ldc2_w 54, 3) := by decide +kernel
theorem dX9_spelt_11 : decode cX9_spelt 11 = .ok (.lsub, 1) := by decide +kernel
theorem dX9_spelt_12 : decode cX9_spelt 12 = .ok (.lmul, 1) := by decide +kernel
theorem dX9_spelt_13 : decode cX9_spelt 13 = .ok (.iload_n 1, 1) := by decide +kernel
theorem dX9_spelt_14 : decode cX9_spelt 14 = .ok (.i2l, 1) := by decide +kernel
theorem dX9_spelt_15 : decode cX9_spelt 15 = .ok (.ladd, 1) := by decide +kernel
theorem dX9_spelt_16 : decode cX9_spelt 16 = .ok (.ldc2_w 54, 3) := by decide +kernel
theorem dX9_spelt_19 : decode cX9_spelt 19 = .ok (.lsub, 1) := by decide +kernel
theorem dX9_spelt_20 : decode cX9_spelt 20 = .ok (.lmul, 1) := by decide +kernel
theorem dX9_spelt_21 : decode cX9_spelt 21 = .ok (.iload_n 2, 1) := by decide +kernel
theorem dX9_spelt_22 : decode cX9_spelt 22 = .ok (.i2l, 1) := by decide +kernel
theorem dX9_spelt_23 : decode cX9_spelt 23 = .ok (.ladd, 1) := by decide +kernel
theorem dX9_spelt_24 : decode cX9_spelt 24 = .ok (.ldc2_w 54, 3) := by decide +kernel
theorem dX9_spelt_27 : decode cX9_spelt 27 = .ok (.lsub, 1) := by decide +kernel
theorem dX9_spelt_28 : decode cX9_spelt 28 = .ok (.lstore 5, 2) := by decide +kernel
theorem dX9_spelt_30 : decode cX9_spelt 30 = .ok (.iload_n 3, 1) := by decide +kernel
theorem dX9_spelt_31 : decode cX9_spelt 31 = .ok (.ifCond .le 31, 3) := by decide +kernel
theorem dX9_spelt_34 : decode cX9_spelt 34 = .ok (.ldc2_w 52, 3) := by decide +kernel
theorem dX9_spelt_37 : decode cX9_spelt 37 = .ok (.ldc2_w 52, 3) := by decide +kernel
theorem dX9_spelt_40 : decode cX9_spelt 40 = .ok (.lload 5, 2) := by decide +kernel
theorem dX9_spelt_42 : decode cX9_spelt 42 = .ok (.lmul, 1) := by decide +kernel
theorem dX9_spelt_43 : decode cX9_spelt 43 = .ok (.iload_n 3, 1) := by decide +kernel
theorem dX9_spelt_44 : decode cX9_spelt 44 = .ok (.i2l, 1) := by decide +kernel
theorem dX9_spelt_45 : decode cX9_spelt 45 = .ok (.ladd, 1) := by decide +kernel
theorem dX9_spelt_46 : decode cX9_spelt 46 = .ok (.ldc2_w 54, 3) := by decide +kernel
theorem dX9_spelt_49 : decode cX9_spelt 49 = .ok (.lsub, 1) := by decide +kernel
theorem dX9_spelt_50 : decode cX9_spelt 50 = .ok (.lmul, 1) := by decide +kernel
theorem dX9_spelt_51 : decode cX9_spelt 51 = .ok (.iload 4, 2) := by decide +kernel
theorem dX9_spelt_53 : decode cX9_spelt 53 = .ok (.i2l, 1) := by decide +kernel
theorem dX9_spelt_54 : decode cX9_spelt 54 = .ok (.ladd, 1) := by decide +kernel
theorem dX9_spelt_55 : decode cX9_spelt 55 = .ok (.ldc2_w 54, 3) := by decide +kernel
theorem dX9_spelt_58 : decode cX9_spelt 58 = .ok (.lsub, 1) := by decide +kernel
theorem dX9_spelt_59 : decode cX9_spelt 59 = .ok (.goto 5, 3) := by decide +kernel
theorem dX9_spelt_62 : decode cX9_spelt 62 = .ok (.lload 5, 2) := by decide +kernel
theorem dX9_spelt_64 : decode cX9_spelt 64 = .ok (.lreturn, 1) := by decide +kernel
theorem dX9_isWord_0 : decode cX9_isWord 0 = .ok (.aload_n 0, 1) := by decide +kernel
theorem dX9_isWord_1 : decode cX9_isWord 1 = .ok (.getfield 31, 3) := by decide +kernel
theorem dX9_isWord_4 : decode cX9_isWord 4 = .ok (.iconst 2, 1) := by decide +kernel
theorem dX9_isWord_5 : decode cX9_isWord 5 = .ok (.if_icmp .ne 16, 3) := by decide +kernel
theorem dX9_isWord_8 : decode cX9_isWord 8 = .ok (.aload_n 0, 1) := by decide +kernel
theorem dX9_isWord_9 : decode cX9_isWord 9 = .ok (.getfield 41, 3) := by decide +kernel
theorem dX9_isWord_12 : decode cX9_isWord 12 = .ok (.lload_n 1, 1) := by decide +kernel
theorem dX9_isWord_13 : decode cX9_isWord 13 = .ok (.lcmp, 1) := by decide +kernel
theorem dX9_isWord_14 : decode cX9_isWord 14 = .ok (.ifCond .ne 7, 3) := by decide +kernel
theorem dX9_isWord_17 : decode cX9_isWord 17 = .ok (.iconst 1, 1) := by decide +kernel
theorem dX9_isWord_18 : decode cX9_isWord 18 = .ok (.goto 4, 3) := by decide +kernel
theorem dX9_isWord_21 : decode cX9_isWord 21 = .ok (.iconst 0, 1) := by decide +kernel
theorem dX9_isWord_22 : decode cX9_isWord 22 = .ok (.ireturn, 1) := by decide +kernel
theorem dX9_bad_0 : decode cX9_bad 0 = .ok (.aload_n 0, 1) := by decide +kernel
theorem dX9_bad_1 : decode cX9_bad 1 = .ok (.aload_n 0, 1) := by decide +kernel
theorem dX9_bad_2 : decode cX9_bad 2 = .ok (.getfield 31, 3) := by decide +kernel
theorem dX9_bad_5 : decode cX9_bad 5 = .ok (.iconst 1, 1) := by decide +kernel
theorem dX9_bad_6 : decode cX9_bad 6 = .ok (.if_icmp .ne 7, 3) := by decide +kernel
theorem dX9_bad_9 : decode cX9_bad 9 = .ok (.iconst 1, 1) := by decide +kernel
theorem dX9_bad_10 : decode cX9_bad 10 = .ok (.goto 4, 3) := by decide +kernel
theorem dX9_bad_13 : decode cX9_bad 13 = .ok (.iload_n 1, 1) := by decide +kernel
theorem dX9_bad_14 : decode cX9_bad 14 = .ok (.putfield 56, 3) := by decide +kernel
theorem dX9_bad_17 : decode cX9_bad 17 = .ok (.aload_n 0, 1) := by decide +kernel
theorem dX9_bad_18 : decode cX9_bad 18 = .ok (.aload_n 0, 1) := by decide +kernel
theorem dX9_bad_19 : decode cX9_bad 19 = .ok (.getfield 28, 3) := by decide +kernel
theorem dX9_bad_22 : decode cX9_bad 22 = .ok (.putfield 59, 3) := by decide +kernel
theorem dX9_bad_25 : decode cX9_bad 25 = .ok (.iconst 0, 1) := by decide +kernel
theorem dX9_bad_26 : decode cX9_bad 26 = .ok (.ireturn, 1) := by decide +kernel
theorem dX9_init_0 : decode cX9_init 0 = .ok (.aload_n 0, 1) := by decide +kernel
theorem dX9_init_1 : decode cX9_init 1 = .ok (.invokespecial 62, 3) := by decide +kernel
theorem dX9_init_4 : decode cX9_init 4 = .ok (.aload_n 0, 1) := by decide +kernel
theorem dX9_init_5 : decode cX9_init 5 = .ok (.sipush 740, 3) := by decide +kernel
theorem dX9_init_8 : decode cX9_init 8 = .ok (.newarray .int, 2) := by decide +kernel
theorem dX9_init_10 : decode cX9_init 10 = .ok (.putfield 11, 3) := by decide +kernel
theorem dX9_init_13 : decode cX9_init 13 = .ok (.aload_n 0, 1) := by decide +kernel
theorem dX9_init_14 : decode cX9_init 14 = .ok (.sipush 184, 3) := by decide +kernel
theorem dX9_init_17 : decode cX9_init 17 = .ok (.newarray .int, 2) := by decide +kernel
theorem dX9_init_19 : decode cX9_init 19 = .ok (.putfield 68, 3) := by decide +kernel
theorem dX9_init_22 : decode cX9_init 22 = .ok (.aload_n 0, 1) := by decide +kernel
theorem dX9_init_23 : decode cX9_init 23 = .ok (.sipush 184, 3) := by decide +kernel
theorem dX9_init_26 : decode cX9_init 26 = .ok (.newarray .int, 2) := by decide +kernel
theorem dX9_init_28 : decode cX9_init 28 = .ok (.putfield 71, 3) := by decide +kernel
theorem dX9_init_31 : decode cX9_init 31 = .ok (.aload_n 0, 1) := by decide +kernel
theorem dX9_init_32 : decode cX9_init 32 = .ok (.sipush 368, 3) := by decide +kernel
theorem dX9_init_35 : decode cX9_init 35 = .ok (.newarray .int, 2) := by decide +kernel
theorem dX9_init_37 : decode cX9_init 37 = .ok (.putfield 74, 3) := by decide +kernel
theorem dX9_init_40 : decode cX9_init 40 = .ok (.aload_n 0, 1) := by decide +kernel
theorem dX9_init_41 : decode cX9_init 41 = .ok (.sipush 1472, 3) := by decide +kernel
theorem dX9_init_44 : decode cX9_init 44 = .ok (.newarray .int, 2) := by decide +kernel
theorem dX9_init_46 : decode cX9_init 46 = .ok (.putfield 77, 3) := by decide +kernel
theorem dX9_init_49 : decode cX9_init 49 = .ok (.aload_n 0, 1) := by decide +kernel
theorem dX9_init_50 : decode cX9_init 50 = .ok (.sipush 184, 3) := by decide +kernel
theorem dX9_init_53 : decode cX9_init 53 = .ok (.newarray .int, 2) := by decide +kernel
theorem dX9_init_55 : decode cX9_init 55 = .ok (.putfield 80, 3) := by decide +kernel
theorem dX9_init_58 : decode cX9_init 58 = .ok (.aload_n 0, 1) := by decide +kernel
theorem dX9_init_59 : decode cX9_init 59 = .ok (.sipush 184, 3) := by decide +kernel
theorem dX9_init_62 : decode cX9_init 62 = .ok (.newarray .int, 2) := by decide +kernel
theorem dX9_init_64 : decode cX9_init 64 = .ok (.putfield 83, 3) := by decide +kernel
theorem dX9_init_67 : decode cX9_init 67 = .ok (.aload_n 0, 1) := by decide +kernel
theorem dX9_init_68 : decode cX9_init 68 = .ok (.sipush 184, 3) := by decide +kernel
theorem dX9_init_71 : decode cX9_init 71 = .ok (.newarray .int, 2) := by decide +kernel
theorem dX9_init_73 : decode cX9_init 73 = .ok (.putfield 86, 3) := by decide +kernel
theorem dX9_init_76 : decode cX9_init 76 = .ok (.aload_n 0, 1) := by decide +kernel
theorem dX9_init_77 : decode cX9_init 77 = .ok (.iconst 2, 1) := by decide +kernel
theorem dX9_init_78 : decode cX9_init 78 = .ok (.newarray .boolean, 2) := by decide +kernel
theorem dX9_init_80 : decode cX9_init 80 = .ok (.putfield 89, 3) := by decide +kernel
theorem dX9_init_83 : decode cX9_init 83 = .ok (.aload_n 0, 1) := by decide +kernel
theorem dX9_init_84 : decode cX9_init 84 = .ok (.sipush 16384, 3) := by decide +kernel
theorem dX9_init_87 : decode cX9_init 87 = .ok (.newarray .int, 2) := by decide +kernel
theorem dX9_init_89 : decode cX9_init 89 = .ok (.putfield 93, 3) := by decide +kernel
theorem dX9_init_92 : decode cX9_init 92 = .ok (.aload_n 0, 1) := by decide +kernel
theorem dX9_init_93 : decode cX9_init 93 = .ok (.bipush 14, 2) := by decide +kernel
theorem dX9_init_95 : decode cX9_init 95 = .ok (.newarray .int, 2) := by decide +kernel
theorem dX9_init_97 : decode cX9_init 97 = .ok (.putfield 96, 3) := by decide +kernel
theorem dX9_init_100 : decode cX9_init 100 = .ok (.aload_n 0, 1) := by decide +kernel
theorem dX9_init_101 : decode cX9_init 101 = .ok (.bipush 14, 2) := by decide +kernel
theorem dX9_init_103 : decode cX9_init 103 = .ok (.newarray .int, 2) := by decide +kernel
theorem dX9_init_105 : decode cX9_init 105 = .ok (.putfield 99, 3) := by decide +kernel
theorem dX9_init_108 : decode cX9_init 108 = .ok (.aload_n 0, 1) := by decide +kernel
theorem dX9_init_109 : decode cX9_init 109 = .ok (.bipush 14, 2) := by decide +kernel
theorem dX9_init_111 : decode cX9_init 111 = .ok (.newarray .int, 2) := by decide +kernel
theorem dX9_init_113 : decode cX9_init 113 = .ok (.putfield 102, 3) := by decide +kernel
theorem dX9_init_116 : decode cX9_init 116 = .ok (.aload_n 0, 1) := by decide +kernel
theorem dX9_init_117 : decode cX9_init 117 = .ok (.bipush 13, 2) := by decide +kernel
theorem dX9_init_119 : decode cX9_init 119 = .ok (.newarray .int, 2) := by decide +kernel
theorem dX9_init_121 : decode cX9_init 121 = .ok (.putfield 105, 3) := by decide +kernel
theorem dX9_init_124 : decode cX9_init 124 = .ok (.return_, 1) := by decide +kernel
theorem dX9_copy_0 : decode cX9_copy 0 = .ok (.iconst 0, 1) := by decide +kernel
theorem dX9_copy_1 : decode cX9_copy 1 = .ok (.istore 4, 2) := by decide +kernel
theorem dX9_copy_3 : decode cX9_copy 3 = .ok (.iload 4, 2) := by decide +kernel
theorem dX9_copy_5 : decode cX9_copy 5 = .ok (.sipush 184, 3) := by decide +kernel
theorem dX9_copy_8 : decode cX9_copy 8 = .ok (.if_icmp .ge 21, 3) := by decide +kernel
theorem dX9_copy_11 : decode cX9_copy 11 = .ok (.aload_n 2, 1) := by decide +kernel
theorem dX9_copy_12 : decode cX9_copy 12 = .ok (.iload_n 3, 1) := by decide +kernel
theorem dX9_copy_13 : decode cX9_copy 13 = .ok (.iload 4, 2) := by decide +kernel
theorem dX9_copy_15 : decode cX9_copy 15 = .ok (.iadd, 1) := by decide +kernel
theorem dX9_copy_16 : decode cX9_copy 16 = .ok (.aload_n 0, 1) := by decide +kernel
theorem dX9_copy_17 : decode cX9_copy 17 = .ok (.iload_n 1, 1) := by decide +kernel
theorem dX9_copy_18 : decode cX9_copy 18 = .ok (.iload 4, 2) := by decide +kernel
theorem dX9_copy_20 : decode cX9_copy 20 = .ok (.iadd, 1) := by decide +kernel
theorem dX9_copy_21 : decode cX9_copy 21 = .ok (.iaload, 1) := by decide +kernel
theorem dX9_copy_22 : decode cX9_copy 22 = .ok (.iastore, 1) := by decide +kernel
theorem dX9_copy_23 : decode cX9_copy 23 = .ok (.iinc 4 1, 3) := by decide +kernel
theorem dX9_copy_26 : decode cX9_copy 26 = .ok (.goto (-23), 3) := by decide +kernel
theorem dX9_copy_29 : decode cX9_copy 29 = .ok (.return_, 1) := by decide +kernel
theorem dX9_meets_0 : decode cX9_meets 0 = .ok (.aload_n 0, 1) := by decide +kernel
theorem dX9_meets_1 : decode cX9_meets 1 = .ok (.iconst 2, 1) := by decide +kernel
theorem dX9_meets_2 : decode cX9_meets 2 = .ok (.bipush 14, 2) := by decide +kernel
theorem dX9_meets_4 : decode cX9_meets 4 = .ok (.iload_n 1, 1) := by decide +kernel
theorem dX9_meets_5 : decode cX9_meets 5 = .ok (.imul, 1) := by decide +kernel
theorem dX9_meets_6 : decode cX9_meets 6 = .ok (.iadd, 1) := by decide +kernel
theorem dX9_meets_7 : decode cX9_meets 7 = .ok (.iload_n 2, 1) := by decide +kernel
theorem dX9_meets_8 : decode cX9_meets 8 = .ok (.iadd, 1) := by decide +kernel
theorem dX9_meets_9 : decode cX9_meets 9 = .ok (.iaload, 1) := by decide +kernel
theorem dX9_meets_10 : decode cX9_meets 10 = .ok (.ireturn, 1) := by decide +kernel
theorem dX9_pairs_0 : decode cX9_pairs 0 = .ok (.aload_n 0, 1) := by decide +kernel
theorem dX9_pairs_1 : decode cX9_pairs 1 = .ok (.iconst 2, 1) := by decide +kernel
theorem dX9_pairs_2 : decode cX9_pairs 2 = .ok (.bipush 14, 2) := by decide +kernel
theorem dX9_pairs_4 : decode cX9_pairs 4 = .ok (.iload_n 1, 1) := by decide +kernel
theorem dX9_pairs_5 : decode cX9_pairs 5 = .ok (.imul, 1) := by decide +kernel
theorem dX9_pairs_6 : decode cX9_pairs 6 = .ok (.iadd, 1) := by decide +kernel
theorem dX9_pairs_7 : decode cX9_pairs 7 = .ok (.iload_n 2, 1) := by decide +kernel
theorem dX9_pairs_8 : decode cX9_pairs 8 = .ok (.iadd, 1) := by decide +kernel
theorem dX9_pairs_9 : decode cX9_pairs 9 = .ok (.iload_n 3, 1) := by decide +kernel
theorem dX9_pairs_10 : decode cX9_pairs 10 = .ok (.iastore, 1) := by decide +kernel
theorem dX9_pairs_11 : decode cX9_pairs 11 = .ok (.aload_n 0, 1) := by decide +kernel
theorem dX9_pairs_12 : decode cX9_pairs 12 = .ok (.iconst 2, 1) := by decide +kernel
theorem dX9_pairs_13 : decode cX9_pairs 13 = .ok (.bipush 14, 2) := by decide +kernel
theorem dX9_pairs_15 : decode cX9_pairs 15 = .ok (.iload_n 1, 1) := by decide +kernel
theorem dX9_pairs_16 : decode cX9_pairs 16 = .ok (.imul, 1) := by decide +kernel
theorem dX9_pairs_17 : decode cX9_pairs 17 = .ok (.iadd, 1) := by decide +kernel
theorem dX9_pairs_18 : decode cX9_pairs 18 = .ok (.iload_n 3, 1) := by decide +kernel
theorem dX9_pairs_19 : decode cX9_pairs 19 = .ok (.iadd, 1) := by decide +kernel
theorem dX9_pairs_20 : decode cX9_pairs 20 = .ok (.iload_n 2, 1) := by decide +kernel
theorem dX9_pairs_21 : decode cX9_pairs 21 = .ok (.iastore, 1) := by decide +kernel
theorem dX9_pairs_22 : decode cX9_pairs 22 = .ok (.return_, 1) := by decide +kernel
set_option maxRecDepth 20000 in
theorem ggX9_metOn_X9_meets : GoodIn wsX9_metOn wsX9_meets := goodIn_r _ [4] (by decide +kernel) (by decide +kernel)
set_option maxRecDepth 20000 in
theorem gX9_metOn_X9_meets : GoodIn wsX9_metOn (va_wsS RX9 108 yX9_meets wsX9_meets) := goodIn_app (goodIn_of _ (by decide +kernel)) ggX9_metOn_X9_meets
theorem dX9_metOn_0 : decode cX9_metOn 0 = .ok (.iconst 0, 1) := by decide +kernel
theorem dX9_metOn_1 : decode cX9_metOn 1 = .ok (.istore_n 3, 1) := by decide +kernel
theorem dX9_metOn_2 : decode cX9_metOn 2 = .ok (.iload_n 3, 1) := by decide +kernel
theorem dX9_metOn_3 : decode cX9_metOn 3 = .ok (.aload_n 0, 1) := by decide +kernel
theorem dX9_metOn_4 : decode cX9_metOn 4 = .ok (.iconst 1, 1) := by decide +kernel
theorem dX9_metOn_5 : decode cX9_metOn 5 = .ok (.iaload, 1) := by decide +kernel
theorem dX9_metOn_6 : decode cX9_metOn 6 = .ok (.if_icmp .ge 21, 3) := by decide +kernel
theorem dX9_metOn_9 : decode cX9_metOn 9 = .ok (.aload_n 0, 1) := by decide +kernel
theorem dX9_metOn_10 : decode cX9_metOn 10 = .ok (.iload_n 3, 1) := by decide +kernel
theorem dX9_metOn_11 : decode cX9_metOn 11 = .ok (.iload_n 1, 1) := by decide +kernel
theorem dX9_metOn_12 : decode cX9_metOn 12 = .ok (.invokestatic 108, 3) := by decide +kernel
theorem dX9_metOn_15 : decode cX9_metOn 15 = .ok (.iload_n 2, 1) := by decide +kernel
theorem dX9_metOn_16 : decode cX9_metOn 16 = .ok (.if_icmp .ne 5, 3) := by decide +kernel
theorem dX9_metOn_19 : decode cX9_metOn 19 = .ok (.iload_n 3, 1) := by decide +kernel
theorem dX9_metOn_20 : decode cX9_metOn 20 = .ok (.ireturn, 1) := by decide +kernel
theorem dX9_metOn_21 : decode cX9_metOn 21 = .ok (.iinc 3 1, 3) := by decide +kernel
theorem dX9_metOn_24 : decode cX9_metOn 24 = .ok (.goto (-22), 3) := by decide +kernel
theorem dX9_metOn_27 : decode cX9_metOn 27 = .ok (.iconst (-1), 1) := by decide +kernel
theorem dX9_metOn_28 : decode cX9_metOn 28 = .ok (.ireturn, 1) := by decide +kernel
set_option maxRecDepth 20000 in
theorem ggX9_readTeams_X9_next : GoodIn wsX9_readTeams wsX9_next := goodIn_r _ [8, 9, 10, 11, 12, 1, 13, 2, 14, 15, 16, 17, 7, 18, 19, 20, 21, 22, 23, 24, 25, 35, 36, 37, 38, 39, 40, 41, 42, 43, 44, 45, 46, 47, 48, 49, 50, 51, 52, 53, 54, 55, 56, 57, 58, 59, 60, 61, 62, 63] (by decide +kernel) (by decide +kernel)
set_option maxRecDepth 20000 in
theorem gX9_readTeams_X9_next : GoodIn wsX9_readTeams (wsV RX9 112 RX9 yX9_next wsX9_next) := goodIn_app (goodIn_of _ (by decide +kernel)) ggX9_readTeams_X9_next
set_option maxRecDepth 20000 in
theorem ggX9_readTeams_X9_bad : GoodIn wsX9_readTeams wsX9_bad := goodIn_r _ [29, 1, 30, 12, 31, 35, 36, 37, 38, 39, 40, 41, 42, 43, 44, 45, 46, 47, 48, 49, 50, 51, 52, 53, 54, 55, 56, 57, 58, 59, 60, 61, 62, 63] (by decide +kernel) (by decide +kernel)
set_option maxRecDepth 20000 in
theorem gX9_readTeams_X9_bad : GoodIn wsX9_readTeams (wsV RX9 115 RX9 yX9_bad wsX9_bad) := goodIn_app (goodIn_of _ (by decide +kernel)) ggX9_readTeams_X9_bad
set_option maxRecDepth 20000 in
theorem ggX9_readTeams_X9_isIn : GoodIn wsX9_readTeams wsX9_isIn := goodIn_r _ [34] (by decide +kernel) (by decide +kernel)
set_option maxRecDepth 20000 in
theorem gX9_readTeams_X9_isIn : GoodIn wsX9_readTeams (va_wsS RX9 118 yX9_isIn wsX9_isIn) := goodIn_app (goodIn_of _ (by decide +kernel)) ggX9_readTeams_X9_isIn
theorem dX9_readTeams_0 : decode cX9_readTeams 0 = .ok (.aload_n 0, 1) := by decide +kernel
theorem dX9_readTeams_1 : decode cX9_readTeams 1 = .ok (.invokevirtual 112, 3) := by decide +kernel
theorem dX9_readTeams_4 : decode cX9_readTeams 4 = .ok (.aload_n 0, 1) := by decide +kernel
theorem dX9_readTeams_5 : decode cX9_readTeams 5 = .ok (.getfield 31, 3) := by decide +kernel
theorem dX9_readTeams_8 : decode cX9_readTeams 8 = .ok (.iconst 3, 1) := by decide +kernel
theorem dX9_readTeams_9 : decode cX9_readTeams 9 = .ok (.if_icmp .eq 9, 3) := by decide +kernel
theorem dX9_readTeams_12 : decode cX9_readTeams 12 = .ok (.aload_n 0, 1) := by decide +kernel
theorem dX9_readTeams_13 : decode cX9_readTeams 13 = .ok (.iconst 1, 1) := by decide +kernel
theorem dX9_readTeams_14 : decode cX9_readTeams 14 = .ok (.invokevirtual 115, 3) := by decide +kernel
theorem dX9_readTeams_17 : decode cX9_readTeams 17 = .ok (.ireturn, 1) := by decide +kernel
theorem dX9_readTeams_18 : decode cX9_readTeams 18 = .ok (.aload_n 0, 1) := by decide +kernel
theorem dX9_readTeams_19 : decode cX9_readTeams 19 = .ok (.getfield 45, 3) := by decide +kernel
theorem dX9_readTeams_22 : decode cX9_readTeams 22 = .ok (.iconst 4, 1) := by decide +kernel
theorem dX9_readTeams_23 : decode cX9_readTeams 23 = .ok (.bipush 14, 2) := by decide +kernel
theorem dX9_readTeams_25 : decode cX9_readTeams 25 = .ok (.invokestatic 118, 3) := by decide +kernel
theorem dX9_readTeams_28 : decode cX9_readTeams 28 = .ok (.ifCond .eq 13, 3) := by decide +kernel
theorem dX9_readTeams_31 : decode cX9_readTeams 31 = .ok (.aload_n 0, 1) := by decide +kernel
theorem dX9_readTeams_32 : decode cX9_readTeams 32 = .ok (.getfield 45, 3) := by decide +kernel
theorem dX9_readTeams_35 : decode cX9_readTeams 35 = .ok (.iconst 2, 1) := by decide +kernel
theorem dX9_readTeams_36 : decode cX9_readTeams 36 = .ok (.irem, 1) := by decide +kernel
theorem dX9_readTeams_37 : decode cX9_readTeams 37 = .ok (.iconst 1, 1) := by decide +kernel
theorem dX9_readTeams_38 : decode cX9_readTeams 38 = .ok (.if_icmp .ne 9, 3) := by decide +kernel
theorem dX9_readTeams_41 : decode cX9_readTeams 41 = .ok (.aload_n 0, 1) := by decide +kernel
theorem dX9_readTeams_42 : decode cX9_readTeams 42 = .ok (.iconst 2, 1) := by decide +kernel
theorem dX9_readTeams_43 : decode cX9_readTeams 43 = .ok (.invokevirtual 115, 3) := by decide +kernel
theorem dX9_readTeams_46 : decode cX9_readTeams 46 = .ok (.ireturn, 1) := by decide +kernel
theorem dX9_readTeams_47 : decode cX9_readTeams 47 = .ok (.aload_n 0, 1) := by decide +kernel
theorem dX9_readTeams_48 : decode cX9_readTeams 48 = .ok (.getfield 71, 3) := by decide +kernel
theorem dX9_readTeams_51 : decode cX9_readTeams 51 = .ok (.iconst 0, 1) := by decide +kernel
theorem dX9_readTeams_52 : decode cX9_readTeams 52 = .ok (.aload_n 0, 1) := by decide +kernel
theorem dX9_readTeams_53 : decode cX9_readTeams 53 = .ok (.getfield 45, 3) := by decide +kernel
theorem dX9_readTeams_56 : decode cX9_readTeams 56 = .ok (.iastore, 1) := by decide +kernel
theorem dX9_readTeams_57 : decode cX9_readTeams 57 = .ok (.aload_n 0, 1) := by decide +kernel
theorem dX9_readTeams_58 : decode cX9_readTeams 58 = .ok (.invokevirtual 112, 3) := by decide +kernel
theorem dX9_readTeams_61 : decode cX9_readTeams 61 = .ok (.iconst 1, 1) := by decide +kernel
theorem dX9_readTeams_62 : decode cX9_readTeams 62 = .ok (.ireturn, 1) := by decide +kernel
set_option maxRecDepth 20000 in
theorem ggX9_readDay_X9_bad : GoodIn wsX9_readDay wsX9_bad := goodIn_r _ [8, 2, 9, 10, 11, 44, 45, 46, 47, 48, 49, 50, 51, 52, 53, 54, 55, 56, 57, 58, 59, 60, 61, 62, 63, 64, 65, 66, 67, 68, 69, 70, 71, 72] (by decide +kernel) (by decide +kernel)
set_option maxRecDepth 20000 in
theorem gX9_readDay_X9_bad : GoodIn wsX9_readDay (wsV RX9 115 RX9 yX9_bad wsX9_bad) := goodIn_app (goodIn_of _ (by decide +kernel)) ggX9_readDay_X9_bad
set_option maxRecDepth 20000 in
theorem ggX9_readDay_X9_next : GoodIn wsX9_readDay wsX9_next := goodIn_r _ [15, 16, 17, 18, 10, 2, 19, 3, 20, 21, 22, 23, 7, 24, 25, 26, 27, 28, 29, 30, 31, 44, 45, 46, 47, 48, 49, 50, 51, 52, 53, 54, 55, 56, 57, 58, 59, 60, 61, 62, 63, 64, 65, 66, 67, 68, 69, 70, 71, 72] (by decide +kernel) (by decide +kernel)
set_option maxRecDepth 20000 in
theorem gX9_readDay_X9_next : GoodIn wsX9_readDay (wsV RX9 112 RX9 yX9_next wsX9_next) := goodIn_app (goodIn_of _ (by decide +kernel)) ggX9_readDay_X9_next
set_option maxRecDepth 20000 in
theorem ggX9_readDay_X9_has : GoodIn wsX9_readDay wsX9_has := goodIn_r _ [34] (by decide +kernel) (by decide +kernel)
set_option maxRecDepth 20000 in
theorem gX9_readDay_X9_has : GoodIn wsX9_readDay (va_wsS RX9 7 yX9_has wsX9_has) := goodIn_app (goodIn_of _ (by decide +kernel)) ggX9_readDay_X9_has
set_option maxRecDepth 20000 in
theorem ggX9_readDay_X9_metOn : GoodIn wsX9_readDay wsX9_metOn := goodIn_r _ [37, 38, 39, 7, 40] (by decide +kernel) (by decide +kernel)
set_option maxRecDepth 20000 in
theorem gX9_readDay_X9_metOn : GoodIn wsX9_readDay (va_wsS RX9 122 yX9_metOn wsX9_metOn) := goodIn_app (goodIn_of _ (by decide +kernel)) ggX9_readDay_X9_metOn
set_option maxRecDepth 20000 in
theorem ggX9_readDay_X9_pairs : GoodIn wsX9_readDay wsX9_pairs := goodIn_r _ [43] (by decide +kernel) (by decide +kernel)
set_option maxRecDepth 20000 in
theorem gX9_readDay_X9_pairs : GoodIn wsX9_readDay (va_wsS RX9 125 yX9_pairs wsX9_pairs) := goodIn_app (goodIn_of _ (by decide +kernel)) ggX9_readDay_X9_pairs
theorem dX9_readDay_0 : decode cX9_readDay 0 = .ok (.aload_n 0, 1) := by decide +kernel
theorem dX9_readDay_1 : decode cX9_readDay 1 = .ok (.getfield 71, 3) := by decide +kernel
theorem dX9_readDay_4 : decode cX9_readDay 4 = .ok (.iconst 1, 1) := by decide +kernel
theorem dX9_readDay_5 : decode cX9_readDay 5 = .ok (.iaload, 1) := by decide +kernel
theorem dX9_readDay_6 : decode cX9_readDay 6 = .ok (.aload_n 0, 1) := by decide +kernel
theorem dX9_readDay_7 : decode cX9_readDay 7 = .ok (.getfield 71, 3) := by decide +kernel
theorem dX9_readDay_10 : decode cX9_readDay 10 = .ok (.iconst 0, 1) := by decide +kernel
theorem dX9_readDay_11 : decode cX9_readDay 11 = .ok (.iaload, 1) := by decide +kernel
theorem dX9_readDay_12 : decode cX9_readDay 12 = .ok (.iconst 1, 1) := by decide +kernel
theorem dX9_readDay_13 : decode cX9_readDay 13 = .ok (.isub, 1) := by decide +kernel
theorem dX9_readDay_14 : decode cX9_readDay 14 = .ok (.if_icmp .ne 9, 3) := by decide +kernel
theorem dX9_readDay_17 : decode cX9_readDay 17 = .ok (.aload_n 0, 1) := by decide +kernel
theorem dX9_readDay_18 : decode cX9_readDay 18 = .ok (.iconst 4, 1) := by decide +kernel
theorem dX9_readDay_19 : decode cX9_readDay 19 = .ok (.invokevirtual 115, 3) := by decide +kernel
theorem dX9_readDay_22 : decode cX9_readDay 22 = .ok (.ireturn, 1) := by decide +kernel
theorem dX9_readDay_23 : decode cX9_readDay 23 = .ok (.aload_n 0, 1) := by decide +kernel
theorem dX9_readDay_24 : decode cX9_readDay 24 = .ok (.invokevirtual 112, 3) := by decide +kernel
theorem dX9_readDay_27 : decode cX9_readDay 27 = .ok (.iconst 0, 1) := by decide +kernel
theorem dX9_readDay_28 : decode cX9_readDay 28 = .ok (.istore_n 1, 1) := by decide +kernel
theorem dX9_readDay_29 : decode cX9_readDay 29 = .ok (.iconst (-1), 1) := by decide +kernel
theorem dX9_readDay_30 : decode cX9_readDay 30 = .ok (.istore_n 2, 1) := by decide +kernel
theorem dX9_readDay_31 : decode cX9_readDay 31 = .ok (.iconst 0, 1) := by decide +kernel
theorem dX9_readDay_32 : decode cX9_readDay 32 = .ok (.istore_n 3, 1) := by decide +kernel
theorem dX9_readDay_33 : decode cX9_readDay 33 = .ok (.iload_n 3, 1) := by decide +kernel
theorem dX9_readDay_34 : decode cX9_readDay 34 = .ok (.aload_n 0, 1) := by decide +kernel
theorem dX9_readDay_35 : decode cX9_readDay 35 = .ok (.getfield 71, 3) := by decide +kernel
theorem dX9_readDay_38 : decode cX9_readDay 38 = .ok (.iconst 0, 1) := by decide +kernel
theorem dX9_readDay_39 : decode cX9_readDay 39 = .ok (.iaload, 1) := by decide +kernel
theorem dX9_readDay_40 : decode cX9_readDay 40 = .ok (.if_icmp .ge 119, 3) := by decide +kernel
theorem dX9_readDay_43 : decode cX9_readDay 43 = .ok (.aload_n 0, 1) := by decide +kernel
theorem dX9_readDay_44 : decode cX9_readDay 44 = .ok (.getfield 31, 3) := by decide +kernel
theorem dX9_readDay_47 : decode cX9_readDay 47 = .ok (.iconst 3, 1) := by decide +kernel
theorem dX9_readDay_48 : decode cX9_readDay 48 = .ok (.if_icmp .eq 9, 3) := by decide +kernel
theorem dX9_readDay_51 : decode cX9_readDay 51 = .ok (.aload_n 0, 1) := by decide +kernel
theorem dX9_readDay_52 : decode cX9_readDay 52 = .ok (.iconst 1, 1) := by decide +kernel
theorem dX9_readDay_53 : decode cX9_readDay 53 = .ok (.invokevirtual 115, 3) := by decide +kernel
theorem dX9_readDay_56 : decode cX9_readDay 56 = .ok (.ireturn, 1) := by decide +kernel
theorem dX9_readDay_57 : decode cX9_readDay 57 = .ok (.aload_n 0, 1) := by decide +kernel
theorem dX9_readDay_58 : decode cX9_readDay 58 = .ok (.getfield 45, 3) := by decide +kernel
theorem dX9_readDay_61 : decode cX9_readDay 61 = .ok (.istore 4, 2) := by decide +kernel
theorem dX9_readDay_63 : decode cX9_readDay 63 = .ok (.iload 4, 2) := by decide +kernel
theorem dX9_readDay_65 : decode cX9_readDay 65 = .ok (.aload_n 0, 1) := by decide +kernel
theorem dX9_readDay_66 : decode cX9_readDay 66 = .ok (.getfield 71, 3) := by decide +kernel
theorem dX9_readDay_69 : decode cX9_readDay 69 = .ok (.iconst 0, 1) := by decide +kernel
theorem dX9_readDay_70 : decode cX9_readDay 70 = .ok (.iaload, 1) := by decide +kernel
theorem dX9_readDay_71 : decode cX9_readDay 71 = .ok (.if_icmp .lt 9, 3) := by decide +kernel
theorem dX9_readDay_74 : decode cX9_readDay 74 = .ok (.aload_n 0, 1) := by decide +kernel
theorem dX9_readDay_75 : decode cX9_readDay 75 = .ok (.iconst 2, 1) := by decide +kernel
theorem dX9_readDay_76 : decode cX9_readDay 76 = .ok (.invokevirtual 115, 3) := by decide +kernel
theorem dX9_readDay_79 : decode cX9_readDay 79 = .ok (.ireturn, 1) := by decide +kernel
theorem dX9_readDay_80 : decode cX9_readDay 80 = .ok (.iload_n 1, 1) := by decide +kernel
theorem dX9_readDay_81 : decode cX9_readDay 81 = .ok (.iload 4, 2) := by decide +kernel
theorem dX9_readDay_83 : decode cX9_readDay 83 = .ok (.invokestatic 7, 3) := by decide +kernel
theorem dX9_readDay_86 : decode cX9_readDay 86 = .ok (.ifCond .ne 24, 3) := by decide +kernel
theorem dX9_readDay_89 : decode cX9_readDay 89 = .ok (.iload_n 3, 1) := by decide +kernel
theorem dX9_readDay_90 : decode cX9_readDay 90 = .ok (.iconst 2, 1) := by decide +kernel
theorem dX9_readDay_91 : decode cX9_readDay 91 = .ok (.irem, 1) := by decide +kernel
theorem dX9_readDay_92 : decode cX9_readDay 92 = .ok (.iconst 1, 1) := by decide +kernel
theorem dX9_readDay_93 : decode cX9_readDay 93 = .ok (.if_icmp .ne 23, 3) := by decide +kernel
theorem dX9_readDay_96 : decode cX9_readDay 96 = .ok (.aload_n 0, 1) := by decide +kernel
theorem dX9_readDay_97 : decode cX9_readDay 97 = .ok (.getfield 71, 3) := by decide +kernel
theorem dX9_readDay_100 : decode cX9_readDay 100 = .ok (.iload_n 2, 1) := by decide +kernel
theorem dX9_readDay_101 : decode cX9_readDay 101 = .ok (.iload 4, 2) := by decide +kernel
theorem dX9_readDay_103 : decode cX9_readDay 103 = .ok (.invokestatic 122, 3) := by decide +kernel
theorem dX9_readDay_106 : decode cX9_readDay 106 = .ok (.iconst (-1), 1) := by decide +kernel
theorem dX9_readDay_107 : decode cX9_readDay 107 = .ok (.if_icmp .eq 9, 3) := by decide +kernel
theorem dX9_readDay_110 : decode cX9_readDay 110 = .ok (.aload_n 0, 1) := by decide +kernel
theorem dX9_readDay_111 : decode cX9_readDay 111 = .ok (.iconst 3, 1) := by decide +kernel
theorem dX9_readDay_112 : decode cX9_readDay 112 = .ok (.invokevirtual 115, 3) := by decide +kernel
theorem dX9_readDay_115 : decode cX9_readDay 115 = .ok (.ireturn, 1) := by decide +kernel
theorem dX9_readDay_116 : decode cX9_readDay 116 = .ok (.iload_n 1, 1) := by decide +kernel
theorem dX9_readDay_117 : decode cX9_readDay 117 = .ok (.iconst 1, 1) := by decide +kernel
theorem dX9_readDay_118 : decode cX9_readDay 118 = .ok (.iload 4, 2) := by decide +kernel
theorem dX9_readDay_120 : decode cX9_readDay 120 = .ok (.ishl, 1) := by decide +kernel
theorem dX9_readDay_121 : decode cX9_readDay 121 = .ok (.ior, 1) := by decide +kernel
theorem dX9_readDay_122 : decode cX9_readDay 122 = .ok (.istore_n 1, 1) := by decide +kernel
theorem dX9_readDay_123 : decode cX9_readDay 123 = .ok (.iload_n 3, 1) := by decide +kernel
theorem dX9_readDay_124 : decode cX9_readDay 124 = .ok (.iconst 2, 1) := by decide +kernel
theorem dX9_readDay_125 : decode cX9_readDay 125 = .ok (.irem, 1) := by decide +kernel
theorem dX9_readDay_126 : decode cX9_readDay 126 = .ok (.iconst 1, 1) := by decide +kernel
theorem dX9_readDay_127 : decode cX9_readDay 127 = .ok (.if_icmp .ne 19, 3) := by decide +kernel
theorem dX9_readDay_130 : decode cX9_readDay 130 = .ok (.aload_n 0, 1) := by decide +kernel
theorem dX9_readDay_131 : decode cX9_readDay 131 = .ok (.getfield 71, 3) := by decide +kernel
theorem dX9_readDay_134 : decode cX9_readDay 134 = .ok (.aload_n 0, 1) := by decide +kernel
theorem dX9_readDay_135 : decode cX9_readDay 135 = .ok (.getfield 71, 3) := by decide +kernel
theorem dX9_readDay_138 : decode cX9_readDay 138 = .ok (.iconst 1, 1) := by decide +kernel
theorem dX9_readDay_139 : decode cX9_readDay 139 = .ok (.iaload, 1) := by decide +kernel
theorem dX9_readDay_140 : decode cX9_readDay 140 = .ok (.iload_n 2, 1) := by decide +kernel
theorem dX9_readDay_141 : decode cX9_readDay 141 = .ok (.iload 4, 2) := by decide +kernel
theorem dX9_readDay_143 : decode cX9_readDay 143 = .ok (.invokestatic 125, 3) := by decide +kernel
theorem dX9_readDay_146 : decode cX9_readDay 146 = .ok (.iload 4, 2) := by decide +kernel
theorem dX9_readDay_148 : decode cX9_readDay 148 = .ok (.istore_n 2, 1) := by decide +kernel
theorem dX9_readDay_149 : decode cX9_readDay 149 = .ok (.aload_n 0, 1) := by decide +kernel
theorem dX9_readDay_150 : decode cX9_readDay 150 = .ok (.invokevirtual 112, 3) := by decide +kernel
theorem dX9_readDay_153 : decode cX9_readDay 153 = .ok (.iinc 3 1, 3) := by decide +kernel
theorem dX9_readDay_156 : decode cX9_readDay 156 = .ok (.goto (-123), 3) := by decide +kernel
theorem dX9_readDay_159 : decode cX9_readDay 159 = .ok (.aload_n 0, 1) := by decide +kernel
theorem dX9_readDay_160 : decode cX9_readDay 160 = .ok (.getfield 31, 3) := by decide +kernel
theorem dX9_readDay_163 : decode cX9_readDay 163 = .ok (.iconst 4, 1) := by decide +kernel
theorem dX9_readDay_164 : decode cX9_readDay 164 = .ok (.if_icmp .eq 9, 3) := by decide +kernel
theorem dX9_readDay_167 : decode cX9_readDay 167 = .ok (.aload_n 0, 1) := by decide +kernel
theorem dX9_readDay_168 : decode cX9_readDay 168 = .ok (.iconst 1, 1) := by decide +kernel
theorem dX9_readDay_169 : decode cX9_readDay 169 = .ok (.invokevirtual 115, 3) := by decide +kernel
theorem dX9_readDay_172 : decode cX9_readDay 172 = .ok (.ireturn, 1) := by decide +kernel
theorem dX9_readDay_173 : decode cX9_readDay 173 = .ok (.aload_n 0, 1) := by decide +kernel
theorem dX9_readDay_174 : decode cX9_readDay 174 = .ok (.getfield 71, 3) := by decide +kernel
theorem dX9_readDay_177 : decode cX9_readDay 177 = .ok (.iconst 1, 1) := by decide +kernel
theorem dX9_readDay_178 : decode cX9_readDay 178 = .ok (.dup2, 1) := by decide +kernel
theorem dX9_readDay_179 : decode cX9_readDay 179 = .ok (.iaload, 1) := by decide +kernel
theorem dX9_readDay_180 : decode cX9_readDay 180 = .ok (.iconst 1, 1) := by decide +kernel
theorem dX9_readDay_181 : decode cX9_readDay 181 = .ok (.iadd, 1) := by decide +kernel
theorem dX9_readDay_182 : decode cX9_readDay 182 = .ok (.iastore, 1) := by decide +kernel
theorem dX9_readDay_183 : decode cX9_readDay 183 = .ok (.iconst 1, 1) := by decide +kernel
theorem dX9_readDay_184 : decode cX9_readDay 184 = .ok (.ireturn, 1) := by decide +kernel
set_option maxRecDepth 20000 in
theorem ggX9_readLine_X9_spelt : GoodIn wsX9_readLine wsX9_spelt := goodIn_r _ [5, 6, 7] (by decide +kernel) (by decide +kernel)
set_option maxRecDepth 20000 in
theorem gX9_readLine_X9_spelt : GoodIn wsX9_readLine (va_wsS RX9 129 yX9_spelt wsX9_spelt) := goodIn_app (goodIn_of _ (by decide +kernel)) ggX9_readLine_X9_spelt
set_option maxRecDepth 20000 in
theorem ggX9_readLine_X9_isWord : GoodIn wsX9_readLine wsX9_isWord := goodIn_r _ [11, 12, 13, 62, 63, 64, 65, 66, 67, 68, 69, 70, 71, 72, 73, 74, 75, 76, 77, 78, 79, 80, 81, 82, 83, 84, 85, 86, 87, 88, 89, 90] (by decide +kernel) (by decide +kernel)
set_option maxRecDepth 20000 in
theorem gX9_readLine_X9_isWord : GoodIn wsX9_readLine (wsV RX9 133 RX9 yX9_isWord wsX9_isWord) := goodIn_app (goodIn_of _ (by decide +kernel)) ggX9_readLine_X9_isWord
set_option maxRecDepth 20000 in
theorem ggX9_readLine_X9_readTeams : GoodIn wsX9_readLine wsX9_readTeams := goodIn_r _ [17, 12, 18, 1, 19, 20, 21, 4, 22, 23, 24, 25, 26, 13, 6, 7, 27, 28, 29, 30, 31, 32, 33, 34, 35, 36, 37, 38, 39, 40, 41, 42, 43, 44, 45, 62, 63, 64, 65, 66, 67, 68, 69, 70, 71, 72, 73, 74, 75, 76, 77, 78, 79, 80, 81, 82, 83, 84, 85, 86, 87, 88, 89, 90] (by decide +kernel) (by decide +kernel)
set_option maxRecDepth 20000 in
theorem gX9_readLine_X9_readTeams : GoodIn wsX9_readLine (wsV RX9 137 RX9 yX9_readTeams wsX9_readTeams) := goodIn_app (goodIn_of _ (by decide +kernel)) ggX9_readLine_X9_readTeams
set_option maxRecDepth 20000 in
theorem ggX9_readLine_X9_bad : GoodIn wsX9_readLine wsX9_bad := goodIn_r _ [40, 12, 41, 26, 42, 62, 63, 64, 65, 66, 67, 68, 69, 70, 71, 72, 73, 74, 75, 76, 77, 78, 79, 80, 81, 82, 83, 84, 85, 86, 87, 88, 89, 90] (by decide +kernel) (by decide +kernel)
set_option maxRecDepth 20000 in
theorem gX9_readLine_X9_bad : GoodIn wsX9_readLine (wsV RX9 115 RX9 yX9_bad wsX9_bad) := goodIn_app (goodIn_of _ (by decide +kernel)) ggX9_readLine_X9_bad
set_option maxRecDepth 20000 in
theorem ggX9_readLine_X9_readDay : GoodIn wsX9_readLine wsX9_readDay := goodIn_r _ [49, 1, 12, 18, 37, 38, 39, 4, 40, 41, 26, 42, 19, 20, 21, 22, 23, 24, 25, 13, 6, 7, 27, 28, 29, 30, 31, 32, 33, 34, 35, 36, 50, 51, 52, 53, 54, 55, 56, 57, 58, 59, 60, 61, 62, 63, 64, 65, 66, 67, 68, 69, 70, 71, 72, 73, 74, 75, 76, 77, 78, 79, 80, 81, 82, 83, 84, 85, 86, 87, 88, 89, 90] (by decide +kernel) (by decide +kernel)
set_option maxRecDepth 20000 in
theorem gX9_readLine_X9_readDay : GoodIn wsX9_readLine (wsV RX9 141 RX9 yX9_readDay wsX9_readDay) := goodIn_app (goodIn_of _ (by decide +kernel)) ggX9_readLine_X9_readDay
theorem dX9_readLine_0 : decode cX9_readLine 0 = .ok (.aload_n 0, 1) := by decide +kernel
theorem dX9_readLine_1 : decode cX9_readLine 1 = .ok (.getfield 71, 3) := by decide +kernel
theorem dX9_readLine_4 : decode cX9_readLine 4 = .ok (.iconst 0, 1) := by decide +kernel
theorem dX9_readLine_5 : decode cX9_readLine 5 = .ok (.iaload, 1) := by decide +kernel
theorem dX9_readLine_6 : decode cX9_readLine 6 = .ok (.ifCond .ne 36, 3) := by decide +kernel
theorem dX9_readLine_9 : decode cX9_readLine 9 = .ok (.aload_n 0, 1) := by decide +kernel
theorem dX9_readLine_10 : decode cX9_readLine 10 = .ok (.bipush 116, 2) := by decide +kernel
theorem dX9_readLine_12 : decode cX9_readLine 12 = .ok (.bipush 101, 2) := by decide +kernel
theorem dX9_readLine_14 : decode cX9_readLine 14 = .ok (.bipush 97, 2) := by decide +kernel
theorem dX9_readLine_16 : decode cX9_readLine 16 = .ok (.bipush 109, 2) := by decide +kernel
theorem dX9_readLine_18 : decode cX9_readLine 18 = .ok (.bipush 115, 2) := by decide +kernel
theorem dX9_readLine_20 : decode cX9_readLine 20 = .ok (.invokestatic 129, 3) := by decide +kernel
theorem dX9_readLine_23 : decode cX9_readLine 23 = .ok (.invokevirtual 133, 3) := by decide +kernel
theorem dX9_readLine_26 : decode cX9_readLine 26 = .ok (.ifCond .eq 10, 3) := by decide +kernel
theorem dX9_readLine_29 : decode cX9_readLine 29 = .ok (.aload_n 0, 1) := by decide +kernel
theorem dX9_readLine_30 : decode cX9_readLine 30 = .ok (.invokevirtual 137, 3) := by decide +kernel
theorem dX9_readLine_33 : decode cX9_readLine 33 = .ok (.goto 8, 3) := by decide +kernel
theorem dX9_readLine_36 : decode cX9_readLine 36 = .ok (.aload_n 0, 1) := by decide +kernel
theorem dX9_readLine_37 : decode cX9_readLine 37 = .ok (.iconst 1, 1) := by decide +kernel
theorem dX9_readLine_38 : decode cX9_readLine 38 = .ok (.invokevirtual 115, 3) := by decide +kernel
theorem dX9_readLine_41 : decode cX9_readLine 41 = .ok (.ireturn, 1) := by decide +kernel
theorem dX9_readLine_42 : decode cX9_readLine 42 = .ok (.aload_n 0, 1) := by decide +kernel
theorem dX9_readLine_43 : decode cX9_readLine 43 = .ok (.bipush 100, 2) := by decide +kernel
theorem dX9_readLine_45 : decode cX9_readLine 45 = .ok (.bipush 97, 2) := by decide +kernel
theorem dX9_readLine_47 : decode cX9_readLine 47 = .ok (.bipush 121, 2) := by decide +kernel
theorem dX9_readLine_49 : decode cX9_readLine 49 = .ok (.iconst 0, 1) := by decide +kernel
theorem dX9_readLine_50 : decode cX9_readLine 50 = .ok (.iconst 0, 1) := by decide +kernel
theorem dX9_readLine_51 : decode cX9_readLine 51 = .ok (.invokestatic 129, 3) := by decide +kernel
theorem dX9_readLine_54 : decode cX9_readLine 54 = .ok (.invokevirtual 133, 3) := by decide +kernel
theorem dX9_readLine_57 : decode cX9_readLine 57 = .ok (.ifCond .eq 10, 3) := by decide +kernel
theorem dX9_readLine_60 : decode cX9_readLine 60 = .ok (.aload_n 0, 1) := by decide +kernel
theorem dX9_readLine_61 : decode cX9_readLine 61 = .ok (.invokevirtual 141, 3) := by decide +kernel
theorem dX9_readLine_64 : decode cX9_readLine 64 = .ok (.goto 8, 3) := by decide +kernel
theorem dX9_readLine_67 : decode cX9_readLine 67 = .ok (.aload_n 0, 1) := by decide +kernel
theorem dX9_readLine_68 : decode cX9_readLine 68 = .ok (.iconst 1, 1) := by decide +kernel
theorem dX9_readLine_69 : decode cX9_readLine 69 = .ok (.invokevirtual 115, 3) := by decide +kernel
theorem dX9_readLine_72 : decode cX9_readLine 72 = .ok (.ireturn, 1) := by decide +kernel
set_option maxRecDepth 20000 in
theorem ggX9_readEnd_X9_bad : GoodIn wsX9_readEnd wsX9_bad := goodIn_r _ [6, 1, 7, 8, 9, 31, 32, 33, 34, 35, 36, 37, 38, 39, 40, 41, 42, 43, 44, 45, 46, 47, 48, 49, 50, 51, 52, 53, 54, 55, 56, 57, 58, 59] (by decide +kernel) (by decide +kernel)
set_option maxRecDepth 20000 in
theorem gX9_readEnd_X9_bad : GoodIn wsX9_readEnd (wsV RX9 115 RX9 yX9_bad wsX9_bad) := goodIn_app (goodIn_of _ (by decide +kernel)) ggX9_readEnd_X9_bad
set_option maxRecDepth 20000 in
theorem ggX9_readEnd_X9_next : GoodIn wsX9_readEnd wsX9_next := goodIn_r _ [13, 14, 15, 16, 8, 1, 17, 18, 19, 20, 21, 22, 5, 23, 24, 25, 26, 27, 28, 29, 30, 31, 32, 33, 34, 35, 36, 37, 38, 39, 40, 41, 42, 43, 44, 45, 46, 47, 48, 49, 50, 51, 52, 53, 54, 55, 56, 57, 58, 59] (by decide +kernel) (by decide +kernel)
set_option maxRecDepth 20000 in
theorem gX9_readEnd_X9_next : GoodIn wsX9_readEnd (wsV RX9 112 RX9 yX9_next wsX9_next) := goodIn_app (goodIn_of _ (by decide +kernel)) ggX9_readEnd_X9_next
theorem dX9_readEnd_0 : decode cX9_readEnd 0 = .ok (.aload_n 0, 1) := by decide +kernel
theorem dX9_readEnd_1 : decode cX9_readEnd 1 = .ok (.getfield 31, 3) := by decide +kernel
theorem dX9_readEnd_4 : decode cX9_readEnd 4 = .ok (.iconst 4, 1) := by decide +kernel
theorem dX9_readEnd_5 : decode cX9_readEnd 5 = .ok (.if_icmp .eq 9, 3) := by decide +kernel
theorem dX9_readEnd_8 : decode cX9_readEnd 8 = .ok (.aload_n 0, 1) := by decide +kernel
theorem dX9_readEnd_9 : decode cX9_readEnd 9 = .ok (.iconst 1, 1) := by decide +kernel
theorem dX9_readEnd_10 : decode cX9_readEnd 10 = .ok (.invokevirtual 115, 3) := by decide +kernel
theorem dX9_readEnd_13 : decode cX9_readEnd 13 = .ok (.ireturn, 1) := by decide +kernel
theorem dX9_readEnd_14 : decode cX9_readEnd 14 = .ok (.aload_n 0, 1) := by decide +kernel
theorem dX9_readEnd_15 : decode cX9_readEnd 15 = .ok (.invokevirtual 112, 3) := by decide +kernel
theorem dX9_readEnd_18 : decode cX9_readEnd 18 = .ok (.iconst 1, 1) := by decide +kernel
theorem dX9_readEnd_19 : decode cX9_readEnd 19 = .ok (.ireturn, 1) := by decide +kernel
set_option maxRecDepth 20000 in
theorem ggX9_text_X9_next : GoodIn wsX9_text wsX9_next := goodIn_r _ [15, 5, 3, 16, 17, 7, 18, 19, 20, 21, 22, 23, 14, 24, 25, 26, 27, 28, 29, 30, 31, 77, 78, 79, 80, 81, 82, 83, 84, 85, 86, 87, 88, 89, 90, 91, 92, 93, 94, 95, 96, 97, 98, 99, 100, 101, 102, 103, 104, 105] (by decide +kernel) (by decide +kernel)
set_option maxRecDepth 20000 in
theorem gX9_text_X9_next : GoodIn wsX9_text (wsV RX9 112 RX9 yX9_next wsX9_next) := goodIn_app (goodIn_of _ (by decide +kernel)) ggX9_text_X9_next
set_option maxRecDepth 20000 in
theorem ggX9_text_X9_readLine : GoodIn wsX9_text wsX9_readLine := goodIn_r _ [35, 6, 36, 37, 14, 38, 20, 21, 39, 40, 41, 42, 7, 18, 43, 44, 45, 46, 19, 11, 12, 13, 15, 5, 3, 16, 17, 22, 23, 24, 25, 26, 27, 28, 29, 30, 31, 47, 48, 49, 50, 4, 8, 51, 52, 53, 54, 55, 56, 57, 58, 59, 60, 61, 62, 63, 64, 65, 66, 67, 68, 69, 77, 78, 79, 80, 81, 82, 83, 84, 85, 86, 87, 88, 89, 90, 91, 92, 93, 94, 95, 96, 97, 98, 99, 100, 101, 102, 103, 104, 105] (by decide +kernel) (by decide +kernel)
set_option maxRecDepth 20000 in
theorem gX9_text_X9_readLine : GoodIn wsX9_text (wsV RX9 144 RX9 yX9_readLine wsX9_readLine) := goodIn_app (goodIn_of _ (by decide +kernel)) ggX9_text_X9_readLine
set_option maxRecDepth 20000 in
theorem ggX9_text_X9_readEnd : GoodIn wsX9_text wsX9_readEnd := goodIn_r _ [73, 7, 47, 48, 49, 14, 50, 4, 17, 8, 11, 12, 13, 15, 5, 3, 16, 18, 19, 20, 21, 22, 23, 24, 25, 26, 27, 28, 29, 30, 31, 77, 78, 79, 80, 81, 82, 83, 84, 85, 86, 87, 88, 89, 90, 91, 92, 93, 94, 95, 96, 97, 98, 99, 100, 101, 102, 103, 104, 105] (by decide +kernel) (by decide +kernel)
set_option maxRecDepth 20000 in
theorem gX9_text_X9_readEnd : GoodIn wsX9_text (wsV RX9 147 RX9 yX9_readEnd wsX9_readEnd) := goodIn_app (goodIn_of _ (by decide +kernel)) ggX9_text_X9_readEnd
set_option maxRecDepth 20000 in
theorem ggX9_text_X9_copy : GoodIn wsX9_text wsX9_copy := goodIn_r _ [76] (by decide +kernel) (by decide +kernel)
set_option maxRecDepth 20000 in
theorem gX9_text_X9_copy : GoodIn wsX9_text (va_wsS RX9 150 yX9_copy wsX9_copy) := goodIn_app (goodIn_of _ (by decide +kernel)) ggX9_text_X9_copy
theorem dX9_text_0 : decode cX9_text 0 = .ok (.aload_n 0, 1) := by decide +kernel
theorem dX9_text_1 : decode cX9_text 1 = .ok (.iconst 0, 1) := by decide +kernel
theorem dX9_text_2 : decode cX9_text 2 = .ok (.putfield 1, 3) := by decide +kernel
theorem dX9_text_5 : decode cX9_text 5 = .ok (.aload_n 0, 1) := by decide +kernel
theorem dX9_text_6 : decode cX9_text 6 = .ok (.aload_n 0, 1) := by decide +kernel
theorem dX9_text_7 : decode cX9_text 7 = .ok (.getfield 15, 3) := by decide +kernel
theorem dX9_text_10 : decode cX9_text 10 = .ok (.putfield 22, 3) := by decide +kernel
theorem dX9_text_13 : decode cX9_text 13 = .ok (.aload_n 0, 1) := by decide +kernel
theorem dX9_text_14 : decode cX9_text 14 = .ok (.iconst 0, 1) := by decide +kernel
theorem dX9_text_15 : decode cX9_text 15 = .ok (.putfield 15, 3) := by decide +kernel
theorem dX9_text_18 : decode cX9_text 18 = .ok (.aload_n 0, 1) := by decide +kernel
theorem dX9_text_19 : decode cX9_text 19 = .ok (.iconst 0, 1) := by decide +kernel
theorem dX9_text_20 : decode cX9_text 20 = .ok (.putfield 56, 3) := by decide +kernel
theorem dX9_text_23 : decode cX9_text 23 = .ok (.aload_n 0, 1) := by decide +kernel
theorem dX9_text_24 : decode cX9_text 24 = .ok (.iconst 0, 1) := by decide +kernel
theorem dX9_text_25 : decode cX9_text 25 = .ok (.putfield 25, 3) := by decide +kernel
theorem dX9_text_28 : decode cX9_text 28 = .ok (.iconst 0, 1) := by decide +kernel
theorem dX9_text_29 : decode cX9_text 29 = .ok (.istore_n 1, 1) := by decide +kernel
theorem dX9_text_30 : decode cX9_text 30 = .ok (.iconst 0, 1) := by decide +kernel
theorem dX9_text_31 : decode cX9_text 31 = .ok (.istore_n 2, 1) := by decide +kernel
theorem dX9_text_32 : decode cX9_text 32 = .ok (.iload_n 2, 1) := by decide +kernel
theorem dX9_text_33 : decode cX9_text 33 = .ok (.sipush 184, 3) := by decide +kernel
theorem dX9_text_36 : decode cX9_text 36 = .ok (.if_icmp .ge 16, 3) := by decide +kernel
theorem dX9_text_39 : decode cX9_text 39 = .ok (.aload_n 0, 1) := by decide +kernel
theorem dX9_text_40 : decode cX9_text 40 = .ok (.getfield 71, 3) := by decide +kernel
theorem dX9_text_43 : decode cX9_text 43 = .ok (.iload_n 2, 1) := by decide +kernel
theorem dX9_text_44 : decode cX9_text 44 = .ok (.iconst 0, 1) := by decide +kernel
theorem dX9_text_45 : decode cX9_text 45 = .ok (.iastore, 1) := by decide +kernel
theorem dX9_text_46 : decode cX9_text 46 = .ok (.iinc 2 1, 3) := by decide +kernel
theorem dX9_text_49 : decode cX9_text 49 = .ok (.goto (-17), 3) := by decide +kernel
theorem dX9_text_52 : decode cX9_text 52 = .ok (.aload_n 0, 1) := by decide +kernel
theorem dX9_text_53 : decode cX9_text 53 = .ok (.invokevirtual 112, 3) := by decide +kernel
theorem dX9_text_56 : decode cX9_text 56 = .ok (.aload_n 0, 1) := by decide +kernel
theorem dX9_text_57 : decode cX9_text 57 = .ok (.getfield 31, 3) := by decide +kernel
theorem dX9_text_60 : decode cX9_text 60 = .ok (.ifCond .eq 30, 3) := by decide +kernel
theorem dX9_text_63 : decode cX9_text 63 = .ok (.aload_n 0, 1) := by decide +kernel
theorem dX9_text_64 : decode cX9_text 64 = .ok (.invokevirtual 144, 3) := by decide +kernel
theorem dX9_text_67 : decode cX9_text 67 = .ok (.ifCond .eq 10, 3) := by decide +kernel
theorem dX9_text_70 : decode cX9_text 70 = .ok (.aload_n 0, 1) := by decide +kernel
theorem dX9_text_71 : decode cX9_text 71 = .ok (.invokevirtual 147, 3) := by decide +kernel
theorem dX9_text_74 : decode cX9_text 74 = .ok (.ifCond .ne 10, 3) := by decide +kernel
theorem dX9_text_77 : decode cX9_text 77 = .ok (.iconst (-1), 1) := by decide +kernel
theorem dX9_text_78 : decode cX9_text 78 = .ok (.aload_n 0, 1) := by decide +kernel
theorem dX9_text_79 : decode cX9_text 79 = .ok (.getfield 59, 3) := by decide +kernel
theorem dX9_text_82 : decode cX9_text 82 = .ok (.isub, 1) := by decide +kernel
theorem dX9_text_83 : decode cX9_text 83 = .ok (.ireturn, 1) := by decide +kernel
theorem dX9_text_84 : decode cX9_text 84 = .ok (.iinc 1 1, 3) := by decide +kernel
theorem dX9_text_87 : decode cX9_text 87 = .ok (.goto (-31), 3) := by decide +kernel
theorem dX9_text_90 : decode cX9_text 90 = .ok (.aload_n 0, 1) := by decide +kernel
theorem dX9_text_91 : decode cX9_text 91 = .ok (.getfield 71, 3) := by decide +kernel
theorem dX9_text_94 : decode cX9_text 94 = .ok (.iconst 0, 1) := by decide +kernel
theorem dX9_text_95 : decode cX9_text 95 = .ok (.aload_n 0, 1) := by decide +kernel
theorem dX9_text_96 : decode cX9_text 96 = .ok (.getfield 68, 3) := by decide +kernel
theorem dX9_text_99 : decode cX9_text 99 = .ok (.iconst 0, 1) := by decide +kernel
theorem dX9_text_100 : decode cX9_text 100 = .ok (.invokestatic 150, 3) := by decide +kernel
theorem dX9_text_103 : decode cX9_text 103 = .ok (.aload_n 0, 1) := by decide +kernel
theorem dX9_text_104 : decode cX9_text 104 = .ok (.iconst 0, 1) := by decide +kernel
theorem dX9_text_105 : decode cX9_text 105 = .ok (.putfield 154, 3) := by decide +kernel
theorem dX9_text_108 : decode cX9_text 108 = .ok (.iload_n 1, 1) := by decide +kernel
theorem dX9_text_109 : decode cX9_text 109 = .ok (.ireturn, 1) := by decide +kernel
theorem dX9_fault_0 : decode cX9_fault 0 = .ok (.aload_n 0, 1) := by decide +kernel
theorem dX9_fault_1 : decode cX9_fault 1 = .ok (.iconst 0, 1) := by decide +kernel
theorem dX9_fault_2 : decode cX9_fault 2 = .ok (.putfield 1, 3) := by decide +kernel
theorem dX9_fault_5 : decode cX9_fault 5 = .ok (.aload_n 0, 1) := by decide +kernel
theorem dX9_fault_6 : decode cX9_fault 6 = .ok (.getfield 56, 3) := by decide +kernel
theorem dX9_fault_9 : decode cX9_fault 9 = .ok (.ireturn, 1) := by decide +kernel
theorem dX9_teams_0 : decode cX9_teams 0 = .ok (.aload_n 0, 1) := by decide +kernel
theorem dX9_teams_1 : decode cX9_teams 1 = .ok (.getfield 68, 3) := by decide +kernel
theorem dX9_teams_4 : decode cX9_teams 4 = .ok (.iconst 0, 1) := by decide +kernel
theorem dX9_teams_5 : decode cX9_teams 5 = .ok (.iaload, 1) := by decide +kernel
theorem dX9_teams_6 : decode cX9_teams 6 = .ok (.ireturn, 1) := by decide +kernel
theorem dX9_days_0 : decode cX9_days 0 = .ok (.aload_n 0, 1) := by decide +kernel
theorem dX9_days_1 : decode cX9_days 1 = .ok (.getfield 68, 3) := by decide +kernel
theorem dX9_days_4 : decode cX9_days 4 = .ok (.iconst 1, 1) := by decide +kernel
theorem dX9_days_5 : decode cX9_days 5 = .ok (.iaload, 1) := by decide +kernel
theorem dX9_days_6 : decode cX9_days 6 = .ok (.ireturn, 1) := by decide +kernel
set_option maxRecDepth 20000 in
theorem ggX9_isTeam_X9_teams : GoodIn wsX9_isTeam wsX9_teams := goodIn_r _ [5, 6, 10, 11, 12, 13, 14, 15, 16, 17, 18, 19, 20, 21, 22, 23, 24, 25, 26, 27, 28, 29, 30, 31, 32, 33, 34, 35, 36, 37, 38] (by decide +kernel) (by decide +kernel)
set_option maxRecDepth 20000 in
theorem gX9_isTeam_X9_teams : GoodIn wsX9_isTeam (wsV RX9 157 RX9 yX9_teams wsX9_teams) := goodIn_app (goodIn_of _ (by decide +kernel)) ggX9_isTeam_X9_teams
set_option maxRecDepth 20000 in
theorem ggX9_isTeam_X9_isIn : GoodIn wsX9_isTeam wsX9_isIn := goodIn_r _ [9] (by decide +kernel) (by decide +kernel)
set_option maxRecDepth 20000 in
theorem gX9_isTeam_X9_isIn : GoodIn wsX9_isTeam (va_wsS RX9 118 yX9_isIn wsX9_isIn) := goodIn_app (goodIn_of _ (by decide +kernel)) ggX9_isTeam_X9_isIn
theorem dX9_isTeam_0 : decode cX9_isTeam 0 = .ok (.iload_n 1, 1) := by decide +kernel
theorem dX9_isTeam_1 : decode cX9_isTeam 1 = .ok (.iconst 0, 1) := by decide +kernel
theorem dX9_isTeam_2 : decode cX9_isTeam 2 = .ok (.aload_n 0, 1) := by decide +kernel
theorem dX9_isTeam_3 : decode cX9_isTeam 3 = .ok (.invokevirtual 157, 3) := by decide +kernel
theorem dX9_isTeam_6 : decode cX9_isTeam 6 = .ok (.iconst 1, 1) := by decide +kernel
theorem dX9_isTeam_7 : decode cX9_isTeam 7 = .ok (.isub, 1) := by decide +kernel
theorem dX9_isTeam_8 : decode cX9_isTeam 8 = .ok (.invokestatic 118, 3) := by decide +kernel
theorem dX9_isTeam_11 : decode cX9_isTeam 11 = .ok (.ireturn, 1) := by decide +kernel
set_option maxRecDepth 20000 in
theorem ggX9_isDay_X9_days : GoodIn wsX9_isDay wsX9_days := goodIn_r _ [5, 6, 10, 11, 12, 13, 14, 15, 16, 17, 18, 19, 20, 21, 22, 23, 24, 25, 26, 27, 28, 29, 30, 31, 32, 33, 34, 35, 36, 37, 38] (by decide +kernel) (by decide +kernel)
set_option maxRecDepth 20000 in
theorem gX9_isDay_X9_days : GoodIn wsX9_isDay (wsV RX9 161 RX9 yX9_days wsX9_days) := goodIn_app (goodIn_of _ (by decide +kernel)) ggX9_isDay_X9_days
set_option maxRecDepth 20000 in
theorem ggX9_isDay_X9_isIn : GoodIn wsX9_isDay wsX9_isIn := goodIn_r _ [9] (by decide +kernel) (by decide +kernel)
set_option maxRecDepth 20000 in
theorem gX9_isDay_X9_isIn : GoodIn wsX9_isDay (va_wsS RX9 118 yX9_isIn wsX9_isIn) := goodIn_app (goodIn_of _ (by decide +kernel)) ggX9_isDay_X9_isIn
theorem dX9_isDay_0 : decode cX9_isDay 0 = .ok (.iload_n 1, 1) := by decide +kernel
theorem dX9_isDay_1 : decode cX9_isDay 1 = .ok (.iconst 0, 1) := by decide +kernel
theorem dX9_isDay_2 : decode cX9_isDay 2 = .ok (.aload_n 0, 1) := by decide +kernel
theorem dX9_isDay_3 : decode cX9_isDay 3 = .ok (.invokevirtual 161, 3) := by decide +kernel
theorem dX9_isDay_6 : decode cX9_isDay 6 = .ok (.iconst 1, 1) := by decide +kernel
theorem dX9_isDay_7 : decode cX9_isDay 7 = .ok (.isub, 1) := by decide +kernel
theorem dX9_isDay_8 : decode cX9_isDay 8 = .ok (.invokestatic 118, 3) := by decide +kernel
theorem dX9_isDay_11 : decode cX9_isDay 11 = .ok (.ireturn, 1) := by decide +kernel
set_option maxRecDepth 20000 in
theorem ggX9_ringOf_X9_has : GoodIn wsX9_ringOf wsX9_has := goodIn_r _ [4] (by decide +kernel) (by decide +kernel)
set_option maxRecDepth 20000 in
theorem gX9_ringOf_X9_has : GoodIn wsX9_ringOf (va_wsS RX9 7 yX9_has wsX9_has) := goodIn_app (goodIn_of _ (by decide +kernel)) ggX9_ringOf_X9_has
set_option maxRecDepth 20000 in
theorem ggX9_ringOf_X9_meets : GoodIn wsX9_ringOf wsX9_meets := goodIn_r _ [7] (by decide +kernel) (by decide +kernel)
set_option maxRecDepth 20000 in
theorem gX9_ringOf_X9_meets : GoodIn wsX9_ringOf (va_wsS RX9 108 yX9_meets wsX9_meets) := goodIn_app (goodIn_of _ (by decide +kernel)) ggX9_ringOf_X9_meets
theorem dX9_ringOf_0 : decode cX9_ringOf 0 = .ok (.iconst 0, 1) := by decide +kernel
theorem dX9_ringOf_1 : decode cX9_ringOf 1 = .ok (.istore 4, 2) := by decide +kernel
theorem dX9_ringOf_3 : decode cX9_ringOf 3 = .ok (.iload_n 3, 1) := by decide +kernel
theorem dX9_ringOf_4 : decode cX9_ringOf 4 = .ok (.istore 5, 2) := by decide +kernel
theorem dX9_ringOf_6 : decode cX9_ringOf 6 = .ok (.iload 4, 2) := by decide +kernel
theorem dX9_ringOf_8 : decode cX9_ringOf 8 = .ok (.iload 5, 2) := by decide +kernel
theorem dX9_ringOf_10 : decode cX9_ringOf 10 = .ok (.invokestatic 7, 3) := by decide +kernel
theorem dX9_ringOf_13 : decode cX9_ringOf 13 = .ok (.ifCond .ne 38, 3) := by decide +kernel
theorem dX9_ringOf_16 : decode cX9_ringOf 16 = .ok (.aload_n 0, 1) := by decide +kernel
theorem dX9_ringOf_17 : decode cX9_ringOf 17 = .ok (.iload_n 1, 1) := by decide +kernel
theorem dX9_ringOf_18 : decode cX9_ringOf 18 = .ok (.iload 5, 2) := by decide +kernel
theorem dX9_ringOf_20 : decode cX9_ringOf 20 = .ok (.invokestatic 108, 3) := by decide +kernel
theorem dX9_ringOf_23 : decode cX9_ringOf 23 = .ok (.istore 6, 2) := by decide +kernel
theorem dX9_ringOf_25 : decode cX9_ringOf 25 = .ok (.iload 4, 2) := by decide +kernel
theorem dX9_ringOf_27 : decode cX9_ringOf 27 = .ok (.iconst 1, 1) := by decide +kernel
theorem dX9_ringOf_28 : decode cX9_ringOf 28 = .ok (.iload 5, 2) := by decide +kernel
theorem dX9_ringOf_30 : decode cX9_ringOf 30 = .ok (.ishl, 1) := by decide +kernel
theorem dX9_ringOf_31 : decode cX9_ringOf 31 = .ok (.iconst 1, 1) := by decide +kernel
theorem dX9_ringOf_32 : decode cX9_ringOf 32 = .ok (.iload 6, 2) := by decide +kernel
theorem dX9_ringOf_34 : decode cX9_ringOf 34 = .ok (.ishl, 1) := by decide +kernel
theorem dX9_ringOf_35 : decode cX9_ringOf 35 = .ok (.ior, 1) := by decide +kernel
theorem dX9_ringOf_36 : decode cX9_ringOf 36 = .ok (.ior, 1) := by decide +kernel
theorem dX9_ringOf_37 : decode cX9_ringOf 37 = .ok (.istore 4, 2) := by decide +kernel
theorem dX9_ringOf_39 : decode cX9_ringOf 39 = .ok (.aload_n 0, 1) := by decide +kernel
theorem dX9_ringOf_40 : decode cX9_ringOf 40 = .ok (.iload_n 2, 1) := by decide +kernel
theorem dX9_ringOf_41 : decode cX9_ringOf 41 = .ok (.iload 6, 2) := by decide +kernel
theorem dX9_ringOf_43 : decode cX9_ringOf 43 = .ok (.invokestatic 108, 3) := by decide +kernel
theorem dX9_ringOf_46 : decode cX9_ringOf 46 = .ok (.istore 5, 2) := by decide +kernel
theorem dX9_ringOf_48 : decode cX9_ringOf 48 = .ok (.goto (-42), 3) := by decide +kernel
theorem dX9_ringOf_51 : decode cX9_ringOf 51 = .ok (.iload 4, 2) := by decide +kernel
theorem dX9_ringOf_53 : decode cX9_ringOf 53 = .ok (.ireturn, 1) := by decide +kernel
set_option maxRecDepth 20000 in
theorem ggX9_ringMany_X9_least : GoodIn wsX9_ringMany wsX9_least := goodIn_r _ [4, 5, 6, 3, 7] (by decide +kernel) (by decide +kernel)
set_option maxRecDepth 20000 in
theorem gX9_ringMany_X9_least : GoodIn wsX9_ringMany (va_wsS RX9 164 yX9_least wsX9_least) := goodIn_app (goodIn_of _ (by decide +kernel)) ggX9_ringMany_X9_least
set_option maxRecDepth 20000 in
theorem ggX9_ringMany_X9_ringOf : GoodIn wsX9_ringMany wsX9_ringOf := goodIn_r _ [10, 5, 6, 3, 7, 11, 12, 13] (by decide +kernel) (by decide +kernel)
set_option maxRecDepth 20000 in
theorem gX9_ringMany_X9_ringOf : GoodIn wsX9_ringMany (va_wsS RX9 167 yX9_ringOf wsX9_ringOf) := goodIn_app (goodIn_of _ (by decide +kernel)) ggX9_ringMany_X9_ringOf
theorem dX9_ringMany_0 : decode cX9_ringMany 0 = .ok (.iconst 1, 1) := by decide +kernel
theorem dX9_ringMany_1 : decode cX9_ringMany 1 = .ok (.aload_n 0, 1) := by decide +kernel
theorem dX9_ringMany_2 : decode cX9_ringMany 2 = .ok (.iconst 0, 1) := by decide +kernel
theorem dX9_ringMany_3 : decode cX9_ringMany 3 = .ok (.iaload, 1) := by decide +kernel
theorem dX9_ringMany_4 : decode cX9_ringMany 4 = .ok (.ishl, 1) := by decide +kernel
theorem dX9_ringMany_5 : decode cX9_ringMany 5 = .ok (.iconst 1, 1) := by decide +kernel
theorem dX9_ringMany_6 : decode cX9_ringMany 6 = .ok (.isub, 1) := by decide +kernel
theorem dX9_ringMany_7 : decode cX9_ringMany 7 = .ok (.istore_n 3, 1) := by decide +kernel
theorem dX9_ringMany_8 : decode cX9_ringMany 8 = .ok (.iconst 0, 1) := by decide +kernel
theorem dX9_ringMany_9 : decode cX9_ringMany 9 = .ok (.istore 4, 2) := by decide +kernel
theorem dX9_ringMany_11 : decode cX9_ringMany 11 = .ok (.iload_n 3, 1) := by decide +kernel
theorem dX9_ringMany_12 : decode cX9_ringMany 12 = .ok (.ifCond .eq 24, 3) := by decide +kernel
theorem dX9_ringMany_15 : decode cX9_ringMany 15 = .ok (.iload_n 3, 1) := by decide +kernel
theorem dX9_ringMany_16 : decode cX9_ringMany 16 = .ok (.aload_n 0, 1) := by decide +kernel
theorem dX9_ringMany_17 : decode cX9_ringMany 17 = .ok (.iload_n 1, 1) := by decide +kernel
theorem dX9_ringMany_18 : decode cX9_ringMany 18 = .ok (.iload_n 2, 1) := by decide +kernel
theorem dX9_ringMany_19 : decode cX9_ringMany 19 = .ok (.iload_n 3, 1) := by decide +kernel
theorem dX9_ringMany_20 : decode cX9_ringMany 20 = .ok (.invokestatic 164, 3) := by decide +kernel
theorem dX9_ringMany_23 : decode cX9_ringMany 23 = .ok (.invokestatic 167, 3) := by decide +kernel
theorem dX9_ringMany_26 : decode cX9_ringMany 26 = .ok (.iconst (-1), 1) := by decide +kernel
theorem dX9_ringMany_27 : decode cX9_ringMany 27 = .ok (.ixor, 1) := by decide +kernel
theorem dX9_ringMany_28 : decode cX9_ringMany 28 = .ok (.iand, 1) := by decide +kernel
theorem dX9_ringMany_29 : decode cX9_ringMany 29 = .ok (.istore_n 3, 1) := by decide +kernel
theorem dX9_ringMany_30 : decode cX9_ringMany 30 = .ok (.iinc 4 1, 3) := by decide +kernel
theorem dX9_ringMany_33 : decode cX9_ringMany 33 = .ok (.goto (-22), 3) := by decide +kernel
theorem dX9_ringMany_36 : decode cX9_ringMany 36 = .ok (.iload 4, 2) := by decide +kernel
theorem dX9_ringMany_38 : decode cX9_ringMany 38 = .ok (.ireturn, 1) := by decide +kernel
set_option maxRecDepth 20000 in
theorem ggX9_isOne_X9_ringOf : GoodIn wsX9_isOne wsX9_ringOf := goodIn_r _ [4, 5, 6, 3, 7, 8, 9, 10] (by decide +kernel) (by decide +kernel)
set_option maxRecDepth 20000 in
theorem gX9_isOne_X9_ringOf : GoodIn wsX9_isOne (va_wsS RX9 167 yX9_ringOf wsX9_ringOf) := goodIn_app (goodIn_of _ (by decide +kernel)) ggX9_isOne_X9_ringOf
theorem dX9_isOne_0 : decode cX9_isOne 0 = .ok (.aload_n 0, 1) := by decide +kernel
theorem dX9_isOne_1 : decode cX9_isOne 1 = .ok (.iload_n 1, 1) := by decide +kernel
theorem dX9_isOne_2 : decode cX9_isOne 2 = .ok (.iload_n 2, 1) := by decide +kernel
theorem dX9_isOne_3 : decode cX9_isOne 3 = .ok (.iconst 0, 1) := by decide +kernel
theorem dX9_isOne_4 : decode cX9_isOne 4 = .ok (.invokestatic 167, 3) := by decide +kernel
theorem dX9_isOne_7 : decode cX9_isOne 7 = .ok (.iconst 1, 1) := by decide +kernel
theorem dX9_isOne_8 : decode cX9_isOne 8 = .ok (.aload_n 0, 1) := by decide +kernel
theorem dX9_isOne_9 : decode cX9_isOne 9 = .ok (.iconst 0, 1) := by decide +kernel
theorem dX9_isOne_10 : decode cX9_isOne 10 = .ok (.iaload, 1) := by decide +kernel
theorem dX9_isOne_11 : decode cX9_isOne 11 = .ok (.ishl, 1) := by decide +kernel
theorem dX9_isOne_12 : decode cX9_isOne 12 = .ok (.iconst 1, 1) := by decide +kernel
theorem dX9_isOne_13 : decode cX9_isOne 13 = .ok (.isub, 1) := by decide +kernel
theorem dX9_isOne_14 : decode cX9_isOne 14 = .ok (.if_icmp .ne 7, 3) := by decide +kernel
theorem dX9_isOne_17 : decode cX9_isOne 17 = .ok (.iconst 1, 1) := by decide +kernel
theorem dX9_isOne_18 : decode cX9_isOne 18 = .ok (.goto 4, 3) := by decide +kernel
theorem dX9_isOne_21 : decode cX9_isOne 21 = .ok (.iconst 0, 1) := by decide +kernel
theorem dX9_isOne_22 : decode cX9_isOne 22 = .ok (.ireturn, 1) := by decide +kernel
set_option maxRecDepth 20000 in
theorem ggX9_signOf_X9_isOne : GoodIn wsX9_signOf wsX9_isOne := goodIn_r _ [4, 5, 6, 3, 7, 8, 9, 10, 11, 12, 13] (by decide +kernel) (by decide +kernel)
set_option maxRecDepth 20000 in
theorem gX9_signOf_X9_isOne : GoodIn wsX9_signOf (va_wsS RX9 171 yX9_isOne wsX9_isOne) := goodIn_app (goodIn_of _ (by decide +kernel)) ggX9_signOf_X9_isOne
theorem dX9_signOf_0 : decode cX9_signOf 0 = .ok (.iconst 0, 1) := by decide +kernel
theorem dX9_signOf_1 : decode cX9_signOf 1 = .ok (.istore_n 2, 1) := by decide +kernel
theorem dX9_signOf_2 : decode cX9_signOf 2 = .ok (.iconst 0, 1) := by decide +kernel
theorem dX9_signOf_3 : decode cX9_signOf 3 = .ok (.istore_n 3, 1) := by decide +kernel
theorem dX9_signOf_4 : decode cX9_signOf 4 = .ok (.iload_n 3, 1) := by decide +kernel
theorem dX9_signOf_5 : decode cX9_signOf 5 = .ok (.aload_n 0, 1) := by decide +kernel
theorem dX9_signOf_6 : decode cX9_signOf 6 = .ok (.iconst 1, 1) := by decide +kernel
theorem dX9_signOf_7 : decode cX9_signOf 7 = .ok (.iaload, 1) := by decide +kernel
theorem dX9_signOf_8 : decode cX9_signOf 8 = .ok (.if_icmp .ge 26, 3) := by decide +kernel
theorem dX9_signOf_11 : decode cX9_signOf 11 = .ok (.iload_n 3, 1) := by decide +kernel
theorem dX9_signOf_12 : decode cX9_signOf 12 = .ok (.iload_n 1, 1) := by decide +kernel
theorem dX9_signOf_13 : decode cX9_signOf 13 = .ok (.if_icmp .eq 15, 3) := by decide +kernel
theorem dX9_signOf_16 : decode cX9_signOf 16 = .ok (.aload_n 0, 1) := by decide +kernel
theorem dX9_signOf_17 : decode cX9_signOf 17 = .ok (.iload_n 1, 1) := by decide +kernel
theorem dX9_signOf_18 : decode cX9_signOf 18 = .ok (.iload_n 3, 1) := by decide +kernel
theorem dX9_signOf_19 : decode cX9_signOf 19 = .ok (.invokestatic 171, 3) := by decide +kernel
theorem dX9_signOf_22 : decode cX9_signOf 22 = .ok (.ifCond .eq 6, 3) := by decide +kernel
theorem dX9_signOf_25 : decode cX9_signOf 25 = .ok (.iinc 2 1, 3) := by decide +kernel
theorem dX9_signOf_28 : decode cX9_signOf 28 = .ok (.iinc 3 1, 3) := by decide +kernel
theorem dX9_signOf_31 : decode cX9_signOf 31 = .ok (.goto (-27), 3) := by decide +kernel
theorem dX9_signOf_34 : decode cX9_signOf 34 = .ok (.iload_n 2, 1) := by decide +kernel
theorem dX9_signOf_35 : decode cX9_signOf 35 = .ok (.ireturn, 1) := by decide +kernel
set_option maxRecDepth 20000 in
theorem ggX9_makes_X9_ringMany : GoodIn wsX9_makes wsX9_ringMany := goodIn_r _ [4, 5, 6, 3, 7, 8, 9, 10, 11, 12, 13, 14, 15, 16] (by decide +kernel) (by decide +kernel)
set_option maxRecDepth 20000 in
theorem gX9_makes_X9_ringMany : GoodIn wsX9_makes (va_wsS RX9 175 yX9_ringMany wsX9_ringMany) := goodIn_app (goodIn_of _ (by decide +kernel)) ggX9_makes_X9_ringMany
theorem dX9_makes_0 : decode cX9_makes 0 = .ok (.iconst 0, 1) := by decide +kernel
theorem dX9_makes_1 : decode cX9_makes 1 = .ok (.istore_n 2, 1) := by decide +kernel
theorem dX9_makes_2 : decode cX9_makes 2 = .ok (.iconst 0, 1) := by decide +kernel
theorem dX9_makes_3 : decode cX9_makes 3 = .ok (.istore_n 3, 1) := by decide +kernel
theorem dX9_makes_4 : decode cX9_makes 4 = .ok (.iload_n 3, 1) := by decide +kernel
theorem dX9_makes_5 : decode cX9_makes 5 = .ok (.aload_n 0, 1) := by decide +kernel
theorem dX9_makes_6 : decode cX9_makes 6 = .ok (.iconst 1, 1) := by decide +kernel
theorem dX9_makes_7 : decode cX9_makes 7 = .ok (.iaload, 1) := by decide +kernel
theorem dX9_makes_8 : decode cX9_makes 8 = .ok (.if_icmp .ge 38, 3) := by decide +kernel
theorem dX9_makes_11 : decode cX9_makes 11 = .ok (.iconst 0, 1) := by decide +kernel
theorem dX9_makes_12 : decode cX9_makes 12 = .ok (.istore 4, 2) := by decide +kernel
theorem dX9_makes_14 : decode cX9_makes 14 = .ok (.iload 4, 2) := by decide +kernel
theorem dX9_makes_16 : decode cX9_makes 16 = .ok (.iload_n 3, 1) := by decide +kernel
theorem dX9_makes_17 : decode cX9_makes 17 = .ok (.if_icmp .ge 23, 3) := by decide +kernel
theorem dX9_makes_20 : decode cX9_makes 20 = .ok (.aload_n 0, 1) := by decide +kernel
theorem dX9_makes_21 : decode cX9_makes 21 = .ok (.iload_n 3, 1) := by decide +kernel
theorem dX9_makes_22 : decode cX9_makes 22 = .ok (.iload 4, 2) := by decide +kernel
theorem dX9_makes_24 : decode cX9_makes 24 = .ok (.invokestatic 175, 3) := by decide +kernel
theorem dX9_makes_27 : decode cX9_makes 27 = .ok (.iload_n 1, 1) := by decide +kernel
theorem dX9_makes_28 : decode cX9_makes 28 = .ok (.if_icmp .ne 6, 3) := by decide +kernel
theorem dX9_makes_31 : decode cX9_makes 31 = .ok (.iinc 2 1, 3) := by decide +kernel
theorem dX9_makes_34 : decode cX9_makes 34 = .ok (.iinc 4 1, 3) := by decide +kernel
theorem dX9_makes_37 : decode cX9_makes 37 = .ok (.goto (-23), 3) := by decide +kernel
theorem dX9_makes_40 : decode cX9_makes 40 = .ok (.iinc 3 1, 3) := by decide +kernel
theorem dX9_makes_43 : decode cX9_makes 43 = .ok (.goto (-39), 3) := by decide +kernel
theorem dX9_makes_46 : decode cX9_makes 46 = .ok (.iload_n 2, 1) := by decide +kernel
theorem dX9_makes_47 : decode cX9_makes 47 = .ok (.ireturn, 1) := by decide +kernel
set_option maxRecDepth 20000 in
theorem ggX9_isPerfect_X9_makes : GoodIn wsX9_isPerfect wsX9_makes := goodIn_r _ [4, 5, 6, 3, 7, 8, 9, 10, 11, 12, 13, 14, 15, 16, 17, 18, 19] (by decide +kernel) (by decide +kernel)
set_option maxRecDepth 20000 in
theorem gX9_isPerfect_X9_makes : GoodIn wsX9_isPerfect (va_wsS RX9 178 yX9_makes wsX9_makes) := goodIn_app (goodIn_of _ (by decide +kernel)) ggX9_isPerfect_X9_makes
theorem dX9_isPerfect_0 : decode cX9_isPerfect 0 = .ok (.aload_n 0, 1) := by decide +kernel
theorem dX9_isPerfect_1 : decode cX9_isPerfect 1 = .ok (.iconst 1, 1) := by decide +kernel
theorem dX9_isPerfect_2 : decode cX9_isPerfect 2 = .ok (.invokestatic 178, 3) := by decide +kernel
theorem dX9_isPerfect_5 : decode cX9_isPerfect 5 = .ok (.aload_n 0, 1) := by decide +kernel
theorem dX9_isPerfect_6 : decode cX9_isPerfect 6 = .ok (.iconst 1, 1) := by decide +kernel
theorem dX9_isPerfect_7 : decode cX9_isPerfect 7 = .ok (.iaload, 1) := by decide +kernel
theorem dX9_isPerfect_8 : decode cX9_isPerfect 8 = .ok (.aload_n 0, 1) := by decide +kernel
theorem dX9_isPerfect_9 : decode cX9_isPerfect 9 = .ok (.iconst 1, 1) := by decide +kernel
theorem dX9_isPerfect_10 : decode cX9_isPerfect 10 = .ok (.iaload, 1) := by decide +kernel
theorem dX9_isPerfect_11 : decode cX9_isPerfect 11 = .ok (.iconst 1, 1) := by decide +kernel
theorem dX9_isPerfect_12 : decode cX9_isPerfect 12 = .ok (.isub, 1) := by decide +kernel
theorem dX9_isPerfect_13 : decode cX9_isPerfect 13 = .ok (.imul, 1) := by decide +kernel
theorem dX9_isPerfect_14 : decode cX9_isPerfect 14 = .ok (.iconst 2, 1) := by decide +kernel
theorem dX9_isPerfect_15 : decode cX9_isPerfect 15 = .ok (.idiv, 1) := by decide +kernel
theorem dX9_isPerfect_16 : decode cX9_isPerfect 16 = .ok (.if_icmp .ne 7, 3) := by decide +kernel
theorem dX9_isPerfect_19 : decode cX9_isPerfect 19 = .ok (.iconst 1, 1) := by decide +kernel
theorem dX9_isPerfect_20 : decode cX9_isPerfect 20 = .ok (.goto 4, 3) := by decide +kernel
theorem dX9_isPerfect_23 : decode cX9_isPerfect 23 = .ok (.iconst 0, 1) := by decide +kernel
theorem dX9_isPerfect_24 : decode cX9_isPerfect 24 = .ok (.ireturn, 1) := by decide +kernel
set_option maxRecDepth 20000 in
theorem ggX9_now_X9_teams : GoodIn wsX9_now wsX9_teams := goodIn_r _ [9, 2, 35, 36, 37, 38, 39, 40, 41, 42, 43, 44, 45, 46, 47, 48, 49, 50, 51, 52, 53, 54, 55, 56, 57, 58, 59, 60, 61, 62, 63] (by decide +kernel) (by decide +kernel)
set_option maxRecDepth 20000 in
theorem gX9_now_X9_teams : GoodIn wsX9_now (wsV RX9 157 RX9 yX9_teams wsX9_teams) := goodIn_app (goodIn_of _ (by decide +kernel)) ggX9_now_X9_teams
set_option maxRecDepth 20000 in
theorem ggX9_now_X9_days : GoodIn wsX9_now wsX9_days := goodIn_r _ [13, 2, 35, 36, 37, 38, 39, 40, 41, 42, 43, 44, 45, 46, 47, 48, 49, 50, 51, 52, 53, 54, 55, 56, 57, 58, 59, 60, 61, 62, 63] (by decide +kernel) (by decide +kernel)
set_option maxRecDepth 20000 in
theorem gX9_now_X9_days : GoodIn wsX9_now (wsV RX9 161 RX9 yX9_days wsX9_days) := goodIn_app (goodIn_of _ (by decide +kernel)) ggX9_now_X9_days
set_option maxRecDepth 20000 in
theorem ggX9_now_X9_isPerfect : GoodIn wsX9_now wsX9_isPerfect := goodIn_r _ [16, 17, 18, 8, 19, 20, 21, 22, 23, 24, 25, 26, 27, 28, 29, 30, 31, 32, 33, 34] (by decide +kernel) (by decide +kernel)
set_option maxRecDepth 20000 in
theorem gX9_now_X9_isPerfect : GoodIn wsX9_now (va_wsS RX9 182 yX9_isPerfect wsX9_isPerfect) := goodIn_app (goodIn_of _ (by decide +kernel)) ggX9_now_X9_isPerfect
set_option maxRecDepth 20000 in
theorem ggX9_now_X9_makes : GoodIn wsX9_now wsX9_makes := goodIn_r _ [19, 20, 21, 8, 22, 23, 24, 25, 26, 27, 28, 29, 30, 31, 32, 33, 34] (by decide +kernel) (by decide +kernel)
set_option maxRecDepth 20000 in
theorem gX9_now_X9_makes : GoodIn wsX9_now (va_wsS RX9 178 yX9_makes wsX9_makes) := goodIn_app (goodIn_of _ (by decide +kernel)) ggX9_now_X9_makes
theorem dX9_now_0 : decode cX9_now 0 = .ok (.aload_n 0, 1) := by decide +kernel
theorem dX9_now_1 : decode cX9_now 1 = .ok (.iconst 0, 1) := by decide +kernel
theorem dX9_now_2 : decode cX9_now 2 = .ok (.putfield 1, 3) := by decide +kernel
theorem dX9_now_5 : decode cX9_now 5 = .ok (.iload_n 1, 1) := by decide +kernel
theorem dX9_now_6 : decode cX9_now 6 = .ok (.tableswitch 106 0 6 #[42, 47, 52, 71, 87, 96, 101], 42) := by decide +kernel
theorem dX9_now_48 : decode cX9_now 48 = .ok (.aload_n 0, 1) := by decide +kernel
theorem dX9_now_49 : decode cX9_now 49 = .ok (.invokevirtual 157, 3) := by decide +kernel
theorem dX9_now_52 : decode cX9_now 52 = .ok (.ireturn, 1) := by decide +kernel
theorem dX9_now_53 : decode cX9_now 53 = .ok (.aload_n 0, 1) := by decide +kernel
theorem dX9_now_54 : decode cX9_now 54 = .ok (.invokevirtual 161, 3) := by decide +kernel
theorem dX9_now_57 : decode cX9_now 57 = .ok (.ireturn, 1) := by decide +kernel
theorem dX9_now_58 : decode cX9_now 58 = .ok (.aload_n 0, 1) := by decide +kernel
theorem dX9_now_59 : decode cX9_now 59 = .ok (.invokevirtual 161, 3) := by decide +kernel
theorem dX9_now_62 : decode cX9_now 62 = .ok (.aload_n 0, 1) := by decide +kernel
theorem dX9_now_63 : decode cX9_now 63 = .ok (.invokevirtual 157, 3) := by decide +kernel
theorem dX9_now_66 : decode cX9_now 66 = .ok (.iconst 1, 1) := by decide +kernel
theorem dX9_now_67 : decode cX9_now 67 = .ok (.isub, 1) := by decide +kernel
theorem dX9_now_68 : decode cX9_now 68 = .ok (.if_icmp .ne 7, 3) := by decide +kernel
theorem dX9_now_71 : decode cX9_now 71 = .ok (.iconst 1, 1) := by decide +kernel
theorem dX9_now_72 : decode cX9_now 72 = .ok (.goto 4, 3) := by decide +kernel
theorem dX9_now_75 : decode cX9_now 75 = .ok (.iconst 0, 1) := by decide +kernel
theorem dX9_now_76 : decode cX9_now 76 = .ok (.ireturn, 1) := by decide +kernel
theorem dX9_now_77 : decode cX9_now 77 = .ok (.aload_n 0, 1) := by decide +kernel
theorem dX9_now_78 : decode cX9_now 78 = .ok (.getfield 68, 3) := by decide +kernel
theorem dX9_now_81 : decode cX9_now 81 = .ok (.invokestatic 182, 3) := by decide +kernel
theorem dX9_now_84 : decode cX9_now 84 = .ok (.ifCond .eq 7, 3) := by decide +kernel
theorem dX9_now_87 : decode cX9_now 87 = .ok (.iconst 1, 1) := by decide +kernel
theorem dX9_now_88 : decode cX9_now 88 = .ok (.goto 4, 3) := by decide +kernel
theorem dX9_now_91 : decode cX9_now 91 = .ok (.iconst 0, 1) := by decide +kernel
theorem dX9_now_92 : decode cX9_now 92 = .ok (.ireturn, 1) := by decide +kernel
theorem dX9_now_93 : decode cX9_now 93 = .ok (.aload_n 0, 1) := by decide +kernel
theorem dX9_now_94 : decode cX9_now 94 = .ok (.getfield 68, 3) := by decide +kernel
theorem dX9_now_97 : decode cX9_now 97 = .ok (.iconst 1, 1) := by decide +kernel
theorem dX9_now_98 : decode cX9_now 98 = .ok (.invokestatic 178, 3) := by decide +kernel
theorem dX9_now_101 : decode cX9_now 101 = .ok (.ireturn, 1) := by decide +kernel
theorem dX9_now_102 : decode cX9_now 102 = .ok (.aload_n 0, 1) := by decide +kernel
theorem dX9_now_103 : decode cX9_now 103 = .ok (.getfield 154, 3) := by decide +kernel
theorem dX9_now_106 : decode cX9_now 106 = .ok (.ireturn, 1) := by decide +kernel
theorem dX9_now_107 : decode cX9_now 107 = .ok (.aload_n 0, 1) := by decide +kernel
theorem dX9_now_108 : decode cX9_now 108 = .ok (.getfield 15, 3) := by decide +kernel
theorem dX9_now_111 : decode cX9_now 111 = .ok (.ireturn, 1) := by decide +kernel
theorem dX9_now_112 : decode cX9_now 112 = .ok (.iconst (-1), 1) := by decide +kernel
theorem dX9_now_113 : decode cX9_now 113 = .ok (.ireturn, 1) := by decide +kernel
set_option maxRecDepth 20000 in
theorem ggX9_meets__X9_isDay : GoodIn wsX9_meets_ wsX9_isDay := goodIn_r _ [7, 8, 9, 10, 6, 11, 2, 12, 13, 14, 26, 27, 28, 29, 30, 31, 32, 33, 34, 35, 36, 37, 38, 39, 40, 41, 42, 43, 44, 45, 46, 47, 48, 49, 50, 51, 52, 53, 54] (by decide +kernel) (by decide +kernel)
set_option maxRecDepth 20000 in
theorem gX9_meets__X9_isDay : GoodIn wsX9_meets_ (wsV RX9 186 RX9 yX9_isDay wsX9_isDay) := goodIn_app (goodIn_of _ (by decide +kernel)) ggX9_meets__X9_isDay
set_option maxRecDepth 20000 in
theorem ggX9_meets__X9_isTeam : GoodIn wsX9_meets_ wsX9_isTeam := goodIn_r _ [18, 19, 20, 21, 6, 22, 2, 12, 13, 14, 26, 27, 28, 29, 30, 31, 32, 33, 34, 35, 36, 37, 38, 39, 40, 41, 42, 43, 44, 45, 46, 47, 48, 49, 50, 51, 52, 53, 54] (by decide +kernel) (by decide +kernel)
set_option maxRecDepth 20000 in
theorem gX9_meets__X9_isTeam : GoodIn wsX9_meets_ (wsV RX9 189 RX9 yX9_isTeam wsX9_isTeam) := goodIn_app (goodIn_of _ (by decide +kernel)) ggX9_meets__X9_isTeam
set_option maxRecDepth 20000 in
theorem ggX9_meets__X9_meets : GoodIn wsX9_meets_ wsX9_meets := goodIn_r _ [25] (by decide +kernel) (by decide +kernel)
set_option maxRecDepth 20000 in
theorem gX9_meets__X9_meets : GoodIn wsX9_meets_ (va_wsS RX9 108 yX9_meets wsX9_meets) := goodIn_app (goodIn_of _ (by decide +kernel)) ggX9_meets__X9_meets
theorem dX9_meets__0 : decode cX9_meets_ 0 = .ok (.aload_n 0, 1) := by decide +kernel
theorem dX9_meets__1 : decode cX9_meets_ 1 = .ok (.iconst 0, 1) := by decide +kernel
theorem dX9_meets__2 : decode cX9_meets_ 2 = .ok (.putfield 1, 3) := by decide +kernel
theorem dX9_meets__5 : decode cX9_meets_ 5 = .ok (.aload_n 0, 1) := by decide +kernel
theorem dX9_meets__6 : decode cX9_meets_ 6 = .ok (.iload_n 1, 1) := by decide +kernel
theorem dX9_meets__7 : decode cX9_meets_ 7 = .ok (.invokevirtual 186, 3) := by decide +kernel
theorem dX9_meets__10 : decode cX9_meets_ 10 = .ok (.ifCond .eq 23, 3) := by decide +kernel
theorem dX9_meets__13 : decode cX9_meets_ 13 = .ok (.aload_n 0, 1) := by decide +kernel
theorem dX9_meets__14 : decode cX9_meets_ 14 = .ok (.iload_n 2, 1) := by decide +kernel
theorem dX9_meets__15 : decode cX9_meets_ 15 = .ok (.invokevirtual 189, 3) := by decide +kernel
theorem dX9_meets__18 : decode cX9_meets_ 18 = .ok (.ifCond .eq 15, 3) := by decide +kernel
theorem dX9_meets__21 : decode cX9_meets_ 21 = .ok (.aload_n 0, 1) := by decide +kernel
theorem dX9_meets__22 : decode cX9_meets_ 22 = .ok (.getfield 68, 3) := by decide +kernel
theorem dX9_meets__25 : decode cX9_meets_ 25 = .ok (.iload_n 1, 1) := by decide +kernel
theorem dX9_meets__26 : decode cX9_meets_ 26 = .ok (.iload_n 2, 1) := by decide +kernel
theorem dX9_meets__27 : decode cX9_meets_ 27 = .ok (.invokestatic 108, 3) := by decide +kernel
theorem dX9_meets__30 : decode cX9_meets_ 30 = .ok (.goto 4, 3) := by decide +kernel
theorem dX9_meets__33 : decode cX9_meets_ 33 = .ok (.iconst (-1), 1) := by decide +kernel
theorem dX9_meets__34 : decode cX9_meets_ 34 = .ok (.ireturn, 1) := by decide +kernel
set_option maxRecDepth 20000 in
theorem ggX9_met_X9_isTeam : GoodIn wsX9_met wsX9_isTeam := goodIn_r _ [7, 8, 9, 10, 6, 11, 2, 12, 13, 14, 21, 22, 23, 24, 25, 26, 27, 28, 29, 30, 31, 32, 33, 34, 35, 36, 37, 38, 39, 40, 41, 42, 43, 44, 45, 46, 47, 48, 49] (by decide +kernel) (by decide +kernel)
set_option maxRecDepth 20000 in
theorem gX9_met_X9_isTeam : GoodIn wsX9_met (wsV RX9 189 RX9 yX9_isTeam wsX9_isTeam) := goodIn_app (goodIn_of _ (by decide +kernel)) ggX9_met_X9_isTeam
set_option maxRecDepth 20000 in
theorem ggX9_met_X9_metOn : GoodIn wsX9_met wsX9_metOn := goodIn_r _ [17, 18, 19, 6, 20] (by decide +kernel) (by decide +kernel)
set_option maxRecDepth 20000 in
theorem gX9_met_X9_metOn : GoodIn wsX9_met (va_wsS RX9 122 yX9_metOn wsX9_metOn) := goodIn_app (goodIn_of _ (by decide +kernel)) ggX9_met_X9_metOn
theorem dX9_met_0 : decode cX9_met 0 = .ok (.aload_n 0, 1) := by decide +kernel
theorem dX9_met_1 : decode cX9_met 1 = .ok (.iconst 0, 1) := by decide +kernel
theorem dX9_met_2 : decode cX9_met 2 = .ok (.putfield 1, 3) := by decide +kernel
theorem dX9_met_5 : decode cX9_met 5 = .ok (.aload_n 0, 1) := by decide +kernel
theorem dX9_met_6 : decode cX9_met 6 = .ok (.iload_n 1, 1) := by decide +kernel
theorem dX9_met_7 : decode cX9_met 7 = .ok (.invokevirtual 189, 3) := by decide +kernel
theorem dX9_met_10 : decode cX9_met 10 = .ok (.ifCond .eq 28, 3) := by decide +kernel
theorem dX9_met_13 : decode cX9_met 13 = .ok (.aload_n 0, 1) := by decide +kernel
theorem dX9_met_14 : decode cX9_met 14 = .ok (.iload_n 2, 1) := by decide +kernel
theorem dX9_met_15 : decode cX9_met 15 = .ok (.invokevirtual 189, 3) := by decide +kernel
theorem dX9_met_18 : decode cX9_met 18 = .ok (.ifCond .eq 20, 3) := by decide +kernel
theorem dX9_met_21 : decode cX9_met 21 = .ok (.iload_n 1, 1) := by decide +kernel
theorem dX9_met_22 : decode cX9_met 22 = .ok (.iload_n 2, 1) := by decide +kernel
theorem dX9_met_23 : decode cX9_met 23 = .ok (.if_icmp .eq 15, 3) := by decide +kernel
theorem dX9_met_26 : decode cX9_met 26 = .ok (.aload_n 0, 1) := by decide +kernel
theorem dX9_met_27 : decode cX9_met 27 = .ok (.getfield 68, 3) := by decide +kernel
theorem dX9_met_30 : decode cX9_met 30 = .ok (.iload_n 1, 1) := by decide +kernel
theorem dX9_met_31 : decode cX9_met 31 = .ok (.iload_n 2, 1) := by decide +kernel
theorem dX9_met_32 : decode cX9_met 32 = .ok (.invokestatic 122, 3) := by decide +kernel
theorem dX9_met_35 : decode cX9_met 35 = .ok (.goto 4, 3) := by decide +kernel
theorem dX9_met_38 : decode cX9_met 38 = .ok (.iconst (-1), 1) := by decide +kernel
theorem dX9_met_39 : decode cX9_met 39 = .ok (.ireturn, 1) := by decide +kernel
set_option maxRecDepth 20000 in
theorem ggX9_rings_X9_isDay : GoodIn wsX9_rings wsX9_isDay := goodIn_r _ [7, 8, 9, 10, 6, 11, 2, 12, 13, 14, 30, 31, 32, 33, 34, 35, 36, 37, 38, 39, 40, 41, 42, 43, 44, 45, 46, 47, 48, 49, 50, 51, 52, 53, 54, 55, 56, 57, 58] (by decide +kernel) (by decide +kernel)
set_option maxRecDepth 20000 in
theorem gX9_rings_X9_isDay : GoodIn wsX9_rings (wsV RX9 186 RX9 yX9_isDay wsX9_isDay) := goodIn_app (goodIn_of _ (by decide +kernel)) ggX9_rings_X9_isDay
set_option maxRecDepth 20000 in
theorem ggX9_rings_X9_ringMany : GoodIn wsX9_rings wsX9_ringMany := goodIn_r _ [17, 18, 19, 6, 20, 21, 22, 23, 24, 25, 26, 27, 28, 29] (by decide +kernel) (by decide +kernel)
set_option maxRecDepth 20000 in
theorem gX9_rings_X9_ringMany : GoodIn wsX9_rings (va_wsS RX9 175 yX9_ringMany wsX9_ringMany) := goodIn_app (goodIn_of _ (by decide +kernel)) ggX9_rings_X9_ringMany
theorem dX9_rings_0 : decode cX9_rings 0 = .ok (.aload_n 0, 1) := by decide +kernel
theorem dX9_rings_1 : decode cX9_rings 1 = .ok (.iconst 0, 1) := by decide +kernel
theorem dX9_rings_2 : decode cX9_rings 2 = .ok (.putfield 1, 3) := by decide +kernel
theorem dX9_rings_5 : decode cX9_rings 5 = .ok (.aload_n 0, 1) := by decide +kernel
theorem dX9_rings_6 : decode cX9_rings 6 = .ok (.iload_n 1, 1) := by decide +kernel
theorem dX9_rings_7 : decode cX9_rings 7 = .ok (.invokevirtual 186, 3) := by decide +kernel
theorem dX9_rings_10 : decode cX9_rings 10 = .ok (.ifCond .eq 28, 3) := by decide +kernel
theorem dX9_rings_13 : decode cX9_rings 13 = .ok (.aload_n 0, 1) := by decide +kernel
theorem dX9_rings_14 : decode cX9_rings 14 = .ok (.iload_n 2, 1) := by decide +kernel
theorem dX9_rings_15 : decode cX9_rings 15 = .ok (.invokevirtual 186, 3) := by decide +kernel
theorem dX9_rings_18 : decode cX9_rings 18 = .ok (.ifCond .eq 20, 3) := by decide +kernel
theorem dX9_rings_21 : decode cX9_rings 21 = .ok (.iload_n 1, 1) := by decide +kernel
theorem dX9_rings_22 : decode cX9_rings 22 = .ok (.iload_n 2, 1) := by decide +kernel
theorem dX9_rings_23 : decode cX9_rings 23 = .ok (.if_icmp .eq 15, 3) := by decide +kernel
theorem dX9_rings_26 : decode cX9_rings 26 = .ok (.aload_n 0, 1) := by decide +kernel
theorem dX9_rings_27 : decode cX9_rings 27 = .ok (.getfield 68, 3) := by decide +kernel
theorem dX9_rings_30 : decode cX9_rings 30 = .ok (.iload_n 1, 1) := by decide +kernel
theorem dX9_rings_31 : decode cX9_rings 31 = .ok (.iload_n 2, 1) := by decide +kernel
theorem dX9_rings_32 : decode cX9_rings 32 = .ok (.invokestatic 175, 3) := by decide +kernel
theorem dX9_rings_35 : decode cX9_rings 35 = .ok (.goto 4, 3) := by decide +kernel
theorem dX9_rings_38 : decode cX9_rings 38 = .ok (.iconst (-1), 1) := by decide +kernel
theorem dX9_rings_39 : decode cX9_rings 39 = .ok (.ireturn, 1) := by decide +kernel
set_option maxRecDepth 20000 in
theorem ggX9_ring_X9_isDay : GoodIn wsX9_ring wsX9_isDay := goodIn_r _ [7, 8, 9, 10, 6, 11, 2, 12, 13, 14, 38, 39, 40, 41, 42, 43, 44, 45, 46, 47, 48, 49, 50, 51, 52, 53, 54, 55, 56, 57, 58, 59, 60, 61, 62, 63, 64, 65, 66] (by decide +kernel) (by decide +kernel)
set_option maxRecDepth 20000 in
theorem gX9_ring_X9_isDay : GoodIn wsX9_ring (wsV RX9 186 RX9 yX9_isDay wsX9_isDay) := goodIn_app (goodIn_of _ (by decide +kernel)) ggX9_ring_X9_isDay
set_option maxRecDepth 20000 in
theorem ggX9_ring_X9_ringMany : GoodIn wsX9_ring wsX9_ringMany := goodIn_r _ [17, 18, 19, 6, 20, 21, 22, 23, 24, 25, 26, 27, 28, 29] (by decide +kernel) (by decide +kernel)
set_option maxRecDepth 20000 in
theorem gX9_ring_X9_ringMany : GoodIn wsX9_ring (va_wsS RX9 175 yX9_ringMany wsX9_ringMany) := goodIn_app (goodIn_of _ (by decide +kernel)) ggX9_ring_X9_ringMany
set_option maxRecDepth 20000 in
theorem ggX9_ring_X9_isIn : GoodIn wsX9_ring wsX9_isIn := goodIn_r _ [14] (by decide +kernel) (by decide +kernel)
set_option maxRecDepth 20000 in
theorem gX9_ring_X9_isIn : GoodIn wsX9_ring (va_wsS RX9 118 yX9_isIn wsX9_isIn) := goodIn_app (goodIn_of _ (by decide +kernel)) ggX9_ring_X9_isIn
set_option maxRecDepth 20000 in
theorem ggX9_ring_X9_refuse : GoodIn wsX9_ring wsX9_refuse := goodIn_r _ [33, 1, 38, 39, 40, 41, 42, 43, 44, 45, 46, 47, 48, 49, 50, 51, 52, 53, 54, 55, 56, 57, 58, 59, 60, 61, 62, 63, 64, 65, 66] (by decide +kernel) (by decide +kernel)
set_option maxRecDepth 20000 in
theorem gX9_ring_X9_refuse : GoodIn wsX9_ring (wsV RX9 192 RX9 yX9_refuse wsX9_refuse) := goodIn_app (goodIn_of _ (by decide +kernel)) ggX9_ring_X9_refuse
set_option maxRecDepth 20000 in
theorem ggX9_ring_X9_teams : GoodIn wsX9_ring wsX9_teams := goodIn_r _ [37, 2, 38, 39, 40, 41, 42, 43, 44, 45, 46, 47, 48, 49, 50, 51, 52, 53, 54, 55, 56, 57, 58, 59, 60, 61, 62, 63, 64, 65, 66] (by decide +kernel) (by decide +kernel)
set_option maxRecDepth 20000 in
theorem gX9_ring_X9_teams : GoodIn wsX9_ring (wsV RX9 157 RX9 yX9_teams wsX9_teams) := goodIn_app (goodIn_of _ (by decide +kernel)) ggX9_ring_X9_teams
set_option maxRecDepth 20000 in
theorem ggX9_ring_X9_least : GoodIn wsX9_ring wsX9_least := goodIn_r _ [20, 21, 22, 6, 23] (by decide +kernel) (by decide +kernel)
set_option maxRecDepth 20000 in
theorem gX9_ring_X9_least : GoodIn wsX9_ring (va_wsS RX9 164 yX9_least wsX9_least) := goodIn_app (goodIn_of _ (by decide +kernel)) ggX9_ring_X9_least
set_option maxRecDepth 20000 in
theorem ggX9_ring_X9_ringOf : GoodIn wsX9_ring wsX9_ringOf := goodIn_r _ [26, 21, 22, 6, 23, 27, 28, 29] (by decide +kernel) (by decide +kernel)
set_option maxRecDepth 20000 in
theorem gX9_ring_X9_ringOf : GoodIn wsX9_ring (va_wsS RX9 167 yX9_ringOf wsX9_ringOf) := goodIn_app (goodIn_of _ (by decide +kernel)) ggX9_ring_X9_ringOf
theorem dX9_ring_0 : decode cX9_ring 0 = .ok (.aload_n 0, 1) := by decide +kernel
theorem dX9_ring_1 : decode cX9_ring 1 = .ok (.iconst 0, 1) := by decide +kernel
theorem dX9_ring_2 : decode cX9_ring 2 = .ok (.putfield 1, 3) := by decide +kernel
theorem dX9_ring_5 : decode cX9_ring 5 = .ok (.aload_n 0, 1) := by decide +kernel
theorem dX9_ring_6 : decode cX9_ring 6 = .ok (.iload_n 1, 1) := by decide +kernel
theorem dX9_ring_7 : decode cX9_ring 7 = .ok (.invokevirtual 186, 3) := by decide +kernel
theorem dX9_ring_10 : decode cX9_ring 10 = .ok (.ifCond .eq 35, 3) := by decide +kernel
theorem dX9_ring_13 : decode cX9_ring 13 = .ok (.aload_n 0, 1) := by decide +kernel
theorem dX9_ring_14 : decode cX9_ring 14 = .ok (.iload_n 2, 1) := by decide +kernel
theorem dX9_ring_15 : decode cX9_ring 15 = .ok (.invokevirtual 186, 3) := by decide +kernel
theorem dX9_ring_18 : decode cX9_ring 18 = .ok (.ifCond .eq 27, 3) := by decide +kernel
theorem dX9_ring_21 : decode cX9_ring 21 = .ok (.iload_n 1, 1) := by decide +kernel
theorem dX9_ring_22 : decode cX9_ring 22 = .ok (.iload_n 2, 1) := by decide +kernel
theorem dX9_ring_23 : decode cX9_ring 23 = .ok (.if_icmp .eq 22, 3) := by decide +kernel
theorem dX9_ring_26 : decode cX9_ring 26 = .ok (.iload_n 3, 1) := by decide +kernel
theorem dX9_ring_27 : decode cX9_ring 27 = .ok (.iconst 0, 1) := by decide +kernel
theorem dX9_ring_28 : decode cX9_ring 28 = .ok (.aload_n 0, 1) := by decide +kernel
theorem dX9_ring_29 : decode cX9_ring 29 = .ok (.getfield 68, 3) := by decide +kernel
theorem dX9_ring_32 : decode cX9_ring 32 = .ok (.iload_n 1, 1) := by decide +kernel
theorem dX9_ring_33 : decode cX9_ring 33 = .ok (.iload_n 2, 1) := by decide +kernel
theorem dX9_ring_34 : decode cX9_ring 34 = .ok (.invokestatic 175, 3) := by decide +kernel
theorem dX9_ring_37 : decode cX9_ring 37 = .ok (.iconst 1, 1) := by decide +kernel
theorem dX9_ring_38 : decode cX9_ring 38 = .ok (.isub, 1) := by decide +kernel
theorem dX9_ring_39 : decode cX9_ring 39 = .ok (.invokestatic 118, 3) := by decide +kernel
theorem dX9_ring_42 : decode cX9_ring 42 = .ok (.ifCond .ne 8, 3) := by decide +kernel
theorem dX9_ring_45 : decode cX9_ring 45 = .ok (.aload_n 0, 1) := by decide +kernel
theorem dX9_ring_46 : decode cX9_ring 46 = .ok (.invokevirtual 192, 3) := by decide +kernel
theorem dX9_ring_49 : decode cX9_ring 49 = .ok (.ireturn, 1) := by decide +kernel
theorem dX9_ring_50 : decode cX9_ring 50 = .ok (.iconst 1, 1) := by decide +kernel
theorem dX9_ring_51 : decode cX9_ring 51 = .ok (.aload_n 0, 1) := by decide +kernel
theorem dX9_ring_52 : decode cX9_ring 52 = .ok (.invokevirtual 157, 3) := by decide +kernel
theorem dX9_ring_55 : decode cX9_ring 55 = .ok (.ishl, 1) := by decide +kernel
