theorem dX9_drop_0 : decode cX9_drop 0 = .ok (.aload_n 0, 1) := by decide +kernel
theorem dX9_drop_1 : decode cX9_drop 1 = .ok (.iconst 0, 1) := by decide +kernel
theorem dX9_drop_2 : decode cX9_drop 2 = .ok (.putfield 1, 3) := by decide +kernel
theorem dX9_drop_5 : decode cX9_drop 5 = .ok (.aload_n 0, 1) := by decide +kernel
theorem dX9_drop_6 : decode cX9_drop 6 = .ok (.iload_n 1, 1) := by decide +kernel
theorem dX9_drop_7 : decode cX9_drop 7 = .ok (.invokevirtual 186, 3) := by decide +kernel
theorem dX9_drop_10 : decode cX9_drop 10 = .ok (.ifCond .ne 5, 3) := by decide +kernel
theorem dX9_drop_13 : decode cX9_drop 13 = .ok (.iconst (-1), 1) := by decide +kernel
theorem dX9_drop_14 : decode cX9_drop 14 = .ok (.ireturn, 1) := by decide +kernel
theorem dX9_drop_15 : decode cX9_drop 15 = .ok (.aload_n 0, 1) := by decide +kernel
theorem dX9_drop_16 : decode cX9_drop 16 = .ok (.invokevirtual 215, 3) := by decide +kernel
theorem dX9_drop_19 : decode cX9_drop 19 = .ok (.aload_n 0, 1) := by decide +kernel
theorem dX9_drop_20 : decode cX9_drop 20 = .ok (.iload_n 1, 1) := by decide +kernel
theorem dX9_drop_21 : decode cX9_drop 21 = .ok (.invokevirtual 270, 3) := by decide +kernel
theorem dX9_drop_24 : decode cX9_drop 24 = .ok (.aload_n 0, 1) := by decide +kernel
theorem dX9_drop_25 : decode cX9_drop 25 = .ok (.invokevirtual 161, 3) := by decide +kernel
theorem dX9_drop_28 : decode cX9_drop 28 = .ok (.ireturn, 1) := by decide +kernel
set_option maxRecDepth 20000 in
theorem ggX9_weed_X9_days : GoodIn wsX9_weed wsX9_days := goodIn_r _ [7, 2, 36, 37, 38, 39, 40, 41, 42, 43, 44, 45, 46, 47, 48, 49, 50, 51, 52, 53, 54, 55, 56, 57, 58, 59, 60, 61, 62, 63, 64] (by decide +kernel) (by decide +kernel)
set_option maxRecDepth 20000 in
theorem gX9_weed_X9_days : GoodIn wsX9_weed (wsV RX9 161 RX9 yX9_days wsX9_days) := goodIn_app (goodIn_of _ (by decide +kernel)) ggX9_weed_X9_days
set_option maxRecDepth 20000 in
theorem ggX9_weed_X9_signOf : GoodIn wsX9_weed wsX9_signOf := goodIn_r _ [10, 11, 12, 6, 13, 14, 15, 16, 17, 18, 19, 20, 21, 22] (by decide +kernel) (by decide +kernel)
set_option maxRecDepth 20000 in
theorem gX9_weed_X9_signOf : GoodIn wsX9_weed (va_wsS RX9 195 yX9_signOf wsX9_signOf) := goodIn_app (goodIn_of _ (by decide +kernel)) ggX9_weed_X9_signOf
set_option maxRecDepth 20000 in
theorem ggX9_weed_X9_snap : GoodIn wsX9_weed wsX9_snap := goodIn_r _ [26, 27, 28, 2, 29, 30, 6, 31, 36, 37, 38, 39, 40, 41, 42, 43, 44, 45, 46, 47, 48, 49, 50, 51, 52, 53, 54, 55, 56, 57, 58, 59, 60, 61, 62, 63, 64] (by decide +kernel) (by decide +kernel)
set_option maxRecDepth 20000 in
theorem gX9_weed_X9_snap : GoodIn wsX9_weed (wsV RX9 215 RX9 yX9_snap wsX9_snap) := goodIn_app (goodIn_of _ (by decide +kernel)) ggX9_weed_X9_snap
set_option maxRecDepth 20000 in
theorem ggX9_weed_X9_has : GoodIn wsX9_weed wsX9_has := goodIn_r _ [19] (by decide +kernel) (by decide +kernel)
set_option maxRecDepth 20000 in
theorem gX9_weed_X9_has : GoodIn wsX9_weed (va_wsS RX9 7 yX9_has wsX9_has) := goodIn_app (goodIn_of _ (by decide +kernel)) ggX9_weed_X9_has
set_option maxRecDepth 20000 in
theorem ggX9_weed_X9_goes : GoodIn wsX9_weed wsX9_goes := goodIn_r _ [35, 2, 36, 37, 38, 39, 40, 41, 42, 43, 44, 45, 46, 47, 48, 49, 50, 51, 52, 53, 54, 55, 56, 57, 58, 59, 60, 61, 62, 63, 64] (by decide +kernel) (by decide +kernel)
set_option maxRecDepth 20000 in
theorem gX9_weed_X9_goes : GoodIn wsX9_weed (wsV RX9 270 RX9 yX9_goes wsX9_goes) := goodIn_app (goodIn_of _ (by decide +kernel)) ggX9_weed_X9_goes
theorem dX9_weed_0 : decode cX9_weed 0 = .ok (.aload_n 0, 1) := by decide +kernel
theorem dX9_weed_1 : decode cX9_weed 1 = .ok (.iconst 0, 1) := by decide +kernel
theorem dX9_weed_2 : decode cX9_weed 2 = .ok (.putfield 1, 3) := by decide +kernel
theorem dX9_weed_5 : decode cX9_weed 5 = .ok (.iconst 0, 1) := by decide +kernel
theorem dX9_weed_6 : decode cX9_weed 6 = .ok (.istore_n 2, 1) := by decide +kernel
theorem dX9_weed_7 : decode cX9_weed 7 = .ok (.iconst 0, 1) := by decide +kernel
theorem dX9_weed_8 : decode cX9_weed 8 = .ok (.istore_n 3, 1) := by decide +kernel
theorem dX9_weed_9 : decode cX9_weed 9 = .ok (.iload_n 3, 1) := by decide +kernel
theorem dX9_weed_10 : decode cX9_weed 10 = .ok (.aload_n 0, 1) := by decide +kernel
theorem dX9_weed_11 : decode cX9_weed 11 = .ok (.invokevirtual 161, 3) := by decide +kernel
theorem dX9_weed_14 : decode cX9_weed 14 = .ok (.if_icmp .ge 27, 3) := by decide +kernel
theorem dX9_weed_17 : decode cX9_weed 17 = .ok (.aload_n 0, 1) := by decide +kernel
theorem dX9_weed_18 : decode cX9_weed 18 = .ok (.getfield 68, 3) := by decide +kernel
theorem dX9_weed_21 : decode cX9_weed 21 = .ok (.iload_n 3, 1) := by decide +kernel
theorem dX9_weed_22 : decode cX9_weed 22 = .ok (.invokestatic 195, 3) := by decide +kernel
theorem dX9_weed_25 : decode cX9_weed 25 = .ok (.iload_n 1, 1) := by decide +kernel
theorem dX9_weed_26 : decode cX9_weed 26 = .ok (.if_icmp .ge 9, 3) := by decide +kernel
theorem dX9_weed_29 : decode cX9_weed 29 = .ok (.iload_n 2, 1) := by decide +kernel
theorem dX9_weed_30 : decode cX9_weed 30 = .ok (.iconst 1, 1) := by decide +kernel
theorem dX9_weed_31 : decode cX9_weed 31 = .ok (.iload_n 3, 1) := by decide +kernel
theorem dX9_weed_32 : decode cX9_weed 32 = .ok (.ishl, 1) := by decide +kernel
theorem dX9_weed_33 : decode cX9_weed 33 = .ok (.ior, 1) := by decide +kernel
theorem dX9_weed_34 : decode cX9_weed 34 = .ok (.istore_n 2, 1) := by decide +kernel
theorem dX9_weed_35 : decode cX9_weed 35 = .ok (.iinc 3 1, 3) := by decide +kernel
theorem dX9_weed_38 : decode cX9_weed 38 = .ok (.goto (-29), 3) := by decide +kernel
theorem dX9_weed_41 : decode cX9_weed 41 = .ok (.iload_n 2, 1) := by decide +kernel
theorem dX9_weed_42 : decode cX9_weed 42 = .ok (.ifCond .ne 5, 3) := by decide +kernel
theorem dX9_weed_45 : decode cX9_weed 45 = .ok (.iconst 0, 1) := by decide +kernel
theorem dX9_weed_46 : decode cX9_weed 46 = .ok (.ireturn, 1) := by decide +kernel
theorem dX9_weed_47 : decode cX9_weed 47 = .ok (.aload_n 0, 1) := by decide +kernel
theorem dX9_weed_48 : decode cX9_weed 48 = .ok (.invokevirtual 215, 3) := by decide +kernel
theorem dX9_weed_51 : decode cX9_weed 51 = .ok (.iconst 0, 1) := by decide +kernel
theorem dX9_weed_52 : decode cX9_weed 52 = .ok (.istore_n 3, 1) := by decide +kernel
theorem dX9_weed_53 : decode cX9_weed 53 = .ok (.aload_n 0, 1) := by decide +kernel
theorem dX9_weed_54 : decode cX9_weed 54 = .ok (.invokevirtual 161, 3) := by decide +kernel
theorem dX9_weed_57 : decode cX9_weed 57 = .ok (.iconst 1, 1) := by decide +kernel
theorem dX9_weed_58 : decode cX9_weed 58 = .ok (.isub, 1) := by decide +kernel
theorem dX9_weed_59 : decode cX9_weed 59 = .ok (.istore 4, 2) := by decide +kernel
theorem dX9_weed_61 : decode cX9_weed 61 = .ok (.iload 4, 2) := by decide +kernel
theorem dX9_weed_63 : decode cX9_weed 63 = .ok (.ifCond .lt 30, 3) := by decide +kernel
theorem dX9_weed_66 : decode cX9_weed 66 = .ok (.iload_n 2, 1) := by decide +kernel
theorem dX9_weed_67 : decode cX9_weed 67 = .ok (.iload 4, 2) := by decide +kernel
theorem dX9_weed_69 : decode cX9_weed 69 = .ok (.invokestatic 7, 3) := by decide +kernel
theorem dX9_weed_72 : decode cX9_weed 72 = .ok (.ifCond .ne 6, 3) := by decide +kernel
theorem dX9_weed_75 : decode cX9_weed 75 = .ok (.goto 12, 3) := by decide +kernel
theorem dX9_weed_78 : decode cX9_weed 78 = .ok (.aload_n 0, 1) := by decide +kernel
theorem dX9_weed_79 : decode cX9_weed 79 = .ok (.iload 4, 2) := by decide +kernel
theorem dX9_weed_81 : decode cX9_weed 81 = .ok (.invokevirtual 270, 3) := by decide +kernel
theorem dX9_weed_84 : decode cX9_weed 84 = .ok (.iinc 3 1, 3) := by decide +kernel
theorem dX9_weed_87 : decode cX9_weed 87 = .ok (.iinc 4 (-1), 3) := by decide +kernel
theorem dX9_weed_90 : decode cX9_weed 90 = .ok (.goto (-29), 3) := by decide +kernel
theorem dX9_weed_93 : decode cX9_weed 93 = .ok (.iload_n 3, 1) := by decide +kernel
theorem dX9_weed_94 : decode cX9_weed 94 = .ok (.ireturn, 1) := by decide +kernel
set_option maxRecDepth 20000 in
theorem ggX9_names_X9_days : GoodIn wsX9_names wsX9_days := goodIn_r _ [6, 1, 13, 14, 15, 16, 17, 18, 19, 20, 21, 22, 23, 24, 25, 26, 27, 28, 29, 30, 31, 32, 33, 34, 35, 36, 37, 38, 39, 40, 41] (by decide +kernel) (by decide +kernel)
set_option maxRecDepth 20000 in
theorem gX9_names_X9_days : GoodIn wsX9_names (wsV RX9 161 RX9 yX9_days wsX9_days) := goodIn_app (goodIn_of _ (by decide +kernel)) ggX9_names_X9_days
set_option maxRecDepth 20000 in
theorem ggX9_names_X9_meets : GoodIn wsX9_names wsX9_meets := goodIn_r _ [9] (by decide +kernel) (by decide +kernel)
set_option maxRecDepth 20000 in
theorem gX9_names_X9_meets : GoodIn wsX9_names (va_wsS RX9 108 yX9_meets wsX9_meets) := goodIn_app (goodIn_of _ (by decide +kernel)) ggX9_names_X9_meets
set_option maxRecDepth 20000 in
theorem ggX9_names_X9_pairs : GoodIn wsX9_names wsX9_pairs := goodIn_r _ [12] (by decide +kernel) (by decide +kernel)
set_option maxRecDepth 20000 in
theorem gX9_names_X9_pairs : GoodIn wsX9_names (va_wsS RX9 125 yX9_pairs wsX9_pairs) := goodIn_app (goodIn_of _ (by decide +kernel)) ggX9_names_X9_pairs
theorem dX9_names_0 : decode cX9_names 0 = .ok (.iconst 0, 1) := by decide +kernel
theorem dX9_names_1 : decode cX9_names 1 = .ok (.istore_n 3, 1) := by decide +kernel
theorem dX9_names_2 : decode cX9_names 2 = .ok (.iconst 0, 1) := by decide +kernel
theorem dX9_names_3 : decode cX9_names 3 = .ok (.istore 4, 2) := by decide +kernel
theorem dX9_names_5 : decode cX9_names 5 = .ok (.iload 4, 2) := by decide +kernel
theorem dX9_names_7 : decode cX9_names 7 = .ok (.aload_n 0, 1) := by decide +kernel
theorem dX9_names_8 : decode cX9_names 8 = .ok (.invokevirtual 161, 3) := by decide +kernel
theorem dX9_names_11 : decode cX9_names 11 = .ok (.if_icmp .ge 69, 3) := by decide +kernel
theorem dX9_names_14 : decode cX9_names 14 = .ok (.aload_n 0, 1) := by decide +kernel
theorem dX9_names_15 : decode cX9_names 15 = .ok (.getfield 68, 3) := by decide +kernel
theorem dX9_names_18 : decode cX9_names 18 = .ok (.iload 4, 2) := by decide +kernel
theorem dX9_names_20 : decode cX9_names 20 = .ok (.iload_n 1, 1) := by decide +kernel
theorem dX9_names_21 : decode cX9_names 21 = .ok (.invokestatic 108, 3) := by decide +kernel
theorem dX9_names_24 : decode cX9_names 24 = .ok (.istore 5, 2) := by decide +kernel
theorem dX9_names_26 : decode cX9_names 26 = .ok (.aload_n 0, 1) := by decide +kernel
theorem dX9_names_27 : decode cX9_names 27 = .ok (.getfield 68, 3) := by decide +kernel
theorem dX9_names_30 : decode cX9_names 30 = .ok (.iload 4, 2) := by decide +kernel
theorem dX9_names_32 : decode cX9_names 32 = .ok (.iload_n 2, 1) := by decide +kernel
theorem dX9_names_33 : decode cX9_names 33 = .ok (.invokestatic 108, 3) := by decide +kernel
theorem dX9_names_36 : decode cX9_names 36 = .ok (.istore 6, 2) := by decide +kernel
theorem dX9_names_38 : decode cX9_names 38 = .ok (.iload 5, 2) := by decide +kernel
theorem dX9_names_40 : decode cX9_names 40 = .ok (.iload_n 2, 1) := by decide +kernel
theorem dX9_names_41 : decode cX9_names 41 = .ok (.if_icmp .ne 6, 3) := by decide +kernel
theorem dX9_names_44 : decode cX9_names 44 = .ok (.goto 30, 3) := by decide +kernel
theorem dX9_names_47 : decode cX9_names 47 = .ok (.aload_n 0, 1) := by decide +kernel
theorem dX9_names_48 : decode cX9_names 48 = .ok (.getfield 68, 3) := by decide +kernel
theorem dX9_names_51 : decode cX9_names 51 = .ok (.iload 4, 2) := by decide +kernel
theorem dX9_names_53 : decode cX9_names 53 = .ok (.iload_n 1, 1) := by decide +kernel
theorem dX9_names_54 : decode cX9_names 54 = .ok (.iload 6, 2) := by decide +kernel
theorem dX9_names_56 : decode cX9_names 56 = .ok (.invokestatic 125, 3) := by decide +kernel
theorem dX9_names_59 : decode cX9_names 59 = .ok (.aload_n 0, 1) := by decide +kernel
theorem dX9_names_60 : decode cX9_names 60 = .ok (.getfield 68, 3) := by decide +kernel
theorem dX9_names_63 : decode cX9_names 63 = .ok (.iload 4, 2) := by decide +kernel
theorem dX9_names_65 : decode cX9_names 65 = .ok (.iload_n 2, 1) := by decide +kernel
theorem dX9_names_66 : decode cX9_names 66 = .ok (.iload 5, 2) := by decide +kernel
theorem dX9_names_68 : decode cX9_names 68 = .ok (.invokestatic 125, 3) := by decide +kernel
theorem dX9_names_71 : decode cX9_names 71 = .ok (.iinc 3 1, 3) := by decide +kernel
theorem dX9_names_74 : decode cX9_names 74 = .ok (.iinc 4 1, 3) := by decide +kernel
theorem dX9_names_77 : decode cX9_names 77 = .ok (.goto (-72), 3) := by decide +kernel
theorem dX9_names_80 : decode cX9_names 80 = .ok (.iload_n 3, 1) := by decide +kernel
theorem dX9_names_81 : decode cX9_names 81 = .ok (.ireturn, 1) := by decide +kernel
set_option maxRecDepth 20000 in
theorem ggX9_name_X9_isTeam : GoodIn wsX9_name wsX9_isTeam := goodIn_r _ [6, 7, 8, 9, 5, 10, 11, 12, 13, 14, 38, 39, 40, 41, 42, 43, 44, 45, 46, 47, 48, 49, 50, 51, 52, 53, 54, 55, 56, 57, 58, 59, 60, 61, 62, 63, 64, 65, 66] (by decide +kernel) (by decide +kernel)
set_option maxRecDepth 20000 in
theorem gX9_name_X9_isTeam : GoodIn wsX9_name (wsV RX9 189 RX9 yX9_isTeam wsX9_isTeam) := goodIn_app (goodIn_of _ (by decide +kernel)) ggX9_name_X9_isTeam
set_option maxRecDepth 20000 in
theorem ggX9_name_X9_snap : GoodIn wsX9_name wsX9_snap := goodIn_r _ [18, 19, 20, 11, 21, 22, 5, 23, 38, 39, 40, 41, 42, 43, 44, 45, 46, 47, 48, 49, 50, 51, 52, 53, 54, 55, 56, 57, 58, 59, 60, 61, 62, 63, 64, 65, 66] (by decide +kernel) (by decide +kernel)
set_option maxRecDepth 20000 in
theorem gX9_name_X9_snap : GoodIn wsX9_name (wsV RX9 215 RX9 yX9_snap wsX9_snap) := goodIn_app (goodIn_of _ (by decide +kernel)) ggX9_name_X9_snap
set_option maxRecDepth 20000 in
theorem ggX9_name_X9_names : GoodIn wsX9_name wsX9_names := goodIn_r _ [27, 11, 28, 29, 30, 5, 31, 32, 33, 34, 35, 36, 37, 38, 39, 40, 41, 42, 43, 44, 45, 46, 47, 48, 49, 50, 51, 52, 53, 54, 55, 56, 57, 58, 59, 60, 61, 62, 63, 64, 65, 66] (by decide +kernel) (by decide +kernel)
set_option maxRecDepth 20000 in
theorem gX9_name_X9_names : GoodIn wsX9_name (wsV RX9 273 RX9 yX9_names wsX9_names) := goodIn_app (goodIn_of _ (by decide +kernel)) ggX9_name_X9_names
theorem dX9_name_0 : decode cX9_name 0 = .ok (.aload_n 0, 1) := by decide +kernel
theorem dX9_name_1 : decode cX9_name 1 = .ok (.iconst 0, 1) := by decide +kernel
theorem dX9_name_2 : decode cX9_name 2 = .ok (.putfield 1, 3) := by decide +kernel
theorem dX9_name_5 : decode cX9_name 5 = .ok (.aload_n 0, 1) := by decide +kernel
theorem dX9_name_6 : decode cX9_name 6 = .ok (.iload_n 1, 1) := by decide +kernel
theorem dX9_name_7 : decode cX9_name 7 = .ok (.invokevirtual 189, 3) := by decide +kernel
theorem dX9_name_10 : decode cX9_name 10 = .ok (.ifCond .eq 16, 3) := by decide +kernel
theorem dX9_name_13 : decode cX9_name 13 = .ok (.aload_n 0, 1) := by decide +kernel
theorem dX9_name_14 : decode cX9_name 14 = .ok (.iload_n 2, 1) := by decide +kernel
theorem dX9_name_15 : decode cX9_name 15 = .ok (.invokevirtual 189, 3) := by decide +kernel
theorem dX9_name_18 : decode cX9_name 18 = .ok (.ifCond .eq 8, 3) := by decide +kernel
theorem dX9_name_21 : decode cX9_name 21 = .ok (.iload_n 1, 1) := by decide +kernel
theorem dX9_name_22 : decode cX9_name 22 = .ok (.iload_n 2, 1) := by decide +kernel
theorem dX9_name_23 : decode cX9_name 23 = .ok (.if_icmp .ne 5, 3) := by decide +kernel
theorem dX9_name_26 : decode cX9_name 26 = .ok (.iconst (-1), 1) := by decide +kernel
theorem dX9_name_27 : decode cX9_name 27 = .ok (.ireturn, 1) := by decide +kernel
theorem dX9_name_28 : decode cX9_name 28 = .ok (.aload_n 0, 1) := by decide +kernel
theorem dX9_name_29 : decode cX9_name 29 = .ok (.invokevirtual 215, 3) := by decide +kernel
theorem dX9_name_32 : decode cX9_name 32 = .ok (.aload_n 0, 1) := by decide +kernel
theorem dX9_name_33 : decode cX9_name 33 = .ok (.iload_n 1, 1) := by decide +kernel
theorem dX9_name_34 : decode cX9_name 34 = .ok (.iload_n 2, 1) := by decide +kernel
theorem dX9_name_35 : decode cX9_name 35 = .ok (.invokevirtual 273, 3) := by decide +kernel
theorem dX9_name_38 : decode cX9_name 38 = .ok (.ireturn, 1) := by decide +kernel
set_option maxRecDepth 20000 in
theorem ggX9_isLess_X9_meets : GoodIn wsX9_isLess wsX9_meets := goodIn_r _ [5] (by decide +kernel) (by decide +kernel)
set_option maxRecDepth 20000 in
theorem gX9_isLess_X9_meets : GoodIn wsX9_isLess (va_wsS RX9 108 yX9_meets wsX9_meets) := goodIn_app (goodIn_of _ (by decide +kernel)) ggX9_isLess_X9_meets
theorem dX9_isLess_0 : decode cX9_isLess 0 = .ok (.iconst 0, 1) := by decide +kernel
theorem dX9_isLess_1 : decode cX9_isLess 1 = .ok (.istore_n 3, 1) := by decide +kernel
theorem dX9_isLess_2 : decode cX9_isLess 2 = .ok (.aload_n 0, 1) := by decide +kernel
theorem dX9_isLess_3 : decode cX9_isLess 3 = .ok (.getfield 68, 3) := by decide +kernel
theorem dX9_isLess_6 : decode cX9_isLess 6 = .ok (.iload_n 1, 1) := by decide +kernel
theorem dX9_isLess_7 : decode cX9_isLess 7 = .ok (.iload_n 3, 1) := by decide +kernel
theorem dX9_isLess_8 : decode cX9_isLess 8 = .ok (.invokestatic 108, 3) := by decide +kernel
theorem dX9_isLess_11 : decode cX9_isLess 11 = .ok (.aload_n 0, 1) := by decide +kernel
theorem dX9_isLess_12 : decode cX9_isLess 12 = .ok (.getfield 68, 3) := by decide +kernel
theorem dX9_isLess_15 : decode cX9_isLess 15 = .ok (.iload_n 2, 1) := by decide +kernel
theorem dX9_isLess_16 : decode cX9_isLess 16 = .ok (.iload_n 3, 1) := by decide +kernel
theorem dX9_isLess_17 : decode cX9_isLess 17 = .ok (.invokestatic 108, 3) := by decide +kernel
theorem dX9_isLess_20 : decode cX9_isLess 20 = .ok (.if_icmp .ne 9, 3) := by decide +kernel
theorem dX9_isLess_23 : decode cX9_isLess 23 = .ok (.iinc 3 1, 3) := by decide +kernel
theorem dX9_isLess_26 : decode cX9_isLess 26 = .ok (.goto (-24), 3) := by decide +kernel
theorem dX9_isLess_29 : decode cX9_isLess 29 = .ok (.aload_n 0, 1) := by decide +kernel
theorem dX9_isLess_30 : decode cX9_isLess 30 = .ok (.getfield 68, 3) := by decide +kernel
theorem dX9_isLess_33 : decode cX9_isLess 33 = .ok (.iload_n 1, 1) := by decide +kernel
theorem dX9_isLess_34 : decode cX9_isLess 34 = .ok (.iload_n 3, 1) := by decide +kernel
theorem dX9_isLess_35 : decode cX9_isLess 35 = .ok (.invokestatic 108, 3) := by decide +kernel
theorem dX9_isLess_38 : decode cX9_isLess 38 = .ok (.aload_n 0, 1) := by decide +kernel
theorem dX9_isLess_39 : decode cX9_isLess 39 = .ok (.getfield 68, 3) := by decide +kernel
theorem dX9_isLess_42 : decode cX9_isLess 42 = .ok (.iload_n 2, 1) := by decide +kernel
theorem dX9_isLess_43 : decode cX9_isLess 43 = .ok (.iload_n 3, 1) := by decide +kernel
theorem dX9_isLess_44 : decode cX9_isLess 44 = .ok (.invokestatic 108, 3) := by decide +kernel
theorem dX9_isLess_47 : decode cX9_isLess 47 = .ok (.if_icmp .ge 7, 3) := by decide +kernel
theorem dX9_isLess_50 : decode cX9_isLess 50 = .ok (.iconst 1, 1) := by decide +kernel
theorem dX9_isLess_51 : decode cX9_isLess 51 = .ok (.goto 4, 3) := by decide +kernel
theorem dX9_isLess_54 : decode cX9_isLess 54 = .ok (.iconst 0, 1) := by decide +kernel
theorem dX9_isLess_55 : decode cX9_isLess 55 = .ok (.ireturn, 1) := by decide +kernel
set_option maxRecDepth 20000 in
theorem ggX9_sort_X9_days : GoodIn wsX9_sort wsX9_days := goodIn_r _ [9, 3, 26, 27, 28, 29, 30, 31, 32, 33, 34, 35, 36, 37, 38, 39, 40, 41, 42, 43, 44, 45, 46, 47, 48, 49, 50, 51, 52, 53, 54] (by decide +kernel) (by decide +kernel)
set_option maxRecDepth 20000 in
theorem gX9_sort_X9_days : GoodIn wsX9_sort (wsV RX9 161 RX9 yX9_days wsX9_days) := goodIn_app (goodIn_of _ (by decide +kernel)) ggX9_sort_X9_days
set_option maxRecDepth 20000 in
theorem ggX9_sort_X9_isLess : GoodIn wsX9_sort wsX9_isLess := goodIn_r _ [13, 3, 14, 15, 8, 16, 26, 27, 28, 29, 30, 31, 32, 33, 34, 35, 36, 37, 38, 39, 40, 41, 42, 43, 44, 45, 46, 47, 48, 49, 50, 51, 52, 53, 54] (by decide +kernel) (by decide +kernel)
set_option maxRecDepth 20000 in
theorem gX9_sort_X9_isLess : GoodIn wsX9_sort (wsV RX9 277 RX9 yX9_isLess wsX9_isLess) := goodIn_app (goodIn_of _ (by decide +kernel)) ggX9_sort_X9_isLess
set_option maxRecDepth 20000 in
theorem ggX9_sort_X9_snap : GoodIn wsX9_sort wsX9_snap := goodIn_r _ [20, 21, 22, 3, 23, 24, 8, 25, 26, 27, 28, 29, 30, 31, 32, 33, 34, 35, 36, 37, 38, 39, 40, 41, 42, 43, 44, 45, 46, 47, 48, 49, 50, 51, 52, 53, 54] (by decide +kernel) (by decide +kernel)
set_option maxRecDepth 20000 in
theorem gX9_sort_X9_snap : GoodIn wsX9_sort (wsV RX9 215 RX9 yX9_snap wsX9_snap) := goodIn_app (goodIn_of _ (by decide +kernel)) ggX9_sort_X9_snap
set_option maxRecDepth 20000 in
theorem ggX9_sort_X9_copy : GoodIn wsX9_sort wsX9_copy := goodIn_r _ [25] (by decide +kernel) (by decide +kernel)
set_option maxRecDepth 20000 in
theorem gX9_sort_X9_copy : GoodIn wsX9_sort (va_wsS RX9 150 yX9_copy wsX9_copy) := goodIn_app (goodIn_of _ (by decide +kernel)) ggX9_sort_X9_copy
theorem dX9_sort_0 : decode cX9_sort 0 = .ok (.aload_n 0, 1) := by decide +kernel
theorem dX9_sort_1 : decode cX9_sort 1 = .ok (.iconst 0, 1) := by decide +kernel
theorem dX9_sort_2 : decode cX9_sort 2 = .ok (.putfield 1, 3) := by decide +kernel
theorem dX9_sort_5 : decode cX9_sort 5 = .ok (.iconst 0, 1) := by decide +kernel
theorem dX9_sort_6 : decode cX9_sort 6 = .ok (.istore_n 1, 1) := by decide +kernel
theorem dX9_sort_7 : decode cX9_sort 7 = .ok (.iconst 0, 1) := by decide +kernel
theorem dX9_sort_8 : decode cX9_sort 8 = .ok (.istore_n 2, 1) := by decide +kernel
theorem dX9_sort_9 : decode cX9_sort 9 = .ok (.iload_n 2, 1) := by decide +kernel
theorem dX9_sort_10 : decode cX9_sort 10 = .ok (.aload_n 0, 1) := by decide +kernel
theorem dX9_sort_11 : decode cX9_sort 11 = .ok (.invokevirtual 161, 3) := by decide +kernel
theorem dX9_sort_14 : decode cX9_sort 14 = .ok (.if_icmp .ge 58, 3) := by decide +kernel
theorem dX9_sort_17 : decode cX9_sort 17 = .ok (.iload_n 2, 1) := by decide +kernel
theorem dX9_sort_18 : decode cX9_sort 18 = .ok (.istore_n 3, 1) := by decide +kernel
theorem dX9_sort_19 : decode cX9_sort 19 = .ok (.iload_n 3, 1) := by decide +kernel
theorem dX9_sort_20 : decode cX9_sort 20 = .ok (.ifCond .le 39, 3) := by decide +kernel
theorem dX9_sort_23 : decode cX9_sort 23 = .ok (.aload_n 0, 1) := by decide +kernel
theorem dX9_sort_24 : decode cX9_sort 24 = .ok (.iload_n 2, 1) := by decide +kernel
theorem dX9_sort_25 : decode cX9_sort 25 = .ok (.aload_n 0, 1) := by decide +kernel
theorem dX9_sort_26 : decode cX9_sort 26 = .ok (.getfield 105, 3) := by decide +kernel
theorem dX9_sort_29 : decode cX9_sort 29 = .ok (.iload_n 3, 1) := by decide +kernel
theorem dX9_sort_30 : decode cX9_sort 30 = .ok (.iconst 1, 1) := by decide +kernel
theorem dX9_sort_31 : decode cX9_sort 31 = .ok (.isub, 1) := by decide +kernel
theorem dX9_sort_32 : decode cX9_sort 32 = .ok (.iaload, 1) := by decide +kernel
theorem dX9_sort_33 : decode cX9_sort 33 = .ok (.invokevirtual 277, 3) := by decide +kernel
theorem dX9_sort_36 : decode cX9_sort 36 = .ok (.ifCond .eq 23, 3) := by decide +kernel
theorem dX9_sort_39 : decode cX9_sort 39 = .ok (.aload_n 0, 1) := by decide +kernel
theorem dX9_sort_40 : decode cX9_sort 40 = .ok (.getfield 105, 3) := by decide +kernel
theorem dX9_sort_43 : decode cX9_sort 43 = .ok (.iload_n 3, 1) := by decide +kernel
theorem dX9_sort_44 : decode cX9_sort 44 = .ok (.aload_n 0, 1) := by decide +kernel
theorem dX9_sort_45 : decode cX9_sort 45 = .ok (.getfield 105, 3) := by decide +kernel
theorem dX9_sort_48 : decode cX9_sort 48 = .ok (.iload_n 3, 1) := by decide +kernel
theorem dX9_sort_49 : decode cX9_sort 49 = .ok (.iconst 1, 1) := by decide +kernel
theorem dX9_sort_50 : decode cX9_sort 50 = .ok (.isub, 1) := by decide +kernel
theorem dX9_sort_51 : decode cX9_sort 51 = .ok (.iaload, 1) := by decide +kernel
theorem dX9_sort_52 : decode cX9_sort 52 = .ok (.iastore, 1) := by decide +kernel
theorem dX9_sort_53 : decode cX9_sort 53 = .ok (.iinc 3 (-1), 3) := by decide +kernel
theorem dX9_sort_56 : decode cX9_sort 56 = .ok (.goto (-37), 3) := by decide +kernel
theorem dX9_sort_59 : decode cX9_sort 59 = .ok (.aload_n 0, 1) := by decide +kernel
theorem dX9_sort_60 : decode cX9_sort 60 = .ok (.getfield 105, 3) := by decide +kernel
theorem dX9_sort_63 : decode cX9_sort 63 = .ok (.iload_n 3, 1) := by decide +kernel
theorem dX9_sort_64 : decode cX9_sort 64 = .ok (.iload_n 2, 1) := by decide +kernel
theorem dX9_sort_65 : decode cX9_sort 65 = .ok (.iastore, 1) := by decide +kernel
theorem dX9_sort_66 : decode cX9_sort 66 = .ok (.iinc 2 1, 3) := by decide +kernel
theorem dX9_sort_69 : decode cX9_sort 69 = .ok (.goto (-60), 3) := by decide +kernel
theorem dX9_sort_72 : decode cX9_sort 72 = .ok (.iconst 0, 1) := by decide +kernel
theorem dX9_sort_73 : decode cX9_sort 73 = .ok (.istore_n 2, 1) := by decide +kernel
theorem dX9_sort_74 : decode cX9_sort 74 = .ok (.iload_n 2, 1) := by decide +kernel
theorem dX9_sort_75 : decode cX9_sort 75 = .ok (.aload_n 0, 1) := by decide +kernel
theorem dX9_sort_76 : decode cX9_sort 76 = .ok (.invokevirtual 161, 3) := by decide +kernel
theorem dX9_sort_79 : decode cX9_sort 79 = .ok (.if_icmp .ge 22, 3) := by decide +kernel
theorem dX9_sort_82 : decode cX9_sort 82 = .ok (.aload_n 0, 1) := by decide +kernel
theorem dX9_sort_83 : decode cX9_sort 83 = .ok (.getfield 105, 3) := by decide +kernel
theorem dX9_sort_86 : decode cX9_sort 86 = .ok (.iload_n 2, 1) := by decide +kernel
theorem dX9_sort_87 : decode cX9_sort 87 = .ok (.iaload, 1) := by decide +kernel
theorem dX9_sort_88 : decode cX9_sort 88 = .ok (.iload_n 2, 1) := by decide +kernel
theorem dX9_sort_89 : decode cX9_sort 89 = .ok (.if_icmp .eq 6, 3) := by decide +kernel
theorem dX9_sort_92 : decode cX9_sort 92 = .ok (.iinc 1 1, 3) := by decide +kernel
theorem dX9_sort_95 : decode cX9_sort 95 = .ok (.iinc 2 1, 3) := by decide +kernel
theorem dX9_sort_98 : decode cX9_sort 98 = .ok (.goto (-24), 3) := by decide +kernel
theorem dX9_sort_101 : decode cX9_sort 101 = .ok (.iload_n 1, 1) := by decide +kernel
theorem dX9_sort_102 : decode cX9_sort 102 = .ok (.ifCond .ne 5, 3) := by decide +kernel
theorem dX9_sort_105 : decode cX9_sort 105 = .ok (.iconst 0, 1) := by decide +kernel
theorem dX9_sort_106 : decode cX9_sort 106 = .ok (.ireturn, 1) := by decide +kernel
theorem dX9_sort_107 : decode cX9_sort 107 = .ok (.aload_n 0, 1) := by decide +kernel
theorem dX9_sort_108 : decode cX9_sort 108 = .ok (.invokevirtual 215, 3) := by decide +kernel
theorem dX9_sort_111 : decode cX9_sort 111 = .ok (.aload_n 0, 1) := by decide +kernel
theorem dX9_sort_112 : decode cX9_sort 112 = .ok (.getfield 68, 3) := by decide +kernel
theorem dX9_sort_115 : decode cX9_sort 115 = .ok (.iconst 0, 1) := by decide +kernel
theorem dX9_sort_116 : decode cX9_sort 116 = .ok (.aload_n 0, 1) := by decide +kernel
theorem dX9_sort_117 : decode cX9_sort 117 = .ok (.getfield 86, 3) := by decide +kernel
theorem dX9_sort_120 : decode cX9_sort 120 = .ok (.iconst 0, 1) := by decide +kernel
theorem dX9_sort_121 : decode cX9_sort 121 = .ok (.invokestatic 150, 3) := by decide +kernel
theorem dX9_sort_124 : decode cX9_sort 124 = .ok (.iconst 0, 1) := by decide +kernel
theorem dX9_sort_125 : decode cX9_sort 125 = .ok (.istore_n 2, 1) := by decide +kernel
theorem dX9_sort_126 : decode cX9_sort 126 = .ok (.iload_n 2, 1) := by decide +kernel
theorem dX9_sort_127 : decode cX9_sort 127 = .ok (.aload_n 0, 1) := by decide +kernel
theorem dX9_sort_128 : decode cX9_sort 128 = .ok (.invokevirtual 161, 3) := by decide +kernel
theorem dX9_sort_131 : decode cX9_sort 131 = .ok (.if_icmp .ge 54, 3) := by decide +kernel
theorem dX9_sort_134 : decode cX9_sort 134 = .ok (.iconst 0, 1) := by decide +kernel
theorem dX9_sort_135 : decode cX9_sort 135 = .ok (.istore_n 3, 1) := by decide +kernel
theorem dX9_sort_136 : decode cX9_sort 136 = .ok (.iload_n 3, 1) := by decide +kernel
theorem dX9_sort_137 : decode cX9_sort 137 = .ok (.bipush 14, 2) := by decide +kernel
theorem dX9_sort_139 : decode cX9_sort 139 = .ok (.if_icmp .ge 40, 3) := by decide +kernel
theorem dX9_sort_142 : decode cX9_sort 142 = .ok (.aload_n 0, 1) := by decide +kernel
theorem dX9_sort_143 : decode cX9_sort 143 = .ok (.getfield 68, 3) := by decide +kernel
theorem dX9_sort_146 : decode cX9_sort 146 = .ok (.iconst 2, 1) := by decide +kernel
theorem dX9_sort_147 : decode cX9_sort 147 = .ok (.bipush 14, 2) := by decide +kernel
theorem dX9_sort_149 : decode cX9_sort 149 = .ok (.iload_n 2, 1) := by decide +kernel
theorem dX9_sort_150 : decode cX9_sort 150 = .ok (.imul, 1) := by decide +kernel
theorem dX9_sort_151 : decode cX9_sort 151 = .ok (.iadd, 1) := by decide +kernel
theorem dX9_sort_152 : decode cX9_sort 152 = .ok (.iload_n 3, 1) := by decide +kernel
theorem dX9_sort_153 : decode cX9_sort 153 = .ok (.iadd, 1) := by decide +kernel
theorem dX9_sort_154 : decode cX9_sort 154 = .ok (.aload_n 0, 1) := by decide +kernel
theorem dX9_sort_155 : decode cX9_sort 155 = .ok (.getfield 86, 3) := by decide +kernel
theorem dX9_sort_158 : decode cX9_sort 158 = .ok (.iconst 2, 1) := by decide +kernel
theorem dX9_sort_159 : decode cX9_sort 159 = .ok (.bipush 14, 2) := by decide +kernel
theorem dX9_sort_161 : decode cX9_sort 161 = .ok (.aload_n 0, 1) := by decide +kernel
theorem dX9_sort_162 : decode cX9_sort 162 = .ok (.getfield 105, 3) := by decide +kernel
theorem dX9_sort_165 : decode cX9_sort 165 = .ok (.iload_n 2, 1) := by decide +kernel
theorem dX9_sort_166 : decode cX9_sort 166 = .ok (.iaload, 1) := by decide +kernel
theorem dX9_sort_167 : decode cX9_sort 167 = .ok (.imul, 1) := by decide +kernel
theorem dX9_sort_168 : decode cX9_sort 168 = .ok (.iadd, 1) := by decide +kernel
theorem dX9_sort_169 : decode cX9_sort 169 = .ok (.iload_n 3, 1) := by decide +kernel
theorem dX9_sort_170 : decode cX9_sort 170 = .ok (.iadd, 1) := by decide +kernel
theorem dX9_sort_171 : decode cX9_sort 171 = .ok (.iaload, 1) := by decide +kernel
theorem dX9_sort_172 : decode cX9_sort 172 = .ok (.iastore, 1) := by decide +kernel
theorem dX9_sort_173 : decode cX9_sort 173 = .ok (.iinc 3 1, 3) := by decide +kernel
theorem dX9_sort_176 : decode cX9_sort 176 = .ok (.goto (-40), 3) := by decide +kernel
theorem dX9_sort_179 : decode cX9_sort 179 = .ok (.iinc 2 1, 3) := by decide +kernel
theorem dX9_sort_182 : decode cX9_sort 182 = .ok (.goto (-56), 3) := by decide +kernel
theorem dX9_sort_185 : decode cX9_sort 185 = .ok (.iload_n 1, 1) := by decide +kernel
theorem dX9_sort_186 : decode cX9_sort 186 = .ok (.ireturn, 1) := by decide +kernel
theorem dX9_draw_0 : decode cX9_draw 0 = .ok (.aload_n 0, 1) := by decide +kernel
theorem dX9_draw_1 : decode cX9_draw 1 = .ok (.aload_n 0, 1) := by decide +kernel
theorem dX9_draw_2 : decode cX9_draw 2 = .ok (.getfield 280, 3) := by decide +kernel
theorem dX9_draw_5 : decode cX9_draw 5 = .ok (.ldc_w 283, 3) := by decide +kernel
theorem dX9_draw_8 : decode cX9_draw 8 = .ok (.imul, 1) := by decide +kernel
theorem dX9_draw_9 : decode cX9_draw 9 = .ok (.sipush 12345, 3) := by decide +kernel
theorem dX9_draw_12 : decode cX9_draw 12 = .ok (.iadd, 1) := by decide +kernel
theorem dX9_draw_13 : decode cX9_draw 13 = .ok (.putfield 280, 3) := by decide +kernel
theorem dX9_draw_16 : decode cX9_draw 16 = .ok (.aload_n 0, 1) := by decide +kernel
theorem dX9_draw_17 : decode cX9_draw 17 = .ok (.getfield 280, 3) := by decide +kernel
theorem dX9_draw_20 : decode cX9_draw 20 = .ok (.bipush 8, 2) := by decide +kernel
theorem dX9_draw_22 : decode cX9_draw 22 = .ok (.iushr, 1) := by decide +kernel
theorem dX9_draw_23 : decode cX9_draw 23 = .ok (.iload_n 1, 1) := by decide +kernel
theorem dX9_draw_24 : decode cX9_draw 24 = .ok (.irem, 1) := by decide +kernel
theorem dX9_draw_25 : decode cX9_draw 25 = .ok (.ireturn, 1) := by decide +kernel
set_option maxRecDepth 20000 in
theorem ggX9_does_X9_draw : GoodIn wsX9_does wsX9_draw := goodIn_r _ [5, 6, 7, 66, 67, 68, 69, 70, 71, 72, 73, 74, 75, 76, 77, 78, 79, 80, 81, 82, 83, 84, 85, 86, 87, 88, 89, 90, 91, 92, 93, 94] (by decide +kernel) (by decide +kernel)
set_option maxRecDepth 20000 in
theorem gX9_does_X9_draw : GoodIn wsX9_does (wsV RX9 284 RX9 yX9_draw wsX9_draw) := goodIn_app (goodIn_of _ (by decide +kernel)) ggX9_does_X9_draw
set_option maxRecDepth 20000 in
theorem ggX9_does_X9_days : GoodIn wsX9_does wsX9_days := goodIn_r _ [11, 12, 66, 67, 68, 69, 70, 71, 72, 73, 74, 75, 76, 77, 78, 79, 80, 81, 82, 83, 84, 85, 86, 87, 88, 89, 90, 91, 92, 93, 94] (by decide +kernel) (by decide +kernel)
set_option maxRecDepth 20000 in
theorem gX9_does_X9_days : GoodIn wsX9_does (wsV RX9 161 RX9 yX9_days wsX9_days) := goodIn_app (goodIn_of _ (by decide +kernel)) ggX9_does_X9_days
set_option maxRecDepth 20000 in
theorem ggX9_does_X9_goes : GoodIn wsX9_does wsX9_goes := goodIn_r _ [16, 12, 66, 67, 68, 69, 70, 71, 72, 73, 74, 75, 76, 77, 78, 79, 80, 81, 82, 83, 84, 85, 86, 87, 88, 89, 90, 91, 92, 93, 94] (by decide +kernel) (by decide +kernel)
set_option maxRecDepth 20000 in
theorem gX9_does_X9_goes : GoodIn wsX9_does (wsV RX9 270 RX9 yX9_goes wsX9_goes) := goodIn_app (goodIn_of _ (by decide +kernel)) ggX9_does_X9_goes
set_option maxRecDepth 20000 in
theorem ggX9_does_X9_teams : GoodIn wsX9_does wsX9_teams := goodIn_r _ [20, 12, 66, 67, 68, 69, 70, 71, 72, 73, 74, 75, 76, 77, 78, 79, 80, 81, 82, 83, 84, 85, 86, 87, 88, 89, 90, 91, 92, 93, 94] (by decide +kernel) (by decide +kernel)
set_option maxRecDepth 20000 in
theorem gX9_does_X9_teams : GoodIn wsX9_does (wsV RX9 157 RX9 yX9_teams wsX9_teams) := goodIn_app (goodIn_of _ (by decide +kernel)) ggX9_does_X9_teams
set_option maxRecDepth 20000 in
theorem ggX9_does_X9_names : GoodIn wsX9_does wsX9_names := goodIn_r _ [24, 12, 8, 9, 10, 4, 11, 25, 26, 27, 28, 29, 30, 66, 67, 68, 69, 70, 71, 72, 73, 74, 75, 76, 77, 78, 79, 80, 81, 82, 83, 84, 85, 86, 87, 88, 89, 90, 91, 92, 93, 94] (by decide +kernel) (by decide +kernel)
set_option maxRecDepth 20000 in
theorem gX9_does_X9_names : GoodIn wsX9_does (wsV RX9 273 RX9 yX9_names wsX9_names) := goodIn_app (goodIn_of _ (by decide +kernel)) ggX9_does_X9_names
set_option maxRecDepth 20000 in
theorem ggX9_does_X9_laysSought : GoodIn wsX9_does wsX9_laysSought := goodIn_r _ [34, 35, 17, 18, 19, 4, 20, 12, 36, 37, 38, 39, 40, 41, 42, 43, 44, 45, 46, 47, 48, 49, 25, 26, 27, 50, 51, 52, 53, 54, 55, 56, 57, 58, 59, 60, 61, 8, 9, 10, 11, 66, 67, 68, 69, 70, 71, 72, 73, 74, 75, 76, 77, 78, 79, 80, 81, 82, 83, 84, 85, 86, 87, 88, 89, 90, 91, 92, 93, 94] (by decide +kernel) (by decide +kernel)
set_option maxRecDepth 20000 in
theorem gX9_does_X9_laysSought : GoodIn wsX9_does (wsV RX9 211 RX9 yX9_laysSought wsX9_laysSought) := goodIn_app (goodIn_of _ (by decide +kernel)) ggX9_does_X9_laysSought
set_option maxRecDepth 20000 in
theorem ggX9_does_X9_comes : GoodIn wsX9_does wsX9_comes := goodIn_r _ [65, 12, 35, 17, 18, 19, 4, 20, 8, 9, 10, 11, 66, 67, 68, 69, 70, 71, 72, 73, 74, 75, 76, 77, 78, 79, 80, 81, 82, 83, 84, 85, 86, 87, 88, 89, 90, 91, 92, 93, 94] (by decide +kernel) (by decide +kernel)
set_option maxRecDepth 20000 in
theorem gX9_does_X9_comes : GoodIn wsX9_does (wsV RX9 264 RX9 yX9_comes wsX9_comes) := goodIn_app (goodIn_of _ (by decide +kernel)) ggX9_does_X9_comes
theorem dX9_does_0 : decode cX9_does 0 = .ok (.aload_n 0, 1) := by decide +kernel
theorem dX9_does_1 : decode cX9_does 1 = .ok (.iconst 4, 1) := by decide +kernel
theorem dX9_does_2 : decode cX9_does 2 = .ok (.invokevirtual 284, 3) := by decide +kernel
theorem dX9_does_5 : decode cX9_does 5 = .ok (.ifCond .ne 23, 3) := by decide +kernel
theorem dX9_does_8 : decode cX9_does 8 = .ok (.aload_n 0, 1) := by decide +kernel
theorem dX9_does_9 : decode cX9_does 9 = .ok (.invokevirtual 161, 3) := by decide +kernel
theorem dX9_does_12 : decode cX9_does 12 = .ok (.ifCond .le 15, 3) := by decide +kernel
theorem dX9_does_15 : decode cX9_does 15 = .ok (.aload_n 0, 1) := by decide +kernel
theorem dX9_does_16 : decode cX9_does 16 = .ok (.aload_n 0, 1) := by decide +kernel
theorem dX9_does_17 : decode cX9_does 17 = .ok (.aload_n 0, 1) := by decide +kernel
theorem dX9_does_18 : decode cX9_does 18 = .ok (.invokevirtual 161, 3) := by decide +kernel
theorem dX9_does_21 : decode cX9_does 21 = .ok (.invokevirtual 284, 3) := by decide +kernel
theorem dX9_does_24 : decode cX9_does 24 = .ok (.invokevirtual 270, 3) := by decide +kernel
theorem dX9_does_27 : decode cX9_does 27 = .ok (.return_, 1) := by decide +kernel
theorem dX9_does_28 : decode cX9_does 28 = .ok (.aload_n 0, 1) := by decide +kernel
theorem dX9_does_29 : decode cX9_does 29 = .ok (.aload_n 0, 1) := by decide +kernel
theorem dX9_does_30 : decode cX9_does 30 = .ok (.invokevirtual 157, 3) := by decide +kernel
theorem dX9_does_33 : decode cX9_does 33 = .ok (.invokevirtual 284, 3) := by decide +kernel
theorem dX9_does_36 : decode cX9_does 36 = .ok (.istore_n 1, 1) := by decide +kernel
theorem dX9_does_37 : decode cX9_does 37 = .ok (.aload_n 0, 1) := by decide +kernel
theorem dX9_does_38 : decode cX9_does 38 = .ok (.aload_n 0, 1) := by decide +kernel
theorem dX9_does_39 : decode cX9_does 39 = .ok (.invokevirtual 157, 3) := by decide +kernel
theorem dX9_does_42 : decode cX9_does 42 = .ok (.invokevirtual 284, 3) := by decide +kernel
theorem dX9_does_45 : decode cX9_does 45 = .ok (.istore_n 2, 1) := by decide +kernel
theorem dX9_does_46 : decode cX9_does 46 = .ok (.iload_n 1, 1) := by decide +kernel
theorem dX9_does_47 : decode cX9_does 47 = .ok (.iload_n 2, 1) := by decide +kernel
theorem dX9_does_48 : decode cX9_does 48 = .ok (.if_icmp .eq 10, 3) := by decide +kernel
theorem dX9_does_51 : decode cX9_does 51 = .ok (.aload_n 0, 1) := by decide +kernel
theorem dX9_does_52 : decode cX9_does 52 = .ok (.iload_n 1, 1) := by decide +kernel
theorem dX9_does_53 : decode cX9_does 53 = .ok (.iload_n 2, 1) := by decide +kernel
theorem dX9_does_54 : decode cX9_does 54 = .ok (.invokevirtual 273, 3) := by decide +kernel
theorem dX9_does_57 : decode cX9_does 57 = .ok (.pop, 1) := by decide +kernel
theorem dX9_does_58 : decode cX9_does 58 = .ok (.aload_n 0, 1) := by decide +kernel
theorem dX9_does_59 : decode cX9_does 59 = .ok (.iconst 0, 1) := by decide +kernel
theorem dX9_does_60 : decode cX9_does 60 = .ok (.invokevirtual 211, 3) := by decide +kernel
theorem dX9_does_63 : decode cX9_does 63 = .ok (.ifCond .eq 7, 3) := by decide +kernel
theorem dX9_does_66 : decode cX9_does 66 = .ok (.aload_n 0, 1) := by decide +kernel
theorem dX9_does_67 : decode cX9_does 67 = .ok (.invokevirtual 264, 3) := by decide +kernel
theorem dX9_does_70 : decode cX9_does 70 = .ok (.return_, 1) := by decide +kernel
set_option maxRecDepth 20000 in
theorem ggX9_drawn_X9_isIn : GoodIn wsX9_drawn wsX9_isIn := goodIn_r _ [6] (by decide +kernel) (by decide +kernel)
set_option maxRecDepth 20000 in
theorem gX9_drawn_X9_isIn : GoodIn wsX9_drawn (va_wsS RX9 118 yX9_isIn wsX9_isIn) := goodIn_app (goodIn_of _ (by decide +kernel)) ggX9_drawn_X9_isIn
set_option maxRecDepth 20000 in
theorem ggX9_drawn_X9_teams : GoodIn wsX9_drawn wsX9_teams := goodIn_r _ [10, 11, 83, 84, 85, 86, 87, 88, 89, 90, 91, 92, 93, 94, 95, 96, 97, 98, 99, 100, 101, 102, 103, 104, 105, 106, 107, 108, 109, 110, 111] (by decide +kernel) (by decide +kernel)
set_option maxRecDepth 20000 in
theorem gX9_drawn_X9_teams : GoodIn wsX9_drawn (wsV RX9 157 RX9 yX9_teams wsX9_teams) := goodIn_app (goodIn_of _ (by decide +kernel)) ggX9_drawn_X9_teams
set_option maxRecDepth 20000 in
theorem ggX9_drawn_X9_snap : GoodIn wsX9_drawn wsX9_snap := goodIn_r _ [15, 16, 17, 11, 18, 19, 5, 20, 83, 84, 85, 86, 87, 88, 89, 90, 91, 92, 93, 94, 95, 96, 97, 98, 99, 100, 101, 102, 103, 104, 105, 106, 107, 108, 109, 110, 111] (by decide +kernel) (by decide +kernel)
set_option maxRecDepth 20000 in
theorem gX9_drawn_X9_snap : GoodIn wsX9_drawn (wsV RX9 215 RX9 yX9_snap wsX9_snap) := goodIn_app (goodIn_of _ (by decide +kernel)) ggX9_drawn_X9_snap
set_option maxRecDepth 20000 in
theorem ggX9_drawn_X9_does : GoodIn wsX9_drawn wsX9_does := goodIn_r _ [24, 25, 26, 27, 5, 28, 2, 29, 30, 31, 32, 33, 11, 34, 35, 36, 37, 7, 8, 9, 10, 38, 39, 40, 41, 42, 43, 44, 45, 46, 47, 48, 49, 50, 51, 52, 53, 54, 55, 56, 57, 58, 59, 60, 61, 62, 63, 64, 65, 66, 67, 68, 69, 70, 71, 72, 73, 74, 75, 76, 77, 78, 79, 80, 81, 82, 83, 84, 85, 86, 87, 88, 89, 90, 91, 92, 93, 94, 95, 96, 97, 98, 99, 100, 101, 102, 103, 104, 105, 106, 107, 108, 109, 110, 111] (by decide +kernel) (by decide +kernel)
set_option maxRecDepth 20000 in
theorem gX9_drawn_X9_does : GoodIn wsX9_drawn (wsV RX9 287 RX9 yX9_does wsX9_does) := goodIn_app (goodIn_of _ (by decide +kernel)) ggX9_drawn_X9_does
set_option maxRecDepth 20000 in
theorem ggX9_drawn_X9_days : GoodIn wsX9_drawn wsX9_days := goodIn_r _ [33, 11, 83, 84, 85, 86, 87, 88, 89, 90, 91, 92, 93, 94, 95, 96, 97, 98, 99, 100, 101, 102, 103, 104, 105, 106, 107, 108, 109, 110, 111] (by decide +kernel) (by decide +kernel)
set_option maxRecDepth 20000 in
theorem gX9_drawn_X9_days : GoodIn wsX9_drawn (wsV RX9 161 RX9 yX9_days wsX9_days) := goodIn_app (goodIn_of _ (by decide +kernel)) ggX9_drawn_X9_days
theorem dX9_drawn_0 : decode cX9_drawn 0 = .ok (.aload_n 0, 1) := by decide +kernel
theorem dX9_drawn_1 : decode cX9_drawn 1 = .ok (.iconst 0, 1) := by decide +kernel
theorem dX9_drawn_2 : decode cX9_drawn 2 = .ok (.putfield 1, 3) := by decide +kernel
theorem dX9_drawn_5 : decode cX9_drawn 5 = .ok (.iload_n 1, 1) := by decide +kernel
theorem dX9_drawn_6 : decode cX9_drawn 6 = .ok (.iconst 1, 1) := by decide +kernel
theorem dX9_drawn_7 : decode cX9_drawn 7 = .ok (.bipush 60, 2) := by decide +kernel
theorem dX9_drawn_9 : decode cX9_drawn 9 = .ok (.invokestatic 118, 3) := by decide +kernel
theorem dX9_drawn_12 : decode cX9_drawn 12 = .ok (.ifCond .ne 5, 3) := by decide +kernel
theorem dX9_drawn_15 : decode cX9_drawn 15 = .ok (.iconst (-1), 1) := by decide +kernel
theorem dX9_drawn_16 : decode cX9_drawn 16 = .ok (.ireturn, 1) := by decide +kernel
theorem dX9_drawn_17 : decode cX9_drawn 17 = .ok (.aload_n 0, 1) := by decide +kernel
theorem dX9_drawn_18 : decode cX9_drawn 18 = .ok (.invokevirtual 157, 3) := by decide +kernel
theorem dX9_drawn_21 : decode cX9_drawn 21 = .ok (.ifCond .ne 5, 3) := by decide +kernel
theorem dX9_drawn_24 : decode cX9_drawn 24 = .ok (.iconst 0, 1) := by decide +kernel
theorem dX9_drawn_25 : decode cX9_drawn 25 = .ok (.ireturn, 1) := by decide +kernel
theorem dX9_drawn_26 : decode cX9_drawn 26 = .ok (.aload_n 0, 1) := by decide +kernel
theorem dX9_drawn_27 : decode cX9_drawn 27 = .ok (.invokevirtual 215, 3) := by decide +kernel
theorem dX9_drawn_30 : decode cX9_drawn 30 = .ok (.aload_n 0, 1) := by decide +kernel
theorem dX9_drawn_31 : decode cX9_drawn 31 = .ok (.iload_n 2, 1) := by decide +kernel
theorem dX9_drawn_32 : decode cX9_drawn 32 = .ok (.putfield 280, 3) := by decide +kernel
theorem dX9_drawn_35 : decode cX9_drawn 35 = .ok (.iconst 0, 1) := by decide +kernel
theorem dX9_drawn_36 : decode cX9_drawn 36 = .ok (.istore_n 3, 1) := by decide +kernel
theorem dX9_drawn_37 : decode cX9_drawn 37 = .ok (.iload_n 3, 1) := by decide +kernel
theorem dX9_drawn_38 : decode cX9_drawn 38 = .ok (.iload_n 1, 1) := by decide +kernel
theorem dX9_drawn_39 : decode cX9_drawn 39 = .ok (.if_icmp .ge 13, 3) := by decide +kernel
theorem dX9_drawn_42 : decode cX9_drawn 42 = .ok (.aload_n 0, 1) := by decide +kernel
theorem dX9_drawn_43 : decode cX9_drawn 43 = .ok (.invokevirtual 287, 3) := by decide +kernel
theorem dX9_drawn_46 : decode cX9_drawn 46 = .ok (.iinc 3 1, 3) := by decide +kernel
theorem dX9_drawn_49 : decode cX9_drawn 49 = .ok (.goto (-12), 3) := by decide +kernel
theorem dX9_drawn_52 : decode cX9_drawn 52 = .ok (.aload_n 0, 1) := by decide +kernel
theorem dX9_drawn_53 : decode cX9_drawn 53 = .ok (.invokevirtual 161, 3) := by decide +kernel
theorem dX9_drawn_56 : decode cX9_drawn 56 = .ok (.ireturn, 1) := by decide +kernel
set_option maxRecDepth 20000 in
theorem ggX9_undo_X9_copy : GoodIn wsX9_undo wsX9_copy := goodIn_r _ [8] (by decide +kernel) (by decide +kernel)
set_option maxRecDepth 20000 in
theorem gX9_undo_X9_copy : GoodIn wsX9_undo (va_wsS RX9 150 yX9_copy wsX9_copy) := goodIn_app (goodIn_of _ (by decide +kernel)) ggX9_undo_X9_copy
theorem dX9_undo_0 : decode cX9_undo 0 = .ok (.aload_n 0, 1) := by decide +kernel
theorem dX9_undo_1 : decode cX9_undo 1 = .ok (.iconst 0, 1) := by decide +kernel
theorem dX9_undo_2 : decode cX9_undo 2 = .ok (.putfield 1, 3) := by decide +kernel
theorem dX9_undo_5 : decode cX9_undo 5 = .ok (.aload_n 0, 1) := by decide +kernel
theorem dX9_undo_6 : decode cX9_undo 6 = .ok (.getfield 154, 3) := by decide +kernel
theorem dX9_undo_9 : decode cX9_undo 9 = .ok (.ifCond .ne 5, 3) := by decide +kernel
theorem dX9_undo_12 : decode cX9_undo 12 = .ok (.iconst (-1), 1) := by decide +kernel
theorem dX9_undo_13 : decode cX9_undo 13 = .ok (.ireturn, 1) := by decide +kernel
theorem dX9_undo_14 : decode cX9_undo 14 = .ok (.aload_n 0, 1) := by decide +kernel
theorem dX9_undo_15 : decode cX9_undo 15 = .ok (.dup, 1) := by decide +kernel
theorem dX9_undo_16 : decode cX9_undo 16 = .ok (.getfield 154, 3) := by decide +kernel
theorem dX9_undo_19 : decode cX9_undo 19 = .ok (.iconst 1, 1) := by decide +kernel
theorem dX9_undo_20 : decode cX9_undo 20 = .ok (.isub, 1) := by decide +kernel
theorem dX9_undo_21 : decode cX9_undo 21 = .ok (.putfield 154, 3) := by decide +kernel
theorem dX9_undo_24 : decode cX9_undo 24 = .ok (.aload_n 0, 1) := by decide +kernel
theorem dX9_undo_25 : decode cX9_undo 25 = .ok (.getfield 77, 3) := by decide +kernel
theorem dX9_undo_28 : decode cX9_undo 28 = .ok (.sipush 184, 3) := by decide +kernel
theorem dX9_undo_31 : decode cX9_undo 31 = .ok (.aload_n 0, 1) := by decide +kernel
theorem dX9_undo_32 : decode cX9_undo 32 = .ok (.getfield 154, 3) := by decide +kernel
theorem dX9_undo_35 : decode cX9_undo 35 = .ok (.imul, 1) := by decide +kernel
theorem dX9_undo_36 : decode cX9_undo 36 = .ok (.aload_n 0, 1) := by decide +kernel
theorem dX9_undo_37 : decode cX9_undo 37 = .ok (.getfield 68, 3) := by decide +kernel
theorem dX9_undo_40 : decode cX9_undo 40 = .ok (.iconst 0, 1) := by decide +kernel
theorem dX9_undo_41 : decode cX9_undo 41 = .ok (.invokestatic 150, 3) := by decide +kernel
theorem dX9_undo_44 : decode cX9_undo 44 = .ok (.aload_n 0, 1) := by decide +kernel
theorem dX9_undo_45 : decode cX9_undo 45 = .ok (.getfield 154, 3) := by decide +kernel
theorem dX9_undo_48 : decode cX9_undo 48 = .ok (.ireturn, 1) := by decide +kernel
set_option maxRecDepth 20000 in
theorem ggX9_image_X9_isIn : GoodIn wsX9_image wsX9_isIn := goodIn_r _ [8] (by decide +kernel) (by decide +kernel)
set_option maxRecDepth 20000 in
theorem gX9_image_X9_isIn : GoodIn wsX9_image (va_wsS RX9 118 yX9_isIn wsX9_isIn) := goodIn_app (goodIn_of _ (by decide +kernel)) ggX9_image_X9_isIn
set_option maxRecDepth 20000 in
theorem ggX9_image_X9_copy : GoodIn wsX9_image wsX9_copy := goodIn_r _ [11] (by decide +kernel) (by decide +kernel)
set_option maxRecDepth 20000 in
theorem gX9_image_X9_copy : GoodIn wsX9_image (va_wsS RX9 150 yX9_copy wsX9_copy) := goodIn_app (goodIn_of _ (by decide +kernel)) ggX9_image_X9_copy
theorem dX9_image_0 : decode cX9_image 0 = .ok (.aload_n 0, 1) := by decide +kernel
theorem dX9_image_1 : decode cX9_image 1 = .ok (.iconst 0, 1) := by decide +kernel
theorem dX9_image_2 : decode cX9_image 2 = .ok (.putfield 1, 3) := by decide +kernel
theorem dX9_image_5 : decode cX9_image 5 = .ok (.iload_n 1, 1) := by decide +kernel
theorem dX9_image_6 : decode cX9_image 6 = .ok (.iconst 0, 1) := by decide +kernel
theorem dX9_image_7 : decode cX9_image 7 = .ok (.iconst 1, 1) := by decide +kernel
theorem dX9_image_8 : decode cX9_image 8 = .ok (.invokestatic 118, 3) := by decide +kernel
theorem dX9_image_11 : decode cX9_image 11 = .ok (.ifCond .ne 5, 3) := by decide +kernel
theorem dX9_image_14 : decode cX9_image 14 = .ok (.iconst 0, 1) := by decide +kernel
theorem dX9_image_15 : decode cX9_image 15 = .ok (.ireturn, 1) := by decide +kernel
theorem dX9_image_16 : decode cX9_image 16 = .ok (.aload_n 0, 1) := by decide +kernel
theorem dX9_image_17 : decode cX9_image 17 = .ok (.getfield 68, 3) := by decide +kernel
theorem dX9_image_20 : decode cX9_image 20 = .ok (.iconst 0, 1) := by decide +kernel
theorem dX9_image_21 : decode cX9_image 21 = .ok (.aload_n 0, 1) := by decide +kernel
theorem dX9_image_22 : decode cX9_image 22 = .ok (.getfield 74, 3) := by decide +kernel
theorem dX9_image_25 : decode cX9_image 25 = .ok (.sipush 184, 3) := by decide +kernel
theorem dX9_image_28 : decode cX9_image 28 = .ok (.iload_n 1, 1) := by decide +kernel
theorem dX9_image_29 : decode cX9_image 29 = .ok (.imul, 1) := by decide +kernel
theorem dX9_image_30 : decode cX9_image 30 = .ok (.invokestatic 150, 3) := by decide +kernel
theorem dX9_image_33 : decode cX9_image 33 = .ok (.aload_n 0, 1) := by decide +kernel
theorem dX9_image_34 : decode cX9_image 34 = .ok (.getfield 89, 3) := by decide +kernel
theorem dX9_image_37 : decode cX9_image 37 = .ok (.iload_n 1, 1) := by decide +kernel
theorem dX9_image_38 : decode cX9_image 38 = .ok (.iconst 1, 1) := by decide +kernel
theorem dX9_image_39 : decode cX9_image 39 = .ok (.bastore, 1) := by decide +kernel
theorem dX9_image_40 : decode cX9_image 40 = .ok (.iconst 1, 1) := by decide +kernel
theorem dX9_image_41 : decode cX9_image 41 = .ok (.ireturn, 1) := by decide +kernel
set_option maxRecDepth 20000 in
theorem ggX9_restore_X9_isIn : GoodIn wsX9_restore wsX9_isIn := goodIn_r _ [9] (by decide +kernel) (by decide +kernel)
set_option maxRecDepth 20000 in
theorem gX9_restore_X9_isIn : GoodIn wsX9_restore (va_wsS RX9 118 yX9_isIn wsX9_isIn) := goodIn_app (goodIn_of _ (by decide +kernel)) ggX9_restore_X9_isIn
set_option maxRecDepth 20000 in
theorem ggX9_restore_X9_copy : GoodIn wsX9_restore wsX9_copy := goodIn_r _ [12] (by decide +kernel) (by decide +kernel)
set_option maxRecDepth 20000 in
theorem gX9_restore_X9_copy : GoodIn wsX9_restore (va_wsS RX9 150 yX9_copy wsX9_copy) := goodIn_app (goodIn_of _ (by decide +kernel)) ggX9_restore_X9_copy
theorem dX9_restore_0 : decode cX9_restore 0 = .ok (.aload_n 0, 1) := by decide +kernel
theorem dX9_restore_1 : decode cX9_restore 1 = .ok (.iconst 0, 1) := by decide +kernel
theorem dX9_restore_2 : decode cX9_restore 2 = .ok (.putfield 1, 3) := by decide +kernel
theorem dX9_restore_5 : decode cX9_restore 5 = .ok (.iload_n 1, 1) := by decide +kernel
theorem dX9_restore_6 : decode cX9_restore 6 = .ok (.iconst 0, 1) := by decide +kernel
theorem dX9_restore_7 : decode cX9_restore 7 = .ok (.iconst 1, 1) := by decide +kernel
theorem dX9_restore_8 : decode cX9_restore 8 = .ok (.invokestatic 118, 3) := by decide +kernel
theorem dX9_restore_11 : decode cX9_restore 11 = .ok (.ifCond .eq 12, 3) := by decide +kernel
theorem dX9_restore_14 : decode cX9_restore 14 = .ok (.aload_n 0, 1) := by decide +kernel
theorem dX9_restore_15 : decode cX9_restore 15 = .ok (.getfield 89, 3) := by decide +kernel
theorem dX9_restore_18 : decode cX9_restore 18 = .ok (.iload_n 1, 1) := by decide +kernel
theorem dX9_restore_19 : decode cX9_restore 19 = .ok (.baload, 1) := by decide +kernel
theorem dX9_restore_20 : decode cX9_restore 20 = .ok (.ifCond .ne 5, 3) := by decide +kernel
theorem dX9_restore_23 : decode cX9_restore 23 = .ok (.iconst 0, 1) := by decide +kernel
theorem dX9_restore_24 : decode cX9_restore 24 = .ok (.ireturn, 1) := by decide +kernel
theorem dX9_restore_25 : decode cX9_restore 25 = .ok (.aload_n 0, 1) := by decide +kernel
theorem dX9_restore_26 : decode cX9_restore 26 = .ok (.getfield 74, 3) := by decide +kernel
theorem dX9_restore_29 : decode cX9_restore 29 = .ok (.sipush 184, 3) := by decide +kernel
theorem dX9_restore_32 : decode cX9_restore 32 = .ok (.iload_n 1, 1) := by decide +kernel
theorem dX9_restore_33 : decode cX9_restore 33 = .ok (.imul, 1) := by decide +kernel
theorem dX9_restore_34 : decode cX9_restore 34 = .ok (.aload_n 0, 1) := by decide +kernel
theorem dX9_restore_35 : decode cX9_restore 35 = .ok (.getfield 68, 3) := by decide +kernel
theorem dX9_restore_38 : decode cX9_restore 38 = .ok (.iconst 0, 1) := by decide +kernel
theorem dX9_restore_39 : decode cX9_restore 39 = .ok (.invokestatic 150, 3) := by decide +kernel
theorem dX9_restore_42 : decode cX9_restore 42 = .ok (.aload_n 0, 1) := by decide +kernel
theorem dX9_restore_43 : decode cX9_restore 43 = .ok (.iconst 0, 1) := by decide +kernel
theorem dX9_restore_44 : decode cX9_restore 44 = .ok (.putfield 154, 3) := by decide +kernel
theorem dX9_restore_47 : decode cX9_restore 47 = .ok (.iconst 1, 1) := by decide +kernel
theorem dX9_restore_48 : decode cX9_restore 48 = .ok (.ireturn, 1) := by decide +kernel
theorem dJ6_bitCount_0f7a4_0 : decode cJ6_bitCount_0f7a4 0 = .ok (.iload_n 0, 1) := by decide +kernel
theorem dJ6_bitCount_0f7a4_1 : decode cJ6_bitCount_0f7a4 1 = .ok (.iload_n 0, 1) := by decide +kernel
theorem dJ6_bitCount_0f7a4_2 : decode cJ6_bitCount_0f7a4 2 = .ok (.iconst 1, 1) := by decide +kernel
theorem dJ6_bitCount_0f7a4_3 : decode cJ6_bitCount_0f7a4 3 = .ok (.iushr, 1) := by decide +kernel
theorem dJ6_bitCount_0f7a4_4 : decode cJ6_bitCount_0f7a4 4 = .ok (.ldc_w 265, 3) := by decide +kernel
theorem dJ6_bitCount_0f7a4_7 : decode cJ6_bitCount_0f7a4 7 = .ok (.iand, 1) := by decide +kernel
theorem dJ6_bitCount_0f7a4_8 : decode cJ6_bitCount_0f7a4 8 = .ok (.isub, 1) := by decide +kernel
theorem dJ6_bitCount_0f7a4_9 : decode cJ6_bitCount_0f7a4 9 = .ok (.istore_n 0, 1) := by decide +kernel
theorem dJ6_bitCount_0f7a4_10 : decode cJ6_bitCount_0f7a4 10 = .ok (.iload_n 0, 1) := by decide +kernel
theorem dJ6_bitCount_0f7a4_11 : decode cJ6_bitCount_0f7a4 11 = .ok (.ldc_w 266, 3) := by decide +kernel
theorem dJ6_bitCount_0f7a4_14 : decode cJ6_bitCount_0f7a4 14 = .ok (.iand, 1) := by decide +kernel
theorem dJ6_bitCount_0f7a4_15 : decode cJ6_bitCount_0f7a4 15 = .ok (.iload_n 0, 1) := by decide +kernel
theorem dJ6_bitCount_0f7a4_16 : decode cJ6_bitCount_0f7a4 16 = .ok (.iconst 2, 1) := by decide +kernel
theorem dJ6_bitCount_0f7a4_17 : decode cJ6_bitCount_0f7a4 17 = .ok (.iushr, 1) := by decide +kernel
theorem dJ6_bitCount_0f7a4_18 : decode cJ6_bitCount_0f7a4 18 = .ok (.ldc_w 266, 3) := by decide +kernel
theorem dJ6_bitCount_0f7a4_21 : decode cJ6_bitCount_0f7a4 21 = .ok (.iand, 1) := by decide +kernel
theorem dJ6_bitCount_0f7a4_22 : decode cJ6_bitCount_0f7a4 22 = .ok (.iadd, 1) := by decide +kernel
theorem dJ6_bitCount_0f7a4_23 : decode cJ6_bitCount_0f7a4 23 = .ok (.istore_n 0, 1) := by decide +kernel
theorem dJ6_bitCount_0f7a4_24 : decode cJ6_bitCount_0f7a4 24 = .ok (.iload_n 0, 1) := by decide +kernel
theorem dJ6_bitCount_0f7a4_25 : decode cJ6_bitCount_0f7a4 25 = .ok (.iload_n 0, 1) := by decide +kernel
theorem dJ6_bitCount_0f7a4_26 : decode cJ6_bitCount_0f7a4 26 = .ok (.iconst 4, 1) := by decide +kernel
theorem dJ6_bitCount_0f7a4_27 : decode cJ6_bitCount_0f7a4 27 = .ok (.iushr, 1) := by decide +kernel
theorem dJ6_bitCount_0f7a4_28 : decode cJ6_bitCount_0f7a4 28 = .ok (.iadd, 1) := by decide +kernel
theorem dJ6_bitCount_0f7a4_29 : decode cJ6_bitCount_0f7a4 29 = .ok (.ldc_w 267, 3) := by decide +kernel
theorem dJ6_bitCount_0f7a4_32 : decode cJ6_bitCount_0f7a4 32 = .ok (.iand, 1) := by decide +kernel
theorem dJ6_bitCount_0f7a4_33 : decode cJ6_bitCount_0f7a4 33 = .ok (.istore_n 0, 1) := by decide +kernel
theorem dJ6_bitCount_0f7a4_34 : decode cJ6_bitCount_0f7a4 34 = .ok (.iload_n 0, 1) := by decide +kernel
theorem dJ6_bitCount_0f7a4_35 : decode cJ6_bitCount_0f7a4 35 = .ok (.iload_n 0, 1) := by decide +kernel
theorem dJ6_bitCount_0f7a4_36 : decode cJ6_bitCount_0f7a4 36 = .ok (.bipush 8, 2) := by decide +kernel
theorem dJ6_bitCount_0f7a4_38 : decode cJ6_bitCount_0f7a4 38 = .ok (.iushr, 1) := by decide +kernel
theorem dJ6_bitCount_0f7a4_39 : decode cJ6_bitCount_0f7a4 39 = .ok (.iadd, 1) := by decide +kernel
theorem dJ6_bitCount_0f7a4_40 : decode cJ6_bitCount_0f7a4 40 = .ok (.istore_n 0, 1) := by decide +kernel
theorem dJ6_bitCount_0f7a4_41 : decode cJ6_bitCount_0f7a4 41 = .ok (.iload_n 0, 1) := by decide +kernel
theorem dJ6_bitCount_0f7a4_42 : decode cJ6_bitCount_0f7a4 42 = .ok (.iload_n 0, 1) := by decide +kernel
theorem dJ6_bitCount_0f7a4_43 : decode cJ6_bitCount_0f7a4 43 = .ok (.bipush 16, 2) := by decide +kernel
theorem dJ6_bitCount_0f7a4_45 : decode cJ6_bitCount_0f7a4 45 = .ok (.iushr, 1) := by decide +kernel
theorem dJ6_bitCount_0f7a4_46 : decode cJ6_bitCount_0f7a4 46 = .ok (.iadd, 1) := by decide +kernel
theorem dJ6_bitCount_0f7a4_47 : decode cJ6_bitCount_0f7a4 47 = .ok (.istore_n 0, 1) := by decide +kernel
theorem dJ6_bitCount_0f7a4_48 : decode cJ6_bitCount_0f7a4 48 = .ok (.iload_n 0, 1) := by decide +kernel
theorem dJ6_bitCount_0f7a4_49 : decode cJ6_bitCount_0f7a4 49 = .ok (.bipush 63, 2) := by decide +kernel
theorem dJ6_bitCount_0f7a4_51 : decode cJ6_bitCount_0f7a4 51 = .ok (.iand, 1) := by decide +kernel
theorem dJ6_bitCount_0f7a4_52 : decode cJ6_bitCount_0f7a4 52 = .ok (.ireturn, 1) := by decide +kernel
theorem dJ9_min_7cf53_0 : decode cJ9_min_7cf53 0 = .ok (.iload_n 0, 1) := by decide +kernel
theorem dJ9_min_7cf53_1 : decode cJ9_min_7cf53 1 = .ok (.iload_n 1, 1) := by decide +kernel
theorem dJ9_min_7cf53_2 : decode cJ9_min_7cf53 2 = .ok (.if_icmp .gt 7, 3) := by decide +kernel
theorem dJ9_min_7cf53_5 : decode cJ9_min_7cf53 5 = .ok (.iload_n 0, 1) := by decide +kernel
theorem dJ9_min_7cf53_6 : decode cJ9_min_7cf53 6 = .ok (.goto 4, 3) := by decide +kernel
theorem dJ9_min_7cf53_9 : decode cJ9_min_7cf53 9 = .ok (.iload_n 1, 1) := by decide +kernel
theorem dJ9_min_7cf53_10 : decode cJ9_min_7cf53 10 = .ok (.ireturn, 1) := by decide +kernel
set_option maxRecDepth 20000 in
theorem ggJ0_length_8abf5_J0_coder_7d493 : GoodIn wsJ0_length_8abf5 wsJ0_coder_7d493 := goodIn_r _ [6, 7, 8] (by decide +kernel) (by decide +kernel)
set_option maxRecDepth 20000 in
theorem gJ0_length_8abf5_J0_coder_7d493 : GoodIn wsJ0_length_8abf5 (wsV RJ0 335 RJ0 yJ0_coder_7d493 wsJ0_coder_7d493) := goodIn_app (goodIn_of _ (by decide +kernel)) ggJ0_length_8abf5_J0_coder_7d493
theorem dJ0_length_8abf5_0 : decode cJ0_length_8abf5 0 = .ok (.aload_n 0, 1) := by decide +kernel
theorem dJ0_length_8abf5_1 : decode cJ0_length_8abf5 1 = .ok (.getfield 9, 3) := by decide +kernel
theorem dJ0_length_8abf5_4 : decode cJ0_length_8abf5 4 = .ok (.arraylength, 1) := by decide +kernel
theorem dJ0_length_8abf5_5 : decode cJ0_length_8abf5 5 = .ok (.aload_n 0, 1) := by decide +kernel
theorem dJ0_length_8abf5_6 : decode cJ0_length_8abf5 6 = .ok (.invokevirtual 335, 3) := by decide +kernel
theorem dJ0_length_8abf5_9 : decode cJ0_length_8abf5 9 = .ok (.ishr, 1) := by decide +kernel
theorem dJ0_length_8abf5_10 : decode cJ0_length_8abf5 10 = .ok (.ireturn, 1) := by decide +kernel
set_option maxRecDepth 20000 in
theorem ggJ0_charAt_5068e_J0_isLatin1_aae02 : GoodIn wsJ0_charAt_5068e wsJ0_isLatin1_aae02 := goodIn_r _ [6, 7, 8] (by decide +kernel) (by decide +kernel)
set_option maxRecDepth 20000 in
theorem gJ0_charAt_5068e_J0_isLatin1_aae02 : GoodIn wsJ0_charAt_5068e (wsV RJ0 492 RJ0 yJ0_isLatin1_aae02 wsJ0_isLatin1_aae02) := goodIn_app (goodIn_of _ (by decide +kernel)) ggJ0_charAt_5068e_J0_isLatin1_aae02
set_option maxRecDepth 20000 in
theorem ggJ0_charAt_5068e_J1_charAt_3b067 : GoodIn wsJ0_charAt_5068e wsJ1_charAt_3b067 := goodIn_r _ [12, 13, 14, 5, 15, 16, 17, 18, 19, 20] (by decide +kernel) (by decide +kernel)
set_option maxRecDepth 20000 in
theorem gJ0_charAt_5068e_J1_charAt_3b067 : GoodIn wsJ0_charAt_5068e (va_wsS RJ0 495 yJ1_charAt_3b067 wsJ1_charAt_3b067) := goodIn_app (goodIn_of _ (by decide +kernel)) ggJ0_charAt_5068e_J1_charAt_3b067
set_option maxRecDepth 20000 in
theorem ggJ0_charAt_5068e_J2_charAt_3b067 : GoodIn wsJ0_charAt_5068e wsJ2_charAt_3b067 := goodIn_r _ [24, 25, 26, 23, 27, 28, 29, 30, 31, 14, 5, 15, 16, 17, 18, 19, 20, 32, 33, 34, 35, 36, 37] (by decide +kernel) (by decide +kernel)
set_option maxRecDepth 20000 in
theorem gJ0_charAt_5068e_J2_charAt_3b067 : GoodIn wsJ0_charAt_5068e (va_wsS RJ0 498 yJ2_charAt_3b067 wsJ2_charAt_3b067) := goodIn_app (goodIn_of _ (by decide +kernel)) ggJ0_charAt_5068e_J2_charAt_3b067
theorem dJ0_charAt_5068e_0 : decode cJ0_charAt_5068e 0 = .ok (.aload_n 0, 1) := by decide +kernel
theorem dJ0_charAt_5068e_1 : decode cJ0_charAt_5068e 1 = .ok (.invokevirtual 492, 3) := by decide +kernel
theorem dJ0_charAt_5068e_4 : decode cJ0_charAt_5068e 4 = .ok (.ifCond .eq 12, 3) := by decide +kernel
theorem dJ0_charAt_5068e_7 : decode cJ0_charAt_5068e 7 = .ok (.aload_n 0, 1) := by decide +kernel
theorem dJ0_charAt_5068e_8 : decode cJ0_charAt_5068e 8 = .ok (.getfield 9, 3) := by decide +kernel
theorem dJ0_charAt_5068e_11 : decode cJ0_charAt_5068e 11 = .ok (.iload_n 1, 1) := by decide +kernel
theorem dJ0_charAt_5068e_12 : decode cJ0_charAt_5068e 12 = .ok (.invokestatic 495, 3) := by decide +kernel
theorem dJ0_charAt_5068e_15 : decode cJ0_charAt_5068e 15 = .ok (.ireturn, 1) := by decide +kernel
theorem dJ0_charAt_5068e_16 : decode cJ0_charAt_5068e 16 = .ok (.aload_n 0, 1) := by decide +kernel
theorem dJ0_charAt_5068e_17 : decode cJ0_charAt_5068e 17 = .ok (.getfield 9, 3) := by decide +kernel
theorem dJ0_charAt_5068e_20 : decode cJ0_charAt_5068e 20 = .ok (.iload_n 1, 1) := by decide +kernel
theorem dJ0_charAt_5068e_21 : decode cJ0_charAt_5068e 21 = .ok (.invokestatic 498, 3) := by decide +kernel
theorem dJ0_charAt_5068e_24 : decode cJ0_charAt_5068e 24 = .ok (.ireturn, 1) := by decide +kernel
theorem dJ0_coder_7d493_0 : decode cJ0_coder_7d493 0 = .ok (.getstatic 38, 3) := by decide +kernel
theorem dJ0_coder_7d493_3 : decode cJ0_coder_7d493 3 = .ok (.ifCond .eq 10, 3) := by decide +kernel
theorem dJ0_coder_7d493_6 : decode cJ0_coder_7d493 6 = .ok (.aload_n 0, 1) := by decide +kernel
theorem dJ0_coder_7d493_7 : decode cJ0_coder_7d493 7 = .ok (.getfield 15, 3) := by decide +kernel
theorem dJ0_coder_7d493_10 : decode cJ0_coder_7d493 10 = .ok (.goto 4, 3) := by decide +kernel
theorem dJ0_coder_7d493_13 : decode cJ0_coder_7d493 13 = .ok (.iconst 1, 1) := by decide +kernel
theorem dJ0_coder_7d493_14 : decode cJ0_coder_7d493 14 = .ok (.ireturn, 1) := by decide +kernel
theorem dJ0_isLatin1_aae02_0 : decode cJ0_isLatin1_aae02 0 = .ok (.getstatic 38, 3) := by decide +kernel
theorem dJ0_isLatin1_aae02_3 : decode cJ0_isLatin1_aae02 3 = .ok (.ifCond .eq 14, 3) := by decide +kernel
theorem dJ0_isLatin1_aae02_6 : decode cJ0_isLatin1_aae02 6 = .ok (.aload_n 0, 1) := by decide +kernel
theorem dJ0_isLatin1_aae02_7 : decode cJ0_isLatin1_aae02 7 = .ok (.getfield 15, 3) := by decide +kernel
theorem dJ0_isLatin1_aae02_10 : decode cJ0_isLatin1_aae02 10 = .ok (.ifCond .ne 7, 3) := by decide +kernel
theorem dJ0_isLatin1_aae02_13 : decode cJ0_isLatin1_aae02 13 = .ok (.iconst 1, 1) := by decide +kernel
theorem dJ0_isLatin1_aae02_14 : decode cJ0_isLatin1_aae02 14 = .ok (.goto 4, 3) := by decide +kernel
theorem dJ0_isLatin1_aae02_17 : decode cJ0_isLatin1_aae02 17 = .ok (.iconst 0, 1) := by decide +kernel
theorem dJ0_isLatin1_aae02_18 : decode cJ0_isLatin1_aae02 18 = .ok (.ireturn, 1) := by decide +kernel
set_option maxRecDepth 20000 in
theorem ggJ0_checkIndex_df160_J3_checkIndex_8e157 : GoodIn wsJ0_checkIndex_df160 wsJ3_checkIndex_8e157 := goodIn_r _ [5] (by decide +kernel) (by decide +kernel)
set_option maxRecDepth 20000 in
theorem gJ0_checkIndex_df160_J3_checkIndex_8e157 : GoodIn wsJ0_checkIndex_df160 (va_wsS RJ0 1059 yJ3_checkIndex_8e157 wsJ3_checkIndex_8e157) := goodIn_app (goodIn_of _ (by decide +kernel)) ggJ0_checkIndex_df160_J3_checkIndex_8e157
theorem dJ0_checkIndex_df160_0 : decode cJ0_checkIndex_df160 0 = .ok (.iload_n 0, 1) := by decide +kernel
theorem dJ0_checkIndex_df160_1 : decode cJ0_checkIndex_df160 1 = .ok (.iload_n 1, 1) := by decide +kernel
theorem dJ0_checkIndex_df160_2 : decode cJ0_checkIndex_df160 2 = .ok (.getstatic 1053, 3) := by decide +kernel
theorem dJ0_checkIndex_df160_5 : decode cJ0_checkIndex_df160 5 = .ok (.invokestatic 1059, 3) := by decide +kernel
theorem dJ0_checkIndex_df160_8 : decode cJ0_checkIndex_df160 8 = .ok (.pop, 1) := by decide +kernel
theorem dJ0_checkIndex_df160_9 : decode cJ0_checkIndex_df160 9 = .ok (.return_, 1) := by decide +kernel
set_option maxRecDepth 20000 in
theorem ggJ1_charAt_3b067_J0_checkIndex_df160 : GoodIn wsJ1_charAt_3b067 wsJ0_checkIndex_df160 := goodIn_r _ [4, 5, 6, 7, 8, 9] (by decide +kernel) (by decide +kernel)
set_option maxRecDepth 20000 in
theorem gJ1_charAt_3b067_J0_checkIndex_df160 : GoodIn wsJ1_charAt_3b067 (va_wsS RJ1 9 yJ0_checkIndex_df160 wsJ0_checkIndex_df160) := goodIn_app (goodIn_of _ (by decide +kernel)) ggJ1_charAt_3b067_J0_checkIndex_df160
theorem dJ1_charAt_3b067_0 : decode cJ1_charAt_3b067 0 = .ok (.iload_n 1, 1) := by decide +kernel
theorem dJ1_charAt_3b067_1 : decode cJ1_charAt_3b067 1 = .ok (.aload_n 0, 1) := by decide +kernel
theorem dJ1_charAt_3b067_2 : decode cJ1_charAt_3b067 2 = .ok (.arraylength, 1) := by decide +kernel
theorem dJ1_charAt_3b067_3 : decode cJ1_charAt_3b067 3 = .ok (.invokestatic 9, 3) := by decide +kernel
theorem dJ1_charAt_3b067_6 : decode cJ1_charAt_3b067 6 = .ok (.aload_n 0, 1) := by decide +kernel
theorem dJ1_charAt_3b067_7 : decode cJ1_charAt_3b067 7 = .ok (.iload_n 1, 1) := by decide +kernel
theorem dJ1_charAt_3b067_8 : decode cJ1_charAt_3b067 8 = .ok (.baload, 1) := by decide +kernel
theorem dJ1_charAt_3b067_9 : decode cJ1_charAt_3b067 9 = .ok (.sipush 255, 3) := by decide +kernel
theorem dJ1_charAt_3b067_12 : decode cJ1_charAt_3b067 12 = .ok (.iand, 1) := by decide +kernel
theorem dJ1_charAt_3b067_13 : decode cJ1_charAt_3b067 13 = .ok (.i2c, 1) := by decide +kernel
theorem dJ1_charAt_3b067_14 : decode cJ1_charAt_3b067 14 = .ok (.ireturn, 1) := by decide +kernel
set_option maxRecDepth 20000 in
theorem ggJ2_getChar_3b067_J2_length_9d52b : GoodIn wsJ2_getChar_3b067 wsJ2_length_9d52b := goodIn_r _ [7] (by decide +kernel) (by decide +kernel)
set_option maxRecDepth 20000 in
theorem gJ2_getChar_3b067_J2_length_9d52b : GoodIn wsJ2_getChar_3b067 (va_wsS RJ2 48 yJ2_length_9d52b wsJ2_length_9d52b) := goodIn_app (goodIn_of _ (by decide +kernel)) ggJ2_getChar_3b067_J2_length_9d52b
theorem dJ2_getChar_3b067_0 : decode cJ2_getChar_3b067 0 = .ok (.getstatic 44, 3) := by decide +kernel
theorem dJ2_getChar_3b067_3 : decode cJ2_getChar_3b067 3 = .ok (.ifCond .ne 25, 3) := by decide +kernel
theorem dJ2_getChar_3b067_6 : decode cJ2_getChar_3b067 6 = .ok (.iload_n 1, 1) := by decide +kernel
theorem dJ2_getChar_3b067_7 : decode cJ2_getChar_3b067 7 = .ok (.ifCond .lt 11, 3) := by decide +kernel
theorem dJ2_getChar_3b067_10 : decode cJ2_getChar_3b067 10 = .ok (.iload_n 1, 1) := by decide +kernel
theorem dJ2_getChar_3b067_11 : decode cJ2_getChar_3b067 11 = .ok (.aload_n 0, 1) := by decide +kernel
theorem dJ2_getChar_3b067_12 : decode cJ2_getChar_3b067 12 = .ok (.invokestatic 48, 3) := by decide +kernel
theorem dJ2_getChar_3b067_15 : decode cJ2_getChar_3b067 15 = .ok (.if_icmp .lt 13, 3) := by decide +kernel
theorem dJ2_getChar_3b067_18 : decode cJ2_getChar_3b067 18 = .ok (.new 52, 3) := by decide +kernel
theorem dJ2_getChar_3b067_21 : decode cJ2_getChar_3b067 21 = .ok (.dup, 1) := by decide +kernel
theorem dJ2_getChar_3b067_22 : decode cJ2_getChar_3b067 22 = .ok (.ldc 54, 2) := by decide +kernel
theorem dJ2_getChar_3b067_24 : decode cJ2_getChar_3b067 24 = .ok (.invokespecial 56, 3) := by decide +kernel
theorem dJ2_getChar_3b067_27 : decode cJ2_getChar_3b067 27 = .ok (.athrow, 1) := by decide +kernel
theorem dJ2_getChar_3b067_28 : decode cJ2_getChar_3b067 28 = .ok (.iload_n 1, 1) := by decide +kernel
theorem dJ2_getChar_3b067_29 : decode cJ2_getChar_3b067 29 = .ok (.iconst 1, 1) := by decide +kernel
theorem dJ2_getChar_3b067_30 : decode cJ2_getChar_3b067 30 = .ok (.ishl, 1) := by decide +kernel
theorem dJ2_getChar_3b067_31 : decode cJ2_getChar_3b067 31 = .ok (.istore_n 1, 1) := by decide +kernel
theorem dJ2_getChar_3b067_32 : decode cJ2_getChar_3b067 32 = .ok (.aload_n 0, 1) := by decide +kernel
theorem dJ2_getChar_3b067_33 : decode cJ2_getChar_3b067 33 = .ok (.iload_n 1, 1) := by decide +kernel
theorem dJ2_getChar_3b067_34 : decode cJ2_getChar_3b067 34 = .ok (.iinc 1 1, 3) := by decide +kernel
theorem dJ2_getChar_3b067_37 : decode cJ2_getChar_3b067 37 = .ok (.baload, 1) := by decide +kernel
theorem dJ2_getChar_3b067_38 : decode cJ2_getChar_3b067 38 = .ok (.sipush 255, 3) := by decide +kernel
theorem dJ2_getChar_3b067_41 : decode cJ2_getChar_3b067 41 = .ok (.iand, 1) := by decide +kernel
theorem dJ2_getChar_3b067_42 : decode cJ2_getChar_3b067 42 = .ok (.getstatic 59, 3) := by decide +kernel
theorem dJ2_getChar_3b067_45 : decode cJ2_getChar_3b067 45 = .ok (.ishl, 1) := by decide +kernel
theorem dJ2_getChar_3b067_46 : decode cJ2_getChar_3b067 46 = .ok (.aload_n 0, 1) := by decide +kernel
theorem dJ2_getChar_3b067_47 : decode cJ2_getChar_3b067 47 = .ok (.iload_n 1, 1) := by decide +kernel
theorem dJ2_getChar_3b067_48 : decode cJ2_getChar_3b067 48 = .ok (.baload, 1) := by decide +kernel
theorem dJ2_getChar_3b067_49 : decode cJ2_getChar_3b067 49 = .ok (.sipush 255, 3) := by decide +kernel
theorem dJ2_getChar_3b067_52 : decode cJ2_getChar_3b067 52 = .ok (.iand, 1) := by decide +kernel
theorem dJ2_getChar_3b067_53 : decode cJ2_getChar_3b067 53 = .ok (.getstatic 63, 3) := by decide +kernel
theorem dJ2_getChar_3b067_56 : decode cJ2_getChar_3b067 56 = .ok (.ishl, 1) := by decide +kernel
theorem dJ2_getChar_3b067_57 : decode cJ2_getChar_3b067 57 = .ok (.ior, 1) := by decide +kernel
theorem dJ2_getChar_3b067_58 : decode cJ2_getChar_3b067 58 = .ok (.i2c, 1) := by decide +kernel
theorem dJ2_getChar_3b067_59 : decode cJ2_getChar_3b067 59 = .ok (.ireturn, 1) := by decide +kernel
theorem dJ2_length_9d52b_0 : decode cJ2_length_9d52b 0 = .ok (.aload_n 0, 1) := by decide +kernel
theorem dJ2_length_9d52b_1 : decode cJ2_length_9d52b 1 = .ok (.arraylength, 1) := by decide +kernel
theorem dJ2_length_9d52b_2 : decode cJ2_length_9d52b 2 = .ok (.iconst 1, 1) := by decide +kernel
theorem dJ2_length_9d52b_3 : decode cJ2_length_9d52b 3 = .ok (.ishr, 1) := by decide +kernel
theorem dJ2_length_9d52b_4 : decode cJ2_length_9d52b 4 = .ok (.ireturn, 1) := by decide +kernel
set_option maxRecDepth 20000 in
theorem ggJ2_charAt_3b067_J2_checkIndex_2214a : GoodIn wsJ2_charAt_3b067 wsJ2_checkIndex_2214a := goodIn_r _ [4, 5, 6, 3, 7, 8, 9, 10, 11, 12, 13, 14, 15, 16] (by decide +kernel) (by decide +kernel)
set_option maxRecDepth 20000 in
theorem gJ2_charAt_3b067_J2_checkIndex_2214a : GoodIn wsJ2_charAt_3b067 (va_wsS RJ2 67 yJ2_checkIndex_2214a wsJ2_checkIndex_2214a) := goodIn_app (goodIn_of _ (by decide +kernel)) ggJ2_charAt_3b067_J2_checkIndex_2214a
set_option maxRecDepth 20000 in
theorem ggJ2_charAt_3b067_J2_getChar_3b067 : GoodIn wsJ2_charAt_3b067 wsJ2_getChar_3b067 := goodIn_r _ [19, 20, 21, 22, 5, 6, 3, 7] (by decide +kernel) (by decide +kernel)
set_option maxRecDepth 20000 in
theorem gJ2_charAt_3b067_J2_getChar_3b067 : GoodIn wsJ2_charAt_3b067 (va_wsS RJ2 71 yJ2_getChar_3b067 wsJ2_getChar_3b067) := goodIn_app (goodIn_of _ (by decide +kernel)) ggJ2_charAt_3b067_J2_getChar_3b067
theorem dJ2_charAt_3b067_0 : decode cJ2_charAt_3b067 0 = .ok (.iload_n 1, 1) := by decide +kernel
theorem dJ2_charAt_3b067_1 : decode cJ2_charAt_3b067 1 = .ok (.aload_n 0, 1) := by decide +kernel
theorem dJ2_charAt_3b067_2 : decode cJ2_charAt_3b067 2 = .ok (.invokestatic 67, 3) := by decide +kernel
theorem dJ2_charAt_3b067_5 : decode cJ2_charAt_3b067 5 = .ok (.aload_n 0, 1) := by decide +kernel
theorem dJ2_charAt_3b067_6 : decode cJ2_charAt_3b067 6 = .ok (.iload_n 1, 1) := by decide +kernel
theorem dJ2_charAt_3b067_7 : decode cJ2_charAt_3b067 7 = .ok (.invokestatic 71, 3) := by decide +kernel
theorem dJ2_charAt_3b067_10 : decode cJ2_charAt_3b067 10 = .ok (.ireturn, 1) := by decide +kernel
set_option maxRecDepth 20000 in
theorem ggJ2_checkIndex_2214a_J2_length_9d52b : GoodIn wsJ2_checkIndex_2214a wsJ2_length_9d52b := goodIn_r _ [4] (by decide +kernel) (by decide +kernel)
set_option maxRecDepth 20000 in
theorem gJ2_checkIndex_2214a_J2_length_9d52b : GoodIn wsJ2_checkIndex_2214a (va_wsS RJ2 48 yJ2_length_9d52b wsJ2_length_9d52b) := goodIn_app (goodIn_of _ (by decide +kernel)) ggJ2_checkIndex_2214a_J2_length_9d52b
set_option maxRecDepth 20000 in
theorem ggJ2_checkIndex_2214a_J0_checkIndex_df160 : GoodIn wsJ2_checkIndex_2214a wsJ0_checkIndex_df160 := goodIn_r _ [8, 9, 10, 11, 12, 13] (by decide +kernel) (by decide +kernel)
set_option maxRecDepth 20000 in
theorem gJ2_checkIndex_2214a_J0_checkIndex_df160 : GoodIn wsJ2_checkIndex_2214a (va_wsS RJ2 414 yJ0_checkIndex_df160 wsJ0_checkIndex_df160) := goodIn_app (goodIn_of _ (by decide +kernel)) ggJ2_checkIndex_2214a_J0_checkIndex_df160
theorem dJ2_checkIndex_2214a_0 : decode cJ2_checkIndex_2214a 0 = .ok (.iload_n 0, 1) := by decide +kernel
theorem dJ2_checkIndex_2214a_1 : decode cJ2_checkIndex_2214a 1 = .ok (.aload_n 1, 1) := by decide +kernel
theorem dJ2_checkIndex_2214a_2 : decode cJ2_checkIndex_2214a 2 = .ok (.invokestatic 48, 3) := by decide +kernel
theorem dJ2_checkIndex_2214a_5 : decode cJ2_checkIndex_2214a 5 = .ok (.invokestatic 414, 3) := by decide +kernel
theorem dJ2_checkIndex_2214a_8 : decode cJ2_checkIndex_2214a 8 = .ok (.return_, 1) := by decide +kernel
theorem dJ3_checkIndex_8e157_0 : decode cJ3_checkIndex_8e157 0 = .ok (.iload_n 0, 1) := by decide +kernel
theorem dJ3_checkIndex_8e157_1 : decode cJ3_checkIndex_8e157 1 = .ok (.ifCond .lt 8, 3) := by decide +kernel
theorem dJ3_checkIndex_8e157_4 : decode cJ3_checkIndex_8e157 4 = .ok (.iload_n 0, 1) := by decide +kernel
theorem dJ3_checkIndex_8e157_5 : decode cJ3_checkIndex_8e157 5 = .ok (.iload_n 1, 1) := by decide +kernel
theorem dJ3_checkIndex_8e157_6 : decode cJ3_checkIndex_8e157 6 = .ok (.if_icmp .lt 10, 3) := by decide +kernel
theorem dJ3_checkIndex_8e157_9 : decode cJ3_checkIndex_8e157 9 = .ok (.aload_n 2, 1) := by decide +kernel
theorem dJ3_checkIndex_8e157_10 : decode cJ3_checkIndex_8e157 10 = .ok (.iload_n 0, 1) := by decide +kernel
theorem dJ3_checkIndex_8e157_11 : decode cJ3_checkIndex_8e157 11 = .ok (.iload_n 1, 1) := by decide +kernel
theorem dJ3_checkIndex_8e157_12 : decode cJ3_checkIndex_8e157 12 = .ok (.invokestatic 95, 3) := by decide +kernel
theorem dJ3_checkIndex_8e157_15 : decode cJ3_checkIndex_8e157 15 = .ok (.athrow, 1) := by decide +kernel
theorem dJ3_checkIndex_8e157_16 : decode cJ3_checkIndex_8e157 16 = .ok (.iload_n 0, 1) := by decide +kernel
theorem dJ3_checkIndex_8e157_17 : decode cJ3_checkIndex_8e157 17 = .ok (.ireturn, 1) := by decide +kernel
abbrev vwCl : List vw_C := [(RX0, TX0, 3), (RX1, TX1, 1), (RX2, TX2, 8), (RX3, TX3, 3), (RX4, TX4, 4), (RX5, TX5, 9), (RX6, TX6, 7), (RX7, TX7, 2), (RX8, TX8, 13), (RX9, TX9, 29)]
