theorem dX5_read_55 : decode cX5_read 55 = .ok (.invokevirtual 46, 3) := by decide +kernel
theorem dX5_read_58 : decode cX5_read 58 = .ok (.goto 8, 3) := by decide +kernel
theorem dX5_read_61 : decode cX5_read 61 = .ok (.aload_n 0, 1) := by decide +kernel
theorem dX5_read_62 : decode cX5_read 62 = .ok (.aload_n 1, 1) := by decide +kernel
theorem dX5_read_63 : decode cX5_read 63 = .ok (.invokevirtual 50, 3) := by decide +kernel
theorem dX5_read_66 : decode cX5_read 66 = .ok (.istore_n 3, 1) := by decide +kernel
theorem dX5_read_67 : decode cX5_read 67 = .ok (.iload_n 3, 1) := by decide +kernel
theorem dX5_read_68 : decode cX5_read 68 = .ok (.ifCond .ne 5, 3) := by decide +kernel
theorem dX5_read_71 : decode cX5_read 71 = .ok (.iconst 0, 1) := by decide +kernel
theorem dX5_read_72 : decode cX5_read 72 = .ok (.ireturn, 1) := by decide +kernel
theorem dX5_read_73 : decode cX5_read 73 = .ok (.iinc 2 1, 3) := by decide +kernel
theorem dX5_read_76 : decode cX5_read 76 = .ok (.goto (-41), 3) := by decide +kernel
theorem dX5_read_79 : decode cX5_read 79 = .ok (.iconst 1, 1) := by decide +kernel
theorem dX5_read_80 : decode cX5_read 80 = .ok (.ireturn, 1) := by decide +kernel
set_option maxRecDepth 20000 in
theorem ggX5_readTeams_X5_refuse : GoodIn wsX5_readTeams wsX5_refuse := goodIn_r _ [8, 9, 10, 11, 104, 105, 106, 107, 108, 109, 110, 111, 112] (by decide +kernel) (by decide +kernel)
set_option maxRecDepth 20000 in
theorem gX5_readTeams_X5_refuse : GoodIn wsX5_readTeams (wsV RX5 53 RX5 yX5_refuse wsX5_refuse) := goodIn_app (goodIn_of _ (by decide +kernel)) ggX5_readTeams_X5_refuse
set_option maxRecDepth 20000 in
theorem ggX5_readTeams_X5_step : GoodIn wsX5_readTeams wsX5_step := goodIn_r _ [15, 16, 17, 10, 1, 18, 19, 20, 21, 22, 23, 24, 25, 26, 7, 27, 28, 29, 30, 31, 2, 32, 33, 34, 35, 36, 37, 38, 39, 40, 41, 42, 43, 44, 45, 46, 47, 48, 49, 50, 51, 52, 53, 54, 55, 56, 57, 58, 59, 60, 61, 62, 63, 64, 65, 66, 67, 68, 69, 70, 71, 72, 73, 74, 75, 76, 77, 78, 79, 80, 81, 82, 83, 84, 85, 86, 87, 88, 89, 90, 91, 104, 105, 106, 107, 108, 109, 110, 111, 112, 113, 114] (by decide +kernel) (by decide +kernel)
set_option maxRecDepth 20000 in
theorem gX5_readTeams_X5_step : GoodIn wsX5_readTeams (wsV RX5 39 RX5 yX5_step wsX5_step) := goodIn_app (goodIn_of _ (by decide +kernel)) ggX5_readTeams_X5_step
set_option maxRecDepth 20000 in
theorem ggX5_readTeams_X3_clear : GoodIn wsX5_readTeams wsX3_clear := goodIn_r _ [96, 97, 98, 115, 116, 117] (by decide +kernel) (by decide +kernel)
set_option maxRecDepth 20000 in
theorem gX5_readTeams_X3_clear : GoodIn wsX5_readTeams (wsV RX5 22 RX3 yX3_clear wsX3_clear) := goodIn_app (goodIn_of _ (by decide +kernel)) ggX5_readTeams_X3_clear
set_option maxRecDepth 20000 in
theorem ggX5_readTeams_X5_readLineEnd : GoodIn wsX5_readTeams wsX5_readLineEnd := goodIn_r _ [102, 1, 103, 12, 13, 14, 7, 15, 16, 17, 10, 18, 19, 20, 21, 22, 23, 24, 25, 26, 27, 28, 29, 30, 31, 2, 32, 33, 34, 35, 36, 37, 38, 39, 40, 41, 42, 43, 44, 45, 46, 47, 48, 49, 50, 51, 52, 53, 54, 55, 56, 57, 58, 59, 60, 61, 62, 63, 64, 65, 66, 67, 68, 69, 70, 71, 72, 73, 74, 75, 76, 77, 78, 79, 80, 81, 82, 83, 84, 85, 86, 87, 88, 89, 90, 91, 4, 5, 6, 8, 9, 11, 104, 105, 106, 107, 108, 109, 110, 111, 112, 113, 114] (by decide +kernel) (by decide +kernel)
set_option maxRecDepth 20000 in
theorem gX5_readTeams_X5_readLineEnd : GoodIn wsX5_readTeams (wsV RX5 60 RX5 yX5_readLineEnd wsX5_readLineEnd) := goodIn_app (goodIn_of _ (by decide +kernel)) ggX5_readTeams_X5_readLineEnd
theorem dX5_readTeams_0 : decode cX5_readTeams 0 = .ok (.aload_n 0, 1) := by decide +kernel
theorem dX5_readTeams_1 : decode cX5_readTeams 1 = .ok (.getfield 43, 3) := by decide +kernel
theorem dX5_readTeams_4 : decode cX5_readTeams 4 = .ok (.iconst 4, 1) := by decide +kernel
theorem dX5_readTeams_5 : decode cX5_readTeams 5 = .ok (.if_icmp .eq 9, 3) := by decide +kernel
theorem dX5_readTeams_8 : decode cX5_readTeams 8 = .ok (.aload_n 0, 1) := by decide +kernel
theorem dX5_readTeams_9 : decode cX5_readTeams 9 = .ok (.iconst 1, 1) := by decide +kernel
theorem dX5_readTeams_10 : decode cX5_readTeams 10 = .ok (.invokevirtual 53, 3) := by decide +kernel
theorem dX5_readTeams_13 : decode cX5_readTeams 13 = .ok (.ireturn, 1) := by decide +kernel
theorem dX5_readTeams_14 : decode cX5_readTeams 14 = .ok (.aload_n 0, 1) := by decide +kernel
theorem dX5_readTeams_15 : decode cX5_readTeams 15 = .ok (.aload_n 1, 1) := by decide +kernel
theorem dX5_readTeams_16 : decode cX5_readTeams 16 = .ok (.invokevirtual 39, 3) := by decide +kernel
theorem dX5_readTeams_19 : decode cX5_readTeams 19 = .ok (.aload_n 0, 1) := by decide +kernel
theorem dX5_readTeams_20 : decode cX5_readTeams 20 = .ok (.getfield 43, 3) := by decide +kernel
theorem dX5_readTeams_23 : decode cX5_readTeams 23 = .ok (.iconst 3, 1) := by decide +kernel
theorem dX5_readTeams_24 : decode cX5_readTeams 24 = .ok (.if_icmp .eq 9, 3) := by decide +kernel
theorem dX5_readTeams_27 : decode cX5_readTeams 27 = .ok (.aload_n 0, 1) := by decide +kernel
theorem dX5_readTeams_28 : decode cX5_readTeams 28 = .ok (.iconst 1, 1) := by decide +kernel
theorem dX5_readTeams_29 : decode cX5_readTeams 29 = .ok (.invokevirtual 53, 3) := by decide +kernel
theorem dX5_readTeams_32 : decode cX5_readTeams 32 = .ok (.ireturn, 1) := by decide +kernel
theorem dX5_readTeams_33 : decode cX5_readTeams 33 = .ok (.aload_n 0, 1) := by decide +kernel
theorem dX5_readTeams_34 : decode cX5_readTeams 34 = .ok (.getfield 57, 3) := by decide +kernel
theorem dX5_readTeams_37 : decode cX5_readTeams 37 = .ok (.iconst 4, 1) := by decide +kernel
theorem dX5_readTeams_38 : decode cX5_readTeams 38 = .ok (.if_icmp .lt 21, 3) := by decide +kernel
theorem dX5_readTeams_41 : decode cX5_readTeams 41 = .ok (.aload_n 0, 1) := by decide +kernel
theorem dX5_readTeams_42 : decode cX5_readTeams 42 = .ok (.getfield 57, 3) := by decide +kernel
theorem dX5_readTeams_45 : decode cX5_readTeams 45 = .ok (.bipush 14, 2) := by decide +kernel
theorem dX5_readTeams_47 : decode cX5_readTeams 47 = .ok (.if_icmp .gt 12, 3) := by decide +kernel
theorem dX5_readTeams_50 : decode cX5_readTeams 50 = .ok (.aload_n 0, 1) := by decide +kernel
theorem dX5_readTeams_51 : decode cX5_readTeams 51 = .ok (.getfield 57, 3) := by decide +kernel
theorem dX5_readTeams_54 : decode cX5_readTeams 54 = .ok (.iconst 1, 1) := by decide +kernel
theorem dX5_readTeams_55 : decode cX5_readTeams 55 = .ok (.iand, 1) := by decide +kernel
theorem dX5_readTeams_56 : decode cX5_readTeams 56 = .ok (.ifCond .eq 9, 3) := by decide +kernel
theorem dX5_readTeams_59 : decode cX5_readTeams 59 = .ok (.aload_n 0, 1) := by decide +kernel
theorem dX5_readTeams_60 : decode cX5_readTeams 60 = .ok (.iconst 2, 1) := by decide +kernel
theorem dX5_readTeams_61 : decode cX5_readTeams 61 = .ok (.invokevirtual 53, 3) := by decide +kernel
theorem dX5_readTeams_64 : decode cX5_readTeams 64 = .ok (.ireturn, 1) := by decide +kernel
theorem dX5_readTeams_65 : decode cX5_readTeams 65 = .ok (.aload_n 0, 1) := by decide +kernel
theorem dX5_readTeams_66 : decode cX5_readTeams 66 = .ok (.getfield 12, 3) := by decide +kernel
theorem dX5_readTeams_69 : decode cX5_readTeams 69 = .ok (.aload_n 0, 1) := by decide +kernel
theorem dX5_readTeams_70 : decode cX5_readTeams 70 = .ok (.getfield 57, 3) := by decide +kernel
theorem dX5_readTeams_73 : decode cX5_readTeams 73 = .ok (.invokevirtual 22, 3) := by decide +kernel
theorem dX5_readTeams_76 : decode cX5_readTeams 76 = .ok (.aload_n 0, 1) := by decide +kernel
theorem dX5_readTeams_77 : decode cX5_readTeams 77 = .ok (.aload_n 1, 1) := by decide +kernel
theorem dX5_readTeams_78 : decode cX5_readTeams 78 = .ok (.invokevirtual 60, 3) := by decide +kernel
theorem dX5_readTeams_81 : decode cX5_readTeams 81 = .ok (.ireturn, 1) := by decide +kernel
set_option maxRecDepth 20000 in
theorem ggX5_readDay_X5_refuse : GoodIn wsX5_readDay wsX5_refuse := goodIn_r _ [11, 12, 13, 14, 133, 134, 135, 136, 137, 138, 139, 140, 141] (by decide +kernel) (by decide +kernel)
set_option maxRecDepth 20000 in
theorem gX5_readDay_X5_refuse : GoodIn wsX5_readDay (wsV RX5 53 RX5 yX5_refuse wsX5_refuse) := goodIn_app (goodIn_of _ (by decide +kernel)) ggX5_readDay_X5_refuse
set_option maxRecDepth 20000 in
theorem ggX5_readDay_X5_step : GoodIn wsX5_readDay wsX5_step := goodIn_r _ [18, 19, 20, 13, 1, 21, 22, 23, 24, 25, 26, 27, 28, 29, 10, 30, 31, 32, 33, 34, 5, 35, 36, 37, 38, 39, 40, 41, 42, 43, 44, 45, 46, 47, 48, 49, 50, 51, 52, 53, 54, 55, 56, 57, 58, 59, 60, 61, 62, 63, 64, 65, 66, 67, 68, 69, 70, 71, 72, 73, 74, 75, 76, 77, 78, 79, 80, 81, 82, 83, 84, 85, 86, 87, 88, 89, 90, 91, 92, 93, 94, 133, 134, 135, 136, 137, 138, 139, 140, 141, 145, 146] (by decide +kernel) (by decide +kernel)
set_option maxRecDepth 20000 in
theorem gX5_readDay_X5_step : GoodIn wsX5_readDay (wsV RX5 39 RX5 yX5_step wsX5_step) := goodIn_app (goodIn_of _ (by decide +kernel)) ggX5_readDay_X5_step
set_option maxRecDepth 20000 in
theorem ggX5_readDay_X5_readTeam : GoodIn wsX5_readDay wsX5_readTeam := goodIn_r _ [98, 1, 2, 5, 7, 8, 9, 10, 11, 12, 13, 14, 99, 100, 101, 102, 103, 104, 133, 134, 135, 136, 137, 138, 139, 140, 141, 142, 143, 144] (by decide +kernel) (by decide +kernel)
set_option maxRecDepth 20000 in
theorem gX5_readDay_X5_readTeam : GoodIn wsX5_readDay (wsV RX5 69 RX5 yX5_readTeam wsX5_readTeam) := goodIn_app (goodIn_of _ (by decide +kernel)) ggX5_readDay_X5_readTeam
set_option maxRecDepth 20000 in
theorem ggX5_readDay_X5_readPair : GoodIn wsX5_readDay wsX5_readPair := goodIn_r _ [108, 2, 6, 109, 110, 111, 102, 112, 113, 114, 115, 116, 117, 118, 104, 119, 7, 8, 9, 10, 11, 12, 13, 14, 133, 134, 135, 136, 137, 138, 139, 140, 141, 142, 143, 144] (by decide +kernel) (by decide +kernel)
set_option maxRecDepth 20000 in
theorem gX5_readDay_X5_readPair : GoodIn wsX5_readDay (wsV RX5 72 RX5 yX5_readPair wsX5_readPair) := goodIn_app (goodIn_of _ (by decide +kernel)) ggX5_readDay_X5_readPair
set_option maxRecDepth 20000 in
theorem ggX5_readDay_X5_readLineEnd : GoodIn wsX5_readDay wsX5_readLineEnd := goodIn_r _ [123, 1, 124, 15, 16, 17, 10, 18, 19, 20, 13, 21, 22, 23, 24, 25, 26, 27, 28, 29, 30, 31, 32, 33, 34, 5, 35, 36, 37, 38, 39, 40, 41, 42, 43, 44, 45, 46, 47, 48, 49, 50, 51, 52, 53, 54, 55, 56, 57, 58, 59, 60, 61, 62, 63, 64, 65, 66, 67, 68, 69, 70, 71, 72, 73, 74, 75, 76, 77, 78, 79, 80, 81, 82, 83, 84, 85, 86, 87, 88, 89, 90, 91, 92, 93, 94, 7, 8, 9, 11, 12, 14, 133, 134, 135, 136, 137, 138, 139, 140, 141, 145, 146] (by decide +kernel) (by decide +kernel)
set_option maxRecDepth 20000 in
theorem gX5_readDay_X5_readLineEnd : GoodIn wsX5_readDay (wsV RX5 60 RX5 yX5_readLineEnd wsX5_readLineEnd) := goodIn_app (goodIn_of _ (by decide +kernel)) ggX5_readDay_X5_readLineEnd
set_option maxRecDepth 20000 in
theorem ggX5_readDay_X3_append : GoodIn wsX5_readDay wsX3_append := goodIn_r _ [128, 113, 114, 129, 130, 131, 132, 142, 143, 144] (by decide +kernel) (by decide +kernel)
set_option maxRecDepth 20000 in
theorem gX5_readDay_X3_append : GoodIn wsX5_readDay (wsV RX5 76 RX3 yX3_append wsX3_append) := goodIn_app (goodIn_of _ (by decide +kernel)) ggX5_readDay_X3_append
theorem dX5_readDay_0 : decode cX5_readDay 0 = .ok (.aload_n 0, 1) := by decide +kernel
theorem dX5_readDay_1 : decode cX5_readDay 1 = .ok (.getfield 43, 3) := by decide +kernel
theorem dX5_readDay_4 : decode cX5_readDay 4 = .ok (.iconst 5, 1) := by decide +kernel
theorem dX5_readDay_5 : decode cX5_readDay 5 = .ok (.if_icmp .eq 9, 3) := by decide +kernel
theorem dX5_readDay_8 : decode cX5_readDay 8 = .ok (.aload_n 0, 1) := by decide +kernel
theorem dX5_readDay_9 : decode cX5_readDay 9 = .ok (.iconst 1, 1) := by decide +kernel
theorem dX5_readDay_10 : decode cX5_readDay 10 = .ok (.invokevirtual 53, 3) := by decide +kernel
theorem dX5_readDay_13 : decode cX5_readDay 13 = .ok (.ireturn, 1) := by decide +kernel
theorem dX5_readDay_14 : decode cX5_readDay 14 = .ok (.aload_n 0, 1) := by decide +kernel
theorem dX5_readDay_15 : decode cX5_readDay 15 = .ok (.getfield 12, 3) := by decide +kernel
theorem dX5_readDay_18 : decode cX5_readDay 18 = .ok (.getfield 63, 3) := by decide +kernel
theorem dX5_readDay_21 : decode cX5_readDay 21 = .ok (.aload_n 0, 1) := by decide +kernel
theorem dX5_readDay_22 : decode cX5_readDay 22 = .ok (.getfield 12, 3) := by decide +kernel
theorem dX5_readDay_25 : decode cX5_readDay 25 = .ok (.getfield 66, 3) := by decide +kernel
theorem dX5_readDay_28 : decode cX5_readDay 28 = .ok (.iconst 1, 1) := by decide +kernel
theorem dX5_readDay_29 : decode cX5_readDay 29 = .ok (.isub, 1) := by decide +kernel
theorem dX5_readDay_30 : decode cX5_readDay 30 = .ok (.if_icmp .lt 9, 3) := by decide +kernel
theorem dX5_readDay_33 : decode cX5_readDay 33 = .ok (.aload_n 0, 1) := by decide +kernel
theorem dX5_readDay_34 : decode cX5_readDay 34 = .ok (.iconst 4, 1) := by decide +kernel
theorem dX5_readDay_35 : decode cX5_readDay 35 = .ok (.invokevirtual 53, 3) := by decide +kernel
theorem dX5_readDay_38 : decode cX5_readDay 38 = .ok (.ireturn, 1) := by decide +kernel
theorem dX5_readDay_39 : decode cX5_readDay 39 = .ok (.iconst 0, 1) := by decide +kernel
theorem dX5_readDay_40 : decode cX5_readDay 40 = .ok (.istore_n 2, 1) := by decide +kernel
theorem dX5_readDay_41 : decode cX5_readDay 41 = .ok (.iconst 0, 1) := by decide +kernel
theorem dX5_readDay_42 : decode cX5_readDay 42 = .ok (.istore_n 3, 1) := by decide +kernel
theorem dX5_readDay_43 : decode cX5_readDay 43 = .ok (.iconst 0, 1) := by decide +kernel
theorem dX5_readDay_44 : decode cX5_readDay 44 = .ok (.istore 4, 2) := by decide +kernel
theorem dX5_readDay_46 : decode cX5_readDay 46 = .ok (.iload 4, 2) := by decide +kernel
theorem dX5_readDay_48 : decode cX5_readDay 48 = .ok (.aload_n 0, 1) := by decide +kernel
theorem dX5_readDay_49 : decode cX5_readDay 49 = .ok (.getfield 12, 3) := by decide +kernel
theorem dX5_readDay_52 : decode cX5_readDay 52 = .ok (.getfield 66, 3) := by decide +kernel
theorem dX5_readDay_55 : decode cX5_readDay 55 = .ok (.if_icmp .ge 62, 3) := by decide +kernel
theorem dX5_readDay_58 : decode cX5_readDay 58 = .ok (.aload_n 0, 1) := by decide +kernel
theorem dX5_readDay_59 : decode cX5_readDay 59 = .ok (.aload_n 1, 1) := by decide +kernel
theorem dX5_readDay_60 : decode cX5_readDay 60 = .ok (.invokevirtual 39, 3) := by decide +kernel
theorem dX5_readDay_63 : decode cX5_readDay 63 = .ok (.aload_n 0, 1) := by decide +kernel
theorem dX5_readDay_64 : decode cX5_readDay 64 = .ok (.iload_n 2, 1) := by decide +kernel
theorem dX5_readDay_65 : decode cX5_readDay 65 = .ok (.invokevirtual 69, 3) := by decide +kernel
theorem dX5_readDay_68 : decode cX5_readDay 68 = .ok (.ifCond .ne 5, 3) := by decide +kernel
theorem dX5_readDay_71 : decode cX5_readDay 71 = .ok (.iconst 0, 1) := by decide +kernel
theorem dX5_readDay_72 : decode cX5_readDay 72 = .ok (.ireturn, 1) := by decide +kernel
theorem dX5_readDay_73 : decode cX5_readDay 73 = .ok (.iload_n 2, 1) := by decide +kernel
theorem dX5_readDay_74 : decode cX5_readDay 74 = .ok (.iconst 1, 1) := by decide +kernel
theorem dX5_readDay_75 : decode cX5_readDay 75 = .ok (.aload_n 0, 1) := by decide +kernel
theorem dX5_readDay_76 : decode cX5_readDay 76 = .ok (.getfield 57, 3) := by decide +kernel
theorem dX5_readDay_79 : decode cX5_readDay 79 = .ok (.ishl, 1) := by decide +kernel
theorem dX5_readDay_80 : decode cX5_readDay 80 = .ok (.ior, 1) := by decide +kernel
theorem dX5_readDay_81 : decode cX5_readDay 81 = .ok (.istore_n 2, 1) := by decide +kernel
theorem dX5_readDay_82 : decode cX5_readDay 82 = .ok (.iload 4, 2) := by decide +kernel
theorem dX5_readDay_84 : decode cX5_readDay 84 = .ok (.iconst 1, 1) := by decide +kernel
theorem dX5_readDay_85 : decode cX5_readDay 85 = .ok (.iand, 1) := by decide +kernel
theorem dX5_readDay_86 : decode cX5_readDay 86 = .ok (.ifCond .ne 11, 3) := by decide +kernel
theorem dX5_readDay_89 : decode cX5_readDay 89 = .ok (.aload_n 0, 1) := by decide +kernel
theorem dX5_readDay_90 : decode cX5_readDay 90 = .ok (.getfield 57, 3) := by decide +kernel
theorem dX5_readDay_93 : decode cX5_readDay 93 = .ok (.istore_n 3, 1) := by decide +kernel
theorem dX5_readDay_94 : decode cX5_readDay 94 = .ok (.goto 17, 3) := by decide +kernel
theorem dX5_readDay_97 : decode cX5_readDay 97 = .ok (.aload_n 0, 1) := by decide +kernel
theorem dX5_readDay_98 : decode cX5_readDay 98 = .ok (.iload_n 3, 1) := by decide +kernel
theorem dX5_readDay_99 : decode cX5_readDay 99 = .ok (.aload_n 0, 1) := by decide +kernel
theorem dX5_readDay_100 : decode cX5_readDay 100 = .ok (.getfield 57, 3) := by decide +kernel
theorem dX5_readDay_103 : decode cX5_readDay 103 = .ok (.invokevirtual 72, 3) := by decide +kernel
theorem dX5_readDay_106 : decode cX5_readDay 106 = .ok (.ifCond .ne 5, 3) := by decide +kernel
theorem dX5_readDay_109 : decode cX5_readDay 109 = .ok (.iconst 0, 1) := by decide +kernel
theorem dX5_readDay_110 : decode cX5_readDay 110 = .ok (.ireturn, 1) := by decide +kernel
theorem dX5_readDay_111 : decode cX5_readDay 111 = .ok (.iinc 4 1, 3) := by decide +kernel
theorem dX5_readDay_114 : decode cX5_readDay 114 = .ok (.goto (-68), 3) := by decide +kernel
theorem dX5_readDay_117 : decode cX5_readDay 117 = .ok (.aload_n 0, 1) := by decide +kernel
theorem dX5_readDay_118 : decode cX5_readDay 118 = .ok (.aload_n 1, 1) := by decide +kernel
theorem dX5_readDay_119 : decode cX5_readDay 119 = .ok (.invokevirtual 60, 3) := by decide +kernel
theorem dX5_readDay_122 : decode cX5_readDay 122 = .ok (.ifCond .ne 5, 3) := by decide +kernel
theorem dX5_readDay_125 : decode cX5_readDay 125 = .ok (.iconst 0, 1) := by decide +kernel
theorem dX5_readDay_126 : decode cX5_readDay 126 = .ok (.ireturn, 1) := by decide +kernel
theorem dX5_readDay_127 : decode cX5_readDay 127 = .ok (.aload_n 0, 1) := by decide +kernel
theorem dX5_readDay_128 : decode cX5_readDay 128 = .ok (.getfield 12, 3) := by decide +kernel
theorem dX5_readDay_131 : decode cX5_readDay 131 = .ok (.aload_n 0, 1) := by decide +kernel
theorem dX5_readDay_132 : decode cX5_readDay 132 = .ok (.getfield 18, 3) := by decide +kernel
theorem dX5_readDay_135 : decode cX5_readDay 135 = .ok (.invokevirtual 76, 3) := by decide +kernel
theorem dX5_readDay_138 : decode cX5_readDay 138 = .ok (.iconst 1, 1) := by decide +kernel
theorem dX5_readDay_139 : decode cX5_readDay 139 = .ok (.ireturn, 1) := by decide +kernel
set_option maxRecDepth 20000 in
theorem ggX5_readTeam_X5_refuse : GoodIn wsX5_readTeam wsX5_refuse := goodIn_r _ [8, 9, 10, 11, 18, 19, 20, 21, 22, 23, 24, 25, 26] (by decide +kernel) (by decide +kernel)
set_option maxRecDepth 20000 in
theorem gX5_readTeam_X5_refuse : GoodIn wsX5_readTeam (wsV RX5 53 RX5 yX5_refuse wsX5_refuse) := goodIn_app (goodIn_of _ (by decide +kernel)) ggX5_readTeam_X5_refuse
set_option maxRecDepth 20000 in
theorem ggX5_readTeam_X3_hasTeam : GoodIn wsX5_readTeam wsX3_hasTeam := goodIn_r _ [16, 17, 27, 28, 29] (by decide +kernel) (by decide +kernel)
set_option maxRecDepth 20000 in
theorem gX5_readTeam_X3_hasTeam : GoodIn wsX5_readTeam (wsV RX5 80 RX3 yX3_hasTeam wsX3_hasTeam) := goodIn_app (goodIn_of _ (by decide +kernel)) ggX5_readTeam_X3_hasTeam
theorem dX5_readTeam_0 : decode cX5_readTeam 0 = .ok (.aload_n 0, 1) := by decide +kernel
theorem dX5_readTeam_1 : decode cX5_readTeam 1 = .ok (.getfield 43, 3) := by decide +kernel
theorem dX5_readTeam_4 : decode cX5_readTeam 4 = .ok (.iconst 3, 1) := by decide +kernel
theorem dX5_readTeam_5 : decode cX5_readTeam 5 = .ok (.if_icmp .eq 9, 3) := by decide +kernel
theorem dX5_readTeam_8 : decode cX5_readTeam 8 = .ok (.aload_n 0, 1) := by decide +kernel
theorem dX5_readTeam_9 : decode cX5_readTeam 9 = .ok (.iconst 1, 1) := by decide +kernel
theorem dX5_readTeam_10 : decode cX5_readTeam 10 = .ok (.invokevirtual 53, 3) := by decide +kernel
theorem dX5_readTeam_13 : decode cX5_readTeam 13 = .ok (.ireturn, 1) := by decide +kernel
theorem dX5_readTeam_14 : decode cX5_readTeam 14 = .ok (.aload_n 0, 1) := by decide +kernel
theorem dX5_readTeam_15 : decode cX5_readTeam 15 = .ok (.getfield 12, 3) := by decide +kernel
theorem dX5_readTeam_18 : decode cX5_readTeam 18 = .ok (.aload_n 0, 1) := by decide +kernel
theorem dX5_readTeam_19 : decode cX5_readTeam 19 = .ok (.getfield 57, 3) := by decide +kernel
theorem dX5_readTeam_22 : decode cX5_readTeam 22 = .ok (.invokevirtual 80, 3) := by decide +kernel
theorem dX5_readTeam_25 : decode cX5_readTeam 25 = .ok (.ifCond .ne 9, 3) := by decide +kernel
theorem dX5_readTeam_28 : decode cX5_readTeam 28 = .ok (.aload_n 0, 1) := by decide +kernel
theorem dX5_readTeam_29 : decode cX5_readTeam 29 = .ok (.iconst 2, 1) := by decide +kernel
theorem dX5_readTeam_30 : decode cX5_readTeam 30 = .ok (.invokevirtual 53, 3) := by decide +kernel
theorem dX5_readTeam_33 : decode cX5_readTeam 33 = .ok (.ireturn, 1) := by decide +kernel
theorem dX5_readTeam_34 : decode cX5_readTeam 34 = .ok (.iload_n 1, 1) := by decide +kernel
theorem dX5_readTeam_35 : decode cX5_readTeam 35 = .ok (.aload_n 0, 1) := by decide +kernel
theorem dX5_readTeam_36 : decode cX5_readTeam 36 = .ok (.getfield 57, 3) := by decide +kernel
theorem dX5_readTeam_39 : decode cX5_readTeam 39 = .ok (.ishr, 1) := by decide +kernel
theorem dX5_readTeam_40 : decode cX5_readTeam 40 = .ok (.iconst 1, 1) := by decide +kernel
theorem dX5_readTeam_41 : decode cX5_readTeam 41 = .ok (.iand, 1) := by decide +kernel
theorem dX5_readTeam_42 : decode cX5_readTeam 42 = .ok (.ifCond .eq 11, 3) := by decide +kernel
theorem dX5_readTeam_45 : decode cX5_readTeam 45 = .ok (.aload_n 0, 1) := by decide +kernel
theorem dX5_readTeam_46 : decode cX5_readTeam 46 = .ok (.iconst 3, 1) := by decide +kernel
theorem dX5_readTeam_47 : decode cX5_readTeam 47 = .ok (.invokevirtual 53, 3) := by decide +kernel
theorem dX5_readTeam_50 : decode cX5_readTeam 50 = .ok (.ifCond .eq 7, 3) := by decide +kernel
theorem dX5_readTeam_53 : decode cX5_readTeam 53 = .ok (.iconst 1, 1) := by decide +kernel
theorem dX5_readTeam_54 : decode cX5_readTeam 54 = .ok (.goto 4, 3) := by decide +kernel
theorem dX5_readTeam_57 : decode cX5_readTeam 57 = .ok (.iconst 0, 1) := by decide +kernel
theorem dX5_readTeam_58 : decode cX5_readTeam 58 = .ok (.ireturn, 1) := by decide +kernel
set_option maxRecDepth 20000 in
theorem ggX5_readPair_X3_dayOf : GoodIn wsX5_readPair wsX3_dayOf := goodIn_r _ [7, 8, 9, 10, 11, 12, 6, 13, 14, 33, 34, 35] (by decide +kernel) (by decide +kernel)
set_option maxRecDepth 20000 in
theorem gX5_readPair_X3_dayOf : GoodIn wsX5_readPair (wsV RX5 83 RX3 yX3_dayOf wsX3_dayOf) := goodIn_app (goodIn_of _ (by decide +kernel)) ggX5_readPair_X3_dayOf
set_option maxRecDepth 20000 in
theorem ggX5_readPair_X3_hasTwoTeams : GoodIn wsX5_readPair wsX3_hasTwoTeams := goodIn_r _ [13, 14, 33, 34, 35] (by decide +kernel) (by decide +kernel)
set_option maxRecDepth 20000 in
theorem gX5_readPair_X3_hasTwoTeams : GoodIn wsX5_readPair (wsV RX5 87 RX3 yX3_hasTwoTeams wsX3_hasTwoTeams) := goodIn_app (goodIn_of _ (by decide +kernel)) ggX5_readPair_X3_hasTwoTeams
set_option maxRecDepth 20000 in
theorem ggX5_readPair_X5_refuse : GoodIn wsX5_readPair wsX5_refuse := goodIn_r _ [20, 21, 22, 23, 24, 25, 26, 27, 28, 29, 30, 31, 32] (by decide +kernel) (by decide +kernel)
set_option maxRecDepth 20000 in
theorem gX5_readPair_X5_refuse : GoodIn wsX5_readPair (wsV RX5 53 RX5 yX5_refuse wsX5_refuse) := goodIn_app (goodIn_of _ (by decide +kernel)) ggX5_readPair_X5_refuse
theorem dX5_readPair_0 : decode cX5_readPair 0 = .ok (.aload_n 0, 1) := by decide +kernel
theorem dX5_readPair_1 : decode cX5_readPair 1 = .ok (.getfield 12, 3) := by decide +kernel
theorem dX5_readPair_4 : decode cX5_readPair 4 = .ok (.iload_n 1, 1) := by decide +kernel
theorem dX5_readPair_5 : decode cX5_readPair 5 = .ok (.iload_n 2, 1) := by decide +kernel
theorem dX5_readPair_6 : decode cX5_readPair 6 = .ok (.invokevirtual 83, 3) := by decide +kernel
theorem dX5_readPair_9 : decode cX5_readPair 9 = .ok (.iconst (-1), 1) := by decide +kernel
theorem dX5_readPair_10 : decode cX5_readPair 10 = .ok (.if_icmp .ne 15, 3) := by decide +kernel
theorem dX5_readPair_13 : decode cX5_readPair 13 = .ok (.aload_n 0, 1) := by decide +kernel
theorem dX5_readPair_14 : decode cX5_readPair 14 = .ok (.getfield 12, 3) := by decide +kernel
theorem dX5_readPair_17 : decode cX5_readPair 17 = .ok (.iload_n 1, 1) := by decide +kernel
theorem dX5_readPair_18 : decode cX5_readPair 18 = .ok (.iload_n 2, 1) := by decide +kernel
theorem dX5_readPair_19 : decode cX5_readPair 19 = .ok (.invokevirtual 87, 3) := by decide +kernel
theorem dX5_readPair_22 : decode cX5_readPair 22 = .ok (.ifCond .ne 9, 3) := by decide +kernel
theorem dX5_readPair_25 : decode cX5_readPair 25 = .ok (.aload_n 0, 1) := by decide +kernel
theorem dX5_readPair_26 : decode cX5_readPair 26 = .ok (.iconst 3, 1) := by decide +kernel
theorem dX5_readPair_27 : decode cX5_readPair 27 = .ok (.invokevirtual 53, 3) := by decide +kernel
theorem dX5_readPair_30 : decode cX5_readPair 30 = .ok (.ireturn, 1) := by decide +kernel
theorem dX5_readPair_31 : decode cX5_readPair 31 = .ok (.aload_n 0, 1) := by decide +kernel
theorem dX5_readPair_32 : decode cX5_readPair 32 = .ok (.getfield 18, 3) := by decide +kernel
theorem dX5_readPair_35 : decode cX5_readPair 35 = .ok (.iload_n 1, 1) := by decide +kernel
theorem dX5_readPair_36 : decode cX5_readPair 36 = .ok (.iload_n 2, 1) := by decide +kernel
theorem dX5_readPair_37 : decode cX5_readPair 37 = .ok (.iastore, 1) := by decide +kernel
theorem dX5_readPair_38 : decode cX5_readPair 38 = .ok (.aload_n 0, 1) := by decide +kernel
theorem dX5_readPair_39 : decode cX5_readPair 39 = .ok (.getfield 18, 3) := by decide +kernel
theorem dX5_readPair_42 : decode cX5_readPair 42 = .ok (.iload_n 2, 1) := by decide +kernel
theorem dX5_readPair_43 : decode cX5_readPair 43 = .ok (.iload_n 1, 1) := by decide +kernel
theorem dX5_readPair_44 : decode cX5_readPair 44 = .ok (.iastore, 1) := by decide +kernel
theorem dX5_readPair_45 : decode cX5_readPair 45 = .ok (.iconst 1, 1) := by decide +kernel
theorem dX5_readPair_46 : decode cX5_readPair 46 = .ok (.ireturn, 1) := by decide +kernel
set_option maxRecDepth 20000 in
theorem ggX5_readLineEnd_X5_step : GoodIn wsX5_readLineEnd wsX5_step := goodIn_r _ [7, 8, 9, 10, 1, 11, 12, 13, 14, 15, 16, 17, 18, 19, 6, 20, 21, 22, 23, 24, 25, 26, 27, 28, 29, 30, 31, 32, 33, 34, 35, 36, 37, 38, 39, 40, 41, 42, 43, 44, 45, 46, 47, 48, 49, 50, 51, 52, 53, 54, 55, 56, 57, 58, 59, 60, 61, 62, 63, 64, 65, 66, 67, 68, 69, 70, 71, 72, 73, 74, 75, 76, 77, 78, 79, 80, 81, 82, 83, 84, 85, 92, 93, 94, 95, 96, 97, 98, 99, 100, 101, 102] (by decide +kernel) (by decide +kernel)
set_option maxRecDepth 20000 in
theorem gX5_readLineEnd_X5_step : GoodIn wsX5_readLineEnd (wsV RX5 39 RX5 yX5_step wsX5_step) := goodIn_app (goodIn_of _ (by decide +kernel)) ggX5_readLineEnd_X5_step
set_option maxRecDepth 20000 in
theorem ggX5_readLineEnd_X5_refuse : GoodIn wsX5_readLineEnd wsX5_refuse := goodIn_r _ [89, 90, 10, 91, 92, 93, 94, 95, 96, 97, 98, 99, 100] (by decide +kernel) (by decide +kernel)
set_option maxRecDepth 20000 in
theorem gX5_readLineEnd_X5_refuse : GoodIn wsX5_readLineEnd (wsV RX5 53 RX5 yX5_refuse wsX5_refuse) := goodIn_app (goodIn_of _ (by decide +kernel)) ggX5_readLineEnd_X5_refuse
theorem dX5_readLineEnd_0 : decode cX5_readLineEnd 0 = .ok (.aload_n 0, 1) := by decide +kernel
theorem dX5_readLineEnd_1 : decode cX5_readLineEnd 1 = .ok (.aload_n 1, 1) := by decide +kernel
theorem dX5_readLineEnd_2 : decode cX5_readLineEnd 2 = .ok (.invokevirtual 39, 3) := by decide +kernel
theorem dX5_readLineEnd_5 : decode cX5_readLineEnd 5 = .ok (.aload_n 0, 1) := by decide +kernel
theorem dX5_readLineEnd_6 : decode cX5_readLineEnd 6 = .ok (.getfield 43, 3) := by decide +kernel
theorem dX5_readLineEnd_9 : decode cX5_readLineEnd 9 = .ok (.iconst 2, 1) := by decide +kernel
theorem dX5_readLineEnd_10 : decode cX5_readLineEnd 10 = .ok (.if_icmp .eq 9, 3) := by decide +kernel
theorem dX5_readLineEnd_13 : decode cX5_readLineEnd 13 = .ok (.aload_n 0, 1) := by decide +kernel
theorem dX5_readLineEnd_14 : decode cX5_readLineEnd 14 = .ok (.iconst 1, 1) := by decide +kernel
theorem dX5_readLineEnd_15 : decode cX5_readLineEnd 15 = .ok (.invokevirtual 53, 3) := by decide +kernel
theorem dX5_readLineEnd_18 : decode cX5_readLineEnd 18 = .ok (.ireturn, 1) := by decide +kernel
theorem dX5_readLineEnd_19 : decode cX5_readLineEnd 19 = .ok (.aload_n 0, 1) := by decide +kernel
theorem dX5_readLineEnd_20 : decode cX5_readLineEnd 20 = .ok (.dup, 1) := by decide +kernel
theorem dX5_readLineEnd_21 : decode cX5_readLineEnd 21 = .ok (.getfield 26, 3) := by decide +kernel
theorem dX5_readLineEnd_24 : decode cX5_readLineEnd 24 = .ok (.iconst 1, 1) := by decide +kernel
theorem dX5_readLineEnd_25 : decode cX5_readLineEnd 25 = .ok (.iadd, 1) := by decide +kernel
theorem dX5_readLineEnd_26 : decode cX5_readLineEnd 26 = .ok (.putfield 26, 3) := by decide +kernel
theorem dX5_readLineEnd_29 : decode cX5_readLineEnd 29 = .ok (.aload_n 0, 1) := by decide +kernel
theorem dX5_readLineEnd_30 : decode cX5_readLineEnd 30 = .ok (.aload_n 1, 1) := by decide +kernel
theorem dX5_readLineEnd_31 : decode cX5_readLineEnd 31 = .ok (.invokevirtual 39, 3) := by decide +kernel
theorem dX5_readLineEnd_34 : decode cX5_readLineEnd 34 = .ok (.iconst 1, 1) := by decide +kernel
theorem dX5_readLineEnd_35 : decode cX5_readLineEnd 35 = .ok (.ireturn, 1) := by decide +kernel
theorem dX5_refuse_0 : decode cX5_refuse 0 = .ok (.aload_n 0, 1) := by decide +kernel
theorem dX5_refuse_1 : decode cX5_refuse 1 = .ok (.iload_n 1, 1) := by decide +kernel
theorem dX5_refuse_2 : decode cX5_refuse 2 = .ok (.putfield 30, 3) := by decide +kernel
theorem dX5_refuse_5 : decode cX5_refuse 5 = .ok (.aload_n 0, 1) := by decide +kernel
theorem dX5_refuse_6 : decode cX5_refuse 6 = .ok (.aload_n 0, 1) := by decide +kernel
theorem dX5_refuse_7 : decode cX5_refuse 7 = .ok (.getfield 90, 3) := by decide +kernel
theorem dX5_refuse_10 : decode cX5_refuse 10 = .ok (.putfield 33, 3) := by decide +kernel
theorem dX5_refuse_13 : decode cX5_refuse 13 = .ok (.iconst 0, 1) := by decide +kernel
theorem dX5_refuse_14 : decode cX5_refuse 14 = .ok (.ireturn, 1) := by decide +kernel
set_option maxRecDepth 20000 in
theorem ggX5_step_X7_at : GoodIn wsX5_step wsX7_at := goodIn_r _ [9, 10, 11, 90, 91] (by decide +kernel) (by decide +kernel)
set_option maxRecDepth 20000 in
theorem gX5_step_X7_at : GoodIn wsX5_step (wsV RX5 98 RX7 yX7_at wsX7_at) := goodIn_app (goodIn_of _ (by decide +kernel)) ggX5_step_X7_at
set_option maxRecDepth 20000 in
theorem ggX5_step_X5_isBlank : GoodIn wsX5_step wsX5_isBlank := goodIn_r _ [15] (by decide +kernel) (by decide +kernel)
set_option maxRecDepth 20000 in
theorem gX5_step_X5_isBlank : GoodIn wsX5_step (va_wsS RX5 102 yX5_isBlank wsX5_isBlank) := goodIn_app (goodIn_of _ (by decide +kernel)) ggX5_step_X5_isBlank
set_option maxRecDepth 20000 in
theorem ggX5_step_X5_stepOverRun : GoodIn wsX5_step wsX5_stepOverRun := goodIn_r _ [19, 20, 1, 2, 4, 5, 6, 7, 8, 9, 10, 11, 21, 22, 14, 23, 24, 25, 26, 27, 28, 29, 30, 3, 31, 32, 33, 34, 35, 36, 37, 38, 39, 40, 41, 42, 43, 44, 45, 46, 47, 48, 49, 50, 51, 52, 53, 54, 55, 56, 57, 58, 59, 60, 61, 62, 63, 64, 65, 66, 67, 68, 69, 70, 71, 72, 73, 74, 75, 76, 77, 78, 79, 80, 81, 82, 83, 84, 85, 86, 87, 88, 89, 90, 91] (by decide +kernel) (by decide +kernel)
set_option maxRecDepth 20000 in
theorem gX5_step_X5_stepOverRun : GoodIn wsX5_step (wsV RX5 105 RX5 yX5_stepOverRun wsX5_stepOverRun) := goodIn_app (goodIn_of _ (by decide +kernel)) ggX5_step_X5_stepOverRun
theorem dX5_step_0 : decode cX5_step 0 = .ok (.aload_n 0, 1) := by decide +kernel
theorem dX5_step_1 : decode cX5_step 1 = .ok (.getfield 36, 3) := by decide +kernel
theorem dX5_step_4 : decode cX5_step 4 = .ok (.aload_n 1, 1) := by decide +kernel
theorem dX5_step_5 : decode cX5_step 5 = .ok (.getfield 93, 3) := by decide +kernel
theorem dX5_step_8 : decode cX5_step 8 = .ok (.if_icmp .ge 30, 3) := by decide +kernel
theorem dX5_step_11 : decode cX5_step 11 = .ok (.aload_n 1, 1) := by decide +kernel
theorem dX5_step_12 : decode cX5_step 12 = .ok (.aload_n 0, 1) := by decide +kernel
theorem dX5_step_13 : decode cX5_step 13 = .ok (.getfield 36, 3) := by decide +kernel
theorem dX5_step_16 : decode cX5_step 16 = .ok (.invokevirtual 98, 3) := by decide +kernel
theorem dX5_step_19 : decode cX5_step 19 = .ok (.invokestatic 102, 3) := by decide +kernel
theorem dX5_step_22 : decode cX5_step 22 = .ok (.ifCond .eq 16, 3) := by decide +kernel
theorem dX5_step_25 : decode cX5_step 25 = .ok (.aload_n 0, 1) := by decide +kernel
theorem dX5_step_26 : decode cX5_step 26 = .ok (.dup, 1) := by decide +kernel
theorem dX5_step_27 : decode cX5_step 27 = .ok (.getfield 36, 3) := by decide +kernel
theorem dX5_step_30 : decode cX5_step 30 = .ok (.iconst 1, 1) := by decide +kernel
theorem dX5_step_31 : decode cX5_step 31 = .ok (.iadd, 1) := by decide +kernel
theorem dX5_step_32 : decode cX5_step 32 = .ok (.putfield 36, 3) := by decide +kernel
theorem dX5_step_35 : decode cX5_step 35 = .ok (.goto (-35), 3) := by decide +kernel
theorem dX5_step_38 : decode cX5_step 38 = .ok (.aload_n 0, 1) := by decide +kernel
theorem dX5_step_39 : decode cX5_step 39 = .ok (.aload_n 0, 1) := by decide +kernel
theorem dX5_step_40 : decode cX5_step 40 = .ok (.getfield 36, 3) := by decide +kernel
theorem dX5_step_43 : decode cX5_step 43 = .ok (.putfield 90, 3) := by decide +kernel
theorem dX5_step_46 : decode cX5_step 46 = .ok (.aload_n 1, 1) := by decide +kernel
theorem dX5_step_47 : decode cX5_step 47 = .ok (.getfield 93, 3) := by decide +kernel
theorem dX5_step_50 : decode cX5_step 50 = .ok (.sipush 700, 3) := by decide +kernel
theorem dX5_step_53 : decode cX5_step 53 = .ok (.if_icmp .le 28, 3) := by decide +kernel
theorem dX5_step_56 : decode cX5_step 56 = .ok (.aload_n 0, 1) := by decide +kernel
theorem dX5_step_57 : decode cX5_step 57 = .ok (.getfield 36, 3) := by decide +kernel
theorem dX5_step_60 : decode cX5_step 60 = .ok (.sipush 700, 3) := by decide +kernel
theorem dX5_step_63 : decode cX5_step 63 = .ok (.if_icmp .lt 18, 3) := by decide +kernel
theorem dX5_step_66 : decode cX5_step 66 = .ok (.aload_n 0, 1) := by decide +kernel
theorem dX5_step_67 : decode cX5_step 67 = .ok (.sipush 700, 3) := by decide +kernel
theorem dX5_step_70 : decode cX5_step 70 = .ok (.putfield 90, 3) := by decide +kernel
theorem dX5_step_73 : decode cX5_step 73 = .ok (.aload_n 0, 1) := by decide +kernel
theorem dX5_step_74 : decode cX5_step 74 = .ok (.iconst 1, 1) := by decide +kernel
theorem dX5_step_75 : decode cX5_step 75 = .ok (.putfield 43, 3) := by decide +kernel
theorem dX5_step_78 : decode cX5_step 78 = .ok (.goto 58, 3) := by decide +kernel
theorem dX5_step_81 : decode cX5_step 81 = .ok (.aload_n 0, 1) := by decide +kernel
theorem dX5_step_82 : decode cX5_step 82 = .ok (.getfield 36, 3) := by decide +kernel
theorem dX5_step_85 : decode cX5_step 85 = .ok (.aload_n 1, 1) := by decide +kernel
theorem dX5_step_86 : decode cX5_step 86 = .ok (.getfield 93, 3) := by decide +kernel
theorem dX5_step_89 : decode cX5_step 89 = .ok (.if_icmp .lt 11, 3) := by decide +kernel
theorem dX5_step_92 : decode cX5_step 92 = .ok (.aload_n 0, 1) := by decide +kernel
theorem dX5_step_93 : decode cX5_step 93 = .ok (.iconst 0, 1) := by decide +kernel
theorem dX5_step_94 : decode cX5_step 94 = .ok (.putfield 43, 3) := by decide +kernel
theorem dX5_step_97 : decode cX5_step 97 = .ok (.goto 39, 3) := by decide +kernel
theorem dX5_step_100 : decode cX5_step 100 = .ok (.aload_n 1, 1) := by decide +kernel
theorem dX5_step_101 : decode cX5_step 101 = .ok (.aload_n 0, 1) := by decide +kernel
theorem dX5_step_102 : decode cX5_step 102 = .ok (.getfield 36, 3) := by decide +kernel
theorem dX5_step_105 : decode cX5_step 105 = .ok (.invokevirtual 98, 3) := by decide +kernel
theorem dX5_step_108 : decode cX5_step 108 = .ok (.bipush 59, 2) := by decide +kernel
theorem dX5_step_110 : decode cX5_step 110 = .ok (.if_icmp .ne 21, 3) := by decide +kernel
theorem dX5_step_113 : decode cX5_step 113 = .ok (.aload_n 0, 1) := by decide +kernel
theorem dX5_step_114 : decode cX5_step 114 = .ok (.dup, 1) := by decide +kernel
theorem dX5_step_115 : decode cX5_step 115 = .ok (.getfield 36, 3) := by decide +kernel
theorem dX5_step_118 : decode cX5_step 118 = .ok (.iconst 1, 1) := by decide +kernel
theorem dX5_step_119 : decode cX5_step 119 = .ok (.iadd, 1) := by decide +kernel
theorem dX5_step_120 : decode cX5_step 120 = .ok (.putfield 36, 3) := by decide +kernel
theorem dX5_step_123 : decode cX5_step 123 = .ok (.aload_n 0, 1) := by decide +kernel
theorem dX5_step_124 : decode cX5_step 124 = .ok (.iconst 2, 1) := by decide +kernel
theorem dX5_step_125 : decode cX5_step 125 = .ok (.putfield 43, 3) := by decide +kernel
theorem dX5_step_128 : decode cX5_step 128 = .ok (.goto 8, 3) := by decide +kernel
theorem dX5_step_131 : decode cX5_step 131 = .ok (.aload_n 0, 1) := by decide +kernel
theorem dX5_step_132 : decode cX5_step 132 = .ok (.aload_n 1, 1) := by decide +kernel
theorem dX5_step_133 : decode cX5_step 133 = .ok (.invokevirtual 105, 3) := by decide +kernel
theorem dX5_step_136 : decode cX5_step 136 = .ok (.return_, 1) := by decide +kernel
set_option maxRecDepth 20000 in
theorem ggX5_stepOverRun_X7_at : GoodIn wsX5_stepOverRun wsX7_at := goodIn_r _ [9, 10, 11, 83, 84] (by decide +kernel) (by decide +kernel)
set_option maxRecDepth 20000 in
theorem gX5_stepOverRun_X7_at : GoodIn wsX5_stepOverRun (wsV RX5 98 RX7 yX7_at wsX7_at) := goodIn_app (goodIn_of _ (by decide +kernel)) ggX5_stepOverRun_X7_at
set_option maxRecDepth 20000 in
theorem ggX5_stepOverRun_X5_isLetter : GoodIn wsX5_stepOverRun wsX5_isLetter := goodIn_r _ [15] (by decide +kernel) (by decide +kernel)
set_option maxRecDepth 20000 in
theorem gX5_stepOverRun_X5_isLetter : GoodIn wsX5_stepOverRun (va_wsS RX5 108 yX5_isLetter wsX5_isLetter) := goodIn_app (goodIn_of _ (by decide +kernel)) ggX5_stepOverRun_X5_isLetter
set_option maxRecDepth 20000 in
theorem ggX5_stepOverRun_X5_isDigit : GoodIn wsX5_stepOverRun wsX5_isDigit := goodIn_r _ [18] (by decide +kernel) (by decide +kernel)
set_option maxRecDepth 20000 in
theorem gX5_stepOverRun_X5_isDigit : GoodIn wsX5_stepOverRun (va_wsS RX5 111 yX5_isDigit wsX5_isDigit) := goodIn_app (goodIn_of _ (by decide +kernel)) ggX5_stepOverRun_X5_isDigit
set_option maxRecDepth 20000 in
theorem ggX5_stepOverRun_X5_spells : GoodIn wsX5_stepOverRun wsX5_spells := goodIn_r _ [22, 2, 23, 3, 24, 25, 26, 27, 28, 29, 30, 31, 32, 33, 34, 35, 36, 37, 38, 39, 40, 41, 42, 43, 44, 45, 46, 47, 48, 49, 50, 51, 52, 53, 54, 55, 56, 57, 58, 59, 60, 61, 62, 63, 64, 65, 66, 67, 68, 69, 70, 71, 72, 73, 74, 75, 76, 77, 78, 79, 80, 81, 82, 83, 84] (by decide +kernel) (by decide +kernel)
set_option maxRecDepth 20000 in
theorem gX5_stepOverRun_X5_spells : GoodIn wsX5_stepOverRun (wsV RX5 115 RX5 yX5_spells wsX5_spells) := goodIn_app (goodIn_of _ (by decide +kernel)) ggX5_stepOverRun_X5_spells
theorem dX5_stepOverRun_0 : decode cX5_stepOverRun 0 = .ok (.iconst 0, 1) := by decide +kernel
theorem dX5_stepOverRun_1 : decode cX5_stepOverRun 1 = .ok (.istore_n 2, 1) := by decide +kernel
theorem dX5_stepOverRun_2 : decode cX5_stepOverRun 2 = .ok (.iconst 0, 1) := by decide +kernel
theorem dX5_stepOverRun_3 : decode cX5_stepOverRun 3 = .ok (.istore_n 3, 1) := by decide +kernel
theorem dX5_stepOverRun_4 : decode cX5_stepOverRun 4 = .ok (.aload_n 0, 1) := by decide +kernel
theorem dX5_stepOverRun_5 : decode cX5_stepOverRun 5 = .ok (.iconst 0, 1) := by decide +kernel
theorem dX5_stepOverRun_6 : decode cX5_stepOverRun 6 = .ok (.putfield 57, 3) := by decide +kernel
theorem dX5_stepOverRun_9 : decode cX5_stepOverRun 9 = .ok (.aload_n 0, 1) := by decide +kernel
theorem dX5_stepOverRun_10 : decode cX5_stepOverRun 10 = .ok (.getfield 36, 3) := by decide +kernel
theorem dX5_stepOverRun_13 : decode cX5_stepOverRun 13 = .ok (.aload_n 1, 1) := by decide +kernel
theorem dX5_stepOverRun_14 : decode cX5_stepOverRun 14 = .ok (.getfield 93, 3) := by decide +kernel
theorem dX5_stepOverRun_17 : decode cX5_stepOverRun 17 = .ok (.if_icmp .ge 90, 3) := by decide +kernel
theorem dX5_stepOverRun_20 : decode cX5_stepOverRun 20 = .ok (.aload_n 1, 1) := by decide +kernel
theorem dX5_stepOverRun_21 : decode cX5_stepOverRun 21 = .ok (.aload_n 0, 1) := by decide +kernel
theorem dX5_stepOverRun_22 : decode cX5_stepOverRun 22 = .ok (.getfield 36, 3) := by decide +kernel
theorem dX5_stepOverRun_25 : decode cX5_stepOverRun 25 = .ok (.invokevirtual 98, 3) := by decide +kernel
theorem dX5_stepOverRun_28 : decode cX5_stepOverRun 28 = .ok (.invokestatic 108, 3) := by decide +kernel
theorem dX5_stepOverRun_31 : decode cX5_stepOverRun 31 = .ok (.ifCond .ne 17, 3) := by decide +kernel
theorem dX5_stepOverRun_34 : decode cX5_stepOverRun 34 = .ok (.aload_n 1, 1) := by decide +kernel
theorem dX5_stepOverRun_35 : decode cX5_stepOverRun 35 = .ok (.aload_n 0, 1) := by decide +kernel
theorem dX5_stepOverRun_36 : decode cX5_stepOverRun 36 = .ok (.getfield 36, 3) := by decide +kernel
theorem dX5_stepOverRun_39 : decode cX5_stepOverRun 39 = .ok (.invokevirtual 98, 3) := by decide +kernel
theorem dX5_stepOverRun_42 : decode cX5_stepOverRun 42 = .ok (.invokestatic 111, 3) := by decide +kernel
theorem dX5_stepOverRun_45 : decode cX5_stepOverRun 45 = .ok (.ifCond .eq 62, 3) := by decide +kernel
theorem dX5_stepOverRun_48 : decode cX5_stepOverRun 48 = .ok (.aload_n 1, 1) := by decide +kernel
theorem dX5_stepOverRun_49 : decode cX5_stepOverRun 49 = .ok (.aload_n 0, 1) := by decide +kernel
theorem dX5_stepOverRun_50 : decode cX5_stepOverRun 50 = .ok (.getfield 36, 3) := by decide +kernel
theorem dX5_stepOverRun_53 : decode cX5_stepOverRun 53 = .ok (.invokevirtual 98, 3) := by decide +kernel
theorem dX5_stepOverRun_56 : decode cX5_stepOverRun 56 = .ok (.invokestatic 108, 3) := by decide +kernel
theorem dX5_stepOverRun_59 : decode cX5_stepOverRun 59 = .ok (.ifCond .eq 9, 3) := by decide +kernel
theorem dX5_stepOverRun_62 : decode cX5_stepOverRun 62 = .ok (.iinc 2 1, 3) := by decide +kernel
theorem dX5_stepOverRun_65 : decode cX5_stepOverRun 65 = .ok (.goto 29, 3) := by decide +kernel
theorem dX5_stepOverRun_68 : decode cX5_stepOverRun 68 = .ok (.iinc 3 1, 3) := by decide +kernel
theorem dX5_stepOverRun_71 : decode cX5_stepOverRun 71 = .ok (.aload_n 0, 1) := by decide +kernel
theorem dX5_stepOverRun_72 : decode cX5_stepOverRun 72 = .ok (.aload_n 0, 1) := by decide +kernel
theorem dX5_stepOverRun_73 : decode cX5_stepOverRun 73 = .ok (.getfield 57, 3) := by decide +kernel
theorem dX5_stepOverRun_76 : decode cX5_stepOverRun 76 = .ok (.bipush 10, 2) := by decide +kernel
theorem dX5_stepOverRun_78 : decode cX5_stepOverRun 78 = .ok (.imul, 1) := by decide +kernel
theorem dX5_stepOverRun_79 : decode cX5_stepOverRun 79 = .ok (.aload_n 1, 1) := by decide +kernel
theorem dX5_stepOverRun_80 : decode cX5_stepOverRun 80 = .ok (.aload_n 0, 1) := by decide +kernel
theorem dX5_stepOverRun_81 : decode cX5_stepOverRun 81 = .ok (.getfield 36, 3) := by decide +kernel
theorem dX5_stepOverRun_84 : decode cX5_stepOverRun 84 = .ok (.invokevirtual 98, 3) := by decide +kernel
theorem dX5_stepOverRun_87 : decode cX5_stepOverRun 87 = .ok (.iadd, 1) := by decide +kernel
theorem dX5_stepOverRun_88 : decode cX5_stepOverRun 88 = .ok (.bipush 48, 2) := by decide +kernel
theorem dX5_stepOverRun_90 : decode cX5_stepOverRun 90 = .ok (.isub, 1) := by decide +kernel
theorem dX5_stepOverRun_91 : decode cX5_stepOverRun 91 = .ok (.putfield 57, 3) := by decide +kernel
theorem dX5_stepOverRun_94 : decode cX5_stepOverRun 94 = .ok (.aload_n 0, 1) := by decide +kernel
theorem dX5_stepOverRun_95 : decode cX5_stepOverRun 95 = .ok (.dup, 1) := by decide +kernel
theorem dX5_stepOverRun_96 : decode cX5_stepOverRun 96 = .ok (.getfield 36, 3) := by decide +kernel
theorem dX5_stepOverRun_99 : decode cX5_stepOverRun 99 = .ok (.iconst 1, 1) := by decide +kernel
theorem dX5_stepOverRun_100 : decode cX5_stepOverRun 100 = .ok (.iadd, 1) := by decide +kernel
theorem dX5_stepOverRun_101 : decode cX5_stepOverRun 101 = .ok (.putfield 36, 3) := by decide +kernel
theorem dX5_stepOverRun_104 : decode cX5_stepOverRun 104 = .ok (.goto (-95), 3) := by decide +kernel
theorem dX5_stepOverRun_107 : decode cX5_stepOverRun 107 = .ok (.iload_n 2, 1) := by decide +kernel
theorem dX5_stepOverRun_108 : decode cX5_stepOverRun 108 = .ok (.ifCond .ne 21, 3) := by decide +kernel
theorem dX5_stepOverRun_111 : decode cX5_stepOverRun 111 = .ok (.iload_n 3, 1) := by decide +kernel
theorem dX5_stepOverRun_112 : decode cX5_stepOverRun 112 = .ok (.iconst 1, 1) := by decide +kernel
theorem dX5_stepOverRun_113 : decode cX5_stepOverRun 113 = .ok (.if_icmp .eq 8, 3) := by decide +kernel
theorem dX5_stepOverRun_116 : decode cX5_stepOverRun 116 = .ok (.iload_n 3, 1) := by decide +kernel
theorem dX5_stepOverRun_117 : decode cX5_stepOverRun 117 = .ok (.iconst 2, 1) := by decide +kernel
theorem dX5_stepOverRun_118 : decode cX5_stepOverRun 118 = .ok (.if_icmp .ne 11, 3) := by decide +kernel
theorem dX5_stepOverRun_121 : decode cX5_stepOverRun 121 = .ok (.aload_n 0, 1) := by decide +kernel
theorem dX5_stepOverRun_122 : decode cX5_stepOverRun 122 = .ok (.iconst 3, 1) := by decide +kernel
theorem dX5_stepOverRun_123 : decode cX5_stepOverRun 123 = .ok (.putfield 43, 3) := by decide +kernel
theorem dX5_stepOverRun_126 : decode cX5_stepOverRun 126 = .ok (.goto 44, 3) := by decide +kernel
theorem dX5_stepOverRun_129 : decode cX5_stepOverRun 129 = .ok (.aload_n 0, 1) := by decide +kernel
theorem dX5_stepOverRun_130 : decode cX5_stepOverRun 130 = .ok (.aload_n 1, 1) := by decide +kernel
theorem dX5_stepOverRun_131 : decode cX5_stepOverRun 131 = .ok (.ldc 114, 2) := by decide +kernel
theorem dX5_stepOverRun_133 : decode cX5_stepOverRun 133 = .ok (.invokevirtual 115, 3) := by decide +kernel
theorem dX5_stepOverRun_136 : decode cX5_stepOverRun 136 = .ok (.ifCond .eq 11, 3) := by decide +kernel
theorem dX5_stepOverRun_139 : decode cX5_stepOverRun 139 = .ok (.aload_n 0, 1) := by decide +kernel
theorem dX5_stepOverRun_140 : decode cX5_stepOverRun 140 = .ok (.iconst 4, 1) := by decide +kernel
theorem dX5_stepOverRun_141 : decode cX5_stepOverRun 141 = .ok (.putfield 43, 3) := by decide +kernel
theorem dX5_stepOverRun_144 : decode cX5_stepOverRun 144 = .ok (.goto 26, 3) := by decide +kernel
theorem dX5_stepOverRun_147 : decode cX5_stepOverRun 147 = .ok (.aload_n 0, 1) := by decide +kernel
theorem dX5_stepOverRun_148 : decode cX5_stepOverRun 148 = .ok (.aload_n 1, 1) := by decide +kernel
theorem dX5_stepOverRun_149 : decode cX5_stepOverRun 149 = .ok (.ldc 119, 2) := by decide +kernel
theorem dX5_stepOverRun_151 : decode cX5_stepOverRun 151 = .ok (.invokevirtual 115, 3) := by decide +kernel
theorem dX5_stepOverRun_154 : decode cX5_stepOverRun 154 = .ok (.ifCond .eq 11, 3) := by decide +kernel
theorem dX5_stepOverRun_157 : decode cX5_stepOverRun 157 = .ok (.aload_n 0, 1) := by decide +kernel
theorem dX5_stepOverRun_158 : decode cX5_stepOverRun 158 = .ok (.iconst 5, 1) := by decide +kernel
theorem dX5_stepOverRun_159 : decode cX5_stepOverRun 159 = .ok (.putfield 43, 3) := by decide +kernel
theorem dX5_stepOverRun_162 : decode cX5_stepOverRun 162 = .ok (.goto 8, 3) := by decide +kernel
theorem dX5_stepOverRun_165 : decode cX5_stepOverRun 165 = .ok (.aload_n 0, 1) := by decide +kernel
theorem dX5_stepOverRun_166 : decode cX5_stepOverRun 166 = .ok (.iconst 1, 1) := by decide +kernel
theorem dX5_stepOverRun_167 : decode cX5_stepOverRun 167 = .ok (.putfield 43, 3) := by decide +kernel
theorem dX5_stepOverRun_170 : decode cX5_stepOverRun 170 = .ok (.return_, 1) := by decide +kernel
set_option maxRecDepth 20000 in
theorem ggX5_spells_J0_length_8abf5 : GoodIn wsX5_spells wsJ0_length_8abf5 := goodIn_r _ [9, 10, 11, 12, 13, 8, 14, 15, 16] (by decide +kernel) (by decide +kernel)
set_option maxRecDepth 20000 in
theorem gX5_spells_J0_length_8abf5 : GoodIn wsX5_spells (wsV RX5 121 RJ0 yJ0_length_8abf5 wsJ0_length_8abf5) := goodIn_app (goodIn_of _ (by decide +kernel)) ggX5_spells_J0_length_8abf5
set_option maxRecDepth 20000 in
theorem ggX5_spells_J0_charAt_5068e : GoodIn wsX5_spells wsJ0_charAt_5068e := goodIn_r _ [20, 10, 21, 22, 23, 8, 24, 15, 16, 25, 26, 27, 28, 29, 30, 31, 32, 33, 34, 35, 36, 37, 38, 39, 40, 41, 42, 43, 44, 45, 46, 47, 48, 49, 50, 51, 52, 53] (by decide +kernel) (by decide +kernel)
set_option maxRecDepth 20000 in
theorem gX5_spells_J0_charAt_5068e : GoodIn wsX5_spells (wsV RX5 129 RJ0 yJ0_charAt_5068e wsJ0_charAt_5068e) := goodIn_app (goodIn_of _ (by decide +kernel)) ggX5_spells_J0_charAt_5068e
theorem dX5_spells_0 : decode cX5_spells 0 = .ok (.aload_n 0, 1) := by decide +kernel
theorem dX5_spells_1 : decode cX5_spells 1 = .ok (.getfield 36, 3) := by decide +kernel
theorem dX5_spells_4 : decode cX5_spells 4 = .ok (.aload_n 0, 1) := by decide +kernel
theorem dX5_spells_5 : decode cX5_spells 5 = .ok (.getfield 90, 3) := by decide +kernel
theorem dX5_spells_8 : decode cX5_spells 8 = .ok (.isub, 1) := by decide +kernel
theorem dX5_spells_9 : decode cX5_spells 9 = .ok (.aload_n 2, 1) := by decide +kernel
theorem dX5_spells_10 : decode cX5_spells 10 = .ok (.invokevirtual 121, 3) := by decide +kernel
theorem dX5_spells_13 : decode cX5_spells 13 = .ok (.if_icmp .ne 14, 3) := by decide +kernel
theorem dX5_spells_16 : decode cX5_spells 16 = .ok (.aload_n 0, 1) := by decide +kernel
theorem dX5_spells_17 : decode cX5_spells 17 = .ok (.getfield 36, 3) := by decide +kernel
theorem dX5_spells_20 : decode cX5_spells 20 = .ok (.aload_n 1, 1) := by decide +kernel
theorem dX5_spells_21 : decode cX5_spells 21 = .ok (.getfield 93, 3) := by decide +kernel
theorem dX5_spells_24 : decode cX5_spells 24 = .ok (.if_icmp .le 5, 3) := by decide +kernel
theorem dX5_spells_27 : decode cX5_spells 27 = .ok (.iconst 0, 1) := by decide +kernel
theorem dX5_spells_28 : decode cX5_spells 28 = .ok (.ireturn, 1) := by decide +kernel
theorem dX5_spells_29 : decode cX5_spells 29 = .ok (.iconst 0, 1) := by decide +kernel
theorem dX5_spells_30 : decode cX5_spells 30 = .ok (.istore_n 3, 1) := by decide +kernel
theorem dX5_spells_31 : decode cX5_spells 31 = .ok (.iload_n 3, 1) := by decide +kernel
theorem dX5_spells_32 : decode cX5_spells 32 = .ok (.aload_n 2, 1) := by decide +kernel
theorem dX5_spells_33 : decode cX5_spells 33 = .ok (.invokevirtual 121, 3) := by decide +kernel
theorem dX5_spells_36 : decode cX5_spells 36 = .ok (.if_icmp .ge 30, 3) := by decide +kernel
theorem dX5_spells_39 : decode cX5_spells 39 = .ok (.aload_n 1, 1) := by decide +kernel
theorem dX5_spells_40 : decode cX5_spells 40 = .ok (.getfield 126, 3) := by decide +kernel
theorem dX5_spells_43 : decode cX5_spells 43 = .ok (.aload_n 0, 1) := by decide +kernel
theorem dX5_spells_44 : decode cX5_spells 44 = .ok (.getfield 90, 3) := by decide +kernel
theorem dX5_spells_47 : decode cX5_spells 47 = .ok (.iload_n 3, 1) := by decide +kernel
theorem dX5_spells_48 : decode cX5_spells 48 = .ok (.iadd, 1) := by decide +kernel
theorem dX5_spells_49 : decode cX5_spells 49 = .ok (.iaload, 1) := by decide +kernel
theorem dX5_spells_50 : decode cX5_spells 50 = .ok (.aload_n 2, 1) := by decide +kernel
theorem dX5_spells_51 : decode cX5_spells 51 = .ok (.iload_n 3, 1) := by decide +kernel
theorem dX5_spells_52 : decode cX5_spells 52 = .ok (.invokevirtual 129, 3) := by decide +kernel
theorem dX5_spells_55 : decode cX5_spells 55 = .ok (.if_icmp .eq 5, 3) := by decide +kernel
theorem dX5_spells_58 : decode cX5_spells 58 = .ok (.iconst 0, 1) := by decide +kernel
theorem dX5_spells_59 : decode cX5_spells 59 = .ok (.ireturn, 1) := by decide +kernel
theorem dX5_spells_60 : decode cX5_spells 60 = .ok (.iinc 3 1, 3) := by decide +kernel
theorem dX5_spells_63 : decode cX5_spells 63 = .ok (.goto (-32), 3) := by decide +kernel
theorem dX5_spells_66 : decode cX5_spells 66 = .ok (.iconst 1, 1) := by decide +kernel
theorem dX5_spells_67 : decode cX5_spells 67 = .ok (.ireturn, 1) := by decide +kernel
theorem dX5_isBlank_0 : decode cX5_isBlank 0 = .ok (.iload_n 0, 1) := by decide +kernel
theorem dX5_isBlank_1 : decode cX5_isBlank 1 = .ok (.bipush 32, 2) := by decide +kernel
theorem dX5_isBlank_3 : decode cX5_isBlank 3 = .ok (.if_icmp .eq 9, 3) := by decide +kernel
theorem dX5_isBlank_6 : decode cX5_isBlank 6 = .ok (.iload_n 0, 1) := by decide +kernel
theorem dX5_isBlank_7 : decode cX5_isBlank 7 = .ok (.bipush 10, 2) := by decide +kernel
theorem dX5_isBlank_9 : decode cX5_isBlank 9 = .ok (.if_icmp .ne 7, 3) := by decide +kernel
theorem dX5_isBlank_12 : decode cX5_isBlank 12 = .ok (.iconst 1, 1) := by decide +kernel
theorem dX5_isBlank_13 : decode cX5_isBlank 13 = .ok (.goto 4, 3) := by decide +kernel
theorem dX5_isBlank_16 : decode cX5_isBlank 16 = .ok (.iconst 0, 1) := by decide +kernel
theorem dX5_isBlank_17 : decode cX5_isBlank 17 = .ok (.ireturn, 1) := by decide +kernel
theorem dX5_isLetter_0 : decode cX5_isLetter 0 = .ok (.iload_n 0, 1) := by decide +kernel
theorem dX5_isLetter_1 : decode cX5_isLetter 1 = .ok (.bipush 97, 2) := by decide +kernel
theorem dX5_isLetter_3 : decode cX5_isLetter 3 = .ok (.if_icmp .lt 13, 3) := by decide +kernel
theorem dX5_isLetter_6 : decode cX5_isLetter 6 = .ok (.iload_n 0, 1) := by decide +kernel
theorem dX5_isLetter_7 : decode cX5_isLetter 7 = .ok (.bipush 122, 2) := by decide +kernel
theorem dX5_isLetter_9 : decode cX5_isLetter 9 = .ok (.if_icmp .gt 7, 3) := by decide +kernel
theorem dX5_isLetter_12 : decode cX5_isLetter 12 = .ok (.iconst 1, 1) := by decide +kernel
theorem dX5_isLetter_13 : decode cX5_isLetter 13 = .ok (.goto 4, 3) := by decide +kernel
theorem dX5_isLetter_16 : decode cX5_isLetter 16 = .ok (.iconst 0, 1) := by decide +kernel
theorem dX5_isLetter_17 : decode cX5_isLetter 17 = .ok (.ireturn, 1) := by decide +kernel
theorem dX5_isDigit_0 : decode cX5_isDigit 0 = .ok (.iload_n 0, 1) := by decide +kernel
theorem dX5_isDigit_1 : decode cX5_isDigit 1 = .ok (.bipush 48, 2) := by decide +kernel
theorem dX5_isDigit_3 : decode cX5_isDigit 3 = .ok (.if_icmp .lt 13, 3) := by decide +kernel
theorem dX5_isDigit_6 : decode cX5_isDigit 6 = .ok (.iload_n 0, 1) := by decide +kernel
theorem dX5_isDigit_7 : decode cX5_isDigit 7 = .ok (.bipush 57, 2) := by decide +kernel
theorem dX5_isDigit_9 : decode cX5_isDigit 9 = .ok (.if_icmp .gt 7, 3) := by decide +kernel
theorem dX5_isDigit_12 : decode cX5_isDigit 12 = .ok (.iconst 1, 1) := by decide +kernel
theorem dX5_isDigit_13 : decode cX5_isDigit 13 = .ok (.goto 4, 3) := by decide +kernel
theorem dX5_isDigit_16 : decode cX5_isDigit 16 = .ok (.iconst 0, 1) := by decide +kernel
theorem dX5_isDigit_17 : decode cX5_isDigit 17 = .ok (.ireturn, 1) := by decide +kernel
set_option maxRecDepth 20000 in
theorem ggX6_init_X3_init : GoodIn wsX6_init wsX3_init := goodIn_r _ [11, 12, 2, 3, 4, 13, 21, 22, 23] (by decide +kernel) (by decide +kernel)
set_option maxRecDepth 20000 in
theorem gX6_init_X3_init_n17 : GoodIn wsX6_init (wsX3_init) := ggX6_init_X3_init
theorem dX6_init_0 : decode cX6_init 0 = .ok (.aload_n 0, 1) := by decide +kernel
theorem dX6_init_1 : decode cX6_init 1 = .ok (.invokespecial 3, 3) := by decide +kernel
theorem dX6_init_4 : decode cX6_init 4 = .ok (.aload_n 0, 1) := by decide +kernel
theorem dX6_init_5 : decode cX6_init 5 = .ok (.bipush 13, 2) := by decide +kernel
theorem dX6_init_7 : decode cX6_init 7 = .ok (.newarray .int, 2) := by decide +kernel
theorem dX6_init_9 : decode cX6_init 9 = .ok (.putfield 9, 3) := by decide +kernel
theorem dX6_init_12 : decode cX6_init 12 = .ok (.aload_n 0, 1) := by decide +kernel
theorem dX6_init_13 : decode cX6_init 13 = .ok (.new 15, 3) := by decide +kernel
theorem dX6_init_16 : decode cX6_init 16 = .ok (.dup, 1) := by decide +kernel
theorem dX6_init_17 : decode cX6_init 17 = .ok (.invokespecial 17, 3) := by decide +kernel
theorem dX6_init_20 : decode cX6_init 20 = .ok (.putfield 18, 3) := by decide +kernel
theorem dX6_init_23 : decode cX6_init 23 = .ok (.return_, 1) := by decide +kernel
set_option maxRecDepth 20000 in
theorem ggX6_countAll_X6_begin : GoodIn wsX6_countAll wsX6_begin := goodIn_r _ [5, 6, 7, 8, 9, 10, 57, 58, 59, 60, 61, 62, 63] (by decide +kernel) (by decide +kernel)
set_option maxRecDepth 20000 in
theorem gX6_countAll_X6_begin : GoodIn wsX6_countAll (wsV RX6 22 RX6 yX6_begin wsX6_begin) := goodIn_app (goodIn_of _ (by decide +kernel)) ggX6_countAll_X6_begin
set_option maxRecDepth 20000 in
theorem ggX6_countAll_X6_numbers : GoodIn wsX6_countAll wsX6_numbers := goodIn_r _ [14, 6, 57, 58, 59, 60, 61, 62, 63] (by decide +kernel) (by decide +kernel)
set_option maxRecDepth 20000 in
theorem gX6_countAll_X6_numbers : GoodIn wsX6_countAll (wsV RX6 26 RX6 yX6_numbers wsX6_numbers) := goodIn_app (goodIn_of _ (by decide +kernel)) ggX6_countAll_X6_numbers
set_option maxRecDepth 20000 in
theorem ggX6_countAll_X6_seek : GoodIn wsX6_countAll wsX6_seek := goodIn_r _ [18, 6, 19, 20, 21, 22, 4, 23, 9, 7, 8, 24, 10, 25, 26, 27, 28, 29, 30, 31, 32, 33, 34, 35, 36, 37, 38, 39, 40, 41, 42, 43, 44, 45, 46, 47, 48, 49, 50, 51, 52, 53, 54, 55, 56, 15, 16, 17, 57, 58, 59, 60, 61, 62, 63, 64, 65, 66] (by decide +kernel) (by decide +kernel)
set_option maxRecDepth 20000 in
theorem gX6_countAll_X6_seek : GoodIn wsX6_countAll (wsV RX6 30 RX6 yX6_seek wsX6_seek) := goodIn_app (goodIn_of _ (by decide +kernel)) ggX6_countAll_X6_seek
theorem dX6_countAll_0 : decode cX6_countAll 0 = .ok (.aload_n 0, 1) := by decide +kernel
theorem dX6_countAll_1 : decode cX6_countAll 1 = .ok (.iload_n 1, 1) := by decide +kernel
theorem dX6_countAll_2 : decode cX6_countAll 2 = .ok (.iconst (-1), 1) := by decide +kernel
theorem dX6_countAll_3 : decode cX6_countAll 3 = .ok (.iload_n 2, 1) := by decide +kernel
theorem dX6_countAll_4 : decode cX6_countAll 4 = .ok (.invokevirtual 22, 3) := by decide +kernel
theorem dX6_countAll_7 : decode cX6_countAll 7 = .ok (.aload_n 0, 1) := by decide +kernel
theorem dX6_countAll_8 : decode cX6_countAll 8 = .ok (.aload_n 0, 1) := by decide +kernel
theorem dX6_countAll_9 : decode cX6_countAll 9 = .ok (.invokevirtual 26, 3) := by decide +kernel
theorem dX6_countAll_12 : decode cX6_countAll 12 = .ok (.iconst 0, 1) := by decide +kernel
theorem dX6_countAll_13 : decode cX6_countAll 13 = .ok (.iconst 1, 1) := by decide +kernel
theorem dX6_countAll_14 : decode cX6_countAll 14 = .ok (.invokevirtual 30, 3) := by decide +kernel
theorem dX6_countAll_17 : decode cX6_countAll 17 = .ok (.pop, 1) := by decide +kernel
theorem dX6_countAll_18 : decode cX6_countAll 18 = .ok (.return_, 1) := by decide +kernel
set_option maxRecDepth 20000 in
theorem ggX6_find_X6_begin : GoodIn wsX6_find wsX6_begin := goodIn_r _ [5, 6, 7, 8, 9, 10, 57, 58, 59, 60, 61, 62, 63] (by decide +kernel) (by decide +kernel)
set_option maxRecDepth 20000 in
theorem gX6_find_X6_begin : GoodIn wsX6_find (wsV RX6 22 RX6 yX6_begin wsX6_begin) := goodIn_app (goodIn_of _ (by decide +kernel)) ggX6_find_X6_begin
set_option maxRecDepth 20000 in
theorem ggX6_find_X6_numbers : GoodIn wsX6_find wsX6_numbers := goodIn_r _ [14, 6, 57, 58, 59, 60, 61, 62, 63] (by decide +kernel) (by decide +kernel)
set_option maxRecDepth 20000 in
theorem gX6_find_X6_numbers : GoodIn wsX6_find (wsV RX6 26 RX6 yX6_numbers wsX6_numbers) := goodIn_app (goodIn_of _ (by decide +kernel)) ggX6_find_X6_numbers
set_option maxRecDepth 20000 in
theorem ggX6_find_X6_seek : GoodIn wsX6_find wsX6_seek := goodIn_r _ [18, 6, 19, 20, 21, 22, 4, 23, 9, 7, 8, 24, 10, 25, 26, 27, 28, 29, 30, 31, 32, 33, 34, 35, 36, 37, 38, 39, 40, 41, 42, 43, 44, 45, 46, 47, 48, 49, 50, 51, 52, 53, 54, 55, 56, 15, 16, 17, 57, 58, 59, 60, 61, 62, 63, 64, 65, 66] (by decide +kernel) (by decide +kernel)
set_option maxRecDepth 20000 in
theorem gX6_find_X6_seek : GoodIn wsX6_find (wsV RX6 30 RX6 yX6_seek wsX6_seek) := goodIn_app (goodIn_of _ (by decide +kernel)) ggX6_find_X6_seek
theorem dX6_find_0 : decode cX6_find 0 = .ok (.aload_n 0, 1) := by decide +kernel
theorem dX6_find_1 : decode cX6_find 1 = .ok (.iload_n 1, 1) := by decide +kernel
theorem dX6_find_2 : decode cX6_find 2 = .ok (.iload_n 2, 1) := by decide +kernel
theorem dX6_find_3 : decode cX6_find 3 = .ok (.iconst 0, 1) := by decide +kernel
theorem dX6_find_4 : decode cX6_find 4 = .ok (.invokevirtual 22, 3) := by decide +kernel
theorem dX6_find_7 : decode cX6_find 7 = .ok (.iload_n 2, 1) := by decide +kernel
theorem dX6_find_8 : decode cX6_find 8 = .ok (.ifCond .lt 20, 3) := by decide +kernel
theorem dX6_find_11 : decode cX6_find 11 = .ok (.aload_n 0, 1) := by decide +kernel
theorem dX6_find_12 : decode cX6_find 12 = .ok (.aload_n 0, 1) := by decide +kernel
theorem dX6_find_13 : decode cX6_find 13 = .ok (.invokevirtual 26, 3) := by decide +kernel
theorem dX6_find_16 : decode cX6_find 16 = .ok (.iconst 0, 1) := by decide +kernel
theorem dX6_find_17 : decode cX6_find 17 = .ok (.iconst 1, 1) := by decide +kernel
theorem dX6_find_18 : decode cX6_find 18 = .ok (.invokevirtual 30, 3) := by decide +kernel
theorem dX6_find_21 : decode cX6_find 21 = .ok (.ifCond .eq 7, 3) := by decide +kernel
theorem dX6_find_24 : decode cX6_find 24 = .ok (.iconst 1, 1) := by decide +kernel
theorem dX6_find_25 : decode cX6_find 25 = .ok (.goto 4, 3) := by decide +kernel
theorem dX6_find_28 : decode cX6_find 28 = .ok (.iconst 0, 1) := by decide +kernel
theorem dX6_find_29 : decode cX6_find 29 = .ok (.ireturn, 1) := by decide +kernel
theorem dX6_begin_0 : decode cX6_begin 0 = .ok (.aload_n 0, 1) := by decide +kernel
theorem dX6_begin_1 : decode cX6_begin 1 = .ok (.iload_n 1, 1) := by decide +kernel
theorem dX6_begin_2 : decode cX6_begin 2 = .ok (.putfield 34, 3) := by decide +kernel
theorem dX6_begin_5 : decode cX6_begin 5 = .ok (.aload_n 0, 1) := by decide +kernel
theorem dX6_begin_6 : decode cX6_begin 6 = .ok (.iload_n 2, 1) := by decide +kernel
theorem dX6_begin_7 : decode cX6_begin 7 = .ok (.putfield 38, 3) := by decide +kernel
theorem dX6_begin_10 : decode cX6_begin 10 = .ok (.aload_n 0, 1) := by decide +kernel
theorem dX6_begin_11 : decode cX6_begin 11 = .ok (.iload_n 3, 1) := by decide +kernel
theorem dX6_begin_12 : decode cX6_begin 12 = .ok (.putfield 41, 3) := by decide +kernel
theorem dX6_begin_15 : decode cX6_begin 15 = .ok (.aload_n 0, 1) := by decide +kernel
theorem dX6_begin_16 : decode cX6_begin 16 = .ok (.iconst 0, 1) := by decide +kernel
theorem dX6_begin_17 : decode cX6_begin 17 = .ok (.putfield 45, 3) := by decide +kernel
theorem dX6_begin_20 : decode cX6_begin 20 = .ok (.aload_n 0, 1) := by decide +kernel
theorem dX6_begin_21 : decode cX6_begin 21 = .ok (.iconst 0, 1) := by decide +kernel
theorem dX6_begin_22 : decode cX6_begin 22 = .ok (.putfield 48, 3) := by decide +kernel
theorem dX6_begin_25 : decode cX6_begin 25 = .ok (.return_, 1) := by decide +kernel
theorem dX6_numbers_0 : decode cX6_numbers 0 = .ok (.iconst 1, 1) := by decide +kernel
theorem dX6_numbers_1 : decode cX6_numbers 1 = .ok (.aload_n 0, 1) := by decide +kernel
theorem dX6_numbers_2 : decode cX6_numbers 2 = .ok (.getfield 34, 3) := by decide +kernel
theorem dX6_numbers_5 : decode cX6_numbers 5 = .ok (.ishl, 1) := by decide +kernel
theorem dX6_numbers_6 : decode cX6_numbers 6 = .ok (.iconst 2, 1) := by decide +kernel
theorem dX6_numbers_7 : decode cX6_numbers 7 = .ok (.isub, 1) := by decide +kernel
theorem dX6_numbers_8 : decode cX6_numbers 8 = .ok (.ireturn, 1) := by decide +kernel
set_option maxRecDepth 20000 in
theorem ggX6_seek_X6_isWanted : GoodIn wsX6_seek wsX6_isWanted := goodIn_r _ [7, 8, 9, 10, 11, 1, 2, 12, 13, 14, 15, 16, 17, 18, 19, 20, 21, 22, 23, 24, 25, 26, 27, 28, 29, 30, 31, 32, 33, 34, 35, 36, 37, 38, 39, 40, 41, 42, 43, 44, 48, 49, 50, 51, 52, 53, 54, 55, 56, 57] (by decide +kernel) (by decide +kernel)
set_option maxRecDepth 20000 in
theorem gX6_seek_X6_isWanted : GoodIn wsX6_seek (wsV RX6 51 RX6 yX6_isWanted wsX6_isWanted) := goodIn_app (goodIn_of _ (by decide +kernel)) ggX6_seek_X6_isWanted
set_option maxRecDepth 20000 in
theorem ggX6_seek_X6_seek : GoodIn wsX6_seek wsX6_seek := goodIn_r _ [0, 1, 2, 3, 4, 5, 6, 7, 8, 9, 10, 11, 12, 13, 14, 15, 16, 17, 18, 19, 20, 21, 22, 23, 24, 25, 26, 27, 28, 29, 30, 31, 32, 33, 34, 35, 36, 37, 38, 39, 40, 41, 42, 43, 44, 45, 46, 47, 48, 49, 50, 51, 52, 53, 54, 55, 56, 57] (by decide +kernel) (by decide +kernel)
set_option maxRecDepth 20000 in
theorem gX6_seek_X6_seek : GoodIn wsX6_seek (wsV RX6 30 RX6 yX6_seek wsX6_seek) := goodIn_app (goodIn_of _ (by decide +kernel)) ggX6_seek_X6_seek
theorem dX6_seek_0 : decode cX6_seek 0 = .ok (.iload_n 1, 1) := by decide +kernel
theorem dX6_seek_1 : decode cX6_seek 1 = .ok (.ifCond .ne 8, 3) := by decide +kernel
theorem dX6_seek_4 : decode cX6_seek 4 = .ok (.aload_n 0, 1) := by decide +kernel
theorem dX6_seek_5 : decode cX6_seek 5 = .ok (.invokevirtual 51, 3) := by decide +kernel
theorem dX6_seek_8 : decode cX6_seek 8 = .ok (.ireturn, 1) := by decide +kernel
theorem dX6_seek_9 : decode cX6_seek 9 = .ok (.iload_n 3, 1) := by decide +kernel
theorem dX6_seek_10 : decode cX6_seek 10 = .ok (.istore 4, 2) := by decide +kernel
theorem dX6_seek_12 : decode cX6_seek 12 = .ok (.iload 4, 2) := by decide +kernel
theorem dX6_seek_14 : decode cX6_seek 14 = .ok (.aload_n 0, 1) := by decide +kernel
theorem dX6_seek_15 : decode cX6_seek 15 = .ok (.getfield 34, 3) := by decide +kernel
theorem dX6_seek_18 : decode cX6_seek 18 = .ok (.if_icmp .ge 18, 3) := by decide +kernel
theorem dX6_seek_21 : decode cX6_seek 21 = .ok (.iload_n 1, 1) := by decide +kernel
theorem dX6_seek_22 : decode cX6_seek 22 = .ok (.iload 4, 2) := by decide +kernel
theorem dX6_seek_24 : decode cX6_seek 24 = .ok (.ishr, 1) := by decide +kernel
theorem dX6_seek_25 : decode cX6_seek 25 = .ok (.iconst 1, 1) := by decide +kernel
theorem dX6_seek_26 : decode cX6_seek 26 = .ok (.iand, 1) := by decide +kernel
theorem dX6_seek_27 : decode cX6_seek 27 = .ok (.ifCond .ne 9, 3) := by decide +kernel
theorem dX6_seek_30 : decode cX6_seek 30 = .ok (.iinc 4 1, 3) := by decide +kernel
theorem dX6_seek_33 : decode cX6_seek 33 = .ok (.goto (-21), 3) := by decide +kernel
theorem dX6_seek_36 : decode cX6_seek 36 = .ok (.iload 4, 2) := by decide +kernel
theorem dX6_seek_38 : decode cX6_seek 38 = .ok (.aload_n 0, 1) := by decide +kernel
theorem dX6_seek_39 : decode cX6_seek 39 = .ok (.getfield 34, 3) := by decide +kernel
theorem dX6_seek_42 : decode cX6_seek 42 = .ok (.if_icmp .ge 10, 3) := by decide +kernel
theorem dX6_seek_45 : decode cX6_seek 45 = .ok (.iload 4, 2) := by decide +kernel
theorem dX6_seek_47 : decode cX6_seek 47 = .ok (.bipush 13, 2) := by decide +kernel
theorem dX6_seek_49 : decode cX6_seek 49 = .ok (.if_icmp .lt 5, 3) := by decide +kernel
theorem dX6_seek_52 : decode cX6_seek 52 = .ok (.iconst 0, 1) := by decide +kernel
theorem dX6_seek_53 : decode cX6_seek 53 = .ok (.ireturn, 1) := by decide +kernel
theorem dX6_seek_54 : decode cX6_seek 54 = .ok (.iload 4, 2) := by decide +kernel
theorem dX6_seek_56 : decode cX6_seek 56 = .ok (.iconst 1, 1) := by decide +kernel
theorem dX6_seek_57 : decode cX6_seek 57 = .ok (.iadd, 1) := by decide +kernel
theorem dX6_seek_58 : decode cX6_seek 58 = .ok (.istore 5, 2) := by decide +kernel
theorem dX6_seek_60 : decode cX6_seek 60 = .ok (.iload 5, 2) := by decide +kernel
theorem dX6_seek_62 : decode cX6_seek 62 = .ok (.aload_n 0, 1) := by decide +kernel
theorem dX6_seek_63 : decode cX6_seek 63 = .ok (.getfield 34, 3) := by decide +kernel
theorem dX6_seek_66 : decode cX6_seek 66 = .ok (.if_icmp .ge 106, 3) := by decide +kernel
theorem dX6_seek_69 : decode cX6_seek 69 = .ok (.iload 5, 2) := by decide +kernel
theorem dX6_seek_71 : decode cX6_seek 71 = .ok (.bipush 13, 2) := by decide +kernel
theorem dX6_seek_73 : decode cX6_seek 73 = .ok (.if_icmp .ge 99, 3) := by decide +kernel
theorem dX6_seek_76 : decode cX6_seek 76 = .ok (.iload 5, 2) := by decide +kernel
theorem dX6_seek_78 : decode cX6_seek 78 = .ok (.iload 4, 2) := by decide +kernel
theorem dX6_seek_80 : decode cX6_seek 80 = .ok (.isub, 1) := by decide +kernel
theorem dX6_seek_81 : decode cX6_seek 81 = .ok (.istore 6, 2) := by decide +kernel
theorem dX6_seek_83 : decode cX6_seek 83 = .ok (.iload_n 1, 1) := by decide +kernel
theorem dX6_seek_84 : decode cX6_seek 84 = .ok (.iload 5, 2) := by decide +kernel
theorem dX6_seek_86 : decode cX6_seek 86 = .ok (.ishr, 1) := by decide +kernel
theorem dX6_seek_87 : decode cX6_seek 87 = .ok (.iconst 1, 1) := by decide +kernel
theorem dX6_seek_88 : decode cX6_seek 88 = .ok (.iand, 1) := by decide +kernel
theorem dX6_seek_89 : decode cX6_seek 89 = .ok (.iconst 1, 1) := by decide +kernel
theorem dX6_seek_90 : decode cX6_seek 90 = .ok (.if_icmp .ne 76, 3) := by decide +kernel
theorem dX6_seek_93 : decode cX6_seek 93 = .ok (.iload_n 2, 1) := by decide +kernel
theorem dX6_seek_94 : decode cX6_seek 94 = .ok (.iload 6, 2) := by decide +kernel
theorem dX6_seek_96 : decode cX6_seek 96 = .ok (.ishr, 1) := by decide +kernel
theorem dX6_seek_97 : decode cX6_seek 97 = .ok (.iconst 1, 1) := by decide +kernel
theorem dX6_seek_98 : decode cX6_seek 98 = .ok (.iand, 1) := by decide +kernel
theorem dX6_seek_99 : decode cX6_seek 99 = .ok (.ifCond .ne 67, 3) := by decide +kernel
theorem dX6_seek_102 : decode cX6_seek 102 = .ok (.aload_n 0, 1) := by decide +kernel
theorem dX6_seek_103 : decode cX6_seek 103 = .ok (.getfield 9, 3) := by decide +kernel
theorem dX6_seek_106 : decode cX6_seek 106 = .ok (.iload 4, 2) := by decide +kernel
theorem dX6_seek_108 : decode cX6_seek 108 = .ok (.iload 5, 2) := by decide +kernel
theorem dX6_seek_110 : decode cX6_seek 110 = .ok (.iastore, 1) := by decide +kernel
theorem dX6_seek_111 : decode cX6_seek 111 = .ok (.aload_n 0, 1) := by decide +kernel
theorem dX6_seek_112 : decode cX6_seek 112 = .ok (.getfield 9, 3) := by decide +kernel
theorem dX6_seek_115 : decode cX6_seek 115 = .ok (.iload 5, 2) := by decide +kernel
theorem dX6_seek_117 : decode cX6_seek 117 = .ok (.iload 4, 2) := by decide +kernel
theorem dX6_seek_119 : decode cX6_seek 119 = .ok (.iastore, 1) := by decide +kernel
theorem dX6_seek_120 : decode cX6_seek 120 = .ok (.iconst 1, 1) := by decide +kernel
theorem dX6_seek_121 : decode cX6_seek 121 = .ok (.iload 6, 2) := by decide +kernel
theorem dX6_seek_123 : decode cX6_seek 123 = .ok (.ishl, 1) := by decide +kernel
theorem dX6_seek_124 : decode cX6_seek 124 = .ok (.iconst 1, 1) := by decide +kernel
theorem dX6_seek_125 : decode cX6_seek 125 = .ok (.aload_n 0, 1) := by decide +kernel
theorem dX6_seek_126 : decode cX6_seek 126 = .ok (.getfield 34, 3) := by decide +kernel
theorem dX6_seek_129 : decode cX6_seek 129 = .ok (.iload 6, 2) := by decide +kernel
theorem dX6_seek_131 : decode cX6_seek 131 = .ok (.isub, 1) := by decide +kernel
theorem dX6_seek_132 : decode cX6_seek 132 = .ok (.ishl, 1) := by decide +kernel
theorem dX6_seek_133 : decode cX6_seek 133 = .ok (.ior, 1) := by decide +kernel
theorem dX6_seek_134 : decode cX6_seek 134 = .ok (.istore 7, 2) := by decide +kernel
theorem dX6_seek_136 : decode cX6_seek 136 = .ok (.aload_n 0, 1) := by decide +kernel
theorem dX6_seek_137 : decode cX6_seek 137 = .ok (.iload_n 1, 1) := by decide +kernel
theorem dX6_seek_138 : decode cX6_seek 138 = .ok (.iconst 1, 1) := by decide +kernel
theorem dX6_seek_139 : decode cX6_seek 139 = .ok (.iload 4, 2) := by decide +kernel
theorem dX6_seek_141 : decode cX6_seek 141 = .ok (.ishl, 1) := by decide +kernel
theorem dX6_seek_142 : decode cX6_seek 142 = .ok (.iconst 1, 1) := by decide +kernel
theorem dX6_seek_143 : decode cX6_seek 143 = .ok (.iload 5, 2) := by decide +kernel
theorem dX6_seek_145 : decode cX6_seek 145 = .ok (.ishl, 1) := by decide +kernel
theorem dX6_seek_146 : decode cX6_seek 146 = .ok (.ior, 1) := by decide +kernel
theorem dX6_seek_147 : decode cX6_seek 147 = .ok (.iconst (-1), 1) := by decide +kernel
theorem dX6_seek_148 : decode cX6_seek 148 = .ok (.ixor, 1) := by decide +kernel
theorem dX6_seek_149 : decode cX6_seek 149 = .ok (.iand, 1) := by decide +kernel
theorem dX6_seek_150 : decode cX6_seek 150 = .ok (.iload_n 2, 1) := by decide +kernel
theorem dX6_seek_151 : decode cX6_seek 151 = .ok (.iload 7, 2) := by decide +kernel
theorem dX6_seek_153 : decode cX6_seek 153 = .ok (.ior, 1) := by decide +kernel
theorem dX6_seek_154 : decode cX6_seek 154 = .ok (.iload 4, 2) := by decide +kernel
theorem dX6_seek_156 : decode cX6_seek 156 = .ok (.iconst 1, 1) := by decide +kernel
theorem dX6_seek_157 : decode cX6_seek 157 = .ok (.iadd, 1) := by decide +kernel
theorem dX6_seek_158 : decode cX6_seek 158 = .ok (.invokevirtual 30, 3) := by decide +kernel
theorem dX6_seek_161 : decode cX6_seek 161 = .ok (.ifCond .eq 5, 3) := by decide +kernel
theorem dX6_seek_164 : decode cX6_seek 164 = .ok (.iconst 1, 1) := by decide +kernel
theorem dX6_seek_165 : decode cX6_seek 165 = .ok (.ireturn, 1) := by decide +kernel
theorem dX6_seek_166 : decode cX6_seek 166 = .ok (.iinc 5 1, 3) := by decide +kernel
theorem dX6_seek_169 : decode cX6_seek 169 = .ok (.goto (-109), 3) := by decide +kernel
theorem dX6_seek_172 : decode cX6_seek 172 = .ok (.iconst 0, 1) := by decide +kernel
theorem dX6_seek_173 : decode cX6_seek 173 = .ok (.ireturn, 1) := by decide +kernel
set_option maxRecDepth 20000 in
theorem ggX6_isWanted_X3_fillBy : GoodIn wsX6_isWanted wsX3_fillBy := goodIn_r _ [12, 13, 14, 15, 16, 11, 17, 18, 19, 20, 21, 22, 23, 24, 25, 26, 27, 47, 48, 49] (by decide +kernel) (by decide +kernel)
set_option maxRecDepth 20000 in
theorem gX6_isWanted_X3_fillBy : GoodIn wsX6_isWanted (wsV RX6 55 RX3 yX3_fillBy wsX3_fillBy) := goodIn_app (goodIn_of _ (by decide +kernel)) ggX6_isWanted_X3_fillBy
set_option maxRecDepth 20000 in
theorem ggX6_isWanted_X3_isFirstOneWithAll : GoodIn wsX6_isWanted wsX3_isFirstOneWithAll := goodIn_r _ [31, 18, 13, 32, 33, 34, 11, 35, 36, 37, 38, 39, 23, 47, 48, 49] (by decide +kernel) (by decide +kernel)
set_option maxRecDepth 20000 in
theorem gX6_isWanted_X3_isFirstOneWithAll : GoodIn wsX6_isWanted (wsV RX6 59 RX3 yX3_isFirstOneWithAll wsX3_isFirstOneWithAll) := goodIn_app (goodIn_of _ (by decide +kernel)) ggX6_isWanted_X3_isFirstOneWithAll
theorem dX6_isWanted_0 : decode cX6_isWanted 0 = .ok (.aload_n 0, 1) := by decide +kernel
theorem dX6_isWanted_1 : decode cX6_isWanted 1 = .ok (.getfield 45, 3) := by decide +kernel
theorem dX6_isWanted_4 : decode cX6_isWanted 4 = .ok (.aload_n 0, 1) := by decide +kernel
theorem dX6_isWanted_5 : decode cX6_isWanted 5 = .ok (.getfield 38, 3) := by decide +kernel
theorem dX6_isWanted_8 : decode cX6_isWanted 8 = .ok (.if_icmp .ne 5, 3) := by decide +kernel
theorem dX6_isWanted_11 : decode cX6_isWanted 11 = .ok (.iconst 1, 1) := by decide +kernel
theorem dX6_isWanted_12 : decode cX6_isWanted 12 = .ok (.ireturn, 1) := by decide +kernel
theorem dX6_isWanted_13 : decode cX6_isWanted 13 = .ok (.aload_n 0, 1) := by decide +kernel
theorem dX6_isWanted_14 : decode cX6_isWanted 14 = .ok (.dup, 1) := by decide +kernel
theorem dX6_isWanted_15 : decode cX6_isWanted 15 = .ok (.getfield 45, 3) := by decide +kernel
theorem dX6_isWanted_18 : decode cX6_isWanted 18 = .ok (.iconst 1, 1) := by decide +kernel
theorem dX6_isWanted_19 : decode cX6_isWanted 19 = .ok (.iadd, 1) := by decide +kernel
theorem dX6_isWanted_20 : decode cX6_isWanted 20 = .ok (.putfield 45, 3) := by decide +kernel
theorem dX6_isWanted_23 : decode cX6_isWanted 23 = .ok (.aload_n 0, 1) := by decide +kernel
theorem dX6_isWanted_24 : decode cX6_isWanted 24 = .ok (.getfield 41, 3) := by decide +kernel
theorem dX6_isWanted_27 : decode cX6_isWanted 27 = .ok (.ifCond .eq 38, 3) := by decide +kernel
theorem dX6_isWanted_30 : decode cX6_isWanted 30 = .ok (.aload_n 0, 1) := by decide +kernel
theorem dX6_isWanted_31 : decode cX6_isWanted 31 = .ok (.getfield 18, 3) := by decide +kernel
theorem dX6_isWanted_34 : decode cX6_isWanted 34 = .ok (.aload_n 0, 1) := by decide +kernel
theorem dX6_isWanted_35 : decode cX6_isWanted 35 = .ok (.getfield 34, 3) := by decide +kernel
theorem dX6_isWanted_38 : decode cX6_isWanted 38 = .ok (.aload_n 0, 1) := by decide +kernel
theorem dX6_isWanted_39 : decode cX6_isWanted 39 = .ok (.getfield 9, 3) := by decide +kernel
theorem dX6_isWanted_42 : decode cX6_isWanted 42 = .ok (.invokevirtual 55, 3) := by decide +kernel
theorem dX6_isWanted_45 : decode cX6_isWanted 45 = .ok (.aload_n 0, 1) := by decide +kernel
theorem dX6_isWanted_46 : decode cX6_isWanted 46 = .ok (.getfield 18, 3) := by decide +kernel
theorem dX6_isWanted_49 : decode cX6_isWanted 49 = .ok (.invokevirtual 59, 3) := by decide +kernel
theorem dX6_isWanted_52 : decode cX6_isWanted 52 = .ok (.ifCond .eq 13, 3) := by decide +kernel
theorem dX6_isWanted_55 : decode cX6_isWanted 55 = .ok (.aload_n 0, 1) := by decide +kernel
theorem dX6_isWanted_56 : decode cX6_isWanted 56 = .ok (.dup, 1) := by decide +kernel
theorem dX6_isWanted_57 : decode cX6_isWanted 57 = .ok (.getfield 48, 3) := by decide +kernel
theorem dX6_isWanted_60 : decode cX6_isWanted 60 = .ok (.iconst 1, 1) := by decide +kernel
theorem dX6_isWanted_61 : decode cX6_isWanted 61 = .ok (.iadd, 1) := by decide +kernel
theorem dX6_isWanted_62 : decode cX6_isWanted 62 = .ok (.putfield 48, 3) := by decide +kernel
theorem dX6_isWanted_65 : decode cX6_isWanted 65 = .ok (.iconst 0, 1) := by decide +kernel
theorem dX6_isWanted_66 : decode cX6_isWanted 66 = .ok (.ireturn, 1) := by decide +kernel
theorem dX7_init_0 : decode cX7_init 0 = .ok (.aload_n 0, 1) := by decide +kernel
theorem dX7_init_1 : decode cX7_init 1 = .ok (.invokespecial 3, 3) := by decide +kernel
theorem dX7_init_4 : decode cX7_init 4 = .ok (.aload_n 0, 1) := by decide +kernel
theorem dX7_init_5 : decode cX7_init 5 = .ok (.sipush 740, 3) := by decide +kernel
theorem dX7_init_8 : decode cX7_init 8 = .ok (.newarray .int, 2) := by decide +kernel
theorem dX7_init_10 : decode cX7_init 10 = .ok (.putfield 9, 3) := by decide +kernel
theorem dX7_init_13 : decode cX7_init 13 = .ok (.return_, 1) := by decide +kernel
theorem dX7_push_0 : decode cX7_push 0 = .ok (.bipush 24, 2) := by decide +kernel
theorem dX7_push_2 : decode cX7_push 2 = .ok (.istore_n 2, 1) := by decide +kernel
theorem dX7_push_3 : decode cX7_push 3 = .ok (.iload_n 2, 1) := by decide +kernel
theorem dX7_push_4 : decode cX7_push 4 = .ok (.ifCond .lt 45, 3) := by decide +kernel
theorem dX7_push_7 : decode cX7_push 7 = .ok (.aload_n 0, 1) := by decide +kernel
theorem dX7_push_8 : decode cX7_push 8 = .ok (.getfield 15, 3) := by decide +kernel
theorem dX7_push_11 : decode cX7_push 11 = .ok (.sipush 740, 3) := by decide +kernel
theorem dX7_push_14 : decode cX7_push 14 = .ok (.if_icmp .ge 29, 3) := by decide +kernel
theorem dX7_push_17 : decode cX7_push 17 = .ok (.aload_n 0, 1) := by decide +kernel
theorem dX7_push_18 : decode cX7_push 18 = .ok (.getfield 9, 3) := by decide +kernel
theorem dX7_push_21 : decode cX7_push 21 = .ok (.aload_n 0, 1) := by decide +kernel
theorem dX7_push_22 : decode cX7_push 22 = .ok (.getfield 15, 3) := by decide +kernel
theorem dX7_push_25 : decode cX7_push 25 = .ok (.iload_n 1, 1) := by decide +kernel
theorem dX7_push_26 : decode cX7_push 26 = .ok (.iload_n 2, 1) := by decide +kernel
theorem dX7_push_27 : decode cX7_push 27 = .ok (.ishr, 1) := by decide +kernel
theorem dX7_push_28 : decode cX7_push 28 = .ok (.sipush 255, 3) := by decide +kernel
theorem dX7_push_31 : decode cX7_push 31 = .ok (.iand, 1) := by decide +kernel
theorem dX7_push_32 : decode cX7_push 32 = .ok (.iastore, 1) := by decide +kernel
theorem dX7_push_33 : decode cX7_push 33 = .ok (.aload_n 0, 1) := by decide +kernel
theorem dX7_push_34 : decode cX7_push 34 = .ok (.dup, 1) := by decide +kernel
theorem dX7_push_35 : decode cX7_push 35 = .ok (.getfield 15, 3) := by decide +kernel
theorem dX7_push_38 : decode cX7_push 38 = .ok (.iconst 1, 1) := by decide +kernel
theorem dX7_push_39 : decode cX7_push 39 = .ok (.iadd, 1) := by decide +kernel
theorem dX7_push_40 : decode cX7_push 40 = .ok (.putfield 15, 3) := by decide +kernel
theorem dX7_push_43 : decode cX7_push 43 = .ok (.iinc 2 (-8), 3) := by decide +kernel
theorem dX7_push_46 : decode cX7_push 46 = .ok (.goto (-43), 3) := by decide +kernel
theorem dX7_push_49 : decode cX7_push 49 = .ok (.return_, 1) := by decide +kernel
theorem dX7_at_0 : decode cX7_at 0 = .ok (.iload_n 1, 1) := by decide +kernel
theorem dX7_at_1 : decode cX7_at 1 = .ok (.ifCond .lt 11, 3) := by decide +kernel
theorem dX7_at_4 : decode cX7_at 4 = .ok (.iload_n 1, 1) := by decide +kernel
theorem dX7_at_5 : decode cX7_at 5 = .ok (.aload_n 0, 1) := by decide +kernel
theorem dX7_at_6 : decode cX7_at 6 = .ok (.getfield 15, 3) := by decide +kernel
theorem dX7_at_9 : decode cX7_at 9 = .ok (.if_icmp .lt 7, 3) := by decide +kernel
theorem dX7_at_12 : decode cX7_at 12 = .ok (.iconst (-1), 1) := by decide +kernel
theorem dX7_at_13 : decode cX7_at 13 = .ok (.goto 9, 3) := by decide +kernel
theorem dX7_at_16 : decode cX7_at 16 = .ok (.aload_n 0, 1) := by decide +kernel
theorem dX7_at_17 : decode cX7_at 17 = .ok (.getfield 9, 3) := by decide +kernel
theorem dX7_at_20 : decode cX7_at 20 = .ok (.iload_n 1, 1) := by decide +kernel
theorem dX7_at_21 : decode cX7_at 21 = .ok (.iaload, 1) := by decide +kernel
theorem dX7_at_22 : decode cX7_at 22 = .ok (.ireturn, 1) := by decide +kernel
set_option maxRecDepth 20000 in
theorem ggX8_init_X7_init : GoodIn wsX8_init wsX7_init := goodIn_r _ [44, 45, 2, 3, 40, 46, 86, 87] (by decide +kernel) (by decide +kernel)
set_option maxRecDepth 20000 in
theorem gX8_init_X7_init_n9 : GoodIn wsX8_init (wsX7_init) := ggX8_init_X7_init
set_option maxRecDepth 20000 in
theorem ggX8_init_X5_init : GoodIn wsX8_init wsX5_init := goodIn_r _ [48, 49, 2, 3, 50, 13, 14, 51, 40, 52, 53, 54, 55, 56, 110, 111, 112, 101, 102, 103, 104, 105, 106, 107, 108, 109] (by decide +kernel) (by decide +kernel)
set_option maxRecDepth 20000 in
theorem gX8_init_X5_init_n18 : GoodIn wsX8_init (wsX5_init) := ggX8_init_X5_init
set_option maxRecDepth 20000 in
theorem ggX8_init_X3_init : GoodIn wsX8_init wsX3_init := goodIn_r _ [54, 55, 2, 3, 40, 56, 110, 111, 112] (by decide +kernel) (by decide +kernel)
set_option maxRecDepth 20000 in
theorem gX8_init_X3_init_n25 : GoodIn wsX8_init (wsX3_init) := ggX8_init_X3_init
set_option maxRecDepth 20000 in
theorem ggX8_init_X0_init : GoodIn wsX8_init wsX0_init := goodIn_r _ [59, 60, 2, 3, 61, 62, 13, 14, 53, 54, 55, 40, 56, 113, 114, 115, 110, 111, 112] (by decide +kernel) (by decide +kernel)
set_option maxRecDepth 20000 in
theorem gX8_init_X0_init : GoodIn wsX8_init (wsX0_init) := ggX8_init_X0_init
set_option maxRecDepth 20000 in
theorem ggX8_init_X2_init : GoodIn wsX8_init wsX2_init := goodIn_r _ [64, 65, 2, 3, 40, 66, 67, 68, 69, 70, 116, 117, 118, 119, 120, 121, 122, 123] (by decide +kernel) (by decide +kernel)
set_option maxRecDepth 20000 in
theorem gX8_init_X2_init_n47 : GoodIn wsX8_init (wsX2_init) := ggX8_init_X2_init
set_option maxRecDepth 20000 in
theorem ggX8_init_X6_init : GoodIn wsX8_init wsX6_init := goodIn_r _ [72, 73, 2, 3, 40, 74, 75, 13, 14, 76, 53, 54, 55, 56, 124, 125, 126, 127, 128, 129, 130, 110, 111, 112] (by decide +kernel) (by decide +kernel)
set_option maxRecDepth 20000 in
theorem gX8_init_X6_init_n54 : GoodIn wsX8_init (wsX6_init) := ggX8_init_X6_init
set_option maxRecDepth 20000 in
theorem ggX8_init_X4_init : GoodIn wsX8_init wsX4_init := goodIn_r _ [78, 79, 2, 3, 40, 80, 81, 82, 131, 132, 133, 134] (by decide +kernel) (by decide +kernel)
set_option maxRecDepth 20000 in
theorem gX8_init_X4_init_n61 : GoodIn wsX8_init (wsX4_init) := ggX8_init_X4_init
set_option maxRecDepth 20000 in
theorem ggX8_init_X1_init : GoodIn wsX8_init wsX1_init := goodIn_r _ [84, 85, 2, 3] (by decide +kernel) (by decide +kernel)
set_option maxRecDepth 20000 in
theorem gX8_init_X1_init_n71 : GoodIn wsX8_init (wsX1_init) := ggX8_init_X1_init
theorem dX8_init_0 : decode cX8_init 0 = .ok (.aload_n 0, 1) := by decide +kernel
theorem dX8_init_1 : decode cX8_init 1 = .ok (.invokespecial 1, 3) := by decide +kernel
theorem dX8_init_4 : decode cX8_init 4 = .ok (.aload_n 0, 1) := by decide +kernel
theorem dX8_init_5 : decode cX8_init 5 = .ok (.new 7, 3) := by decide +kernel
theorem dX8_init_8 : decode cX8_init 8 = .ok (.dup, 1) := by decide +kernel
theorem dX8_init_9 : decode cX8_init 9 = .ok (.invokespecial 9, 3) := by decide +kernel
theorem dX8_init_12 : decode cX8_init 12 = .ok (.putfield 10, 3) := by decide +kernel
theorem dX8_init_15 : decode cX8_init 15 = .ok (.aload_n 0, 1) := by decide +kernel
theorem dX8_init_16 : decode cX8_init 16 = .ok (.new 16, 3) := by decide +kernel
theorem dX8_init_19 : decode cX8_init 19 = .ok (.dup, 1) := by decide +kernel
theorem dX8_init_20 : decode cX8_init 20 = .ok (.invokespecial 18, 3) := by decide +kernel
theorem dX8_init_23 : decode cX8_init 23 = .ok (.putfield 19, 3) := by decide +kernel
theorem dX8_init_26 : decode cX8_init 26 = .ok (.aload_n 0, 1) := by decide +kernel
theorem dX8_init_27 : decode cX8_init 27 = .ok (.new 23, 3) := by decide +kernel
theorem dX8_init_30 : decode cX8_init 30 = .ok (.dup, 1) := by decide +kernel
theorem dX8_init_31 : decode cX8_init 31 = .ok (.invokespecial 25, 3) := by decide +kernel
theorem dX8_init_34 : decode cX8_init 34 = .ok (.putfield 26, 3) := by decide +kernel
theorem dX8_init_37 : decode cX8_init 37 = .ok (.aload_n 0, 1) := by decide +kernel
theorem dX8_init_38 : decode cX8_init 38 = .ok (.iconst 2, 1) := by decide +kernel
theorem dX8_init_39 : decode cX8_init 39 = .ok (.anewarray 23, 3) := by decide +kernel
theorem dX8_init_42 : decode cX8_init 42 = .ok (.putfield 30, 3) := by decide +kernel
theorem dX8_init_45 : decode cX8_init 45 = .ok (.iconst 0, 1) := by decide +kernel
theorem dX8_init_46 : decode cX8_init 46 = .ok (.istore_n 1, 1) := by decide +kernel
theorem dX8_init_47 : decode cX8_init 47 = .ok (.iload_n 1, 1) := by decide +kernel
theorem dX8_init_48 : decode cX8_init 48 = .ok (.iconst 2, 1) := by decide +kernel
theorem dX8_init_49 : decode cX8_init 49 = .ok (.if_icmp .ge 22, 3) := by decide +kernel
theorem dX8_init_52 : decode cX8_init 52 = .ok (.aload_n 0, 1) := by decide +kernel
theorem dX8_init_53 : decode cX8_init 53 = .ok (.getfield 30, 3) := by decide +kernel
theorem dX8_init_56 : decode cX8_init 56 = .ok (.iload_n 1, 1) := by decide +kernel
theorem dX8_init_57 : decode cX8_init 57 = .ok (.new 23, 3) := by decide +kernel
theorem dX8_init_60 : decode cX8_init 60 = .ok (.dup, 1) := by decide +kernel
theorem dX8_init_61 : decode cX8_init 61 = .ok (.invokespecial 25, 3) := by decide +kernel
theorem dX8_init_64 : decode cX8_init 64 = .ok (.aastore, 1) := by decide +kernel
theorem dX8_init_65 : decode cX8_init 65 = .ok (.iinc 1 1, 3) := by decide +kernel
theorem dX8_init_68 : decode cX8_init 68 = .ok (.goto (-21), 3) := by decide +kernel
theorem dX8_init_71 : decode cX8_init 71 = .ok (.aload_n 0, 1) := by decide +kernel
theorem dX8_init_72 : decode cX8_init 72 = .ok (.iconst 2, 1) := by decide +kernel
theorem dX8_init_73 : decode cX8_init 73 = .ok (.newarray .boolean, 2) := by decide +kernel
theorem dX8_init_75 : decode cX8_init 75 = .ok (.putfield 34, 3) := by decide +kernel
theorem dX8_init_78 : decode cX8_init 78 = .ok (.aload_n 0, 1) := by decide +kernel
theorem dX8_init_79 : decode cX8_init 79 = .ok (.new 38, 3) := by decide +kernel
theorem dX8_init_82 : decode cX8_init 82 = .ok (.dup, 1) := by decide +kernel
theorem dX8_init_83 : decode cX8_init 83 = .ok (.invokespecial 40, 3) := by decide +kernel
theorem dX8_init_86 : decode cX8_init 86 = .ok (.putfield 41, 3) := by decide +kernel
theorem dX8_init_89 : decode cX8_init 89 = .ok (.aload_n 0, 1) := by decide +kernel
theorem dX8_init_90 : decode cX8_init 90 = .ok (.new 45, 3) := by decide +kernel
theorem dX8_init_93 : decode cX8_init 93 = .ok (.dup, 1) := by decide +kernel
theorem dX8_init_94 : decode cX8_init 94 = .ok (.invokespecial 47, 3) := by decide +kernel
theorem dX8_init_97 : decode cX8_init 97 = .ok (.putfield 48, 3) := by decide +kernel
theorem dX8_init_100 : decode cX8_init 100 = .ok (.aload_n 0, 1) := by decide +kernel
theorem dX8_init_101 : decode cX8_init 101 = .ok (.new 52, 3) := by decide +kernel
theorem dX8_init_104 : decode cX8_init 104 = .ok (.dup, 1) := by decide +kernel
theorem dX8_init_105 : decode cX8_init 105 = .ok (.invokespecial 54, 3) := by decide +kernel
theorem dX8_init_108 : decode cX8_init 108 = .ok (.putfield 55, 3) := by decide +kernel
theorem dX8_init_111 : decode cX8_init 111 = .ok (.aload_n 0, 1) := by decide +kernel
theorem dX8_init_112 : decode cX8_init 112 = .ok (.new 59, 3) := by decide +kernel
theorem dX8_init_115 : decode cX8_init 115 = .ok (.dup, 1) := by decide +kernel
theorem dX8_init_116 : decode cX8_init 116 = .ok (.invokespecial 61, 3) := by decide +kernel
theorem dX8_init_119 : decode cX8_init 119 = .ok (.putfield 62, 3) := by decide +kernel
theorem dX8_init_122 : decode cX8_init 122 = .ok (.aload_n 0, 1) := by decide +kernel
theorem dX8_init_123 : decode cX8_init 123 = .ok (.new 59, 3) := by decide +kernel
theorem dX8_init_126 : decode cX8_init 126 = .ok (.dup, 1) := by decide +kernel
theorem dX8_init_127 : decode cX8_init 127 = .ok (.invokespecial 61, 3) := by decide +kernel
theorem dX8_init_130 : decode cX8_init 130 = .ok (.putfield 66, 3) := by decide +kernel
theorem dX8_init_133 : decode cX8_init 133 = .ok (.aload_n 0, 1) := by decide +kernel
theorem dX8_init_134 : decode cX8_init 134 = .ok (.new 69, 3) := by decide +kernel
theorem dX8_init_137 : decode cX8_init 137 = .ok (.dup, 1) := by decide +kernel
theorem dX8_init_138 : decode cX8_init 138 = .ok (.invokespecial 71, 3) := by decide +kernel
theorem dX8_init_141 : decode cX8_init 141 = .ok (.putfield 72, 3) := by decide +kernel
theorem dX8_init_144 : decode cX8_init 144 = .ok (.aload_n 0, 1) := by decide +kernel
theorem dX8_init_145 : decode cX8_init 145 = .ok (.bipush 14, 2) := by decide +kernel
theorem dX8_init_147 : decode cX8_init 147 = .ok (.newarray .int, 2) := by decide +kernel
theorem dX8_init_149 : decode cX8_init 149 = .ok (.putfield 76, 3) := by decide +kernel
theorem dX8_init_152 : decode cX8_init 152 = .ok (.aload_n 0, 1) := by decide +kernel
theorem dX8_init_153 : decode cX8_init 153 = .ok (.iconst 0, 1) := by decide +kernel
theorem dX8_init_154 : decode cX8_init 154 = .ok (.putfield 80, 3) := by decide +kernel
theorem dX8_init_157 : decode cX8_init 157 = .ok (.return_, 1) := by decide +kernel
set_option maxRecDepth 20000 in
theorem ggX8_feed_X7_push : GoodIn wsX8_feed wsX7_push := goodIn_r _ [7, 8, 9, 23, 24] (by decide +kernel) (by decide +kernel)
set_option maxRecDepth 20000 in
theorem gX8_feed_X7_push : GoodIn wsX8_feed (wsV RX8 87 RX7 yX7_push wsX7_push) := goodIn_app (goodIn_of _ (by decide +kernel)) ggX8_feed_X7_push
theorem dX8_feed_0 : decode cX8_feed 0 = .ok (.aload_n 0, 1) := by decide +kernel
theorem dX8_feed_1 : decode cX8_feed 1 = .ok (.getfield 10, 3) := by decide +kernel
theorem dX8_feed_4 : decode cX8_feed 4 = .ok (.getfield 84, 3) := by decide +kernel
theorem dX8_feed_7 : decode cX8_feed 7 = .ok (.bipush 20, 2) := by decide +kernel
theorem dX8_feed_9 : decode cX8_feed 9 = .ok (.iadd, 1) := by decide +kernel
theorem dX8_feed_10 : decode cX8_feed 10 = .ok (.sipush 740, 3) := by decide +kernel
theorem dX8_feed_13 : decode cX8_feed 13 = .ok (.if_icmp .le 5, 3) := by decide +kernel
theorem dX8_feed_16 : decode cX8_feed 16 = .ok (.iconst (-1), 1) := by decide +kernel
theorem dX8_feed_17 : decode cX8_feed 17 = .ok (.ireturn, 1) := by decide +kernel
theorem dX8_feed_18 : decode cX8_feed 18 = .ok (.aload_n 0, 1) := by decide +kernel
theorem dX8_feed_19 : decode cX8_feed 19 = .ok (.getfield 10, 3) := by decide +kernel
theorem dX8_feed_22 : decode cX8_feed 22 = .ok (.iload_n 1, 1) := by decide +kernel
theorem dX8_feed_23 : decode cX8_feed 23 = .ok (.invokevirtual 87, 3) := by decide +kernel
theorem dX8_feed_26 : decode cX8_feed 26 = .ok (.aload_n 0, 1) := by decide +kernel
theorem dX8_feed_27 : decode cX8_feed 27 = .ok (.getfield 10, 3) := by decide +kernel
theorem dX8_feed_30 : decode cX8_feed 30 = .ok (.iload_n 2, 1) := by decide +kernel
theorem dX8_feed_31 : decode cX8_feed 31 = .ok (.invokevirtual 87, 3) := by decide +kernel
theorem dX8_feed_34 : decode cX8_feed 34 = .ok (.aload_n 0, 1) := by decide +kernel
theorem dX8_feed_35 : decode cX8_feed 35 = .ok (.getfield 10, 3) := by decide +kernel
theorem dX8_feed_38 : decode cX8_feed 38 = .ok (.iload_n 3, 1) := by decide +kernel
theorem dX8_feed_39 : decode cX8_feed 39 = .ok (.invokevirtual 87, 3) := by decide +kernel
theorem dX8_feed_42 : decode cX8_feed 42 = .ok (.aload_n 0, 1) := by decide +kernel
theorem dX8_feed_43 : decode cX8_feed 43 = .ok (.getfield 10, 3) := by decide +kernel
theorem dX8_feed_46 : decode cX8_feed 46 = .ok (.iload 4, 2) := by decide +kernel
theorem dX8_feed_48 : decode cX8_feed 48 = .ok (.invokevirtual 87, 3) := by decide +kernel
theorem dX8_feed_51 : decode cX8_feed 51 = .ok (.aload_n 0, 1) := by decide +kernel
theorem dX8_feed_52 : decode cX8_feed 52 = .ok (.getfield 10, 3) := by decide +kernel
theorem dX8_feed_55 : decode cX8_feed 55 = .ok (.iload 5, 2) := by decide +kernel
theorem dX8_feed_57 : decode cX8_feed 57 = .ok (.invokevirtual 87, 3) := by decide +kernel
theorem dX8_feed_60 : decode cX8_feed 60 = .ok (.aload_n 0, 1) := by decide +kernel
theorem dX8_feed_61 : decode cX8_feed 61 = .ok (.getfield 10, 3) := by decide +kernel
theorem dX8_feed_64 : decode cX8_feed 64 = .ok (.getfield 84, 3) := by decide +kernel
theorem dX8_feed_67 : decode cX8_feed 67 = .ok (.ireturn, 1) := by decide +kernel
theorem dX8_end_0 : decode cX8_end 0 = .ok (.iload_n 1, 1) := by decide +kernel
theorem dX8_end_1 : decode cX8_end 1 = .ok (.ifCond .lt 14, 3) := by decide +kernel
theorem dX8_end_4 : decode cX8_end 4 = .ok (.iload_n 1, 1) := by decide +kernel
theorem dX8_end_5 : decode cX8_end 5 = .ok (.aload_n 0, 1) := by decide +kernel
theorem dX8_end_6 : decode cX8_end 6 = .ok (.getfield 10, 3) := by decide +kernel
theorem dX8_end_9 : decode cX8_end 9 = .ok (.getfield 84, 3) := by decide +kernel
theorem dX8_end_12 : decode cX8_end 12 = .ok (.if_icmp .le 5, 3) := by decide +kernel
theorem dX8_end_15 : decode cX8_end 15 = .ok (.iconst 0, 1) := by decide +kernel
theorem dX8_end_16 : decode cX8_end 16 = .ok (.ireturn, 1) := by decide +kernel
theorem dX8_end_17 : decode cX8_end 17 = .ok (.aload_n 0, 1) := by decide +kernel
theorem dX8_end_18 : decode cX8_end 18 = .ok (.getfield 10, 3) := by decide +kernel
theorem dX8_end_21 : decode cX8_end 21 = .ok (.iload_n 1, 1) := by decide +kernel
theorem dX8_end_22 : decode cX8_end 22 = .ok (.putfield 84, 3) := by decide +kernel
theorem dX8_end_25 : decode cX8_end 25 = .ok (.iconst 1, 1) := by decide +kernel
theorem dX8_end_26 : decode cX8_end 26 = .ok (.ireturn, 1) := by decide +kernel
set_option maxRecDepth 20000 in
theorem ggX8_text_X5_read : GoodIn wsX8_text wsX5_read := goodIn_r _ [15, 16, 17, 18, 19, 20, 21, 22, 23, 24, 25, 26, 27, 28, 29, 30, 31, 14, 32, 33, 34, 35, 36, 37, 38, 39, 40, 41, 42, 43, 44, 45, 46, 47, 48, 49, 50, 51, 52, 53, 54, 55, 56, 57, 58, 59, 60, 61, 62, 63, 64, 65, 66, 67, 68, 69, 70, 71, 72, 73, 74, 75, 76, 77, 78, 79, 80, 81, 82, 83, 84, 85, 86, 87, 88, 89, 90, 91, 92, 93, 94, 95, 96, 97, 98, 99, 100, 101, 102, 103, 104, 105, 106, 107, 108, 109, 110, 111, 112, 113, 114, 115, 116, 117, 118, 119, 120, 121, 122, 123, 124, 125, 126, 127, 128, 129, 130, 131, 132, 133, 134, 135, 136, 137, 138, 139, 140, 141, 142, 143, 144, 145, 146, 147, 148, 149, 150, 151, 152, 153, 154, 155, 156, 157, 158, 184, 185, 186, 187, 188, 189, 190, 191, 192, 193, 194, 195, 182, 183] (by decide +kernel) (by decide +kernel)
set_option maxRecDepth 20000 in
theorem gX8_text_X5_read : GoodIn wsX8_text (wsV RX8 91 RX5 yX5_read wsX5_read) := goodIn_app (goodIn_of _ (by decide +kernel)) ggX8_text_X5_read
set_option maxRecDepth 20000 in
theorem ggX8_text_X3_copy : GoodIn wsX8_text wsX3_copy := goodIn_r _ [162, 27, 28, 145, 155, 156, 157, 158, 193, 194, 195] (by decide +kernel) (by decide +kernel)
set_option maxRecDepth 20000 in
theorem gX8_text_X3_copy : GoodIn wsX8_text (wsV RX8 100 RX3 yX3_copy wsX3_copy) := goodIn_app (goodIn_of _ (by decide +kernel)) ggX8_text_X3_copy
set_option maxRecDepth 20000 in
theorem ggX8_text_X0_forget : GoodIn wsX8_text wsX0_forget := goodIn_r _ [167, 168, 196, 197, 198] (by decide +kernel) (by decide +kernel)
set_option maxRecDepth 20000 in
theorem gX8_text_X0_forget : GoodIn wsX8_text (wsV RX8 104 RX0 yX0_forget wsX0_forget) := goodIn_app (goodIn_of _ (by decide +kernel)) ggX8_text_X0_forget
theorem dX8_text_0 : decode cX8_text 0 = .ok (.aload_n 0, 1) := by decide +kernel
theorem dX8_text_1 : decode cX8_text 1 = .ok (.getfield 19, 3) := by decide +kernel
theorem dX8_text_4 : decode cX8_text 4 = .ok (.aload_n 0, 1) := by decide +kernel
theorem dX8_text_5 : decode cX8_text 5 = .ok (.getfield 10, 3) := by decide +kernel
theorem dX8_text_8 : decode cX8_text 8 = .ok (.invokevirtual 91, 3) := by decide +kernel
theorem dX8_text_11 : decode cX8_text 11 = .ok (.istore_n 1, 1) := by decide +kernel
theorem dX8_text_12 : decode cX8_text 12 = .ok (.aload_n 0, 1) := by decide +kernel
theorem dX8_text_13 : decode cX8_text 13 = .ok (.getfield 10, 3) := by decide +kernel
theorem dX8_text_16 : decode cX8_text 16 = .ok (.iconst 0, 1) := by decide +kernel
theorem dX8_text_17 : decode cX8_text 17 = .ok (.putfield 84, 3) := by decide +kernel
theorem dX8_text_20 : decode cX8_text 20 = .ok (.aload_n 0, 1) := by decide +kernel
theorem dX8_text_21 : decode cX8_text 21 = .ok (.aload_n 0, 1) := by decide +kernel
theorem dX8_text_22 : decode cX8_text 22 = .ok (.getfield 19, 3) := by decide +kernel
theorem dX8_text_25 : decode cX8_text 25 = .ok (.getfield 95, 3) := by decide +kernel
theorem dX8_text_28 : decode cX8_text 28 = .ok (.putfield 80, 3) := by decide +kernel
theorem dX8_text_31 : decode cX8_text 31 = .ok (.iload_n 1, 1) := by decide +kernel
theorem dX8_text_32 : decode cX8_text 32 = .ok (.ifCond .ne 13, 3) := by decide +kernel
theorem dX8_text_35 : decode cX8_text 35 = .ok (.iconst (-1), 1) := by decide +kernel
theorem dX8_text_36 : decode cX8_text 36 = .ok (.aload_n 0, 1) := by decide +kernel
theorem dX8_text_37 : decode cX8_text 37 = .ok (.getfield 19, 3) := by decide +kernel
theorem dX8_text_40 : decode cX8_text 40 = .ok (.getfield 96, 3) := by decide +kernel
theorem dX8_text_43 : decode cX8_text 43 = .ok (.isub, 1) := by decide +kernel
theorem dX8_text_44 : decode cX8_text 44 = .ok (.ireturn, 1) := by decide +kernel
theorem dX8_text_45 : decode cX8_text 45 = .ok (.aload_n 0, 1) := by decide +kernel
theorem dX8_text_46 : decode cX8_text 46 = .ok (.getfield 26, 3) := by decide +kernel
theorem dX8_text_49 : decode cX8_text 49 = .ok (.aload_n 0, 1) := by decide +kernel
theorem dX8_text_50 : decode cX8_text 50 = .ok (.getfield 19, 3) := by decide +kernel
theorem dX8_text_53 : decode cX8_text 53 = .ok (.getfield 99, 3) := by decide +kernel
theorem dX8_text_56 : decode cX8_text 56 = .ok (.invokevirtual 100, 3) := by decide +kernel
theorem dX8_text_59 : decode cX8_text 59 = .ok (.aload_n 0, 1) := by decide +kernel
theorem dX8_text_60 : decode cX8_text 60 = .ok (.getfield 41, 3) := by decide +kernel
theorem dX8_text_63 : decode cX8_text 63 = .ok (.invokevirtual 104, 3) := by decide +kernel
theorem dX8_text_66 : decode cX8_text 66 = .ok (.aload_n 0, 1) := by decide +kernel
theorem dX8_text_67 : decode cX8_text 67 = .ok (.getfield 19, 3) := by decide +kernel
theorem dX8_text_70 : decode cX8_text 70 = .ok (.getfield 107, 3) := by decide +kernel
theorem dX8_text_73 : decode cX8_text 73 = .ok (.ireturn, 1) := by decide +kernel
theorem dX8_fault_0 : decode cX8_fault 0 = .ok (.aload_n 0, 1) := by decide +kernel
theorem dX8_fault_1 : decode cX8_fault 1 = .ok (.getfield 80, 3) := by decide +kernel
theorem dX8_fault_4 : decode cX8_fault 4 = .ok (.ireturn, 1) := by decide +kernel
set_option maxRecDepth 20000 in
theorem ggX8_now_X4_measure : GoodIn wsX8_now wsX4_measure := goodIn_r _ [13, 14, 15, 16, 17, 18, 19, 20, 21, 22, 23, 24, 25, 12, 26, 27, 28, 29, 30, 31, 32, 33, 34, 35, 36, 37, 38, 39, 40, 41, 42, 60, 61, 62, 68, 69, 70, 71] (by decide +kernel) (by decide +kernel)
set_option maxRecDepth 20000 in
theorem gX8_now_X4_measure : GoodIn wsX8_now (wsV RX8 116 RX4 yX4_measure wsX4_measure) := goodIn_app (goodIn_of _ (by decide +kernel)) ggX8_now_X4_measure
set_option maxRecDepth 20000 in
theorem ggX8_now_X4_makes : GoodIn wsX8_now wsX4_makes := goodIn_r _ [46, 20, 68, 69, 70, 71] (by decide +kernel) (by decide +kernel)
set_option maxRecDepth 20000 in
theorem gX8_now_X4_makes : GoodIn wsX8_now (wsV RX8 119 RX4 yX4_makes wsX4_makes) := goodIn_app (goodIn_of _ (by decide +kernel)) ggX8_now_X4_makes
theorem dX8_now_0 : decode cX8_now 0 = .ok (.iload_n 1, 1) := by decide +kernel
theorem dX8_now_1 : decode cX8_now 1 = .ok (.tableswitch 167 0 6 #[43, 51, 59, 84, 131, 151, 159], 43) := by decide +kernel
theorem dX8_now_44 : decode cX8_now 44 = .ok (.aload_n 0, 1) := by decide +kernel
theorem dX8_now_45 : decode cX8_now 45 = .ok (.getfield 26, 3) := by decide +kernel
theorem dX8_now_48 : decode cX8_now 48 = .ok (.getfield 110, 3) := by decide +kernel
theorem dX8_now_51 : decode cX8_now 51 = .ok (.ireturn, 1) := by decide +kernel
theorem dX8_now_52 : decode cX8_now 52 = .ok (.aload_n 0, 1) := by decide +kernel
theorem dX8_now_53 : decode cX8_now 53 = .ok (.getfield 26, 3) := by decide +kernel
theorem dX8_now_56 : decode cX8_now 56 = .ok (.getfield 113, 3) := by decide +kernel
theorem dX8_now_59 : decode cX8_now 59 = .ok (.ireturn, 1) := by decide +kernel
theorem dX8_now_60 : decode cX8_now 60 = .ok (.aload_n 0, 1) := by decide +kernel
theorem dX8_now_61 : decode cX8_now 61 = .ok (.getfield 26, 3) := by decide +kernel
theorem dX8_now_64 : decode cX8_now 64 = .ok (.getfield 113, 3) := by decide +kernel
theorem dX8_now_67 : decode cX8_now 67 = .ok (.aload_n 0, 1) := by decide +kernel
theorem dX8_now_68 : decode cX8_now 68 = .ok (.getfield 26, 3) := by decide +kernel
theorem dX8_now_71 : decode cX8_now 71 = .ok (.getfield 110, 3) := by decide +kernel
theorem dX8_now_74 : decode cX8_now 74 = .ok (.iconst 1, 1) := by decide +kernel
theorem dX8_now_75 : decode cX8_now 75 = .ok (.isub, 1) := by decide +kernel
theorem dX8_now_76 : decode cX8_now 76 = .ok (.if_icmp .ne 7, 3) := by decide +kernel
theorem dX8_now_79 : decode cX8_now 79 = .ok (.iconst 1, 1) := by decide +kernel
theorem dX8_now_80 : decode cX8_now 80 = .ok (.goto 4, 3) := by decide +kernel
theorem dX8_now_83 : decode cX8_now 83 = .ok (.iconst 0, 1) := by decide +kernel
theorem dX8_now_84 : decode cX8_now 84 = .ok (.ireturn, 1) := by decide +kernel
theorem dX8_now_85 : decode cX8_now 85 = .ok (.aload_n 0, 1) := by decide +kernel
theorem dX8_now_86 : decode cX8_now 86 = .ok (.getfield 62, 3) := by decide +kernel
theorem dX8_now_89 : decode cX8_now 89 = .ok (.aload_n 0, 1) := by decide +kernel
theorem dX8_now_90 : decode cX8_now 90 = .ok (.getfield 26, 3) := by decide +kernel
theorem dX8_now_93 : decode cX8_now 93 = .ok (.invokevirtual 116, 3) := by decide +kernel
theorem dX8_now_96 : decode cX8_now 96 = .ok (.aload_n 0, 1) := by decide +kernel
theorem dX8_now_97 : decode cX8_now 97 = .ok (.getfield 62, 3) := by decide +kernel
theorem dX8_now_100 : decode cX8_now 100 = .ok (.iconst 1, 1) := by decide +kernel
theorem dX8_now_101 : decode cX8_now 101 = .ok (.invokevirtual 119, 3) := by decide +kernel
theorem dX8_now_104 : decode cX8_now 104 = .ok (.aload_n 0, 1) := by decide +kernel
theorem dX8_now_105 : decode cX8_now 105 = .ok (.getfield 26, 3) := by decide +kernel
theorem dX8_now_108 : decode cX8_now 108 = .ok (.getfield 113, 3) := by decide +kernel
theorem dX8_now_111 : decode cX8_now 111 = .ok (.aload_n 0, 1) := by decide +kernel
theorem dX8_now_112 : decode cX8_now 112 = .ok (.getfield 26, 3) := by decide +kernel
theorem dX8_now_115 : decode cX8_now 115 = .ok (.getfield 113, 3) := by decide +kernel
theorem dX8_now_118 : decode cX8_now 118 = .ok (.iconst 1, 1) := by decide +kernel
theorem dX8_now_119 : decode cX8_now 119 = .ok (.isub, 1) := by decide +kernel
theorem dX8_now_120 : decode cX8_now 120 = .ok (.imul, 1) := by decide +kernel
theorem dX8_now_121 : decode cX8_now 121 = .ok (.iconst 2, 1) := by decide +kernel
theorem dX8_now_122 : decode cX8_now 122 = .ok (.idiv, 1) := by decide +kernel
theorem dX8_now_123 : decode cX8_now 123 = .ok (.if_icmp .ne 7, 3) := by decide +kernel
theorem dX8_now_126 : decode cX8_now 126 = .ok (.iconst 1, 1) := by decide +kernel
theorem dX8_now_127 : decode cX8_now 127 = .ok (.goto 4, 3) := by decide +kernel
theorem dX8_now_130 : decode cX8_now 130 = .ok (.iconst 0, 1) := by decide +kernel
theorem dX8_now_131 : decode cX8_now 131 = .ok (.ireturn, 1) := by decide +kernel
theorem dX8_now_132 : decode cX8_now 132 = .ok (.aload_n 0, 1) := by decide +kernel
theorem dX8_now_133 : decode cX8_now 133 = .ok (.getfield 62, 3) := by decide +kernel
theorem dX8_now_136 : decode cX8_now 136 = .ok (.aload_n 0, 1) := by decide +kernel
theorem dX8_now_137 : decode cX8_now 137 = .ok (.getfield 26, 3) := by decide +kernel
theorem dX8_now_140 : decode cX8_now 140 = .ok (.invokevirtual 116, 3) := by decide +kernel
theorem dX8_now_143 : decode cX8_now 143 = .ok (.aload_n 0, 1) := by decide +kernel
theorem dX8_now_144 : decode cX8_now 144 = .ok (.getfield 62, 3) := by decide +kernel
theorem dX8_now_147 : decode cX8_now 147 = .ok (.iconst 1, 1) := by decide +kernel
theorem dX8_now_148 : decode cX8_now 148 = .ok (.invokevirtual 119, 3) := by decide +kernel
theorem dX8_now_151 : decode cX8_now 151 = .ok (.ireturn, 1) := by decide +kernel
theorem dX8_now_152 : decode cX8_now 152 = .ok (.aload_n 0, 1) := by decide +kernel
theorem dX8_now_153 : decode cX8_now 153 = .ok (.getfield 41, 3) := by decide +kernel
theorem dX8_now_156 : decode cX8_now 156 = .ok (.getfield 123, 3) := by decide +kernel
theorem dX8_now_159 : decode cX8_now 159 = .ok (.ireturn, 1) := by decide +kernel
theorem dX8_now_160 : decode cX8_now 160 = .ok (.aload_n 0, 1) := by decide +kernel
theorem dX8_now_161 : decode cX8_now 161 = .ok (.getfield 10, 3) := by decide +kernel
theorem dX8_now_164 : decode cX8_now 164 = .ok (.getfield 84, 3) := by decide +kernel
theorem dX8_now_167 : decode cX8_now 167 = .ok (.ireturn, 1) := by decide +kernel
theorem dX8_now_168 : decode cX8_now 168 = .ok (.iconst (-1), 1) := by decide +kernel
theorem dX8_now_169 : decode cX8_now 169 = .ok (.ireturn, 1) := by decide +kernel
set_option maxRecDepth 20000 in
theorem ggX8_meets_X3_partner : GoodIn wsX8_meets wsX3_partner := goodIn_r _ [6, 7, 8, 9, 23, 24, 25] (by decide +kernel) (by decide +kernel)
set_option maxRecDepth 20000 in
theorem gX8_meets_X3_partner : GoodIn wsX8_meets (wsV RX8 126 RX3 yX3_partner wsX3_partner) := goodIn_app (goodIn_of _ (by decide +kernel)) ggX8_meets_X3_partner
theorem dX8_meets_0 : decode cX8_meets 0 = .ok (.aload_n 0, 1) := by decide +kernel
theorem dX8_meets_1 : decode cX8_meets 1 = .ok (.getfield 26, 3) := by decide +kernel
theorem dX8_meets_4 : decode cX8_meets 4 = .ok (.iload_n 1, 1) := by decide +kernel
theorem dX8_meets_5 : decode cX8_meets 5 = .ok (.iload_n 2, 1) := by decide +kernel
theorem dX8_meets_6 : decode cX8_meets 6 = .ok (.invokevirtual 126, 3) := by decide +kernel
theorem dX8_meets_9 : decode cX8_meets 9 = .ok (.ireturn, 1) := by decide +kernel
set_option maxRecDepth 20000 in
theorem ggX8_met_X3_dayOf : GoodIn wsX8_met wsX3_dayOf := goodIn_r _ [6, 7, 8, 9, 10, 11, 5, 12, 13, 27, 28, 29] (by decide +kernel) (by decide +kernel)
set_option maxRecDepth 20000 in
theorem gX8_met_X3_dayOf : GoodIn wsX8_met (wsV RX8 130 RX3 yX3_dayOf wsX3_dayOf) := goodIn_app (goodIn_of _ (by decide +kernel)) ggX8_met_X3_dayOf
theorem dX8_met_0 : decode cX8_met 0 = .ok (.aload_n 0, 1) := by decide +kernel
theorem dX8_met_1 : decode cX8_met 1 = .ok (.getfield 26, 3) := by decide +kernel
theorem dX8_met_4 : decode cX8_met 4 = .ok (.iload_n 1, 1) := by decide +kernel
theorem dX8_met_5 : decode cX8_met 5 = .ok (.iload_n 2, 1) := by decide +kernel
theorem dX8_met_6 : decode cX8_met 6 = .ok (.invokevirtual 130, 3) := by decide +kernel
theorem dX8_met_9 : decode cX8_met 9 = .ok (.ireturn, 1) := by decide +kernel
set_option maxRecDepth 20000 in
theorem ggX8_rings_X3_hasTwoDays : GoodIn wsX8_rings wsX3_hasTwoDays := goodIn_r _ [6, 7, 35, 36, 37] (by decide +kernel) (by decide +kernel)
set_option maxRecDepth 20000 in
theorem gX8_rings_X3_hasTwoDays : GoodIn wsX8_rings (wsV RX8 133 RX3 yX3_hasTwoDays wsX3_hasTwoDays) := goodIn_app (goodIn_of _ (by decide +kernel)) ggX8_rings_X3_hasTwoDays
set_option maxRecDepth 20000 in
theorem ggX8_rings_X3_circles : GoodIn wsX8_rings wsX3_circles := goodIn_r _ [11, 12, 13, 14, 15, 5, 16, 17, 18, 19, 20, 7, 21, 35, 36, 37] (by decide +kernel) (by decide +kernel)
set_option maxRecDepth 20000 in
theorem gX8_rings_X3_circles : GoodIn wsX8_rings (wsV RX8 137 RX3 yX3_circles wsX3_circles) := goodIn_app (goodIn_of _ (by decide +kernel)) ggX8_rings_X3_circles
theorem dX8_rings_0 : decode cX8_rings 0 = .ok (.aload_n 0, 1) := by decide +kernel
theorem dX8_rings_1 : decode cX8_rings 1 = .ok (.getfield 26, 3) := by decide +kernel
theorem dX8_rings_4 : decode cX8_rings 4 = .ok (.iload_n 1, 1) := by decide +kernel
theorem dX8_rings_5 : decode cX8_rings 5 = .ok (.iload_n 2, 1) := by decide +kernel
theorem dX8_rings_6 : decode cX8_rings 6 = .ok (.invokevirtual 133, 3) := by decide +kernel
theorem dX8_rings_9 : decode cX8_rings 9 = .ok (.ifCond .eq 15, 3) := by decide +kernel
theorem dX8_rings_12 : decode cX8_rings 12 = .ok (.aload_n 0, 1) := by decide +kernel
theorem dX8_rings_13 : decode cX8_rings 13 = .ok (.getfield 26, 3) := by decide +kernel
theorem dX8_rings_16 : decode cX8_rings 16 = .ok (.iload_n 1, 1) := by decide +kernel
theorem dX8_rings_17 : decode cX8_rings 17 = .ok (.iload_n 2, 1) := by decide +kernel
theorem dX8_rings_18 : decode cX8_rings 18 = .ok (.invokevirtual 137, 3) := by decide +kernel
theorem dX8_rings_21 : decode cX8_rings 21 = .ok (.goto 4, 3) := by decide +kernel
theorem dX8_rings_24 : decode cX8_rings 24 = .ok (.iconst (-1), 1) := by decide +kernel
theorem dX8_rings_25 : decode cX8_rings 25 = .ok (.ireturn, 1) := by decide +kernel
set_option maxRecDepth 20000 in
theorem ggX8_ring_X3_hasTwoDays : GoodIn wsX8_ring wsX3_hasTwoDays := goodIn_r _ [8, 9, 37, 38, 39] (by decide +kernel) (by decide +kernel)
set_option maxRecDepth 20000 in
theorem gX8_ring_X3_hasTwoDays : GoodIn wsX8_ring (wsV RX8 133 RX3 yX3_hasTwoDays wsX3_hasTwoDays) := goodIn_app (goodIn_of _ (by decide +kernel)) ggX8_ring_X3_hasTwoDays
set_option maxRecDepth 20000 in
theorem ggX8_ring_X3_circleAt : GoodIn wsX8_ring wsX3_circleAt := goodIn_r _ [13, 14, 15, 16, 17, 7, 18, 19, 20, 21, 22, 9, 23, 37, 38, 39] (by decide +kernel) (by decide +kernel)
set_option maxRecDepth 20000 in
theorem gX8_ring_X3_circleAt : GoodIn wsX8_ring (wsV RX8 140 RX3 yX3_circleAt wsX3_circleAt) := goodIn_app (goodIn_of _ (by decide +kernel)) ggX8_ring_X3_circleAt
theorem dX8_ring_0 : decode cX8_ring 0 = .ok (.aload_n 0, 1) := by decide +kernel
theorem dX8_ring_1 : decode cX8_ring 1 = .ok (.getfield 26, 3) := by decide +kernel
theorem dX8_ring_4 : decode cX8_ring 4 = .ok (.iload_n 1, 1) := by decide +kernel
theorem dX8_ring_5 : decode cX8_ring 5 = .ok (.iload_n 2, 1) := by decide +kernel
theorem dX8_ring_6 : decode cX8_ring 6 = .ok (.invokevirtual 133, 3) := by decide +kernel
theorem dX8_ring_9 : decode cX8_ring 9 = .ok (.ifCond .eq 16, 3) := by decide +kernel
theorem dX8_ring_12 : decode cX8_ring 12 = .ok (.aload_n 0, 1) := by decide +kernel
theorem dX8_ring_13 : decode cX8_ring 13 = .ok (.getfield 26, 3) := by decide +kernel
theorem dX8_ring_16 : decode cX8_ring 16 = .ok (.iload_n 1, 1) := by decide +kernel
theorem dX8_ring_17 : decode cX8_ring 17 = .ok (.iload_n 2, 1) := by decide +kernel
theorem dX8_ring_18 : decode cX8_ring 18 = .ok (.iload_n 3, 1) := by decide +kernel
theorem dX8_ring_19 : decode cX8_ring 19 = .ok (.invokevirtual 140, 3) := by decide +kernel
theorem dX8_ring_22 : decode cX8_ring 22 = .ok (.goto 4, 3) := by decide +kernel
theorem dX8_ring_25 : decode cX8_ring 25 = .ok (.iconst 0, 1) := by decide +kernel
theorem dX8_ring_26 : decode cX8_ring 26 = .ok (.istore 4, 2) := by decide +kernel
theorem dX8_ring_28 : decode cX8_ring 28 = .ok (.iload 4, 2) := by decide +kernel
theorem dX8_ring_30 : decode cX8_ring 30 = .ok (.ifCond .ne 11, 3) := by decide +kernel
theorem dX8_ring_33 : decode cX8_ring 33 = .ok (.new 144, 3) := by decide +kernel
theorem dX8_ring_36 : decode cX8_ring 36 = .ok (.dup, 1) := by decide +kernel
theorem dX8_ring_37 : decode cX8_ring 37 = .ok (.invokespecial 146, 3) := by decide +kernel
theorem dX8_ring_40 : decode cX8_ring 40 = .ok (.athrow, 1) := by decide +kernel
theorem dX8_ring_41 : decode cX8_ring 41 = .ok (.iload 4, 2) := by decide +kernel
theorem dX8_ring_43 : decode cX8_ring 43 = .ok (.ireturn, 1) := by decide +kernel
set_option maxRecDepth 20000 in
theorem ggX8_make_X4_measure : GoodIn wsX8_make wsX4_measure := goodIn_r _ [7, 8, 9, 10, 11, 12, 13, 14, 15, 16, 17, 18, 19, 6, 20, 21, 22, 23, 24, 25, 26, 27, 28, 29, 30, 31, 32, 33, 34, 35, 36, 54, 55, 56, 57, 58, 59, 60] (by decide +kernel) (by decide +kernel)
set_option maxRecDepth 20000 in
theorem gX8_make_X4_measure : GoodIn wsX8_make (wsV RX8 116 RX4 yX4_measure wsX4_measure) := goodIn_app (goodIn_of _ (by decide +kernel)) ggX8_make_X4_measure
set_option maxRecDepth 20000 in
theorem ggX8_make_X4_makes : GoodIn wsX8_make wsX4_makes := goodIn_r _ [40, 14, 57, 58, 59, 60] (by decide +kernel) (by decide +kernel)
set_option maxRecDepth 20000 in
theorem gX8_make_X4_makes : GoodIn wsX8_make (wsV RX8 119 RX4 yX4_makes wsX4_makes) := goodIn_app (goodIn_of _ (by decide +kernel)) ggX8_make_X4_makes
theorem dX8_make_0 : decode cX8_make 0 = .ok (.iload_n 1, 1) := by decide +kernel
theorem dX8_make_1 : decode cX8_make 1 = .ok (.iconst 1, 1) := by decide +kernel
theorem dX8_make_2 : decode cX8_make 2 = .ok (.if_icmp .lt 9, 3) := by decide +kernel
theorem dX8_make_5 : decode cX8_make 5 = .ok (.iload_n 1, 1) := by decide +kernel
theorem dX8_make_6 : decode cX8_make 6 = .ok (.bipush 7, 2) := by decide +kernel
theorem dX8_make_8 : decode cX8_make 8 = .ok (.if_icmp .le 5, 3) := by decide +kernel
theorem dX8_make_11 : decode cX8_make 11 = .ok (.iconst (-1), 1) := by decide +kernel
theorem dX8_make_12 : decode cX8_make 12 = .ok (.ireturn, 1) := by decide +kernel
theorem dX8_make_13 : decode cX8_make 13 = .ok (.aload_n 0, 1) := by decide +kernel
theorem dX8_make_14 : decode cX8_make 14 = .ok (.getfield 62, 3) := by decide +kernel
theorem dX8_make_17 : decode cX8_make 17 = .ok (.aload_n 0, 1) := by decide +kernel
theorem dX8_make_18 : decode cX8_make 18 = .ok (.getfield 26, 3) := by decide +kernel
theorem dX8_make_21 : decode cX8_make 21 = .ok (.invokevirtual 116, 3) := by decide +kernel
theorem dX8_make_24 : decode cX8_make 24 = .ok (.aload_n 0, 1) := by decide +kernel
theorem dX8_make_25 : decode cX8_make 25 = .ok (.getfield 62, 3) := by decide +kernel
theorem dX8_make_28 : decode cX8_make 28 = .ok (.iload_n 1, 1) := by decide +kernel
theorem dX8_make_29 : decode cX8_make 29 = .ok (.invokevirtual 119, 3) := by decide +kernel
theorem dX8_make_32 : decode cX8_make 32 = .ok (.ireturn, 1) := by decide +kernel
set_option maxRecDepth 20000 in
theorem ggX8_sign_X3_hasDay : GoodIn wsX8_sign wsX3_hasDay := goodIn_r _ [7, 8, 58, 59, 60] (by decide +kernel) (by decide +kernel)
set_option maxRecDepth 20000 in
theorem gX8_sign_X3_hasDay : GoodIn wsX8_sign (wsV RX8 147 RX3 yX3_hasDay wsX3_hasDay) := goodIn_app (goodIn_of _ (by decide +kernel)) ggX8_sign_X3_hasDay
set_option maxRecDepth 20000 in
theorem ggX8_sign_X4_measure : GoodIn wsX8_sign wsX4_measure := goodIn_r _ [13, 14, 15, 16, 17, 18, 19, 20, 21, 22, 23, 24, 25, 12, 26, 27, 28, 29, 6, 30, 31, 32, 33, 34, 35, 36, 37, 38, 39, 8, 40, 58, 59, 60, 61, 62, 63, 64] (by decide +kernel) (by decide +kernel)
set_option maxRecDepth 20000 in
theorem gX8_sign_X4_measure : GoodIn wsX8_sign (wsV RX8 116 RX4 yX4_measure wsX4_measure) := goodIn_app (goodIn_of _ (by decide +kernel)) ggX8_sign_X4_measure
set_option maxRecDepth 20000 in
theorem ggX8_sign_X4_signOf : GoodIn wsX8_sign wsX4_signOf := goodIn_r _ [44, 19, 21, 61, 62, 63, 64] (by decide +kernel) (by decide +kernel)
set_option maxRecDepth 20000 in
theorem gX8_sign_X4_signOf : GoodIn wsX8_sign (wsV RX8 151 RX4 yX4_signOf wsX4_signOf) := goodIn_app (goodIn_of _ (by decide +kernel)) ggX8_sign_X4_signOf
theorem dX8_sign_0 : decode cX8_sign 0 = .ok (.aload_n 0, 1) := by decide +kernel
theorem dX8_sign_1 : decode cX8_sign 1 = .ok (.getfield 26, 3) := by decide +kernel
theorem dX8_sign_4 : decode cX8_sign 4 = .ok (.iload_n 1, 1) := by decide +kernel
theorem dX8_sign_5 : decode cX8_sign 5 = .ok (.invokevirtual 147, 3) := by decide +kernel
theorem dX8_sign_8 : decode cX8_sign 8 = .ok (.ifCond .ne 5, 3) := by decide +kernel
theorem dX8_sign_11 : decode cX8_sign 11 = .ok (.iconst (-1), 1) := by decide +kernel
theorem dX8_sign_12 : decode cX8_sign 12 = .ok (.ireturn, 1) := by decide +kernel
theorem dX8_sign_13 : decode cX8_sign 13 = .ok (.aload_n 0, 1) := by decide +kernel
theorem dX8_sign_14 : decode cX8_sign 14 = .ok (.getfield 62, 3) := by decide +kernel
theorem dX8_sign_17 : decode cX8_sign 17 = .ok (.aload_n 0, 1) := by decide +kernel
theorem dX8_sign_18 : decode cX8_sign 18 = .ok (.getfield 26, 3) := by decide +kernel
theorem dX8_sign_21 : decode cX8_sign 21 = .ok (.invokevirtual 116, 3) := by decide +kernel
theorem dX8_sign_24 : decode cX8_sign 24 = .ok (.aload_n 0, 1) := by decide +kernel
theorem dX8_sign_25 : decode cX8_sign 25 = .ok (.getfield 62, 3) := by decide +kernel
theorem dX8_sign_28 : decode cX8_sign 28 = .ok (.iload_n 1, 1) := by decide +kernel
theorem dX8_sign_29 : decode cX8_sign 29 = .ok (.invokevirtual 151, 3) := by decide +kernel
theorem dX8_sign_32 : decode cX8_sign 32 = .ok (.ireturn, 1) := by decide +kernel
set_option maxRecDepth 20000 in
theorem ggX8_may_X2_countAll : GoodIn wsX8_may wsX2_countAll := goodIn_r _ [7, 8, 9, 10, 11, 12, 6, 13, 14, 15, 16, 17, 18, 19, 20, 21, 22, 23, 24, 25, 26, 27, 28, 29, 30, 31, 32, 33, 34, 35, 36, 37, 38, 39, 40, 41, 42, 56, 57, 58, 59, 60, 61, 62, 63, 64, 65, 66] (by decide +kernel) (by decide +kernel)
set_option maxRecDepth 20000 in
theorem gX8_may_X2_countAll : GoodIn wsX8_may (wsV RX8 154 RX2 yX2_countAll wsX2_countAll) := goodIn_app (goodIn_of _ (by decide +kernel)) ggX8_may_X2_countAll
theorem dX8_may_0 : decode cX8_may 0 = .ok (.aload_n 0, 1) := by decide +kernel
theorem dX8_may_1 : decode cX8_may 1 = .ok (.getfield 48, 3) := by decide +kernel
theorem dX8_may_4 : decode cX8_may 4 = .ok (.aload_n 0, 1) := by decide +kernel
theorem dX8_may_5 : decode cX8_may 5 = .ok (.getfield 26, 3) := by decide +kernel
theorem dX8_may_8 : decode cX8_may 8 = .ok (.invokevirtual 154, 3) := by decide +kernel
theorem dX8_may_11 : decode cX8_may 11 = .ok (.ireturn, 1) := by decide +kernel
set_option maxRecDepth 20000 in
theorem ggX8_come_X3_hasTeam : GoodIn wsX8_come wsX3_hasTeam := goodIn_r _ [8, 9, 100, 101, 102] (by decide +kernel) (by decide +kernel)
set_option maxRecDepth 20000 in
theorem gX8_come_X3_hasTeam : GoodIn wsX8_come (wsV RX8 158 RX3 yX3_hasTeam wsX3_hasTeam) := goodIn_app (goodIn_of _ (by decide +kernel)) ggX8_come_X3_hasTeam
set_option maxRecDepth 20000 in
theorem ggX8_come_X2_find : GoodIn wsX8_come wsX2_find := goodIn_r _ [14, 15, 16, 17, 18, 19, 13, 20, 21, 22, 23, 24, 25, 26, 27, 28, 29, 30, 31, 32, 7, 33, 34, 9, 35, 36, 37, 38, 39, 40, 41, 42, 43, 44, 45, 46, 47, 48, 49, 50, 51, 52, 53, 54, 55, 56, 57, 58, 59, 60, 61, 62, 63, 64, 65, 66, 67, 68, 69, 70, 71, 72, 73, 74, 75, 76, 77, 78, 100, 101, 102, 92, 93, 94, 95, 96, 97, 98, 99] (by decide +kernel) (by decide +kernel)
set_option maxRecDepth 20000 in
theorem gX8_come_X2_find : GoodIn wsX8_come (wsV RX8 161 RX2 yX2_find wsX2_find) := goodIn_app (goodIn_of _ (by decide +kernel)) ggX8_come_X2_find
theorem dX8_come_0 : decode cX8_come 0 = .ok (.aload_n 0, 1) := by decide +kernel
theorem dX8_come_1 : decode cX8_come 1 = .ok (.getfield 26, 3) := by decide +kernel
theorem dX8_come_4 : decode cX8_come 4 = .ok (.iload_n 2, 1) := by decide +kernel
theorem dX8_come_5 : decode cX8_come 5 = .ok (.invokevirtual 158, 3) := by decide +kernel
theorem dX8_come_8 : decode cX8_come 8 = .ok (.ifCond .eq 18, 3) := by decide +kernel
theorem dX8_come_11 : decode cX8_come 11 = .ok (.aload_n 0, 1) := by decide +kernel
theorem dX8_come_12 : decode cX8_come 12 = .ok (.getfield 48, 3) := by decide +kernel
theorem dX8_come_15 : decode cX8_come 15 = .ok (.aload_n 0, 1) := by decide +kernel
theorem dX8_come_16 : decode cX8_come 16 = .ok (.getfield 26, 3) := by decide +kernel
theorem dX8_come_19 : decode cX8_come 19 = .ok (.iload_n 1, 1) := by decide +kernel
theorem dX8_come_20 : decode cX8_come 20 = .ok (.invokevirtual 161, 3) := by decide +kernel
theorem dX8_come_23 : decode cX8_come 23 = .ok (.ifCond .ne 5, 3) := by decide +kernel
theorem dX8_come_26 : decode cX8_come 26 = .ok (.iconst (-1), 1) := by decide +kernel
theorem dX8_come_27 : decode cX8_come 27 = .ok (.ireturn, 1) := by decide +kernel
theorem dX8_come_28 : decode cX8_come 28 = .ok (.aload_n 0, 1) := by decide +kernel
theorem dX8_come_29 : decode cX8_come 29 = .ok (.getfield 48, 3) := by decide +kernel
theorem dX8_come_32 : decode cX8_come 32 = .ok (.getfield 165, 3) := by decide +kernel
theorem dX8_come_35 : decode cX8_come 35 = .ok (.iload_n 2, 1) := by decide +kernel
theorem dX8_come_36 : decode cX8_come 36 = .ok (.iaload, 1) := by decide +kernel
theorem dX8_come_37 : decode cX8_come 37 = .ok (.ireturn, 1) := by decide +kernel
set_option maxRecDepth 20000 in
theorem ggX8_sure_X3_hasTeam : GoodIn wsX8_sure wsX3_hasTeam := goodIn_r _ [7, 8, 96, 97, 98] (by decide +kernel) (by decide +kernel)
set_option maxRecDepth 20000 in
theorem gX8_sure_X3_hasTeam : GoodIn wsX8_sure (wsV RX8 158 RX3 yX3_hasTeam wsX3_hasTeam) := goodIn_app (goodIn_of _ (by decide +kernel)) ggX8_sure_X3_hasTeam
set_option maxRecDepth 20000 in
theorem ggX8_sure_X2_onlyPartner : GoodIn wsX8_sure wsX2_onlyPartner := goodIn_r _ [13, 14, 15, 16, 17, 18, 19, 20, 12, 21, 22, 23, 24, 25, 26, 27, 28, 29, 30, 31, 32, 33, 34, 35, 6, 36, 37, 8, 38, 39, 40, 41, 42, 43, 44, 45, 46, 47, 48, 49, 50, 51, 52, 53, 54, 55, 56, 57, 58, 59, 60, 61, 62, 63, 64, 65, 66, 67, 68, 69, 70, 71, 72, 73, 74, 75, 76, 77, 78, 79, 80, 81, 82, 4, 5, 7, 99, 100, 101, 102, 103, 104, 105, 106, 96, 97, 98] (by decide +kernel) (by decide +kernel)
set_option maxRecDepth 20000 in
theorem gX8_sure_X2_onlyPartner : GoodIn wsX8_sure (wsV RX8 168 RX2 yX2_onlyPartner wsX2_onlyPartner) := goodIn_app (goodIn_of _ (by decide +kernel)) ggX8_sure_X2_onlyPartner
theorem dX8_sure_0 : decode cX8_sure 0 = .ok (.aload_n 0, 1) := by decide +kernel
theorem dX8_sure_1 : decode cX8_sure 1 = .ok (.getfield 26, 3) := by decide +kernel
theorem dX8_sure_4 : decode cX8_sure 4 = .ok (.iload_n 1, 1) := by decide +kernel
theorem dX8_sure_5 : decode cX8_sure 5 = .ok (.invokevirtual 158, 3) := by decide +kernel
theorem dX8_sure_8 : decode cX8_sure 8 = .ok (.ifCond .eq 18, 3) := by decide +kernel
theorem dX8_sure_11 : decode cX8_sure 11 = .ok (.aload_n 0, 1) := by decide +kernel
theorem dX8_sure_12 : decode cX8_sure 12 = .ok (.getfield 48, 3) := by decide +kernel
theorem dX8_sure_15 : decode cX8_sure 15 = .ok (.aload_n 0, 1) := by decide +kernel
theorem dX8_sure_16 : decode cX8_sure 16 = .ok (.getfield 26, 3) := by decide +kernel
theorem dX8_sure_19 : decode cX8_sure 19 = .ok (.iload_n 1, 1) := by decide +kernel
theorem dX8_sure_20 : decode cX8_sure 20 = .ok (.invokevirtual 168, 3) := by decide +kernel
theorem dX8_sure_23 : decode cX8_sure 23 = .ok (.goto 4, 3) := by decide +kernel
theorem dX8_sure_26 : decode cX8_sure 26 = .ok (.iconst (-1), 1) := by decide +kernel
theorem dX8_sure_27 : decode cX8_sure 27 = .ok (.ireturn, 1) := by decide +kernel
set_option maxRecDepth 20000 in
theorem ggX8_family_X0_keep : GoodIn wsX8_family wsX0_keep := goodIn_r _ [8, 9, 10, 11, 12, 13, 14, 15, 16, 17, 18, 19, 20, 21, 22, 23, 24, 25, 26, 27, 64, 65, 66, 61, 62, 63] (by decide +kernel) (by decide +kernel)
set_option maxRecDepth 20000 in
theorem gX8_family_X0_keep : GoodIn wsX8_family (wsV RX8 172 RX0 yX0_keep wsX0_keep) := goodIn_app (goodIn_of _ (by decide +kernel)) ggX8_family_X0_keep
set_option maxRecDepth 20000 in
theorem ggX8_family_X3_fillWheel : GoodIn wsX8_family wsX3_fillWheel := goodIn_r _ [31, 22, 32, 33, 34, 19, 35, 21, 36, 37, 38, 39, 23, 40, 41, 42, 43, 61, 62, 63] (by decide +kernel) (by decide +kernel)
set_option maxRecDepth 20000 in
theorem gX8_family_X3_fillWheel : GoodIn wsX8_family (wsV RX8 175 RX3 yX3_fillWheel wsX3_fillWheel) := goodIn_app (goodIn_of _ (by decide +kernel)) ggX8_family_X3_fillWheel
set_option maxRecDepth 20000 in
theorem ggX8_family_X3_fillTwins : GoodIn wsX8_family wsX3_fillTwins := goodIn_r _ [47, 22, 32, 33, 34, 19, 35, 21, 36, 37, 38, 39, 23, 40, 41, 42, 43, 61, 62, 63] (by decide +kernel) (by decide +kernel)
set_option maxRecDepth 20000 in
theorem gX8_family_X3_fillTwins : GoodIn wsX8_family (wsV RX8 178 RX3 yX3_fillTwins wsX3_fillTwins) := goodIn_app (goodIn_of _ (by decide +kernel)) ggX8_family_X3_fillTwins
theorem dX8_family_0 : decode cX8_family 0 = .ok (.iload_n 1, 1) := by decide +kernel
theorem dX8_family_1 : decode cX8_family 1 = .ok (.ifCond .lt 25, 3) := by decide +kernel
theorem dX8_family_4 : decode cX8_family 4 = .ok (.iload_n 1, 1) := by decide +kernel
theorem dX8_family_5 : decode cX8_family 5 = .ok (.iconst 1, 1) := by decide +kernel
theorem dX8_family_6 : decode cX8_family 6 = .ok (.if_icmp .gt 20, 3) := by decide +kernel
theorem dX8_family_9 : decode cX8_family 9 = .ok (.iload_n 2, 1) := by decide +kernel
theorem dX8_family_10 : decode cX8_family 10 = .ok (.iconst 4, 1) := by decide +kernel
theorem dX8_family_11 : decode cX8_family 11 = .ok (.if_icmp .lt 15, 3) := by decide +kernel
theorem dX8_family_14 : decode cX8_family 14 = .ok (.iload_n 2, 1) := by decide +kernel
theorem dX8_family_15 : decode cX8_family 15 = .ok (.bipush 14, 2) := by decide +kernel
theorem dX8_family_17 : decode cX8_family 17 = .ok (.if_icmp .gt 9, 3) := by decide +kernel
theorem dX8_family_20 : decode cX8_family 20 = .ok (.iload_n 2, 1) := by decide +kernel
theorem dX8_family_21 : decode cX8_family 21 = .ok (.iconst 1, 1) := by decide +kernel
theorem dX8_family_22 : decode cX8_family 22 = .ok (.iand, 1) := by decide +kernel
theorem dX8_family_23 : decode cX8_family 23 = .ok (.ifCond .eq 5, 3) := by decide +kernel
theorem dX8_family_26 : decode cX8_family 26 = .ok (.iconst (-1), 1) := by decide +kernel
theorem dX8_family_27 : decode cX8_family 27 = .ok (.ireturn, 1) := by decide +kernel
theorem dX8_family_28 : decode cX8_family 28 = .ok (.iload_n 1, 1) := by decide +kernel
theorem dX8_family_29 : decode cX8_family 29 = .ok (.iconst 1, 1) := by decide +kernel
theorem dX8_family_30 : decode cX8_family 30 = .ok (.if_icmp .ne 12, 3) := by decide +kernel
theorem dX8_family_33 : decode cX8_family 33 = .ok (.iload_n 2, 1) := by decide +kernel
theorem dX8_family_34 : decode cX8_family 34 = .ok (.iconst 3, 1) := by decide +kernel
theorem dX8_family_35 : decode cX8_family 35 = .ok (.iand, 1) := by decide +kernel
theorem dX8_family_36 : decode cX8_family 36 = .ok (.iconst 2, 1) := by decide +kernel
theorem dX8_family_37 : decode cX8_family 37 = .ok (.if_icmp .eq 5, 3) := by decide +kernel
theorem dX8_family_40 : decode cX8_family 40 = .ok (.iconst (-1), 1) := by decide +kernel
theorem dX8_family_41 : decode cX8_family 41 = .ok (.ireturn, 1) := by decide +kernel
theorem dX8_family_42 : decode cX8_family 42 = .ok (.aload_n 0, 1) := by decide +kernel
theorem dX8_family_43 : decode cX8_family 43 = .ok (.getfield 41, 3) := by decide +kernel
theorem dX8_family_46 : decode cX8_family 46 = .ok (.aload_n 0, 1) := by decide +kernel
theorem dX8_family_47 : decode cX8_family 47 = .ok (.getfield 26, 3) := by decide +kernel
theorem dX8_family_50 : decode cX8_family 50 = .ok (.invokevirtual 172, 3) := by decide +kernel
theorem dX8_family_53 : decode cX8_family 53 = .ok (.iload_n 1, 1) := by decide +kernel
theorem dX8_family_54 : decode cX8_family 54 = .ok (.ifCond .ne 14, 3) := by decide +kernel
theorem dX8_family_57 : decode cX8_family 57 = .ok (.aload_n 0, 1) := by decide +kernel
theorem dX8_family_58 : decode cX8_family 58 = .ok (.getfield 26, 3) := by decide +kernel
theorem dX8_family_61 : decode cX8_family 61 = .ok (.iload_n 2, 1) := by decide +kernel
theorem dX8_family_62 : decode cX8_family 62 = .ok (.invokevirtual 175, 3) := by decide +kernel
theorem dX8_family_65 : decode cX8_family 65 = .ok (.goto 11, 3) := by decide +kernel
theorem dX8_family_68 : decode cX8_family 68 = .ok (.aload_n 0, 1) := by decide +kernel
theorem dX8_family_69 : decode cX8_family 69 = .ok (.getfield 26, 3) := by decide +kernel
theorem dX8_family_72 : decode cX8_family 72 = .ok (.iload_n 2, 1) := by decide +kernel
theorem dX8_family_73 : decode cX8_family 73 = .ok (.invokevirtual 178, 3) := by decide +kernel
theorem dX8_family_76 : decode cX8_family 76 = .ok (.aload_n 0, 1) := by decide +kernel
theorem dX8_family_77 : decode cX8_family 77 = .ok (.getfield 26, 3) := by decide +kernel
theorem dX8_family_80 : decode cX8_family 80 = .ok (.getfield 113, 3) := by decide +kernel
theorem dX8_family_83 : decode cX8_family 83 = .ok (.ireturn, 1) := by decide +kernel
set_option maxRecDepth 20000 in
theorem ggX8_starters_X8_isStarterSize : GoodIn wsX8_starters wsX8_isStarterSize := goodIn_r _ [7] (by decide +kernel) (by decide +kernel)
set_option maxRecDepth 20000 in
theorem gX8_starters_X8_isStarterSize : GoodIn wsX8_starters (va_wsS RX8 181 yX8_isStarterSize wsX8_isStarterSize) := goodIn_app (goodIn_of _ (by decide +kernel)) ggX8_starters_X8_isStarterSize
set_option maxRecDepth 20000 in
theorem ggX8_starters_X6_countAll : GoodIn wsX8_starters wsX6_countAll := goodIn_r _ [12, 13, 14, 15, 11, 16, 17, 18, 19, 20, 21, 22, 23, 24, 25, 26, 27, 28, 29, 30, 31, 32, 33, 34, 35, 36, 37, 38, 39, 40, 41, 42, 43, 44, 45, 46, 47, 48, 49, 50, 51, 52, 53, 54, 55, 56, 57, 58, 59, 60, 61, 62, 63, 64, 65, 66, 67, 81, 82, 83, 84, 85, 86, 87, 88, 89, 90] (by decide +kernel) (by decide +kernel)
set_option maxRecDepth 20000 in
theorem gX8_starters_X6_countAll : GoodIn wsX8_starters (wsV RX8 184 RX6 yX6_countAll wsX6_countAll) := goodIn_app (goodIn_of _ (by decide +kernel)) ggX8_starters_X6_countAll
theorem dX8_starters_0 : decode cX8_starters 0 = .ok (.iload_n 1, 1) := by decide +kernel
theorem dX8_starters_1 : decode cX8_starters 1 = .ok (.invokestatic 181, 3) := by decide +kernel
theorem dX8_starters_4 : decode cX8_starters 4 = .ok (.ifCond .eq 12, 3) := by decide +kernel
theorem dX8_starters_7 : decode cX8_starters 7 = .ok (.iload_n 2, 1) := by decide +kernel
theorem dX8_starters_8 : decode cX8_starters 8 = .ok (.ifCond .lt 8, 3) := by decide +kernel
theorem dX8_starters_11 : decode cX8_starters 11 = .ok (.iload_n 2, 1) := by decide +kernel
theorem dX8_starters_12 : decode cX8_starters 12 = .ok (.iconst 1, 1) := by decide +kernel
theorem dX8_starters_13 : decode cX8_starters 13 = .ok (.if_icmp .le 5, 3) := by decide +kernel
theorem dX8_starters_16 : decode cX8_starters 16 = .ok (.iconst (-1), 1) := by decide +kernel
theorem dX8_starters_17 : decode cX8_starters 17 = .ok (.ireturn, 1) := by decide +kernel
theorem dX8_starters_18 : decode cX8_starters 18 = .ok (.aload_n 0, 1) := by decide +kernel
theorem dX8_starters_19 : decode cX8_starters 19 = .ok (.getfield 55, 3) := by decide +kernel
theorem dX8_starters_22 : decode cX8_starters 22 = .ok (.iload_n 1, 1) := by decide +kernel
theorem dX8_starters_23 : decode cX8_starters 23 = .ok (.iload_n 2, 1) := by decide +kernel
theorem dX8_starters_24 : decode cX8_starters 24 = .ok (.iconst 1, 1) := by decide +kernel
theorem dX8_starters_25 : decode cX8_starters 25 = .ok (.if_icmp .ne 7, 3) := by decide +kernel
theorem dX8_starters_28 : decode cX8_starters 28 = .ok (.iconst 1, 1) := by decide +kernel
theorem dX8_starters_29 : decode cX8_starters 29 = .ok (.goto 4, 3) := by decide +kernel
theorem dX8_starters_32 : decode cX8_starters 32 = .ok (.iconst 0, 1) := by decide +kernel
theorem dX8_starters_33 : decode cX8_starters 33 = .ok (.invokevirtual 184, 3) := by decide +kernel
theorem dX8_starters_36 : decode cX8_starters 36 = .ok (.iload_n 2, 1) := by decide +kernel
theorem dX8_starters_37 : decode cX8_starters 37 = .ok (.ifCond .ne 13, 3) := by decide +kernel
theorem dX8_starters_40 : decode cX8_starters 40 = .ok (.aload_n 0, 1) := by decide +kernel
theorem dX8_starters_41 : decode cX8_starters 41 = .ok (.getfield 55, 3) := by decide +kernel
theorem dX8_starters_44 : decode cX8_starters 44 = .ok (.getfield 187, 3) := by decide +kernel
theorem dX8_starters_47 : decode cX8_starters 47 = .ok (.goto 10, 3) := by decide +kernel
theorem dX8_starters_50 : decode cX8_starters 50 = .ok (.aload_n 0, 1) := by decide +kernel
theorem dX8_starters_51 : decode cX8_starters 51 = .ok (.getfield 55, 3) := by decide +kernel
theorem dX8_starters_54 : decode cX8_starters 54 = .ok (.getfield 190, 3) := by decide +kernel
theorem dX8_starters_57 : decode cX8_starters 57 = .ok (.ireturn, 1) := by decide +kernel
set_option maxRecDepth 20000 in
theorem ggX8_starter_X8_isStarterSize : GoodIn wsX8_starter wsX8_isStarterSize := goodIn_r _ [6] (by decide +kernel) (by decide +kernel)
set_option maxRecDepth 20000 in
theorem gX8_starter_X8_isStarterSize : GoodIn wsX8_starter (va_wsS RX8 181 yX8_isStarterSize wsX8_isStarterSize) := goodIn_app (goodIn_of _ (by decide +kernel)) ggX8_starter_X8_isStarterSize
set_option maxRecDepth 20000 in
theorem ggX8_starter_X6_find : GoodIn wsX8_starter wsX6_find := goodIn_r _ [11, 12, 13, 14, 10, 15, 16, 17, 18, 19, 20, 21, 22, 23, 24, 25, 26, 27, 28, 29, 30, 31, 32, 33, 34, 35, 36, 37, 38, 39, 40, 41, 42, 43, 44, 45, 46, 47, 48, 49, 50, 51, 52, 53, 54, 55, 56, 57, 58, 59, 60, 61, 62, 63, 64, 65, 66, 80, 81, 82, 83, 84, 85, 86, 87, 88, 89] (by decide +kernel) (by decide +kernel)
set_option maxRecDepth 20000 in
theorem gX8_starter_X6_find : GoodIn wsX8_starter (wsV RX8 193 RX6 yX6_find wsX6_find) := goodIn_app (goodIn_of _ (by decide +kernel)) ggX8_starter_X6_find
theorem dX8_starter_0 : decode cX8_starter 0 = .ok (.iload_n 1, 1) := by decide +kernel
theorem dX8_starter_1 : decode cX8_starter 1 = .ok (.invokestatic 181, 3) := by decide +kernel
theorem dX8_starter_4 : decode cX8_starter 4 = .ok (.ifCond .eq 25, 3) := by decide +kernel
theorem dX8_starter_7 : decode cX8_starter 7 = .ok (.iload_n 3, 1) := by decide +kernel
theorem dX8_starter_8 : decode cX8_starter 8 = .ok (.iconst 1, 1) := by decide +kernel
theorem dX8_starter_9 : decode cX8_starter 9 = .ok (.if_icmp .lt 20, 3) := by decide +kernel
theorem dX8_starter_12 : decode cX8_starter 12 = .ok (.iload_n 3, 1) := by decide +kernel
theorem dX8_starter_13 : decode cX8_starter 13 = .ok (.iload_n 1, 1) := by decide +kernel
theorem dX8_starter_14 : decode cX8_starter 14 = .ok (.if_icmp .ge 15, 3) := by decide +kernel
theorem dX8_starter_17 : decode cX8_starter 17 = .ok (.aload_n 0, 1) := by decide +kernel
theorem dX8_starter_18 : decode cX8_starter 18 = .ok (.getfield 55, 3) := by decide +kernel
theorem dX8_starter_21 : decode cX8_starter 21 = .ok (.iload_n 1, 1) := by decide +kernel
theorem dX8_starter_22 : decode cX8_starter 22 = .ok (.iload_n 2, 1) := by decide +kernel
theorem dX8_starter_23 : decode cX8_starter 23 = .ok (.invokevirtual 193, 3) := by decide +kernel
theorem dX8_starter_26 : decode cX8_starter 26 = .ok (.ifCond .ne 5, 3) := by decide +kernel
theorem dX8_starter_29 : decode cX8_starter 29 = .ok (.iconst (-1), 1) := by decide +kernel
theorem dX8_starter_30 : decode cX8_starter 30 = .ok (.ireturn, 1) := by decide +kernel
theorem dX8_starter_31 : decode cX8_starter 31 = .ok (.aload_n 0, 1) := by decide +kernel
theorem dX8_starter_32 : decode cX8_starter 32 = .ok (.getfield 55, 3) := by decide +kernel
theorem dX8_starter_35 : decode cX8_starter 35 = .ok (.getfield 195, 3) := by decide +kernel
theorem dX8_starter_38 : decode cX8_starter 38 = .ok (.iload_n 3, 1) := by decide +kernel
theorem dX8_starter_39 : decode cX8_starter 39 = .ok (.iaload, 1) := by decide +kernel
theorem dX8_starter_40 : decode cX8_starter 40 = .ok (.ireturn, 1) := by decide +kernel
set_option maxRecDepth 20000 in
theorem ggX8_by_X8_isStarterSize : GoodIn wsX8_by wsX8_isStarterSize := goodIn_r _ [9] (by decide +kernel) (by decide +kernel)
set_option maxRecDepth 20000 in
theorem gX8_by_X8_isStarterSize : GoodIn wsX8_by (va_wsS RX8 181 yX8_isStarterSize wsX8_isStarterSize) := goodIn_app (goodIn_of _ (by decide +kernel)) ggX8_by_X8_isStarterSize
set_option maxRecDepth 20000 in
theorem ggX8_by_X6_find : GoodIn wsX8_by wsX6_find := goodIn_r _ [14, 15, 16, 17, 13, 18, 19, 20, 21, 22, 23, 24, 25, 26, 27, 28, 29, 30, 31, 32, 33, 34, 35, 36, 37, 38, 39, 40, 41, 42, 43, 44, 45, 46, 47, 48, 49, 50, 51, 52, 53, 54, 55, 56, 57, 58, 59, 60, 61, 62, 63, 64, 65, 66, 67, 68, 69, 104, 105, 106, 107, 108, 109, 110, 111, 112, 113] (by decide +kernel) (by decide +kernel)
set_option maxRecDepth 20000 in
theorem gX8_by_X6_find : GoodIn wsX8_by (wsV RX8 193 RX6 yX6_find wsX6_find) := goodIn_app (goodIn_of _ (by decide +kernel)) ggX8_by_X6_find
set_option maxRecDepth 20000 in
theorem ggX8_by_X0_keep : GoodIn wsX8_by wsX0_keep := goodIn_r _ [74, 75, 76, 77, 78, 79, 80, 81, 82, 83, 84, 41, 85, 48, 43, 53, 86, 87, 88, 89, 114, 115, 116, 111, 112, 113] (by decide +kernel) (by decide +kernel)
set_option maxRecDepth 20000 in
theorem gX8_by_X0_keep : GoodIn wsX8_by (wsV RX8 172 RX0 yX0_keep wsX0_keep) := goodIn_app (goodIn_of _ (by decide +kernel)) ggX8_by_X0_keep
set_option maxRecDepth 20000 in
theorem ggX8_by_X3_fillBy : GoodIn wsX8_by wsX3_fillBy := goodIn_r _ [42, 43, 44, 45, 46, 41, 47, 48, 49, 50, 51, 52, 53, 54, 55, 56, 57, 111, 112, 113] (by decide +kernel) (by decide +kernel)
set_option maxRecDepth 20000 in
theorem gX8_by_X3_fillBy : GoodIn wsX8_by (wsV RX8 198 RX3 yX3_fillBy wsX3_fillBy) := goodIn_app (goodIn_of _ (by decide +kernel)) ggX8_by_X3_fillBy
theorem dX8_by_0 : decode cX8_by 0 = .ok (.iload_n 1, 1) := by decide +kernel
theorem dX8_by_1 : decode cX8_by 1 = .ok (.invokestatic 181, 3) := by decide +kernel
theorem dX8_by_4 : decode cX8_by 4 = .ok (.ifCond .eq 15, 3) := by decide +kernel
theorem dX8_by_7 : decode cX8_by 7 = .ok (.aload_n 0, 1) := by decide +kernel
theorem dX8_by_8 : decode cX8_by 8 = .ok (.getfield 55, 3) := by decide +kernel
theorem dX8_by_11 : decode cX8_by 11 = .ok (.iload_n 1, 1) := by decide +kernel
theorem dX8_by_12 : decode cX8_by 12 = .ok (.iload_n 2, 1) := by decide +kernel
theorem dX8_by_13 : decode cX8_by 13 = .ok (.invokevirtual 193, 3) := by decide +kernel
theorem dX8_by_16 : decode cX8_by 16 = .ok (.ifCond .ne 5, 3) := by decide +kernel
theorem dX8_by_19 : decode cX8_by 19 = .ok (.iconst (-1), 1) := by decide +kernel
theorem dX8_by_20 : decode cX8_by 20 = .ok (.ireturn, 1) := by decide +kernel
theorem dX8_by_21 : decode cX8_by 21 = .ok (.aload_n 0, 1) := by decide +kernel
theorem dX8_by_22 : decode cX8_by 22 = .ok (.getfield 41, 3) := by decide +kernel
theorem dX8_by_25 : decode cX8_by 25 = .ok (.aload_n 0, 1) := by decide +kernel
theorem dX8_by_26 : decode cX8_by 26 = .ok (.getfield 26, 3) := by decide +kernel
theorem dX8_by_29 : decode cX8_by 29 = .ok (.invokevirtual 172, 3) := by decide +kernel
theorem dX8_by_32 : decode cX8_by 32 = .ok (.aload_n 0, 1) := by decide +kernel
theorem dX8_by_33 : decode cX8_by 33 = .ok (.getfield 26, 3) := by decide +kernel
theorem dX8_by_36 : decode cX8_by 36 = .ok (.iload_n 1, 1) := by decide +kernel
theorem dX8_by_37 : decode cX8_by 37 = .ok (.aload_n 0, 1) := by decide +kernel
theorem dX8_by_38 : decode cX8_by 38 = .ok (.getfield 55, 3) := by decide +kernel
theorem dX8_by_41 : decode cX8_by 41 = .ok (.getfield 195, 3) := by decide +kernel
theorem dX8_by_44 : decode cX8_by 44 = .ok (.invokevirtual 198, 3) := by decide +kernel
theorem dX8_by_47 : decode cX8_by 47 = .ok (.aload_n 0, 1) := by decide +kernel
theorem dX8_by_48 : decode cX8_by 48 = .ok (.getfield 26, 3) := by decide +kernel
theorem dX8_by_51 : decode cX8_by 51 = .ok (.getfield 113, 3) := by decide +kernel
theorem dX8_by_54 : decode cX8_by 54 = .ok (.ireturn, 1) := by decide +kernel
set_option maxRecDepth 20000 in
theorem ggX8_turned_X3_turns : GoodIn wsX8_turned wsX3_turns := goodIn_r _ [7, 8, 9, 10, 11, 12, 6, 13, 14, 15, 16, 17, 18, 19, 20, 21, 22, 23, 24, 25, 26, 27, 28, 29, 30, 44, 45, 46] (by decide +kernel) (by decide +kernel)
set_option maxRecDepth 20000 in
theorem gX8_turned_X3_turns : GoodIn wsX8_turned (wsV RX8 202 RX3 yX3_turns wsX3_turns) := goodIn_app (goodIn_of _ (by decide +kernel)) ggX8_turned_X3_turns
theorem dX8_turned_0 : decode cX8_turned 0 = .ok (.aload_n 0, 1) := by decide +kernel
theorem dX8_turned_1 : decode cX8_turned 1 = .ok (.getfield 26, 3) := by decide +kernel
theorem dX8_turned_4 : decode cX8_turned 4 = .ok (.getfield 110, 3) := by decide +kernel
theorem dX8_turned_7 : decode cX8_turned 7 = .ok (.ifCond .ne 7, 3) := by decide +kernel
theorem dX8_turned_10 : decode cX8_turned 10 = .ok (.iconst (-1), 1) := by decide +kernel
theorem dX8_turned_11 : decode cX8_turned 11 = .ok (.goto 10, 3) := by decide +kernel
theorem dX8_turned_14 : decode cX8_turned 14 = .ok (.aload_n 0, 1) := by decide +kernel
theorem dX8_turned_15 : decode cX8_turned 15 = .ok (.getfield 26, 3) := by decide +kernel
theorem dX8_turned_18 : decode cX8_turned 18 = .ok (.invokevirtual 202, 3) := by decide +kernel
theorem dX8_turned_21 : decode cX8_turned 21 = .ok (.ireturn, 1) := by decide +kernel
set_option maxRecDepth 20000 in
theorem ggX8_alike_X8_isFilled : GoodIn wsX8_alike wsX8_isFilled := goodIn_r _ [11, 12, 51, 52, 53, 54, 55, 56, 57, 58, 59, 60, 61, 62, 63] (by decide +kernel) (by decide +kernel)
set_option maxRecDepth 20000 in
theorem gX8_alike_X8_isFilled : GoodIn wsX8_alike (wsV RX8 206 RX8 yX8_isFilled wsX8_isFilled) := goodIn_app (goodIn_of _ (by decide +kernel)) ggX8_alike_X8_isFilled
set_option maxRecDepth 20000 in
theorem ggX8_alike_X4_measure : GoodIn wsX8_alike wsX4_measure := goodIn_r _ [17, 18, 19, 20, 21, 22, 23, 24, 25, 26, 27, 28, 29, 16, 30, 31, 32, 33, 34, 35, 36, 37, 38, 39, 40, 41, 42, 43, 44, 45, 46, 64, 65, 66, 67, 68, 69, 70] (by decide +kernel) (by decide +kernel)
set_option maxRecDepth 20000 in
theorem gX8_alike_X4_measure : GoodIn wsX8_alike (wsV RX8 116 RX4 yX4_measure wsX4_measure) := goodIn_app (goodIn_of _ (by decide +kernel)) ggX8_alike_X4_measure
set_option maxRecDepth 20000 in
theorem ggX8_alike_X4_same : GoodIn wsX8_alike wsX4_same := goodIn_r _ [50, 26, 24, 67, 68, 69, 70] (by decide +kernel) (by decide +kernel)
set_option maxRecDepth 20000 in
theorem gX8_alike_X4_same : GoodIn wsX8_alike (wsV RX8 209 RX4 yX4_same wsX4_same) := goodIn_app (goodIn_of _ (by decide +kernel)) ggX8_alike_X4_same
theorem dX8_alike_0 : decode cX8_alike 0 = .ok (.aload_n 0, 1) := by decide +kernel
theorem dX8_alike_1 : decode cX8_alike 1 = .ok (.iload_n 1, 1) := by decide +kernel
theorem dX8_alike_2 : decode cX8_alike 2 = .ok (.invokevirtual 206, 3) := by decide +kernel
theorem dX8_alike_5 : decode cX8_alike 5 = .ok (.ifCond .ne 5, 3) := by decide +kernel
theorem dX8_alike_8 : decode cX8_alike 8 = .ok (.iconst (-1), 1) := by decide +kernel
theorem dX8_alike_9 : decode cX8_alike 9 = .ok (.ireturn, 1) := by decide +kernel
theorem dX8_alike_10 : decode cX8_alike 10 = .ok (.aload_n 0, 1) := by decide +kernel
theorem dX8_alike_11 : decode cX8_alike 11 = .ok (.getfield 30, 3) := by decide +kernel
theorem dX8_alike_14 : decode cX8_alike 14 = .ok (.iload_n 1, 1) := by decide +kernel
theorem dX8_alike_15 : decode cX8_alike 15 = .ok (.aaload, 1) := by decide +kernel
theorem dX8_alike_16 : decode cX8_alike 16 = .ok (.astore_n 2, 1) := by decide +kernel
theorem dX8_alike_17 : decode cX8_alike 17 = .ok (.aload_n 0, 1) := by decide +kernel
theorem dX8_alike_18 : decode cX8_alike 18 = .ok (.getfield 26, 3) := by decide +kernel
theorem dX8_alike_21 : decode cX8_alike 21 = .ok (.getfield 110, 3) := by decide +kernel
theorem dX8_alike_24 : decode cX8_alike 24 = .ok (.aload_n 2, 1) := by decide +kernel
theorem dX8_alike_25 : decode cX8_alike 25 = .ok (.getfield 110, 3) := by decide +kernel
theorem dX8_alike_28 : decode cX8_alike 28 = .ok (.if_icmp .ne 17, 3) := by decide +kernel
theorem dX8_alike_31 : decode cX8_alike 31 = .ok (.aload_n 0, 1) := by decide +kernel
theorem dX8_alike_32 : decode cX8_alike 32 = .ok (.getfield 26, 3) := by decide +kernel
theorem dX8_alike_35 : decode cX8_alike 35 = .ok (.getfield 113, 3) := by decide +kernel
theorem dX8_alike_38 : decode cX8_alike 38 = .ok (.aload_n 2, 1) := by decide +kernel
theorem dX8_alike_39 : decode cX8_alike 39 = .ok (.getfield 113, 3) := by decide +kernel
theorem dX8_alike_42 : decode cX8_alike 42 = .ok (.if_icmp .eq 5, 3) := by decide +kernel
theorem dX8_alike_45 : decode cX8_alike 45 = .ok (.iconst 0, 1) := by decide +kernel
theorem dX8_alike_46 : decode cX8_alike 46 = .ok (.ireturn, 1) := by decide +kernel
theorem dX8_alike_47 : decode cX8_alike 47 = .ok (.aload_n 0, 1) := by decide +kernel
theorem dX8_alike_48 : decode cX8_alike 48 = .ok (.getfield 62, 3) := by decide +kernel
theorem dX8_alike_51 : decode cX8_alike 51 = .ok (.aload_n 0, 1) := by decide +kernel
theorem dX8_alike_52 : decode cX8_alike 52 = .ok (.getfield 26, 3) := by decide +kernel
theorem dX8_alike_55 : decode cX8_alike 55 = .ok (.invokevirtual 116, 3) := by decide +kernel
theorem dX8_alike_58 : decode cX8_alike 58 = .ok (.aload_n 0, 1) := by decide +kernel
theorem dX8_alike_59 : decode cX8_alike 59 = .ok (.getfield 66, 3) := by decide +kernel
theorem dX8_alike_62 : decode cX8_alike 62 = .ok (.aload_n 2, 1) := by decide +kernel
theorem dX8_alike_63 : decode cX8_alike 63 = .ok (.invokevirtual 116, 3) := by decide +kernel
theorem dX8_alike_66 : decode cX8_alike 66 = .ok (.aload_n 0, 1) := by decide +kernel
theorem dX8_alike_67 : decode cX8_alike 67 = .ok (.getfield 62, 3) := by decide +kernel
theorem dX8_alike_70 : decode cX8_alike 70 = .ok (.aload_n 0, 1) := by decide +kernel
theorem dX8_alike_71 : decode cX8_alike 71 = .ok (.getfield 66, 3) := by decide +kernel
theorem dX8_alike_74 : decode cX8_alike 74 = .ok (.invokevirtual 209, 3) := by decide +kernel
theorem dX8_alike_77 : decode cX8_alike 77 = .ok (.ifCond .eq 7, 3) := by decide +kernel
theorem dX8_alike_80 : decode cX8_alike 80 = .ok (.iconst 1, 1) := by decide +kernel
theorem dX8_alike_81 : decode cX8_alike 81 = .ok (.goto 4, 3) := by decide +kernel
theorem dX8_alike_84 : decode cX8_alike 84 = .ok (.iconst 0, 1) := by decide +kernel
theorem dX8_alike_85 : decode cX8_alike 85 = .ok (.ireturn, 1) := by decide +kernel
set_option maxRecDepth 20000 in
theorem ggX8_tell_X8_readTold : GoodIn wsX8_tell wsX8_readTold := goodIn_r _ [11, 4, 12, 1, 2, 5, 13, 14, 15, 16, 17, 18, 19, 20, 21, 22, 23, 24, 25, 26, 27, 28, 29, 30, 31, 32, 57, 58, 59, 60, 61, 62, 63, 64, 65, 66, 67, 68, 69, 72, 73, 74, 70, 71] (by decide +kernel) (by decide +kernel)
set_option maxRecDepth 20000 in
theorem gX8_tell_X8_readTold : GoodIn wsX8_tell (wsV RX8 213 RX8 yX8_readTold wsX8_readTold) := goodIn_app (goodIn_of _ (by decide +kernel)) ggX8_tell_X8_readTold
set_option maxRecDepth 20000 in
theorem ggX8_tell_X0_keep : GoodIn wsX8_tell wsX0_keep := goodIn_r _ [37, 38, 39, 40, 41, 42, 43, 44, 45, 46, 47, 23, 48, 25, 30, 31, 49, 50, 51, 52, 75, 76, 77, 72, 73, 74] (by decide +kernel) (by decide +kernel)
set_option maxRecDepth 20000 in
theorem gX8_tell_X0_keep : GoodIn wsX8_tell (wsV RX8 172 RX0 yX0_keep wsX0_keep) := goodIn_app (goodIn_of _ (by decide +kernel)) ggX8_tell_X0_keep
set_option maxRecDepth 20000 in
theorem ggX8_tell_X3_append : GoodIn wsX8_tell wsX3_append := goodIn_r _ [56, 30, 31, 49, 50, 51, 52, 72, 73, 74] (by decide +kernel) (by decide +kernel)
set_option maxRecDepth 20000 in
theorem gX8_tell_X3_append : GoodIn wsX8_tell (wsV RX8 217 RX3 yX3_append wsX3_append) := goodIn_app (goodIn_of _ (by decide +kernel)) ggX8_tell_X3_append
theorem dX8_tell_0 : decode cX8_tell 0 = .ok (.aload_n 0, 1) := by decide +kernel
theorem dX8_tell_1 : decode cX8_tell 1 = .ok (.invokevirtual 213, 3) := by decide +kernel
theorem dX8_tell_4 : decode cX8_tell 4 = .ok (.istore_n 1, 1) := by decide +kernel
theorem dX8_tell_5 : decode cX8_tell 5 = .ok (.aload_n 0, 1) := by decide +kernel
theorem dX8_tell_6 : decode cX8_tell 6 = .ok (.getfield 10, 3) := by decide +kernel
theorem dX8_tell_9 : decode cX8_tell 9 = .ok (.iconst 0, 1) := by decide +kernel
theorem dX8_tell_10 : decode cX8_tell 10 = .ok (.putfield 84, 3) := by decide +kernel
theorem dX8_tell_13 : decode cX8_tell 13 = .ok (.iload_n 1, 1) := by decide +kernel
theorem dX8_tell_14 : decode cX8_tell 14 = .ok (.ifCond .ne 5, 3) := by decide +kernel
theorem dX8_tell_17 : decode cX8_tell 17 = .ok (.iconst (-1), 1) := by decide +kernel
theorem dX8_tell_18 : decode cX8_tell 18 = .ok (.ireturn, 1) := by decide +kernel
theorem dX8_tell_19 : decode cX8_tell 19 = .ok (.aload_n 0, 1) := by decide +kernel
theorem dX8_tell_20 : decode cX8_tell 20 = .ok (.getfield 41, 3) := by decide +kernel
theorem dX8_tell_23 : decode cX8_tell 23 = .ok (.aload_n 0, 1) := by decide +kernel
theorem dX8_tell_24 : decode cX8_tell 24 = .ok (.getfield 26, 3) := by decide +kernel
theorem dX8_tell_27 : decode cX8_tell 27 = .ok (.invokevirtual 172, 3) := by decide +kernel
theorem dX8_tell_30 : decode cX8_tell 30 = .ok (.aload_n 0, 1) := by decide +kernel
theorem dX8_tell_31 : decode cX8_tell 31 = .ok (.getfield 26, 3) := by decide +kernel
theorem dX8_tell_34 : decode cX8_tell 34 = .ok (.aload_n 0, 1) := by decide +kernel
theorem dX8_tell_35 : decode cX8_tell 35 = .ok (.getfield 76, 3) := by decide +kernel
theorem dX8_tell_38 : decode cX8_tell 38 = .ok (.invokevirtual 217, 3) := by decide +kernel
theorem dX8_tell_41 : decode cX8_tell 41 = .ok (.aload_n 0, 1) := by decide +kernel
theorem dX8_tell_42 : decode cX8_tell 42 = .ok (.getfield 26, 3) := by decide +kernel
theorem dX8_tell_45 : decode cX8_tell 45 = .ok (.getfield 113, 3) := by decide +kernel
theorem dX8_tell_48 : decode cX8_tell 48 = .ok (.ireturn, 1) := by decide +kernel
set_option maxRecDepth 20000 in
theorem ggX8_add_X2_find : GoodIn wsX8_add wsX2_find := goodIn_r _ [10, 11, 12, 13, 14, 15, 9, 16, 17, 18, 19, 20, 21, 22, 23, 24, 25, 26, 27, 28, 29, 30, 31, 32, 33, 34, 35, 36, 37, 38, 39, 40, 41, 42, 43, 44, 45, 46, 47, 48, 49, 50, 51, 52, 53, 54, 55, 56, 57, 58, 59, 60, 61, 62, 63, 64, 65, 66, 67, 68, 69, 70, 71, 72, 73, 74, 75, 76, 119, 120, 121, 111, 112, 113, 114, 115, 116, 117, 118] (by decide +kernel) (by decide +kernel)
set_option maxRecDepth 20000 in
theorem gX8_add_X2_find : GoodIn wsX8_add (wsV RX8 161 RX2 yX2_find wsX2_find) := goodIn_app (goodIn_of _ (by decide +kernel)) ggX8_add_X2_find
set_option maxRecDepth 20000 in
theorem ggX8_add_X0_keep : GoodIn wsX8_add wsX0_keep := goodIn_r _ [81, 82, 83, 84, 85, 19, 20, 21, 86, 87, 88, 29, 89, 32, 31, 33, 90, 91, 92, 93, 122, 123, 124, 119, 120, 121] (by decide +kernel) (by decide +kernel)
set_option maxRecDepth 20000 in
theorem gX8_add_X0_keep : GoodIn wsX8_add (wsV RX8 172 RX0 yX0_keep wsX0_keep) := goodIn_app (goodIn_of _ (by decide +kernel)) ggX8_add_X0_keep
set_option maxRecDepth 20000 in
theorem ggX8_add_X3_append : GoodIn wsX8_add wsX3_append := goodIn_r _ [97, 31, 33, 90, 91, 92, 93, 119, 120, 121] (by decide +kernel) (by decide +kernel)
set_option maxRecDepth 20000 in
theorem gX8_add_X3_append : GoodIn wsX8_add (wsV RX8 217 RX3 yX3_append wsX3_append) := goodIn_app (goodIn_of _ (by decide +kernel)) ggX8_add_X3_append
theorem dX8_add_0 : decode cX8_add 0 = .ok (.aload_n 0, 1) := by decide +kernel
theorem dX8_add_1 : decode cX8_add 1 = .ok (.getfield 48, 3) := by decide +kernel
theorem dX8_add_4 : decode cX8_add 4 = .ok (.aload_n 0, 1) := by decide +kernel
theorem dX8_add_5 : decode cX8_add 5 = .ok (.getfield 26, 3) := by decide +kernel
theorem dX8_add_8 : decode cX8_add 8 = .ok (.iload_n 1, 1) := by decide +kernel
theorem dX8_add_9 : decode cX8_add 9 = .ok (.invokevirtual 161, 3) := by decide +kernel
theorem dX8_add_12 : decode cX8_add 12 = .ok (.ifCond .ne 5, 3) := by decide +kernel
theorem dX8_add_15 : decode cX8_add 15 = .ok (.iconst (-1), 1) := by decide +kernel
theorem dX8_add_16 : decode cX8_add 16 = .ok (.ireturn, 1) := by decide +kernel
theorem dX8_add_17 : decode cX8_add 17 = .ok (.aload_n 0, 1) := by decide +kernel
theorem dX8_add_18 : decode cX8_add 18 = .ok (.getfield 41, 3) := by decide +kernel
theorem dX8_add_21 : decode cX8_add 21 = .ok (.aload_n 0, 1) := by decide +kernel
theorem dX8_add_22 : decode cX8_add 22 = .ok (.getfield 26, 3) := by decide +kernel
theorem dX8_add_25 : decode cX8_add 25 = .ok (.invokevirtual 172, 3) := by decide +kernel
theorem dX8_add_28 : decode cX8_add 28 = .ok (.aload_n 0, 1) := by decide +kernel
theorem dX8_add_29 : decode cX8_add 29 = .ok (.getfield 26, 3) := by decide +kernel
theorem dX8_add_32 : decode cX8_add 32 = .ok (.aload_n 0, 1) := by decide +kernel
theorem dX8_add_33 : decode cX8_add 33 = .ok (.getfield 48, 3) := by decide +kernel
theorem dX8_add_36 : decode cX8_add 36 = .ok (.getfield 165, 3) := by decide +kernel
theorem dX8_add_39 : decode cX8_add 39 = .ok (.invokevirtual 217, 3) := by decide +kernel
theorem dX8_add_42 : decode cX8_add 42 = .ok (.aload_n 0, 1) := by decide +kernel
theorem dX8_add_43 : decode cX8_add 43 = .ok (.getfield 26, 3) := by decide +kernel
theorem dX8_add_46 : decode cX8_add 46 = .ok (.getfield 113, 3) := by decide +kernel
theorem dX8_add_49 : decode cX8_add 49 = .ok (.ireturn, 1) := by decide +kernel
set_option maxRecDepth 20000 in
theorem ggX8_addAll_X2_find : GoodIn wsX8_addAll wsX2_find := goodIn_r _ [9, 10, 11, 12, 13, 14, 8, 15, 16, 17, 18, 19, 20, 21, 22, 23, 24, 25, 26, 27, 28, 29, 30, 31, 32, 33, 34, 35, 36, 37, 38, 39, 40, 41, 42, 43, 44, 45, 46, 47, 48, 49, 50, 51, 52, 53, 54, 55, 56, 57, 58, 59, 60, 61, 62, 63, 64, 65, 66, 67, 68, 69, 70, 71, 72, 73, 74, 75, 118, 119, 120, 110, 111, 112, 113, 114, 115, 116, 117] (by decide +kernel) (by decide +kernel)
set_option maxRecDepth 20000 in
theorem gX8_addAll_X2_find : GoodIn wsX8_addAll (wsV RX8 161 RX2 yX2_find wsX2_find) := goodIn_app (goodIn_of _ (by decide +kernel)) ggX8_addAll_X2_find
set_option maxRecDepth 20000 in
theorem ggX8_addAll_X0_keep : GoodIn wsX8_addAll wsX0_keep := goodIn_r _ [80, 81, 82, 83, 84, 18, 19, 20, 85, 86, 87, 28, 88, 31, 30, 32, 89, 90, 91, 92, 121, 122, 123, 118, 119, 120] (by decide +kernel) (by decide +kernel)
set_option maxRecDepth 20000 in
theorem gX8_addAll_X0_keep : GoodIn wsX8_addAll (wsV RX8 172 RX0 yX0_keep wsX0_keep) := goodIn_app (goodIn_of _ (by decide +kernel)) ggX8_addAll_X0_keep
set_option maxRecDepth 20000 in
theorem ggX8_addAll_X3_append : GoodIn wsX8_addAll wsX3_append := goodIn_r _ [96, 30, 32, 89, 90, 91, 92, 118, 119, 120] (by decide +kernel) (by decide +kernel)
set_option maxRecDepth 20000 in
theorem gX8_addAll_X3_append : GoodIn wsX8_addAll (wsV RX8 217 RX3 yX3_append wsX3_append) := goodIn_app (goodIn_of _ (by decide +kernel)) ggX8_addAll_X3_append
theorem dX8_addAll_0 : decode cX8_addAll 0 = .ok (.iconst 0, 1) := by decide +kernel
theorem dX8_addAll_1 : decode cX8_addAll 1 = .ok (.istore_n 2, 1) := by decide +kernel
theorem dX8_addAll_2 : decode cX8_addAll 2 = .ok (.iload_n 2, 1) := by decide +kernel
theorem dX8_addAll_3 : decode cX8_addAll 3 = .ok (.bipush 13, 2) := by decide +kernel
theorem dX8_addAll_5 : decode cX8_addAll 5 = .ok (.if_icmp .ge 53, 3) := by decide +kernel
theorem dX8_addAll_8 : decode cX8_addAll 8 = .ok (.aload_n 0, 1) := by decide +kernel
theorem dX8_addAll_9 : decode cX8_addAll 9 = .ok (.getfield 48, 3) := by decide +kernel
theorem dX8_addAll_12 : decode cX8_addAll 12 = .ok (.aload_n 0, 1) := by decide +kernel
theorem dX8_addAll_13 : decode cX8_addAll 13 = .ok (.getfield 26, 3) := by decide +kernel
theorem dX8_addAll_16 : decode cX8_addAll 16 = .ok (.iload_n 1, 1) := by decide +kernel
theorem dX8_addAll_17 : decode cX8_addAll 17 = .ok (.invokevirtual 161, 3) := by decide +kernel
theorem dX8_addAll_20 : decode cX8_addAll 20 = .ok (.ifCond .eq 38, 3) := by decide +kernel
theorem dX8_addAll_23 : decode cX8_addAll 23 = .ok (.iload_n 2, 1) := by decide +kernel
theorem dX8_addAll_24 : decode cX8_addAll 24 = .ok (.ifCond .ne 14, 3) := by decide +kernel
theorem dX8_addAll_27 : decode cX8_addAll 27 = .ok (.aload_n 0, 1) := by decide +kernel
theorem dX8_addAll_28 : decode cX8_addAll 28 = .ok (.getfield 41, 3) := by decide +kernel
theorem dX8_addAll_31 : decode cX8_addAll 31 = .ok (.aload_n 0, 1) := by decide +kernel
theorem dX8_addAll_32 : decode cX8_addAll 32 = .ok (.getfield 26, 3) := by decide +kernel
theorem dX8_addAll_35 : decode cX8_addAll 35 = .ok (.invokevirtual 172, 3) := by decide +kernel
theorem dX8_addAll_38 : decode cX8_addAll 38 = .ok (.aload_n 0, 1) := by decide +kernel
theorem dX8_addAll_39 : decode cX8_addAll 39 = .ok (.getfield 26, 3) := by decide +kernel
theorem dX8_addAll_42 : decode cX8_addAll 42 = .ok (.aload_n 0, 1) := by decide +kernel
theorem dX8_addAll_43 : decode cX8_addAll 43 = .ok (.getfield 48, 3) := by decide +kernel
theorem dX8_addAll_46 : decode cX8_addAll 46 = .ok (.getfield 165, 3) := by decide +kernel
theorem dX8_addAll_49 : decode cX8_addAll 49 = .ok (.invokevirtual 217, 3) := by decide +kernel
theorem dX8_addAll_52 : decode cX8_addAll 52 = .ok (.iinc 2 1, 3) := by decide +kernel
theorem dX8_addAll_55 : decode cX8_addAll 55 = .ok (.goto (-53), 3) := by decide +kernel
theorem dX8_addAll_58 : decode cX8_addAll 58 = .ok (.iload_n 2, 1) := by decide +kernel
theorem dX8_addAll_59 : decode cX8_addAll 59 = .ok (.ireturn, 1) := by decide +kernel
set_option maxRecDepth 20000 in
theorem ggX8_drop_X3_hasDay : GoodIn wsX8_drop wsX3_hasDay := goodIn_r _ [8, 9, 50, 51, 52] (by decide +kernel) (by decide +kernel)
set_option maxRecDepth 20000 in
theorem gX8_drop_X3_hasDay : GoodIn wsX8_drop (wsV RX8 147 RX3 yX3_hasDay wsX3_hasDay) := goodIn_app (goodIn_of _ (by decide +kernel)) ggX8_drop_X3_hasDay
set_option maxRecDepth 20000 in
theorem ggX8_drop_X0_keep : GoodIn wsX8_drop wsX0_keep := goodIn_r _ [14, 15, 16, 17, 18, 19, 20, 21, 22, 23, 24, 7, 25, 26, 9, 27, 28, 29, 30, 31, 53, 54, 55, 50, 51, 52] (by decide +kernel) (by decide +kernel)
set_option maxRecDepth 20000 in
theorem gX8_drop_X0_keep : GoodIn wsX8_drop (wsV RX8 172 RX0 yX0_keep wsX0_keep) := goodIn_app (goodIn_of _ (by decide +kernel)) ggX8_drop_X0_keep
set_option maxRecDepth 20000 in
theorem ggX8_drop_X3_remove : GoodIn wsX8_drop wsX3_remove := goodIn_r _ [35, 9, 27, 28, 29, 30, 31, 36, 5, 6, 7, 8, 50, 51, 52] (by decide +kernel) (by decide +kernel)
set_option maxRecDepth 20000 in
theorem gX8_drop_X3_remove : GoodIn wsX8_drop (wsV RX8 221 RX3 yX3_remove wsX3_remove) := goodIn_app (goodIn_of _ (by decide +kernel)) ggX8_drop_X3_remove
theorem dX8_drop_0 : decode cX8_drop 0 = .ok (.aload_n 0, 1) := by decide +kernel
theorem dX8_drop_1 : decode cX8_drop 1 = .ok (.getfield 26, 3) := by decide +kernel
theorem dX8_drop_4 : decode cX8_drop 4 = .ok (.iload_n 1, 1) := by decide +kernel
theorem dX8_drop_5 : decode cX8_drop 5 = .ok (.invokevirtual 147, 3) := by decide +kernel
theorem dX8_drop_8 : decode cX8_drop 8 = .ok (.ifCond .ne 5, 3) := by decide +kernel
theorem dX8_drop_11 : decode cX8_drop 11 = .ok (.iconst (-1), 1) := by decide +kernel
theorem dX8_drop_12 : decode cX8_drop 12 = .ok (.ireturn, 1) := by decide +kernel
theorem dX8_drop_13 : decode cX8_drop 13 = .ok (.aload_n 0, 1) := by decide +kernel
theorem dX8_drop_14 : decode cX8_drop 14 = .ok (.getfield 41, 3) := by decide +kernel
theorem dX8_drop_17 : decode cX8_drop 17 = .ok (.aload_n 0, 1) := by decide +kernel
theorem dX8_drop_18 : decode cX8_drop 18 = .ok (.getfield 26, 3) := by decide +kernel
theorem dX8_drop_21 : decode cX8_drop 21 = .ok (.invokevirtual 172, 3) := by decide +kernel
theorem dX8_drop_24 : decode cX8_drop 24 = .ok (.aload_n 0, 1) := by decide +kernel
theorem dX8_drop_25 : decode cX8_drop 25 = .ok (.getfield 26, 3) := by decide +kernel
theorem dX8_drop_28 : decode cX8_drop 28 = .ok (.iload_n 1, 1) := by decide +kernel
theorem dX8_drop_29 : decode cX8_drop 29 = .ok (.invokevirtual 221, 3) := by decide +kernel
theorem dX8_drop_32 : decode cX8_drop 32 = .ok (.aload_n 0, 1) := by decide +kernel
theorem dX8_drop_33 : decode cX8_drop 33 = .ok (.getfield 26, 3) := by decide +kernel
theorem dX8_drop_36 : decode cX8_drop 36 = .ok (.getfield 113, 3) := by decide +kernel
theorem dX8_drop_39 : decode cX8_drop 39 = .ok (.ireturn, 1) := by decide +kernel
