theorem dX9_ring_56 : decode cX9_ring 56 = .ok (.iconst 1, 1) := by decide +kernel
theorem dX9_ring_57 : decode cX9_ring 57 = .ok (.isub, 1) := by decide +kernel
theorem dX9_ring_58 : decode cX9_ring 58 = .ok (.istore 4, 2) := by decide +kernel
theorem dX9_ring_60 : decode cX9_ring 60 = .ok (.iconst 0, 1) := by decide +kernel
theorem dX9_ring_61 : decode cX9_ring 61 = .ok (.istore 5, 2) := by decide +kernel
theorem dX9_ring_63 : decode cX9_ring 63 = .ok (.iconst 0, 1) := by decide +kernel
theorem dX9_ring_64 : decode cX9_ring 64 = .ok (.istore 6, 2) := by decide +kernel
theorem dX9_ring_66 : decode cX9_ring 66 = .ok (.iload 6, 2) := by decide +kernel
theorem dX9_ring_68 : decode cX9_ring 68 = .ok (.iload_n 3, 1) := by decide +kernel
theorem dX9_ring_69 : decode cX9_ring 69 = .ok (.if_icmp .gt 34, 3) := by decide +kernel
theorem dX9_ring_72 : decode cX9_ring 72 = .ok (.aload_n 0, 1) := by decide +kernel
theorem dX9_ring_73 : decode cX9_ring 73 = .ok (.getfield 68, 3) := by decide +kernel
theorem dX9_ring_76 : decode cX9_ring 76 = .ok (.iload_n 1, 1) := by decide +kernel
theorem dX9_ring_77 : decode cX9_ring 77 = .ok (.iload_n 2, 1) := by decide +kernel
theorem dX9_ring_78 : decode cX9_ring 78 = .ok (.iload 4, 2) := by decide +kernel
theorem dX9_ring_80 : decode cX9_ring 80 = .ok (.invokestatic 164, 3) := by decide +kernel
theorem dX9_ring_83 : decode cX9_ring 83 = .ok (.invokestatic 167, 3) := by decide +kernel
theorem dX9_ring_86 : decode cX9_ring 86 = .ok (.istore 5, 2) := by decide +kernel
theorem dX9_ring_88 : decode cX9_ring 88 = .ok (.iload 4, 2) := by decide +kernel
theorem dX9_ring_90 : decode cX9_ring 90 = .ok (.iload 5, 2) := by decide +kernel
theorem dX9_ring_92 : decode cX9_ring 92 = .ok (.iconst (-1), 1) := by decide +kernel
theorem dX9_ring_93 : decode cX9_ring 93 = .ok (.ixor, 1) := by decide +kernel
theorem dX9_ring_94 : decode cX9_ring 94 = .ok (.iand, 1) := by decide +kernel
theorem dX9_ring_95 : decode cX9_ring 95 = .ok (.istore 4, 2) := by decide +kernel
theorem dX9_ring_97 : decode cX9_ring 97 = .ok (.iinc 6 1, 3) := by decide +kernel
theorem dX9_ring_100 : decode cX9_ring 100 = .ok (.goto (-34), 3) := by decide +kernel
theorem dX9_ring_103 : decode cX9_ring 103 = .ok (.iload 5, 2) := by decide +kernel
theorem dX9_ring_105 : decode cX9_ring 105 = .ok (.ireturn, 1) := by decide +kernel
set_option maxRecDepth 20000 in
theorem ggX9_make_X9_isIn : GoodIn wsX9_make wsX9_isIn := goodIn_r _ [6] (by decide +kernel) (by decide +kernel)
set_option maxRecDepth 20000 in
theorem gX9_make_X9_isIn : GoodIn wsX9_make (va_wsS RX9 118 yX9_isIn wsX9_isIn) := goodIn_app (goodIn_of _ (by decide +kernel)) ggX9_make_X9_isIn
set_option maxRecDepth 20000 in
theorem ggX9_make_X9_makes : GoodIn wsX9_make wsX9_makes := goodIn_r _ [9, 10, 11, 5, 12, 13, 14, 15, 16, 17, 18, 19, 20, 21, 22, 23, 24] (by decide +kernel) (by decide +kernel)
set_option maxRecDepth 20000 in
theorem gX9_make_X9_makes : GoodIn wsX9_make (va_wsS RX9 178 yX9_makes wsX9_makes) := goodIn_app (goodIn_of _ (by decide +kernel)) ggX9_make_X9_makes
theorem dX9_make_0 : decode cX9_make 0 = .ok (.aload_n 0, 1) := by decide +kernel
theorem dX9_make_1 : decode cX9_make 1 = .ok (.iconst 0, 1) := by decide +kernel
theorem dX9_make_2 : decode cX9_make 2 = .ok (.putfield 1, 3) := by decide +kernel
theorem dX9_make_5 : decode cX9_make 5 = .ok (.iload_n 1, 1) := by decide +kernel
theorem dX9_make_6 : decode cX9_make 6 = .ok (.iconst 1, 1) := by decide +kernel
theorem dX9_make_7 : decode cX9_make 7 = .ok (.bipush 7, 2) := by decide +kernel
theorem dX9_make_9 : decode cX9_make 9 = .ok (.invokestatic 118, 3) := by decide +kernel
theorem dX9_make_12 : decode cX9_make 12 = .ok (.ifCond .eq 14, 3) := by decide +kernel
theorem dX9_make_15 : decode cX9_make 15 = .ok (.aload_n 0, 1) := by decide +kernel
theorem dX9_make_16 : decode cX9_make 16 = .ok (.getfield 68, 3) := by decide +kernel
theorem dX9_make_19 : decode cX9_make 19 = .ok (.iload_n 1, 1) := by decide +kernel
theorem dX9_make_20 : decode cX9_make 20 = .ok (.invokestatic 178, 3) := by decide +kernel
theorem dX9_make_23 : decode cX9_make 23 = .ok (.goto 4, 3) := by decide +kernel
theorem dX9_make_26 : decode cX9_make 26 = .ok (.iconst (-1), 1) := by decide +kernel
theorem dX9_make_27 : decode cX9_make 27 = .ok (.ireturn, 1) := by decide +kernel
set_option maxRecDepth 20000 in
theorem ggX9_sign_X9_isDay : GoodIn wsX9_sign wsX9_isDay := goodIn_r _ [7, 8, 9, 10, 6, 11, 2, 12, 13, 14, 30, 31, 32, 33, 34, 35, 36, 37, 38, 39, 40, 41, 42, 43, 44, 45, 46, 47, 48, 49, 50, 51, 52, 53, 54, 55, 56, 57, 58] (by decide +kernel) (by decide +kernel)
set_option maxRecDepth 20000 in
theorem gX9_sign_X9_isDay : GoodIn wsX9_sign (wsV RX9 186 RX9 yX9_isDay wsX9_isDay) := goodIn_app (goodIn_of _ (by decide +kernel)) ggX9_sign_X9_isDay
set_option maxRecDepth 20000 in
theorem ggX9_sign_X9_signOf : GoodIn wsX9_sign wsX9_signOf := goodIn_r _ [17, 18, 19, 6, 20, 21, 22, 23, 24, 25, 26, 27, 28, 29] (by decide +kernel) (by decide +kernel)
set_option maxRecDepth 20000 in
theorem gX9_sign_X9_signOf : GoodIn wsX9_sign (va_wsS RX9 195 yX9_signOf wsX9_signOf) := goodIn_app (goodIn_of _ (by decide +kernel)) ggX9_sign_X9_signOf
theorem dX9_sign_0 : decode cX9_sign 0 = .ok (.aload_n 0, 1) := by decide +kernel
theorem dX9_sign_1 : decode cX9_sign 1 = .ok (.iconst 0, 1) := by decide +kernel
theorem dX9_sign_2 : decode cX9_sign 2 = .ok (.putfield 1, 3) := by decide +kernel
theorem dX9_sign_5 : decode cX9_sign 5 = .ok (.aload_n 0, 1) := by decide +kernel
theorem dX9_sign_6 : decode cX9_sign 6 = .ok (.iload_n 1, 1) := by decide +kernel
theorem dX9_sign_7 : decode cX9_sign 7 = .ok (.invokevirtual 186, 3) := by decide +kernel
theorem dX9_sign_10 : decode cX9_sign 10 = .ok (.ifCond .eq 14, 3) := by decide +kernel
theorem dX9_sign_13 : decode cX9_sign 13 = .ok (.aload_n 0, 1) := by decide +kernel
theorem dX9_sign_14 : decode cX9_sign 14 = .ok (.getfield 68, 3) := by decide +kernel
theorem dX9_sign_17 : decode cX9_sign 17 = .ok (.iload_n 1, 1) := by decide +kernel
theorem dX9_sign_18 : decode cX9_sign 18 = .ok (.invokestatic 195, 3) := by decide +kernel
theorem dX9_sign_21 : decode cX9_sign 21 = .ok (.goto 4, 3) := by decide +kernel
theorem dX9_sign_24 : decode cX9_sign 24 = .ok (.iconst (-1), 1) := by decide +kernel
theorem dX9_sign_25 : decode cX9_sign 25 = .ok (.ireturn, 1) := by decide +kernel
set_option maxRecDepth 20000 in
theorem ggX9_laysWays_X9_teams : GoodIn wsX9_laysWays wsX9_teams := goodIn_r _ [7, 2, 20, 21, 22, 23, 24, 25, 26, 27, 28, 29, 30, 31, 32, 33, 34, 35, 36, 37, 38, 39, 40, 41, 42, 43, 44, 45, 46, 47, 48] (by decide +kernel) (by decide +kernel)
set_option maxRecDepth 20000 in
theorem gX9_laysWays_X9_teams : GoodIn wsX9_laysWays (wsV RX9 157 RX9 yX9_teams wsX9_teams) := goodIn_app (goodIn_of _ (by decide +kernel)) ggX9_laysWays_X9_teams
set_option maxRecDepth 20000 in
theorem ggX9_laysWays_X9_least : GoodIn wsX9_laysWays wsX9_least := goodIn_r _ [10, 11, 12, 6, 13] (by decide +kernel) (by decide +kernel)
set_option maxRecDepth 20000 in
theorem gX9_laysWays_X9_least : GoodIn wsX9_laysWays (va_wsS RX9 164 yX9_least wsX9_least) := goodIn_app (goodIn_of _ (by decide +kernel)) ggX9_laysWays_X9_least
set_option maxRecDepth 20000 in
theorem ggX9_laysWays_X9_has : GoodIn wsX9_laysWays wsX9_has := goodIn_r _ [13] (by decide +kernel) (by decide +kernel)
set_option maxRecDepth 20000 in
theorem gX9_laysWays_X9_has : GoodIn wsX9_laysWays (va_wsS RX9 7 yX9_has wsX9_has) := goodIn_app (goodIn_of _ (by decide +kernel)) ggX9_laysWays_X9_has
set_option maxRecDepth 20000 in
theorem ggX9_laysWays_X9_metOn : GoodIn wsX9_laysWays wsX9_metOn := goodIn_r _ [16, 17, 18, 6, 19] (by decide +kernel) (by decide +kernel)
set_option maxRecDepth 20000 in
theorem gX9_laysWays_X9_metOn : GoodIn wsX9_laysWays (va_wsS RX9 122 yX9_metOn wsX9_metOn) := goodIn_app (goodIn_of _ (by decide +kernel)) ggX9_laysWays_X9_metOn
theorem dX9_laysWays_0 : decode cX9_laysWays 0 = .ok (.aload_n 0, 1) := by decide +kernel
theorem dX9_laysWays_1 : decode cX9_laysWays 1 = .ok (.getfield 93, 3) := by decide +kernel
theorem dX9_laysWays_4 : decode cX9_laysWays 4 = .ok (.iconst 0, 1) := by decide +kernel
theorem dX9_laysWays_5 : decode cX9_laysWays 5 = .ok (.iconst 1, 1) := by decide +kernel
theorem dX9_laysWays_6 : decode cX9_laysWays 6 = .ok (.iastore, 1) := by decide +kernel
theorem dX9_laysWays_7 : decode cX9_laysWays 7 = .ok (.iconst 1, 1) := by decide +kernel
theorem dX9_laysWays_8 : decode cX9_laysWays 8 = .ok (.istore_n 1, 1) := by decide +kernel
theorem dX9_laysWays_9 : decode cX9_laysWays 9 = .ok (.iload_n 1, 1) := by decide +kernel
theorem dX9_laysWays_10 : decode cX9_laysWays 10 = .ok (.iconst 1, 1) := by decide +kernel
theorem dX9_laysWays_11 : decode cX9_laysWays 11 = .ok (.aload_n 0, 1) := by decide +kernel
theorem dX9_laysWays_12 : decode cX9_laysWays 12 = .ok (.invokevirtual 157, 3) := by decide +kernel
theorem dX9_laysWays_15 : decode cX9_laysWays 15 = .ok (.ishl, 1) := by decide +kernel
theorem dX9_laysWays_16 : decode cX9_laysWays 16 = .ok (.if_icmp .ge 94, 3) := by decide +kernel
theorem dX9_laysWays_19 : decode cX9_laysWays 19 = .ok (.iload_n 1, 1) := by decide +kernel
theorem dX9_laysWays_20 : decode cX9_laysWays 20 = .ok (.invokestatic 164, 3) := by decide +kernel
theorem dX9_laysWays_23 : decode cX9_laysWays 23 = .ok (.istore_n 2, 1) := by decide +kernel
theorem dX9_laysWays_24 : decode cX9_laysWays 24 = .ok (.iload_n 1, 1) := by decide +kernel
theorem dX9_laysWays_25 : decode cX9_laysWays 25 = .ok (.iconst 1, 1) := by decide +kernel
theorem dX9_laysWays_26 : decode cX9_laysWays 26 = .ok (.iload_n 2, 1) := by decide +kernel
theorem dX9_laysWays_27 : decode cX9_laysWays 27 = .ok (.ishl, 1) := by decide +kernel
theorem dX9_laysWays_28 : decode cX9_laysWays 28 = .ok (.iconst (-1), 1) := by decide +kernel
theorem dX9_laysWays_29 : decode cX9_laysWays 29 = .ok (.ixor, 1) := by decide +kernel
theorem dX9_laysWays_30 : decode cX9_laysWays 30 = .ok (.iand, 1) := by decide +kernel
theorem dX9_laysWays_31 : decode cX9_laysWays 31 = .ok (.istore_n 3, 1) := by decide +kernel
theorem dX9_laysWays_32 : decode cX9_laysWays 32 = .ok (.aload_n 0, 1) := by decide +kernel
theorem dX9_laysWays_33 : decode cX9_laysWays 33 = .ok (.getfield 93, 3) := by decide +kernel
theorem dX9_laysWays_36 : decode cX9_laysWays 36 = .ok (.iload_n 1, 1) := by decide +kernel
theorem dX9_laysWays_37 : decode cX9_laysWays 37 = .ok (.iconst 0, 1) := by decide +kernel
theorem dX9_laysWays_38 : decode cX9_laysWays 38 = .ok (.iastore, 1) := by decide +kernel
theorem dX9_laysWays_39 : decode cX9_laysWays 39 = .ok (.iload_n 2, 1) := by decide +kernel
theorem dX9_laysWays_40 : decode cX9_laysWays 40 = .ok (.iconst 1, 1) := by decide +kernel
theorem dX9_laysWays_41 : decode cX9_laysWays 41 = .ok (.iadd, 1) := by decide +kernel
theorem dX9_laysWays_42 : decode cX9_laysWays 42 = .ok (.istore 4, 2) := by decide +kernel
theorem dX9_laysWays_44 : decode cX9_laysWays 44 = .ok (.iload 4, 2) := by decide +kernel
theorem dX9_laysWays_46 : decode cX9_laysWays 46 = .ok (.aload_n 0, 1) := by decide +kernel
theorem dX9_laysWays_47 : decode cX9_laysWays 47 = .ok (.invokevirtual 157, 3) := by decide +kernel
theorem dX9_laysWays_50 : decode cX9_laysWays 50 = .ok (.if_icmp .ge 54, 3) := by decide +kernel
theorem dX9_laysWays_53 : decode cX9_laysWays 53 = .ok (.iload_n 3, 1) := by decide +kernel
theorem dX9_laysWays_54 : decode cX9_laysWays 54 = .ok (.iload 4, 2) := by decide +kernel
theorem dX9_laysWays_56 : decode cX9_laysWays 56 = .ok (.invokestatic 7, 3) := by decide +kernel
theorem dX9_laysWays_59 : decode cX9_laysWays 59 = .ok (.ifCond .eq 39, 3) := by decide +kernel
theorem dX9_laysWays_62 : decode cX9_laysWays 62 = .ok (.aload_n 0, 1) := by decide +kernel
theorem dX9_laysWays_63 : decode cX9_laysWays 63 = .ok (.getfield 68, 3) := by decide +kernel
theorem dX9_laysWays_66 : decode cX9_laysWays 66 = .ok (.iload_n 2, 1) := by decide +kernel
theorem dX9_laysWays_67 : decode cX9_laysWays 67 = .ok (.iload 4, 2) := by decide +kernel
theorem dX9_laysWays_69 : decode cX9_laysWays 69 = .ok (.invokestatic 122, 3) := by decide +kernel
theorem dX9_laysWays_72 : decode cX9_laysWays 72 = .ok (.iconst (-1), 1) := by decide +kernel
theorem dX9_laysWays_73 : decode cX9_laysWays 73 = .ok (.if_icmp .ne 25, 3) := by decide +kernel
theorem dX9_laysWays_76 : decode cX9_laysWays 76 = .ok (.aload_n 0, 1) := by decide +kernel
theorem dX9_laysWays_77 : decode cX9_laysWays 77 = .ok (.getfield 93, 3) := by decide +kernel
theorem dX9_laysWays_80 : decode cX9_laysWays 80 = .ok (.iload_n 1, 1) := by decide +kernel
theorem dX9_laysWays_81 : decode cX9_laysWays 81 = .ok (.dup2, 1) := by decide +kernel
theorem dX9_laysWays_82 : decode cX9_laysWays 82 = .ok (.iaload, 1) := by decide +kernel
theorem dX9_laysWays_83 : decode cX9_laysWays 83 = .ok (.aload_n 0, 1) := by decide +kernel
theorem dX9_laysWays_84 : decode cX9_laysWays 84 = .ok (.getfield 93, 3) := by decide +kernel
theorem dX9_laysWays_87 : decode cX9_laysWays 87 = .ok (.iload_n 3, 1) := by decide +kernel
theorem dX9_laysWays_88 : decode cX9_laysWays 88 = .ok (.iconst 1, 1) := by decide +kernel
theorem dX9_laysWays_89 : decode cX9_laysWays 89 = .ok (.iload 4, 2) := by decide +kernel
theorem dX9_laysWays_91 : decode cX9_laysWays 91 = .ok (.ishl, 1) := by decide +kernel
theorem dX9_laysWays_92 : decode cX9_laysWays 92 = .ok (.iconst (-1), 1) := by decide +kernel
theorem dX9_laysWays_93 : decode cX9_laysWays 93 = .ok (.ixor, 1) := by decide +kernel
theorem dX9_laysWays_94 : decode cX9_laysWays 94 = .ok (.iand, 1) := by decide +kernel
theorem dX9_laysWays_95 : decode cX9_laysWays 95 = .ok (.iaload, 1) := by decide +kernel
theorem dX9_laysWays_96 : decode cX9_laysWays 96 = .ok (.iadd, 1) := by decide +kernel
theorem dX9_laysWays_97 : decode cX9_laysWays 97 = .ok (.iastore, 1) := by decide +kernel
theorem dX9_laysWays_98 : decode cX9_laysWays 98 = .ok (.iinc 4 1, 3) := by decide +kernel
theorem dX9_laysWays_101 : decode cX9_laysWays 101 = .ok (.goto (-57), 3) := by decide +kernel
theorem dX9_laysWays_104 : decode cX9_laysWays 104 = .ok (.iinc 1 1, 3) := by decide +kernel
theorem dX9_laysWays_107 : decode cX9_laysWays 107 = .ok (.goto (-98), 3) := by decide +kernel
theorem dX9_laysWays_110 : decode cX9_laysWays 110 = .ok (.return_, 1) := by decide +kernel
set_option maxRecDepth 20000 in
theorem ggX9_all_X9_teams : GoodIn wsX9_all wsX9_teams := goodIn_r _ [5, 6, 7, 8, 9, 10, 11, 12, 13, 14, 15, 16, 17, 18, 19, 20, 21, 22, 23, 24, 25, 26, 27, 28, 29, 30, 31, 32, 33, 34, 35] (by decide +kernel) (by decide +kernel)
set_option maxRecDepth 20000 in
theorem gX9_all_X9_teams : GoodIn wsX9_all (wsV RX9 157 RX9 yX9_teams wsX9_teams) := goodIn_app (goodIn_of _ (by decide +kernel)) ggX9_all_X9_teams
theorem dX9_all_0 : decode cX9_all 0 = .ok (.iconst 1, 1) := by decide +kernel
theorem dX9_all_1 : decode cX9_all 1 = .ok (.aload_n 0, 1) := by decide +kernel
theorem dX9_all_2 : decode cX9_all 2 = .ok (.invokevirtual 157, 3) := by decide +kernel
theorem dX9_all_5 : decode cX9_all 5 = .ok (.ishl, 1) := by decide +kernel
theorem dX9_all_6 : decode cX9_all 6 = .ok (.iconst 1, 1) := by decide +kernel
theorem dX9_all_7 : decode cX9_all 7 = .ok (.isub, 1) := by decide +kernel
theorem dX9_all_8 : decode cX9_all 8 = .ok (.ireturn, 1) := by decide +kernel
set_option maxRecDepth 20000 in
theorem ggX9_may_X9_teams : GoodIn wsX9_may wsX9_teams := goodIn_r _ [7, 8, 29, 30, 31, 32, 33, 34, 35, 36, 37, 38, 39, 40, 41, 42, 43, 44, 45, 46, 47, 48, 49, 50, 51, 52, 53, 54, 55, 56, 57] (by decide +kernel) (by decide +kernel)
set_option maxRecDepth 20000 in
theorem gX9_may_X9_teams : GoodIn wsX9_may (wsV RX9 157 RX9 yX9_teams wsX9_teams) := goodIn_app (goodIn_of _ (by decide +kernel)) ggX9_may_X9_teams
set_option maxRecDepth 20000 in
theorem ggX9_may_X9_laysWays : GoodIn wsX9_may wsX9_laysWays := goodIn_r _ [12, 2, 8, 3, 4, 5, 6, 7, 13, 14, 15, 16, 17, 18, 19, 20, 21, 22, 23, 24, 29, 30, 31, 32, 33, 34, 35, 36, 37, 38, 39, 40, 41, 42, 43, 44, 45, 46, 47, 48, 49, 50, 51, 52, 53, 54, 55, 56, 57] (by decide +kernel) (by decide +kernel)
set_option maxRecDepth 20000 in
theorem gX9_may_X9_laysWays : GoodIn wsX9_may (wsV RX9 198 RX9 yX9_laysWays wsX9_laysWays) := goodIn_app (goodIn_of _ (by decide +kernel)) ggX9_may_X9_laysWays
set_option maxRecDepth 20000 in
theorem ggX9_may_X9_all : GoodIn wsX9_may wsX9_all := goodIn_r _ [28, 3, 4, 5, 6, 7, 8, 29, 30, 31, 32, 33, 34, 35, 36, 37, 38, 39, 40, 41, 42, 43, 44, 45, 46, 47, 48, 49, 50, 51, 52, 53, 54, 55, 56, 57] (by decide +kernel) (by decide +kernel)
set_option maxRecDepth 20000 in
theorem gX9_may_X9_all : GoodIn wsX9_may (wsV RX9 201 RX9 yX9_all wsX9_all) := goodIn_app (goodIn_of _ (by decide +kernel)) ggX9_may_X9_all
theorem dX9_may_0 : decode cX9_may 0 = .ok (.aload_n 0, 1) := by decide +kernel
theorem dX9_may_1 : decode cX9_may 1 = .ok (.iconst 0, 1) := by decide +kernel
theorem dX9_may_2 : decode cX9_may 2 = .ok (.putfield 1, 3) := by decide +kernel
theorem dX9_may_5 : decode cX9_may 5 = .ok (.aload_n 0, 1) := by decide +kernel
theorem dX9_may_6 : decode cX9_may 6 = .ok (.invokevirtual 157, 3) := by decide +kernel
theorem dX9_may_9 : decode cX9_may 9 = .ok (.ifCond .ne 5, 3) := by decide +kernel
theorem dX9_may_12 : decode cX9_may 12 = .ok (.iconst 0, 1) := by decide +kernel
theorem dX9_may_13 : decode cX9_may 13 = .ok (.ireturn, 1) := by decide +kernel
theorem dX9_may_14 : decode cX9_may 14 = .ok (.aload_n 0, 1) := by decide +kernel
theorem dX9_may_15 : decode cX9_may 15 = .ok (.invokevirtual 198, 3) := by decide +kernel
theorem dX9_may_18 : decode cX9_may 18 = .ok (.aload_n 0, 1) := by decide +kernel
theorem dX9_may_19 : decode cX9_may 19 = .ok (.getfield 93, 3) := by decide +kernel
theorem dX9_may_22 : decode cX9_may 22 = .ok (.aload_n 0, 1) := by decide +kernel
theorem dX9_may_23 : decode cX9_may 23 = .ok (.invokevirtual 201, 3) := by decide +kernel
theorem dX9_may_26 : decode cX9_may 26 = .ok (.iaload, 1) := by decide +kernel
theorem dX9_may_27 : decode cX9_may 27 = .ok (.ireturn, 1) := by decide +kernel
set_option maxRecDepth 20000 in
theorem ggX9_sure_X9_isTeam : GoodIn wsX9_sure wsX9_isTeam := goodIn_r _ [8, 9, 10, 11, 7, 12, 3, 13, 14, 15, 36, 37, 38, 39, 40, 41, 42, 43, 44, 45, 46, 47, 48, 49, 50, 51, 52, 53, 54, 55, 56, 57, 58, 59, 60, 61, 62, 63, 64] (by decide +kernel) (by decide +kernel)
set_option maxRecDepth 20000 in
theorem gX9_sure_X9_isTeam : GoodIn wsX9_sure (wsV RX9 189 RX9 yX9_isTeam wsX9_isTeam) := goodIn_app (goodIn_of _ (by decide +kernel)) ggX9_sure_X9_isTeam
set_option maxRecDepth 20000 in
theorem ggX9_sure_X9_laysWays : GoodIn wsX9_sure wsX9_laysWays := goodIn_r _ [19, 2, 3, 9, 10, 11, 7, 12, 20, 21, 22, 23, 24, 25, 26, 27, 28, 29, 30, 31, 36, 37, 38, 39, 40, 41, 42, 43, 44, 45, 46, 47, 48, 49, 50, 51, 52, 53, 54, 55, 56, 57, 58, 59, 60, 61, 62, 63, 64] (by decide +kernel) (by decide +kernel)
set_option maxRecDepth 20000 in
theorem gX9_sure_X9_laysWays : GoodIn wsX9_sure (wsV RX9 198 RX9 yX9_laysWays wsX9_laysWays) := goodIn_app (goodIn_of _ (by decide +kernel)) ggX9_sure_X9_laysWays
set_option maxRecDepth 20000 in
theorem ggX9_sure_X9_all : GoodIn wsX9_sure wsX9_all := goodIn_r _ [35, 9, 10, 11, 7, 12, 3, 36, 37, 38, 39, 40, 41, 42, 43, 44, 45, 46, 47, 48, 49, 50, 51, 52, 53, 54, 55, 56, 57, 58, 59, 60, 61, 62, 63, 64] (by decide +kernel) (by decide +kernel)
set_option maxRecDepth 20000 in
theorem gX9_sure_X9_all : GoodIn wsX9_sure (wsV RX9 201 RX9 yX9_all wsX9_all) := goodIn_app (goodIn_of _ (by decide +kernel)) ggX9_sure_X9_all
set_option maxRecDepth 20000 in
theorem ggX9_sure_X9_teams : GoodIn wsX9_sure wsX9_teams := goodIn_r _ [12, 3, 36, 37, 38, 39, 40, 41, 42, 43, 44, 45, 46, 47, 48, 49, 50, 51, 52, 53, 54, 55, 56, 57, 58, 59, 60, 61, 62, 63, 64] (by decide +kernel) (by decide +kernel)
set_option maxRecDepth 20000 in
theorem gX9_sure_X9_teams : GoodIn wsX9_sure (wsV RX9 157 RX9 yX9_teams wsX9_teams) := goodIn_app (goodIn_of _ (by decide +kernel)) ggX9_sure_X9_teams
set_option maxRecDepth 20000 in
theorem ggX9_sure_X9_metOn : GoodIn wsX9_sure wsX9_metOn := goodIn_r _ [28, 29, 30, 7, 31] (by decide +kernel) (by decide +kernel)
set_option maxRecDepth 20000 in
theorem gX9_sure_X9_metOn : GoodIn wsX9_sure (va_wsS RX9 122 yX9_metOn wsX9_metOn) := goodIn_app (goodIn_of _ (by decide +kernel)) ggX9_sure_X9_metOn
theorem dX9_sure_0 : decode cX9_sure 0 = .ok (.aload_n 0, 1) := by decide +kernel
theorem dX9_sure_1 : decode cX9_sure 1 = .ok (.iconst 0, 1) := by decide +kernel
theorem dX9_sure_2 : decode cX9_sure 2 = .ok (.putfield 1, 3) := by decide +kernel
theorem dX9_sure_5 : decode cX9_sure 5 = .ok (.aload_n 0, 1) := by decide +kernel
theorem dX9_sure_6 : decode cX9_sure 6 = .ok (.iload_n 1, 1) := by decide +kernel
theorem dX9_sure_7 : decode cX9_sure 7 = .ok (.invokevirtual 189, 3) := by decide +kernel
theorem dX9_sure_10 : decode cX9_sure 10 = .ok (.ifCond .ne 5, 3) := by decide +kernel
theorem dX9_sure_13 : decode cX9_sure 13 = .ok (.iconst (-1), 1) := by decide +kernel
theorem dX9_sure_14 : decode cX9_sure 14 = .ok (.ireturn, 1) := by decide +kernel
theorem dX9_sure_15 : decode cX9_sure 15 = .ok (.aload_n 0, 1) := by decide +kernel
theorem dX9_sure_16 : decode cX9_sure 16 = .ok (.invokevirtual 198, 3) := by decide +kernel
theorem dX9_sure_19 : decode cX9_sure 19 = .ok (.aload_n 0, 1) := by decide +kernel
theorem dX9_sure_20 : decode cX9_sure 20 = .ok (.getfield 93, 3) := by decide +kernel
theorem dX9_sure_23 : decode cX9_sure 23 = .ok (.aload_n 0, 1) := by decide +kernel
theorem dX9_sure_24 : decode cX9_sure 24 = .ok (.invokevirtual 201, 3) := by decide +kernel
theorem dX9_sure_27 : decode cX9_sure 27 = .ok (.iaload, 1) := by decide +kernel
theorem dX9_sure_28 : decode cX9_sure 28 = .ok (.istore_n 2, 1) := by decide +kernel
theorem dX9_sure_29 : decode cX9_sure 29 = .ok (.iconst 0, 1) := by decide +kernel
theorem dX9_sure_30 : decode cX9_sure 30 = .ok (.istore_n 3, 1) := by decide +kernel
theorem dX9_sure_31 : decode cX9_sure 31 = .ok (.iload_n 3, 1) := by decide +kernel
theorem dX9_sure_32 : decode cX9_sure 32 = .ok (.aload_n 0, 1) := by decide +kernel
theorem dX9_sure_33 : decode cX9_sure 33 = .ok (.invokevirtual 157, 3) := by decide +kernel
theorem dX9_sure_36 : decode cX9_sure 36 = .ok (.if_icmp .ge 58, 3) := by decide +kernel
theorem dX9_sure_39 : decode cX9_sure 39 = .ok (.iload_n 2, 1) := by decide +kernel
theorem dX9_sure_40 : decode cX9_sure 40 = .ok (.ifCond .le 54, 3) := by decide +kernel
theorem dX9_sure_43 : decode cX9_sure 43 = .ok (.iload_n 3, 1) := by decide +kernel
theorem dX9_sure_44 : decode cX9_sure 44 = .ok (.iload_n 1, 1) := by decide +kernel
theorem dX9_sure_45 : decode cX9_sure 45 = .ok (.if_icmp .eq 43, 3) := by decide +kernel
theorem dX9_sure_48 : decode cX9_sure 48 = .ok (.aload_n 0, 1) := by decide +kernel
theorem dX9_sure_49 : decode cX9_sure 49 = .ok (.getfield 68, 3) := by decide +kernel
theorem dX9_sure_52 : decode cX9_sure 52 = .ok (.iload_n 1, 1) := by decide +kernel
theorem dX9_sure_53 : decode cX9_sure 53 = .ok (.iload_n 3, 1) := by decide +kernel
theorem dX9_sure_54 : decode cX9_sure 54 = .ok (.invokestatic 122, 3) := by decide +kernel
theorem dX9_sure_57 : decode cX9_sure 57 = .ok (.iconst (-1), 1) := by decide +kernel
theorem dX9_sure_58 : decode cX9_sure 58 = .ok (.if_icmp .ne 30, 3) := by decide +kernel
theorem dX9_sure_61 : decode cX9_sure 61 = .ok (.aload_n 0, 1) := by decide +kernel
theorem dX9_sure_62 : decode cX9_sure 62 = .ok (.getfield 93, 3) := by decide +kernel
theorem dX9_sure_65 : decode cX9_sure 65 = .ok (.aload_n 0, 1) := by decide +kernel
theorem dX9_sure_66 : decode cX9_sure 66 = .ok (.invokevirtual 201, 3) := by decide +kernel
theorem dX9_sure_69 : decode cX9_sure 69 = .ok (.iconst 1, 1) := by decide +kernel
theorem dX9_sure_70 : decode cX9_sure 70 = .ok (.iload_n 1, 1) := by decide +kernel
theorem dX9_sure_71 : decode cX9_sure 71 = .ok (.ishl, 1) := by decide +kernel
theorem dX9_sure_72 : decode cX9_sure 72 = .ok (.iconst (-1), 1) := by decide +kernel
theorem dX9_sure_73 : decode cX9_sure 73 = .ok (.ixor, 1) := by decide +kernel
theorem dX9_sure_74 : decode cX9_sure 74 = .ok (.iand, 1) := by decide +kernel
theorem dX9_sure_75 : decode cX9_sure 75 = .ok (.iconst 1, 1) := by decide +kernel
theorem dX9_sure_76 : decode cX9_sure 76 = .ok (.iload_n 3, 1) := by decide +kernel
theorem dX9_sure_77 : decode cX9_sure 77 = .ok (.ishl, 1) := by decide +kernel
theorem dX9_sure_78 : decode cX9_sure 78 = .ok (.iconst (-1), 1) := by decide +kernel
theorem dX9_sure_79 : decode cX9_sure 79 = .ok (.ixor, 1) := by decide +kernel
theorem dX9_sure_80 : decode cX9_sure 80 = .ok (.iand, 1) := by decide +kernel
theorem dX9_sure_81 : decode cX9_sure 81 = .ok (.iaload, 1) := by decide +kernel
theorem dX9_sure_82 : decode cX9_sure 82 = .ok (.iload_n 2, 1) := by decide +kernel
theorem dX9_sure_83 : decode cX9_sure 83 = .ok (.if_icmp .ne 5, 3) := by decide +kernel
theorem dX9_sure_86 : decode cX9_sure 86 = .ok (.iload_n 3, 1) := by decide +kernel
theorem dX9_sure_87 : decode cX9_sure 87 = .ok (.ireturn, 1) := by decide +kernel
theorem dX9_sure_88 : decode cX9_sure 88 = .ok (.iinc 3 1, 3) := by decide +kernel
theorem dX9_sure_91 : decode cX9_sure 91 = .ok (.goto (-60), 3) := by decide +kernel
theorem dX9_sure_94 : decode cX9_sure 94 = .ok (.iconst (-1), 1) := by decide +kernel
theorem dX9_sure_95 : decode cX9_sure 95 = .ok (.ireturn, 1) := by decide +kernel
set_option maxRecDepth 20000 in
theorem ggX9_closesNone_X9_days : GoodIn wsX9_closesNone wsX9_days := goodIn_r _ [7, 1, 15, 16, 17, 18, 19, 20, 21, 22, 23, 24, 25, 26, 27, 28, 29, 30, 31, 32, 33, 34, 35, 36, 37, 38, 39, 40, 41, 42, 43] (by decide +kernel) (by decide +kernel)
set_option maxRecDepth 20000 in
theorem gX9_closesNone_X9_days : GoodIn wsX9_closesNone (wsV RX9 161 RX9 yX9_days wsX9_days) := goodIn_app (goodIn_of _ (by decide +kernel)) ggX9_closesNone_X9_days
set_option maxRecDepth 20000 in
theorem ggX9_closesNone_X9_meets : GoodIn wsX9_closesNone wsX9_meets := goodIn_r _ [10] (by decide +kernel) (by decide +kernel)
set_option maxRecDepth 20000 in
theorem gX9_closesNone_X9_meets : GoodIn wsX9_closesNone (va_wsS RX9 108 yX9_meets wsX9_meets) := goodIn_app (goodIn_of _ (by decide +kernel)) ggX9_closesNone_X9_meets
set_option maxRecDepth 20000 in
theorem ggX9_closesNone_X9_teams : GoodIn wsX9_closesNone wsX9_teams := goodIn_r _ [14, 1, 15, 16, 17, 18, 19, 20, 21, 22, 23, 24, 25, 26, 27, 28, 29, 30, 31, 32, 33, 34, 35, 36, 37, 38, 39, 40, 41, 42, 43] (by decide +kernel) (by decide +kernel)
set_option maxRecDepth 20000 in
theorem gX9_closesNone_X9_teams : GoodIn wsX9_closesNone (wsV RX9 157 RX9 yX9_teams wsX9_teams) := goodIn_app (goodIn_of _ (by decide +kernel)) ggX9_closesNone_X9_teams
theorem dX9_closesNone_0 : decode cX9_closesNone 0 = .ok (.iconst 0, 1) := by decide +kernel
theorem dX9_closesNone_1 : decode cX9_closesNone 1 = .ok (.istore_n 3, 1) := by decide +kernel
theorem dX9_closesNone_2 : decode cX9_closesNone 2 = .ok (.iload_n 3, 1) := by decide +kernel
theorem dX9_closesNone_3 : decode cX9_closesNone 3 = .ok (.aload_n 0, 1) := by decide +kernel
theorem dX9_closesNone_4 : decode cX9_closesNone 4 = .ok (.invokevirtual 161, 3) := by decide +kernel
theorem dX9_closesNone_7 : decode cX9_closesNone 7 = .ok (.if_icmp .ge 80, 3) := by decide +kernel
theorem dX9_closesNone_10 : decode cX9_closesNone 10 = .ok (.iconst 2, 1) := by decide +kernel
theorem dX9_closesNone_11 : decode cX9_closesNone 11 = .ok (.istore 4, 2) := by decide +kernel
theorem dX9_closesNone_13 : decode cX9_closesNone 13 = .ok (.aload_n 0, 1) := by decide +kernel
theorem dX9_closesNone_14 : decode cX9_closesNone 14 = .ok (.getfield 68, 3) := by decide +kernel
theorem dX9_closesNone_17 : decode cX9_closesNone 17 = .ok (.iload_n 3, 1) := by decide +kernel
theorem dX9_closesNone_18 : decode cX9_closesNone 18 = .ok (.iload_n 2, 1) := by decide +kernel
theorem dX9_closesNone_19 : decode cX9_closesNone 19 = .ok (.invokestatic 108, 3) := by decide +kernel
theorem dX9_closesNone_22 : decode cX9_closesNone 22 = .ok (.istore 5, 2) := by decide +kernel
theorem dX9_closesNone_24 : decode cX9_closesNone 24 = .ok (.iload 5, 2) := by decide +kernel
theorem dX9_closesNone_26 : decode cX9_closesNone 26 = .ok (.iload_n 1, 1) := by decide +kernel
theorem dX9_closesNone_27 : decode cX9_closesNone 27 = .ok (.if_icmp .eq 37, 3) := by decide +kernel
theorem dX9_closesNone_30 : decode cX9_closesNone 30 = .ok (.aload_n 0, 1) := by decide +kernel
theorem dX9_closesNone_31 : decode cX9_closesNone 31 = .ok (.getfield 96, 3) := by decide +kernel
theorem dX9_closesNone_34 : decode cX9_closesNone 34 = .ok (.iload 5, 2) := by decide +kernel
theorem dX9_closesNone_36 : decode cX9_closesNone 36 = .ok (.iaload, 1) := by decide +kernel
theorem dX9_closesNone_37 : decode cX9_closesNone 37 = .ok (.iconst (-1), 1) := by decide +kernel
theorem dX9_closesNone_38 : decode cX9_closesNone 38 = .ok (.if_icmp .eq 26, 3) := by decide +kernel
theorem dX9_closesNone_41 : decode cX9_closesNone 41 = .ok (.iinc 4 2, 3) := by decide +kernel
theorem dX9_closesNone_44 : decode cX9_closesNone 44 = .ok (.aload_n 0, 1) := by decide +kernel
theorem dX9_closesNone_45 : decode cX9_closesNone 45 = .ok (.getfield 68, 3) := by decide +kernel
theorem dX9_closesNone_48 : decode cX9_closesNone 48 = .ok (.iload_n 3, 1) := by decide +kernel
theorem dX9_closesNone_49 : decode cX9_closesNone 49 = .ok (.aload_n 0, 1) := by decide +kernel
theorem dX9_closesNone_50 : decode cX9_closesNone 50 = .ok (.getfield 96, 3) := by decide +kernel
theorem dX9_closesNone_53 : decode cX9_closesNone 53 = .ok (.iload 5, 2) := by decide +kernel
theorem dX9_closesNone_55 : decode cX9_closesNone 55 = .ok (.iaload, 1) := by decide +kernel
theorem dX9_closesNone_56 : decode cX9_closesNone 56 = .ok (.invokestatic 108, 3) := by decide +kernel
theorem dX9_closesNone_59 : decode cX9_closesNone 59 = .ok (.istore 5, 2) := by decide +kernel
theorem dX9_closesNone_61 : decode cX9_closesNone 61 = .ok (.goto (-37), 3) := by decide +kernel
theorem dX9_closesNone_64 : decode cX9_closesNone 64 = .ok (.iload 5, 2) := by decide +kernel
theorem dX9_closesNone_66 : decode cX9_closesNone 66 = .ok (.iload_n 1, 1) := by decide +kernel
theorem dX9_closesNone_67 : decode cX9_closesNone 67 = .ok (.if_icmp .ne 14, 3) := by decide +kernel
theorem dX9_closesNone_70 : decode cX9_closesNone 70 = .ok (.iload 4, 2) := by decide +kernel
theorem dX9_closesNone_72 : decode cX9_closesNone 72 = .ok (.aload_n 0, 1) := by decide +kernel
theorem dX9_closesNone_73 : decode cX9_closesNone 73 = .ok (.invokevirtual 157, 3) := by decide +kernel
theorem dX9_closesNone_76 : decode cX9_closesNone 76 = .ok (.if_icmp .ge 5, 3) := by decide +kernel
theorem dX9_closesNone_79 : decode cX9_closesNone 79 = .ok (.iconst 0, 1) := by decide +kernel
theorem dX9_closesNone_80 : decode cX9_closesNone 80 = .ok (.ireturn, 1) := by decide +kernel
theorem dX9_closesNone_81 : decode cX9_closesNone 81 = .ok (.iinc 3 1, 3) := by decide +kernel
theorem dX9_closesNone_84 : decode cX9_closesNone 84 = .ok (.goto (-82), 3) := by decide +kernel
theorem dX9_closesNone_87 : decode cX9_closesNone 87 = .ok (.iconst 1, 1) := by decide +kernel
theorem dX9_closesNone_88 : decode cX9_closesNone 88 = .ok (.ireturn, 1) := by decide +kernel
set_option maxRecDepth 20000 in
theorem ggX9_seeks_X9_least : GoodIn wsX9_seeks wsX9_least := goodIn_r _ [7, 8, 9, 6, 10] (by decide +kernel) (by decide +kernel)
set_option maxRecDepth 20000 in
theorem gX9_seeks_X9_least : GoodIn wsX9_seeks (va_wsS RX9 164 yX9_least wsX9_least) := goodIn_app (goodIn_of _ (by decide +kernel)) ggX9_seeks_X9_least
set_option maxRecDepth 20000 in
theorem ggX9_seeks_X9_teams : GoodIn wsX9_seeks wsX9_teams := goodIn_r _ [14, 1, 32, 33, 34, 35, 36, 37, 38, 39, 40, 41, 42, 43, 44, 45, 46, 47, 48, 49, 50, 51, 52, 53, 54, 55, 56, 57, 58, 59, 60] (by decide +kernel) (by decide +kernel)
set_option maxRecDepth 20000 in
theorem gX9_seeks_X9_teams : GoodIn wsX9_seeks (wsV RX9 157 RX9 yX9_teams wsX9_teams) := goodIn_app (goodIn_of _ (by decide +kernel)) ggX9_seeks_X9_teams
set_option maxRecDepth 20000 in
theorem ggX9_seeks_X9_has : GoodIn wsX9_seeks wsX9_has := goodIn_r _ [10] (by decide +kernel) (by decide +kernel)
set_option maxRecDepth 20000 in
theorem gX9_seeks_X9_has : GoodIn wsX9_seeks (va_wsS RX9 7 yX9_has wsX9_has) := goodIn_app (goodIn_of _ (by decide +kernel)) ggX9_seeks_X9_has
set_option maxRecDepth 20000 in
theorem ggX9_seeks_X9_metOn : GoodIn wsX9_seeks wsX9_metOn := goodIn_r _ [17, 18, 19, 6, 20] (by decide +kernel) (by decide +kernel)
set_option maxRecDepth 20000 in
theorem gX9_seeks_X9_metOn : GoodIn wsX9_seeks (va_wsS RX9 122 yX9_metOn wsX9_metOn) := goodIn_app (goodIn_of _ (by decide +kernel)) ggX9_seeks_X9_metOn
set_option maxRecDepth 20000 in
theorem ggX9_seeks_X9_closesNone : GoodIn wsX9_seeks wsX9_closesNone := goodIn_r _ [24, 1, 3, 25, 26, 27, 6, 28, 18, 19, 20, 11, 12, 13, 14, 32, 33, 34, 35, 36, 37, 38, 39, 40, 41, 42, 43, 44, 45, 46, 47, 48, 49, 50, 51, 52, 53, 54, 55, 56, 57, 58, 59, 60] (by decide +kernel) (by decide +kernel)
set_option maxRecDepth 20000 in
theorem gX9_seeks_X9_closesNone : GoodIn wsX9_seeks (wsV RX9 204 RX9 yX9_closesNone wsX9_closesNone) := goodIn_app (goodIn_of _ (by decide +kernel)) ggX9_seeks_X9_closesNone
set_option maxRecDepth 20000 in
theorem ggX9_seeks_X9_seeks : GoodIn wsX9_seeks wsX9_seeks := goodIn_r _ [0, 1, 2, 3, 4, 5, 6, 7, 8, 9, 10, 11, 12, 13, 14, 15, 16, 17, 18, 19, 20, 21, 22, 23, 24, 25, 26, 27, 28, 29, 30, 31, 32, 33, 34, 35, 36, 37, 38, 39, 40, 41, 42, 43, 44, 45, 46, 47, 48, 49, 50, 51, 52, 53, 54, 55, 56, 57, 58, 59, 60] (by decide +kernel) (by decide +kernel)
set_option maxRecDepth 20000 in
theorem gX9_seeks_X9_seeks : GoodIn wsX9_seeks (wsV RX9 207 RX9 yX9_seeks wsX9_seeks) := goodIn_app (goodIn_of _ (by decide +kernel)) ggX9_seeks_X9_seeks
theorem dX9_seeks_0 : decode cX9_seeks 0 = .ok (.iload_n 1, 1) := by decide +kernel
theorem dX9_seeks_1 : decode cX9_seeks 1 = .ok (.ifCond .ne 5, 3) := by decide +kernel
theorem dX9_seeks_4 : decode cX9_seeks 4 = .ok (.iconst 1, 1) := by decide +kernel
theorem dX9_seeks_5 : decode cX9_seeks 5 = .ok (.ireturn, 1) := by decide +kernel
theorem dX9_seeks_6 : decode cX9_seeks 6 = .ok (.iload_n 1, 1) := by decide +kernel
theorem dX9_seeks_7 : decode cX9_seeks 7 = .ok (.invokestatic 164, 3) := by decide +kernel
theorem dX9_seeks_10 : decode cX9_seeks 10 = .ok (.istore_n 3, 1) := by decide +kernel
theorem dX9_seeks_11 : decode cX9_seeks 11 = .ok (.iload_n 3, 1) := by decide +kernel
theorem dX9_seeks_12 : decode cX9_seeks 12 = .ok (.iconst 1, 1) := by decide +kernel
theorem dX9_seeks_13 : decode cX9_seeks 13 = .ok (.iadd, 1) := by decide +kernel
theorem dX9_seeks_14 : decode cX9_seeks 14 = .ok (.istore 4, 2) := by decide +kernel
theorem dX9_seeks_16 : decode cX9_seeks 16 = .ok (.iload 4, 2) := by decide +kernel
theorem dX9_seeks_18 : decode cX9_seeks 18 = .ok (.aload_n 0, 1) := by decide +kernel
theorem dX9_seeks_19 : decode cX9_seeks 19 = .ok (.invokevirtual 157, 3) := by decide +kernel
theorem dX9_seeks_22 : decode cX9_seeks 22 = .ok (.if_icmp .ge 118, 3) := by decide +kernel
theorem dX9_seeks_25 : decode cX9_seeks 25 = .ok (.iload_n 1, 1) := by decide +kernel
theorem dX9_seeks_26 : decode cX9_seeks 26 = .ok (.iconst 1, 1) := by decide +kernel
theorem dX9_seeks_27 : decode cX9_seeks 27 = .ok (.iload_n 3, 1) := by decide +kernel
theorem dX9_seeks_28 : decode cX9_seeks 28 = .ok (.ishl, 1) := by decide +kernel
theorem dX9_seeks_29 : decode cX9_seeks 29 = .ok (.iconst (-1), 1) := by decide +kernel
theorem dX9_seeks_30 : decode cX9_seeks 30 = .ok (.ixor, 1) := by decide +kernel
theorem dX9_seeks_31 : decode cX9_seeks 31 = .ok (.iand, 1) := by decide +kernel
theorem dX9_seeks_32 : decode cX9_seeks 32 = .ok (.iconst 1, 1) := by decide +kernel
theorem dX9_seeks_33 : decode cX9_seeks 33 = .ok (.iload 4, 2) := by decide +kernel
theorem dX9_seeks_35 : decode cX9_seeks 35 = .ok (.ishl, 1) := by decide +kernel
theorem dX9_seeks_36 : decode cX9_seeks 36 = .ok (.iconst (-1), 1) := by decide +kernel
theorem dX9_seeks_37 : decode cX9_seeks 37 = .ok (.ixor, 1) := by decide +kernel
theorem dX9_seeks_38 : decode cX9_seeks 38 = .ok (.iand, 1) := by decide +kernel
theorem dX9_seeks_39 : decode cX9_seeks 39 = .ok (.istore 5, 2) := by decide +kernel
theorem dX9_seeks_41 : decode cX9_seeks 41 = .ok (.iload_n 1, 1) := by decide +kernel
theorem dX9_seeks_42 : decode cX9_seeks 42 = .ok (.iload 4, 2) := by decide +kernel
theorem dX9_seeks_44 : decode cX9_seeks 44 = .ok (.invokestatic 7, 3) := by decide +kernel
theorem dX9_seeks_47 : decode cX9_seeks 47 = .ok (.ifCond .eq 87, 3) := by decide +kernel
theorem dX9_seeks_50 : decode cX9_seeks 50 = .ok (.aload_n 0, 1) := by decide +kernel
theorem dX9_seeks_51 : decode cX9_seeks 51 = .ok (.getfield 68, 3) := by decide +kernel
theorem dX9_seeks_54 : decode cX9_seeks 54 = .ok (.iload_n 3, 1) := by decide +kernel
theorem dX9_seeks_55 : decode cX9_seeks 55 = .ok (.iload 4, 2) := by decide +kernel
theorem dX9_seeks_57 : decode cX9_seeks 57 = .ok (.invokestatic 122, 3) := by decide +kernel
theorem dX9_seeks_60 : decode cX9_seeks 60 = .ok (.iconst (-1), 1) := by decide +kernel
theorem dX9_seeks_61 : decode cX9_seeks 61 = .ok (.if_icmp .ne 73, 3) := by decide +kernel
theorem dX9_seeks_64 : decode cX9_seeks 64 = .ok (.aload_n 0, 1) := by decide +kernel
theorem dX9_seeks_65 : decode cX9_seeks 65 = .ok (.getfield 93, 3) := by decide +kernel
theorem dX9_seeks_68 : decode cX9_seeks 68 = .ok (.iload 5, 2) := by decide +kernel
theorem dX9_seeks_70 : decode cX9_seeks 70 = .ok (.iaload, 1) := by decide +kernel
theorem dX9_seeks_71 : decode cX9_seeks 71 = .ok (.ifCond .ne 6, 3) := by decide +kernel
theorem dX9_seeks_74 : decode cX9_seeks 74 = .ok (.goto 60, 3) := by decide +kernel
theorem dX9_seeks_77 : decode cX9_seeks 77 = .ok (.aload_n 0, 1) := by decide +kernel
theorem dX9_seeks_78 : decode cX9_seeks 78 = .ok (.getfield 96, 3) := by decide +kernel
theorem dX9_seeks_81 : decode cX9_seeks 81 = .ok (.iload_n 3, 1) := by decide +kernel
theorem dX9_seeks_82 : decode cX9_seeks 82 = .ok (.iload 4, 2) := by decide +kernel
theorem dX9_seeks_84 : decode cX9_seeks 84 = .ok (.iastore, 1) := by decide +kernel
theorem dX9_seeks_85 : decode cX9_seeks 85 = .ok (.aload_n 0, 1) := by decide +kernel
theorem dX9_seeks_86 : decode cX9_seeks 86 = .ok (.getfield 96, 3) := by decide +kernel
theorem dX9_seeks_89 : decode cX9_seeks 89 = .ok (.iload 4, 2) := by decide +kernel
theorem dX9_seeks_91 : decode cX9_seeks 91 = .ok (.iload_n 3, 1) := by decide +kernel
theorem dX9_seeks_92 : decode cX9_seeks 92 = .ok (.iastore, 1) := by decide +kernel
theorem dX9_seeks_93 : decode cX9_seeks 93 = .ok (.iload_n 2, 1) := by decide +kernel
theorem dX9_seeks_94 : decode cX9_seeks 94 = .ok (.ifCond .eq 13, 3) := by decide +kernel
theorem dX9_seeks_97 : decode cX9_seeks 97 = .ok (.aload_n 0, 1) := by decide +kernel
theorem dX9_seeks_98 : decode cX9_seeks 98 = .ok (.iload_n 3, 1) := by decide +kernel
theorem dX9_seeks_99 : decode cX9_seeks 99 = .ok (.iload 4, 2) := by decide +kernel
theorem dX9_seeks_101 : decode cX9_seeks 101 = .ok (.invokevirtual 204, 3) := by decide +kernel
theorem dX9_seeks_104 : decode cX9_seeks 104 = .ok (.ifCond .eq 15, 3) := by decide +kernel
theorem dX9_seeks_107 : decode cX9_seeks 107 = .ok (.aload_n 0, 1) := by decide +kernel
theorem dX9_seeks_108 : decode cX9_seeks 108 = .ok (.iload 5, 2) := by decide +kernel
theorem dX9_seeks_110 : decode cX9_seeks 110 = .ok (.iload_n 2, 1) := by decide +kernel
theorem dX9_seeks_111 : decode cX9_seeks 111 = .ok (.invokevirtual 207, 3) := by decide +kernel
theorem dX9_seeks_114 : decode cX9_seeks 114 = .ok (.ifCond .eq 5, 3) := by decide +kernel
theorem dX9_seeks_117 : decode cX9_seeks 117 = .ok (.iconst 1, 1) := by decide +kernel
theorem dX9_seeks_118 : decode cX9_seeks 118 = .ok (.ireturn, 1) := by decide +kernel
theorem dX9_seeks_119 : decode cX9_seeks 119 = .ok (.aload_n 0, 1) := by decide +kernel
theorem dX9_seeks_120 : decode cX9_seeks 120 = .ok (.getfield 96, 3) := by decide +kernel
theorem dX9_seeks_123 : decode cX9_seeks 123 = .ok (.iload_n 3, 1) := by decide +kernel
theorem dX9_seeks_124 : decode cX9_seeks 124 = .ok (.iconst (-1), 1) := by decide +kernel
theorem dX9_seeks_125 : decode cX9_seeks 125 = .ok (.iastore, 1) := by decide +kernel
theorem dX9_seeks_126 : decode cX9_seeks 126 = .ok (.aload_n 0, 1) := by decide +kernel
theorem dX9_seeks_127 : decode cX9_seeks 127 = .ok (.getfield 96, 3) := by decide +kernel
theorem dX9_seeks_130 : decode cX9_seeks 130 = .ok (.iload 4, 2) := by decide +kernel
theorem dX9_seeks_132 : decode cX9_seeks 132 = .ok (.iconst (-1), 1) := by decide +kernel
theorem dX9_seeks_133 : decode cX9_seeks 133 = .ok (.iastore, 1) := by decide +kernel
theorem dX9_seeks_134 : decode cX9_seeks 134 = .ok (.iinc 4 1, 3) := by decide +kernel
theorem dX9_seeks_137 : decode cX9_seeks 137 = .ok (.goto (-121), 3) := by decide +kernel
theorem dX9_seeks_140 : decode cX9_seeks 140 = .ok (.iconst 0, 1) := by decide +kernel
theorem dX9_seeks_141 : decode cX9_seeks 141 = .ok (.ireturn, 1) := by decide +kernel
set_option maxRecDepth 20000 in
theorem ggX9_laysSought_X9_teams : GoodIn wsX9_laysSought wsX9_teams := goodIn_r _ [6, 7, 41, 42, 43, 44, 45, 46, 47, 48, 49, 50, 51, 52, 53, 54, 55, 56, 57, 58, 59, 60, 61, 62, 63, 64, 65, 66, 67, 68, 69] (by decide +kernel) (by decide +kernel)
set_option maxRecDepth 20000 in
theorem gX9_laysSought_X9_teams : GoodIn wsX9_laysSought (wsV RX9 157 RX9 yX9_teams wsX9_teams) := goodIn_app (goodIn_of _ (by decide +kernel)) ggX9_laysSought_X9_teams
set_option maxRecDepth 20000 in
theorem ggX9_laysSought_X9_laysWays : GoodIn wsX9_laysSought wsX9_laysWays := goodIn_r _ [11, 12, 7, 2, 3, 4, 5, 6, 13, 14, 15, 16, 17, 18, 19, 20, 21, 22, 23, 24, 41, 42, 43, 44, 45, 46, 47, 48, 49, 50, 51, 52, 53, 54, 55, 56, 57, 58, 59, 60, 61, 62, 63, 64, 65, 66, 67, 68, 69] (by decide +kernel) (by decide +kernel)
set_option maxRecDepth 20000 in
theorem gX9_laysSought_X9_laysWays : GoodIn wsX9_laysSought (wsV RX9 198 RX9 yX9_laysWays wsX9_laysWays) := goodIn_app (goodIn_of _ (by decide +kernel)) ggX9_laysSought_X9_laysWays
set_option maxRecDepth 20000 in
theorem ggX9_laysSought_X9_all : GoodIn wsX9_laysSought wsX9_all := goodIn_r _ [28, 2, 3, 4, 5, 6, 7, 41, 42, 43, 44, 45, 46, 47, 48, 49, 50, 51, 52, 53, 54, 55, 56, 57, 58, 59, 60, 61, 62, 63, 64, 65, 66, 67, 68, 69] (by decide +kernel) (by decide +kernel)
set_option maxRecDepth 20000 in
theorem gX9_laysSought_X9_all : GoodIn wsX9_laysSought (wsV RX9 201 RX9 yX9_all wsX9_all) := goodIn_app (goodIn_of _ (by decide +kernel)) ggX9_laysSought_X9_all
set_option maxRecDepth 20000 in
theorem ggX9_laysSought_X9_seeks : GoodIn wsX9_laysSought wsX9_seeks := goodIn_r _ [32, 7, 12, 1, 13, 14, 5, 15, 16, 17, 18, 2, 3, 4, 6, 19, 20, 21, 22, 23, 24, 33, 34, 35, 36, 37, 38, 39, 40, 29, 30, 31, 41, 42, 43, 44, 45, 46, 47, 48, 49, 50, 51, 52, 53, 54, 55, 56, 57, 58, 59, 60, 61, 62, 63, 64, 65, 66, 67, 68, 69] (by decide +kernel) (by decide +kernel)
set_option maxRecDepth 20000 in
theorem gX9_laysSought_X9_seeks : GoodIn wsX9_laysSought (wsV RX9 207 RX9 yX9_seeks wsX9_seeks) := goodIn_app (goodIn_of _ (by decide +kernel)) ggX9_laysSought_X9_seeks
theorem dX9_laysSought_0 : decode cX9_laysSought 0 = .ok (.aload_n 0, 1) := by decide +kernel
theorem dX9_laysSought_1 : decode cX9_laysSought 1 = .ok (.invokevirtual 157, 3) := by decide +kernel
theorem dX9_laysSought_4 : decode cX9_laysSought 4 = .ok (.ifCond .ne 5, 3) := by decide +kernel
theorem dX9_laysSought_7 : decode cX9_laysSought 7 = .ok (.iconst 0, 1) := by decide +kernel
theorem dX9_laysSought_8 : decode cX9_laysSought 8 = .ok (.ireturn, 1) := by decide +kernel
theorem dX9_laysSought_9 : decode cX9_laysSought 9 = .ok (.aload_n 0, 1) := by decide +kernel
theorem dX9_laysSought_10 : decode cX9_laysSought 10 = .ok (.invokevirtual 198, 3) := by decide +kernel
theorem dX9_laysSought_13 : decode cX9_laysSought 13 = .ok (.iconst 0, 1) := by decide +kernel
theorem dX9_laysSought_14 : decode cX9_laysSought 14 = .ok (.istore_n 2, 1) := by decide +kernel
theorem dX9_laysSought_15 : decode cX9_laysSought 15 = .ok (.iload_n 2, 1) := by decide +kernel
theorem dX9_laysSought_16 : decode cX9_laysSought 16 = .ok (.bipush 14, 2) := by decide +kernel
theorem dX9_laysSought_18 : decode cX9_laysSought 18 = .ok (.if_icmp .ge 16, 3) := by decide +kernel
theorem dX9_laysSought_21 : decode cX9_laysSought 21 = .ok (.aload_n 0, 1) := by decide +kernel
theorem dX9_laysSought_22 : decode cX9_laysSought 22 = .ok (.getfield 96, 3) := by decide +kernel
theorem dX9_laysSought_25 : decode cX9_laysSought 25 = .ok (.iload_n 2, 1) := by decide +kernel
theorem dX9_laysSought_26 : decode cX9_laysSought 26 = .ok (.iconst (-1), 1) := by decide +kernel
theorem dX9_laysSought_27 : decode cX9_laysSought 27 = .ok (.iastore, 1) := by decide +kernel
theorem dX9_laysSought_28 : decode cX9_laysSought 28 = .ok (.iinc 2 1, 3) := by decide +kernel
theorem dX9_laysSought_31 : decode cX9_laysSought 31 = .ok (.goto (-16), 3) := by decide +kernel
theorem dX9_laysSought_34 : decode cX9_laysSought 34 = .ok (.aload_n 0, 1) := by decide +kernel
theorem dX9_laysSought_35 : decode cX9_laysSought 35 = .ok (.aload_n 0, 1) := by decide +kernel
theorem dX9_laysSought_36 : decode cX9_laysSought 36 = .ok (.invokevirtual 201, 3) := by decide +kernel
theorem dX9_laysSought_39 : decode cX9_laysSought 39 = .ok (.iload_n 1, 1) := by decide +kernel
theorem dX9_laysSought_40 : decode cX9_laysSought 40 = .ok (.invokevirtual 207, 3) := by decide +kernel
theorem dX9_laysSought_43 : decode cX9_laysSought 43 = .ok (.ireturn, 1) := by decide +kernel
set_option maxRecDepth 20000 in
theorem ggX9_come_X9_isTeam : GoodIn wsX9_come wsX9_isTeam := goodIn_r _ [7, 8, 9, 10, 6, 11, 12, 13, 14, 15, 53, 54, 55, 56, 57, 58, 59, 60, 61, 62, 63, 64, 65, 66, 67, 68, 69, 70, 71, 72, 73, 74, 75, 76, 77, 78, 79, 80, 81] (by decide +kernel) (by decide +kernel)
set_option maxRecDepth 20000 in
theorem gX9_come_X9_isTeam : GoodIn wsX9_come (wsV RX9 189 RX9 yX9_isTeam wsX9_isTeam) := goodIn_app (goodIn_of _ (by decide +kernel)) ggX9_come_X9_isTeam
set_option maxRecDepth 20000 in
theorem ggX9_come_X9_laysSought : GoodIn wsX9_come wsX9_laysSought := goodIn_r _ [19, 2, 8, 9, 10, 6, 11, 12, 20, 21, 22, 23, 24, 25, 26, 27, 28, 29, 30, 31, 32, 33, 34, 35, 36, 37, 38, 39, 40, 41, 42, 43, 44, 45, 46, 47, 48, 49, 50, 51, 52, 53, 54, 55, 56, 57, 58, 59, 60, 61, 62, 63, 64, 65, 66, 67, 68, 69, 70, 71, 72, 73, 74, 75, 76, 77, 78, 79, 80, 81] (by decide +kernel) (by decide +kernel)
set_option maxRecDepth 20000 in
theorem gX9_come_X9_laysSought : GoodIn wsX9_come (wsV RX9 211 RX9 yX9_laysSought wsX9_laysSought) := goodIn_app (goodIn_of _ (by decide +kernel)) ggX9_come_X9_laysSought
theorem dX9_come_0 : decode cX9_come 0 = .ok (.aload_n 0, 1) := by decide +kernel
theorem dX9_come_1 : decode cX9_come 1 = .ok (.iconst 0, 1) := by decide +kernel
theorem dX9_come_2 : decode cX9_come 2 = .ok (.putfield 1, 3) := by decide +kernel
theorem dX9_come_5 : decode cX9_come 5 = .ok (.aload_n 0, 1) := by decide +kernel
theorem dX9_come_6 : decode cX9_come 6 = .ok (.iload_n 2, 1) := by decide +kernel
theorem dX9_come_7 : decode cX9_come 7 = .ok (.invokevirtual 189, 3) := by decide +kernel
theorem dX9_come_10 : decode cX9_come 10 = .ok (.ifCond .eq 20, 3) := by decide +kernel
theorem dX9_come_13 : decode cX9_come 13 = .ok (.aload_n 0, 1) := by decide +kernel
theorem dX9_come_14 : decode cX9_come 14 = .ok (.iload_n 1, 1) := by decide +kernel
theorem dX9_come_15 : decode cX9_come 15 = .ok (.invokevirtual 211, 3) := by decide +kernel
theorem dX9_come_18 : decode cX9_come 18 = .ok (.ifCond .eq 12, 3) := by decide +kernel
theorem dX9_come_21 : decode cX9_come 21 = .ok (.aload_n 0, 1) := by decide +kernel
theorem dX9_come_22 : decode cX9_come 22 = .ok (.getfield 96, 3) := by decide +kernel
theorem dX9_come_25 : decode cX9_come 25 = .ok (.iload_n 2, 1) := by decide +kernel
theorem dX9_come_26 : decode cX9_come 26 = .ok (.iaload, 1) := by decide +kernel
theorem dX9_come_27 : decode cX9_come 27 = .ok (.goto 4, 3) := by decide +kernel
theorem dX9_come_30 : decode cX9_come 30 = .ok (.iconst (-1), 1) := by decide +kernel
theorem dX9_come_31 : decode cX9_come 31 = .ok (.ireturn, 1) := by decide +kernel
theorem dX9_clears_0 : decode cX9_clears 0 = .ok (.iconst 0, 1) := by decide +kernel
theorem dX9_clears_1 : decode cX9_clears 1 = .ok (.istore_n 2, 1) := by decide +kernel
theorem dX9_clears_2 : decode cX9_clears 2 = .ok (.iload_n 2, 1) := by decide +kernel
theorem dX9_clears_3 : decode cX9_clears 3 = .ok (.sipush 184, 3) := by decide +kernel
theorem dX9_clears_6 : decode cX9_clears 6 = .ok (.if_icmp .ge 13, 3) := by decide +kernel
theorem dX9_clears_9 : decode cX9_clears 9 = .ok (.aload_n 0, 1) := by decide +kernel
theorem dX9_clears_10 : decode cX9_clears 10 = .ok (.iload_n 2, 1) := by decide +kernel
theorem dX9_clears_11 : decode cX9_clears 11 = .ok (.iconst 0, 1) := by decide +kernel
theorem dX9_clears_12 : decode cX9_clears 12 = .ok (.iastore, 1) := by decide +kernel
theorem dX9_clears_13 : decode cX9_clears 13 = .ok (.iinc 2 1, 3) := by decide +kernel
theorem dX9_clears_16 : decode cX9_clears 16 = .ok (.goto (-14), 3) := by decide +kernel
theorem dX9_clears_19 : decode cX9_clears 19 = .ok (.aload_n 0, 1) := by decide +kernel
theorem dX9_clears_20 : decode cX9_clears 20 = .ok (.iconst 0, 1) := by decide +kernel
theorem dX9_clears_21 : decode cX9_clears 21 = .ok (.iload_n 1, 1) := by decide +kernel
theorem dX9_clears_22 : decode cX9_clears 22 = .ok (.iastore, 1) := by decide +kernel
theorem dX9_clears_23 : decode cX9_clears 23 = .ok (.return_, 1) := by decide +kernel
set_option maxRecDepth 20000 in
theorem ggX9_family_X9_isIn : GoodIn wsX9_family wsX9_isIn := goodIn_r _ [6] (by decide +kernel) (by decide +kernel)
set_option maxRecDepth 20000 in
theorem gX9_family_X9_isIn : GoodIn wsX9_family (va_wsS RX9 118 yX9_isIn wsX9_isIn) := goodIn_app (goodIn_of _ (by decide +kernel)) ggX9_family_X9_isIn
set_option maxRecDepth 20000 in
theorem ggX9_family_X9_snap : GoodIn wsX9_family wsX9_snap := goodIn_r _ [10, 11, 12, 2, 13, 14, 5, 15, 30, 31, 32, 33, 34, 35, 36, 37, 38, 39, 40, 41, 42, 43, 44, 45, 46, 47, 48, 49, 50, 51, 52, 53, 54, 55, 56, 57, 58] (by decide +kernel) (by decide +kernel)
set_option maxRecDepth 20000 in
theorem gX9_family_X9_snap : GoodIn wsX9_family (wsV RX9 215 RX9 yX9_snap wsX9_snap) := goodIn_app (goodIn_of _ (by decide +kernel)) ggX9_family_X9_snap
set_option maxRecDepth 20000 in
theorem ggX9_family_X9_clears : GoodIn wsX9_family wsX9_clears := goodIn_r _ [18] (by decide +kernel) (by decide +kernel)
set_option maxRecDepth 20000 in
theorem gX9_family_X9_clears : GoodIn wsX9_family (va_wsS RX9 218 yX9_clears wsX9_clears) := goodIn_app (goodIn_of _ (by decide +kernel)) ggX9_family_X9_clears
set_option maxRecDepth 20000 in
theorem ggX9_family_X9_laysTurns : GoodIn wsX9_family wsX9_laysTurns := goodIn_r _ [22, 2, 23, 24, 5, 25, 30, 31, 32, 33, 34, 35, 36, 37, 38, 39, 40, 41, 42, 43, 44, 45, 46, 47, 48, 49, 50, 51, 52, 53, 54, 55, 56, 57, 58] (by decide +kernel) (by decide +kernel)
set_option maxRecDepth 20000 in
theorem gX9_family_X9_laysTurns : GoodIn wsX9_family (wsV RX9 222 RX9 yX9_laysTurns wsX9_laysTurns) := goodIn_app (goodIn_of _ (by decide +kernel)) ggX9_family_X9_laysTurns
set_option maxRecDepth 20000 in
theorem ggX9_family_X9_laysSums : GoodIn wsX9_family wsX9_laysSums := goodIn_r _ [29, 2, 23, 24, 5, 25, 30, 31, 32, 33, 34, 35, 36, 37, 38, 39, 40, 41, 42, 43, 44, 45, 46, 47, 48, 49, 50, 51, 52, 53, 54, 55, 56, 57, 58] (by decide +kernel) (by decide +kernel)
set_option maxRecDepth 20000 in
theorem gX9_family_X9_laysSums : GoodIn wsX9_family (wsV RX9 225 RX9 yX9_laysSums wsX9_laysSums) := goodIn_app (goodIn_of _ (by decide +kernel)) ggX9_family_X9_laysSums
theorem dX9_family_0 : decode cX9_family 0 = .ok (.aload_n 0, 1) := by decide +kernel
theorem dX9_family_1 : decode cX9_family 1 = .ok (.iconst 0, 1) := by decide +kernel
theorem dX9_family_2 : decode cX9_family 2 = .ok (.putfield 1, 3) := by decide +kernel
theorem dX9_family_5 : decode cX9_family 5 = .ok (.iload_n 1, 1) := by decide +kernel
theorem dX9_family_6 : decode cX9_family 6 = .ok (.iconst 0, 1) := by decide +kernel
theorem dX9_family_7 : decode cX9_family 7 = .ok (.iconst 1, 1) := by decide +kernel
theorem dX9_family_8 : decode cX9_family 8 = .ok (.invokestatic 118, 3) := by decide +kernel
theorem dX9_family_11 : decode cX9_family 11 = .ok (.ifCond .eq 31, 3) := by decide +kernel
theorem dX9_family_14 : decode cX9_family 14 = .ok (.iload_n 2, 1) := by decide +kernel
theorem dX9_family_15 : decode cX9_family 15 = .ok (.iconst 4, 1) := by decide +kernel
theorem dX9_family_16 : decode cX9_family 16 = .ok (.bipush 14, 2) := by decide +kernel
theorem dX9_family_18 : decode cX9_family 18 = .ok (.invokestatic 118, 3) := by decide +kernel
theorem dX9_family_21 : decode cX9_family 21 = .ok (.ifCond .eq 21, 3) := by decide +kernel
theorem dX9_family_24 : decode cX9_family 24 = .ok (.iload_n 2, 1) := by decide +kernel
theorem dX9_family_25 : decode cX9_family 25 = .ok (.iconst 2, 1) := by decide +kernel
theorem dX9_family_26 : decode cX9_family 26 = .ok (.irem, 1) := by decide +kernel
theorem dX9_family_27 : decode cX9_family 27 = .ok (.iconst 1, 1) := by decide +kernel
theorem dX9_family_28 : decode cX9_family 28 = .ok (.if_icmp .eq 14, 3) := by decide +kernel
theorem dX9_family_31 : decode cX9_family 31 = .ok (.iload_n 1, 1) := by decide +kernel
theorem dX9_family_32 : decode cX9_family 32 = .ok (.iconst 1, 1) := by decide +kernel
theorem dX9_family_33 : decode cX9_family 33 = .ok (.if_icmp .ne 11, 3) := by decide +kernel
theorem dX9_family_36 : decode cX9_family 36 = .ok (.iload_n 2, 1) := by decide +kernel
theorem dX9_family_37 : decode cX9_family 37 = .ok (.iconst 4, 1) := by decide +kernel
theorem dX9_family_38 : decode cX9_family 38 = .ok (.irem, 1) := by decide +kernel
theorem dX9_family_39 : decode cX9_family 39 = .ok (.ifCond .ne 5, 3) := by decide +kernel
theorem dX9_family_42 : decode cX9_family 42 = .ok (.iconst (-1), 1) := by decide +kernel
theorem dX9_family_43 : decode cX9_family 43 = .ok (.ireturn, 1) := by decide +kernel
theorem dX9_family_44 : decode cX9_family 44 = .ok (.aload_n 0, 1) := by decide +kernel
theorem dX9_family_45 : decode cX9_family 45 = .ok (.invokevirtual 215, 3) := by decide +kernel
theorem dX9_family_48 : decode cX9_family 48 = .ok (.aload_n 0, 1) := by decide +kernel
theorem dX9_family_49 : decode cX9_family 49 = .ok (.getfield 68, 3) := by decide +kernel
theorem dX9_family_52 : decode cX9_family 52 = .ok (.iload_n 2, 1) := by decide +kernel
theorem dX9_family_53 : decode cX9_family 53 = .ok (.invokestatic 218, 3) := by decide +kernel
theorem dX9_family_56 : decode cX9_family 56 = .ok (.iload_n 1, 1) := by decide +kernel
theorem dX9_family_57 : decode cX9_family 57 = .ok (.ifCond .ne 13, 3) := by decide +kernel
theorem dX9_family_60 : decode cX9_family 60 = .ok (.aload_n 0, 1) := by decide +kernel
theorem dX9_family_61 : decode cX9_family 61 = .ok (.iload_n 2, 1) := by decide +kernel
theorem dX9_family_62 : decode cX9_family 62 = .ok (.iconst 1, 1) := by decide +kernel
theorem dX9_family_63 : decode cX9_family 63 = .ok (.isub, 1) := by decide +kernel
theorem dX9_family_64 : decode cX9_family 64 = .ok (.invokevirtual 222, 3) := by decide +kernel
theorem dX9_family_67 : decode cX9_family 67 = .ok (.goto 8, 3) := by decide +kernel
theorem dX9_family_70 : decode cX9_family 70 = .ok (.aload_n 0, 1) := by decide +kernel
theorem dX9_family_71 : decode cX9_family 71 = .ok (.iload_n 2, 1) := by decide +kernel
theorem dX9_family_72 : decode cX9_family 72 = .ok (.invokevirtual 225, 3) := by decide +kernel
theorem dX9_family_75 : decode cX9_family 75 = .ok (.aload_n 0, 1) := by decide +kernel
theorem dX9_family_76 : decode cX9_family 76 = .ok (.getfield 68, 3) := by decide +kernel
theorem dX9_family_79 : decode cX9_family 79 = .ok (.iconst 1, 1) := by decide +kernel
theorem dX9_family_80 : decode cX9_family 80 = .ok (.iload_n 2, 1) := by decide +kernel
theorem dX9_family_81 : decode cX9_family 81 = .ok (.iconst 1, 1) := by decide +kernel
theorem dX9_family_82 : decode cX9_family 82 = .ok (.isub, 1) := by decide +kernel
theorem dX9_family_83 : decode cX9_family 83 = .ok (.iastore, 1) := by decide +kernel
theorem dX9_family_84 : decode cX9_family 84 = .ok (.iload_n 2, 1) := by decide +kernel
theorem dX9_family_85 : decode cX9_family 85 = .ok (.iconst 1, 1) := by decide +kernel
theorem dX9_family_86 : decode cX9_family 86 = .ok (.isub, 1) := by decide +kernel
theorem dX9_family_87 : decode cX9_family 87 = .ok (.ireturn, 1) := by decide +kernel
set_option maxRecDepth 20000 in
theorem ggX9_laysTurns_X9_pairs : GoodIn wsX9_laysTurns wsX9_pairs := goodIn_r _ [5] (by decide +kernel) (by decide +kernel)
set_option maxRecDepth 20000 in
theorem gX9_laysTurns_X9_pairs : GoodIn wsX9_laysTurns (va_wsS RX9 125 yX9_pairs wsX9_pairs) := goodIn_app (goodIn_of _ (by decide +kernel)) ggX9_laysTurns_X9_pairs
theorem dX9_laysTurns_0 : decode cX9_laysTurns 0 = .ok (.iconst 0, 1) := by decide +kernel
theorem dX9_laysTurns_1 : decode cX9_laysTurns 1 = .ok (.istore_n 2, 1) := by decide +kernel
theorem dX9_laysTurns_2 : decode cX9_laysTurns 2 = .ok (.iload_n 2, 1) := by decide +kernel
theorem dX9_laysTurns_3 : decode cX9_laysTurns 3 = .ok (.iload_n 1, 1) := by decide +kernel
theorem dX9_laysTurns_4 : decode cX9_laysTurns 4 = .ok (.if_icmp .ge 54, 3) := by decide +kernel
theorem dX9_laysTurns_7 : decode cX9_laysTurns 7 = .ok (.aload_n 0, 1) := by decide +kernel
theorem dX9_laysTurns_8 : decode cX9_laysTurns 8 = .ok (.getfield 68, 3) := by decide +kernel
theorem dX9_laysTurns_11 : decode cX9_laysTurns 11 = .ok (.iload_n 2, 1) := by decide +kernel
theorem dX9_laysTurns_12 : decode cX9_laysTurns 12 = .ok (.iload_n 1, 1) := by decide +kernel
theorem dX9_laysTurns_13 : decode cX9_laysTurns 13 = .ok (.iload_n 2, 1) := by decide +kernel
theorem dX9_laysTurns_14 : decode cX9_laysTurns 14 = .ok (.invokestatic 125, 3) := by decide +kernel
theorem dX9_laysTurns_17 : decode cX9_laysTurns 17 = .ok (.iconst 1, 1) := by decide +kernel
theorem dX9_laysTurns_18 : decode cX9_laysTurns 18 = .ok (.istore_n 3, 1) := by decide +kernel
theorem dX9_laysTurns_19 : decode cX9_laysTurns 19 = .ok (.iconst 2, 1) := by decide +kernel
theorem dX9_laysTurns_20 : decode cX9_laysTurns 20 = .ok (.iload_n 3, 1) := by decide +kernel
theorem dX9_laysTurns_21 : decode cX9_laysTurns 21 = .ok (.imul, 1) := by decide +kernel
theorem dX9_laysTurns_22 : decode cX9_laysTurns 22 = .ok (.iload_n 1, 1) := by decide +kernel
theorem dX9_laysTurns_23 : decode cX9_laysTurns 23 = .ok (.if_icmp .ge 29, 3) := by decide +kernel
theorem dX9_laysTurns_26 : decode cX9_laysTurns 26 = .ok (.aload_n 0, 1) := by decide +kernel
theorem dX9_laysTurns_27 : decode cX9_laysTurns 27 = .ok (.getfield 68, 3) := by decide +kernel
theorem dX9_laysTurns_30 : decode cX9_laysTurns 30 = .ok (.iload_n 2, 1) := by decide +kernel
theorem dX9_laysTurns_31 : decode cX9_laysTurns 31 = .ok (.iload_n 2, 1) := by decide +kernel
theorem dX9_laysTurns_32 : decode cX9_laysTurns 32 = .ok (.iload_n 3, 1) := by decide +kernel
theorem dX9_laysTurns_33 : decode cX9_laysTurns 33 = .ok (.iadd, 1) := by decide +kernel
theorem dX9_laysTurns_34 : decode cX9_laysTurns 34 = .ok (.iload_n 1, 1) := by decide +kernel
theorem dX9_laysTurns_35 : decode cX9_laysTurns 35 = .ok (.irem, 1) := by decide +kernel
theorem dX9_laysTurns_36 : decode cX9_laysTurns 36 = .ok (.iload_n 2, 1) := by decide +kernel
theorem dX9_laysTurns_37 : decode cX9_laysTurns 37 = .ok (.iload_n 3, 1) := by decide +kernel
theorem dX9_laysTurns_38 : decode cX9_laysTurns 38 = .ok (.isub, 1) := by decide +kernel
theorem dX9_laysTurns_39 : decode cX9_laysTurns 39 = .ok (.iload_n 1, 1) := by decide +kernel
theorem dX9_laysTurns_40 : decode cX9_laysTurns 40 = .ok (.iadd, 1) := by decide +kernel
theorem dX9_laysTurns_41 : decode cX9_laysTurns 41 = .ok (.iload_n 1, 1) := by decide +kernel
theorem dX9_laysTurns_42 : decode cX9_laysTurns 42 = .ok (.irem, 1) := by decide +kernel
theorem dX9_laysTurns_43 : decode cX9_laysTurns 43 = .ok (.invokestatic 125, 3) := by decide +kernel
theorem dX9_laysTurns_46 : decode cX9_laysTurns 46 = .ok (.iinc 3 1, 3) := by decide +kernel
theorem dX9_laysTurns_49 : decode cX9_laysTurns 49 = .ok (.goto (-30), 3) := by decide +kernel
theorem dX9_laysTurns_52 : decode cX9_laysTurns 52 = .ok (.iinc 2 1, 3) := by decide +kernel
theorem dX9_laysTurns_55 : decode cX9_laysTurns 55 = .ok (.goto (-53), 3) := by decide +kernel
theorem dX9_laysTurns_58 : decode cX9_laysTurns 58 = .ok (.return_, 1) := by decide +kernel
set_option maxRecDepth 20000 in
theorem ggX9_laysSums_X9_pairs : GoodIn wsX9_laysSums wsX9_pairs := goodIn_r _ [5] (by decide +kernel) (by decide +kernel)
set_option maxRecDepth 20000 in
theorem gX9_laysSums_X9_pairs : GoodIn wsX9_laysSums (va_wsS RX9 125 yX9_pairs wsX9_pairs) := goodIn_app (goodIn_of _ (by decide +kernel)) ggX9_laysSums_X9_pairs
theorem dX9_laysSums_0 : decode cX9_laysSums 0 = .ok (.iload_n 1, 1) := by decide +kernel
theorem dX9_laysSums_1 : decode cX9_laysSums 1 = .ok (.iconst 2, 1) := by decide +kernel
theorem dX9_laysSums_2 : decode cX9_laysSums 2 = .ok (.idiv, 1) := by decide +kernel
theorem dX9_laysSums_3 : decode cX9_laysSums 3 = .ok (.istore_n 2, 1) := by decide +kernel
theorem dX9_laysSums_4 : decode cX9_laysSums 4 = .ok (.iconst 0, 1) := by decide +kernel
theorem dX9_laysSums_5 : decode cX9_laysSums 5 = .ok (.istore_n 3, 1) := by decide +kernel
theorem dX9_laysSums_6 : decode cX9_laysSums 6 = .ok (.iload_n 3, 1) := by decide +kernel
theorem dX9_laysSums_7 : decode cX9_laysSums 7 = .ok (.iload_n 2, 1) := by decide +kernel
theorem dX9_laysSums_8 : decode cX9_laysSums 8 = .ok (.if_icmp .ge 70, 3) := by decide +kernel
theorem dX9_laysSums_11 : decode cX9_laysSums 11 = .ok (.aload_n 0, 1) := by decide +kernel
theorem dX9_laysSums_12 : decode cX9_laysSums 12 = .ok (.getfield 68, 3) := by decide +kernel
theorem dX9_laysSums_15 : decode cX9_laysSums 15 = .ok (.iload_n 3, 1) := by decide +kernel
theorem dX9_laysSums_16 : decode cX9_laysSums 16 = .ok (.iload_n 3, 1) := by decide +kernel
theorem dX9_laysSums_17 : decode cX9_laysSums 17 = .ok (.iload_n 3, 1) := by decide +kernel
theorem dX9_laysSums_18 : decode cX9_laysSums 18 = .ok (.iload_n 2, 1) := by decide +kernel
theorem dX9_laysSums_19 : decode cX9_laysSums 19 = .ok (.iadd, 1) := by decide +kernel
theorem dX9_laysSums_20 : decode cX9_laysSums 20 = .ok (.invokestatic 125, 3) := by decide +kernel
theorem dX9_laysSums_23 : decode cX9_laysSums 23 = .ok (.iconst 0, 1) := by decide +kernel
theorem dX9_laysSums_24 : decode cX9_laysSums 24 = .ok (.istore 4, 2) := by decide +kernel
theorem dX9_laysSums_26 : decode cX9_laysSums 26 = .ok (.iload 4, 2) := by decide +kernel
theorem dX9_laysSums_28 : decode cX9_laysSums 28 = .ok (.iload_n 1, 1) := by decide +kernel
theorem dX9_laysSums_29 : decode cX9_laysSums 29 = .ok (.if_icmp .ge 43, 3) := by decide +kernel
theorem dX9_laysSums_32 : decode cX9_laysSums 32 = .ok (.iload 4, 2) := by decide +kernel
theorem dX9_laysSums_34 : decode cX9_laysSums 34 = .ok (.iload_n 3, 1) := by decide +kernel
theorem dX9_laysSums_35 : decode cX9_laysSums 35 = .ok (.if_icmp .eq 31, 3) := by decide +kernel
theorem dX9_laysSums_38 : decode cX9_laysSums 38 = .ok (.iload 4, 2) := by decide +kernel
theorem dX9_laysSums_40 : decode cX9_laysSums 40 = .ok (.iload_n 3, 1) := by decide +kernel
theorem dX9_laysSums_41 : decode cX9_laysSums 41 = .ok (.iload_n 2, 1) := by decide +kernel
theorem dX9_laysSums_42 : decode cX9_laysSums 42 = .ok (.iadd, 1) := by decide +kernel
theorem dX9_laysSums_43 : decode cX9_laysSums 43 = .ok (.if_icmp .eq 23, 3) := by decide +kernel
theorem dX9_laysSums_46 : decode cX9_laysSums 46 = .ok (.aload_n 0, 1) := by decide +kernel
theorem dX9_laysSums_47 : decode cX9_laysSums 47 = .ok (.getfield 68, 3) := by decide +kernel
theorem dX9_laysSums_50 : decode cX9_laysSums 50 = .ok (.iload_n 3, 1) := by decide +kernel
theorem dX9_laysSums_51 : decode cX9_laysSums 51 = .ok (.iload 4, 2) := by decide +kernel
theorem dX9_laysSums_53 : decode cX9_laysSums 53 = .ok (.iconst 2, 1) := by decide +kernel
theorem dX9_laysSums_54 : decode cX9_laysSums 54 = .ok (.iload_n 3, 1) := by decide +kernel
theorem dX9_laysSums_55 : decode cX9_laysSums 55 = .ok (.imul, 1) := by decide +kernel
theorem dX9_laysSums_56 : decode cX9_laysSums 56 = .ok (.iload 4, 2) := by decide +kernel
theorem dX9_laysSums_58 : decode cX9_laysSums 58 = .ok (.isub, 1) := by decide +kernel
theorem dX9_laysSums_59 : decode cX9_laysSums 59 = .ok (.iload_n 1, 1) := by decide +kernel
theorem dX9_laysSums_60 : decode cX9_laysSums 60 = .ok (.iadd, 1) := by decide +kernel
theorem dX9_laysSums_61 : decode cX9_laysSums 61 = .ok (.iload_n 1, 1) := by decide +kernel
theorem dX9_laysSums_62 : decode cX9_laysSums 62 = .ok (.irem, 1) := by decide +kernel
theorem dX9_laysSums_63 : decode cX9_laysSums 63 = .ok (.invokestatic 125, 3) := by decide +kernel
theorem dX9_laysSums_66 : decode cX9_laysSums 66 = .ok (.iinc 4 1, 3) := by decide +kernel
theorem dX9_laysSums_69 : decode cX9_laysSums 69 = .ok (.goto (-43), 3) := by decide +kernel
theorem dX9_laysSums_72 : decode cX9_laysSums 72 = .ok (.iinc 3 1, 3) := by decide +kernel
theorem dX9_laysSums_75 : decode cX9_laysSums 75 = .ok (.goto (-69), 3) := by decide +kernel
theorem dX9_laysSums_78 : decode cX9_laysSums 78 = .ok (.iload_n 2, 1) := by decide +kernel
theorem dX9_laysSums_79 : decode cX9_laysSums 79 = .ok (.istore_n 3, 1) := by decide +kernel
theorem dX9_laysSums_80 : decode cX9_laysSums 80 = .ok (.iconst 1, 1) := by decide +kernel
theorem dX9_laysSums_81 : decode cX9_laysSums 81 = .ok (.istore 4, 2) := by decide +kernel
theorem dX9_laysSums_83 : decode cX9_laysSums 83 = .ok (.iload 4, 2) := by decide +kernel
theorem dX9_laysSums_85 : decode cX9_laysSums 85 = .ok (.iload_n 1, 1) := by decide +kernel
theorem dX9_laysSums_86 : decode cX9_laysSums 86 = .ok (.if_icmp .ge 53, 3) := by decide +kernel
theorem dX9_laysSums_89 : decode cX9_laysSums 89 = .ok (.iload 4, 2) := by decide +kernel
theorem dX9_laysSums_91 : decode cX9_laysSums 91 = .ok (.iload_n 2, 1) := by decide +kernel
theorem dX9_laysSums_92 : decode cX9_laysSums 92 = .ok (.if_icmp .ne 6, 3) := by decide +kernel
theorem dX9_laysSums_95 : decode cX9_laysSums 95 = .ok (.goto 38, 3) := by decide +kernel
theorem dX9_laysSums_98 : decode cX9_laysSums 98 = .ok (.iconst 0, 1) := by decide +kernel
theorem dX9_laysSums_99 : decode cX9_laysSums 99 = .ok (.istore 5, 2) := by decide +kernel
theorem dX9_laysSums_101 : decode cX9_laysSums 101 = .ok (.iload 5, 2) := by decide +kernel
theorem dX9_laysSums_103 : decode cX9_laysSums 103 = .ok (.iload_n 1, 1) := by decide +kernel
theorem dX9_laysSums_104 : decode cX9_laysSums 104 = .ok (.if_icmp .ge 26, 3) := by decide +kernel
theorem dX9_laysSums_107 : decode cX9_laysSums 107 = .ok (.aload_n 0, 1) := by decide +kernel
theorem dX9_laysSums_108 : decode cX9_laysSums 108 = .ok (.getfield 68, 3) := by decide +kernel
theorem dX9_laysSums_111 : decode cX9_laysSums 111 = .ok (.iload_n 3, 1) := by decide +kernel
theorem dX9_laysSums_112 : decode cX9_laysSums 112 = .ok (.iload 5, 2) := by decide +kernel
theorem dX9_laysSums_114 : decode cX9_laysSums 114 = .ok (.iload 5, 2) := by decide +kernel
theorem dX9_laysSums_116 : decode cX9_laysSums 116 = .ok (.iload 4, 2) := by decide +kernel
theorem dX9_laysSums_118 : decode cX9_laysSums 118 = .ok (.iadd, 1) := by decide +kernel
theorem dX9_laysSums_119 : decode cX9_laysSums 119 = .ok (.iload_n 1, 1) := by decide +kernel
theorem dX9_laysSums_120 : decode cX9_laysSums 120 = .ok (.irem, 1) := by decide +kernel
theorem dX9_laysSums_121 : decode cX9_laysSums 121 = .ok (.invokestatic 125, 3) := by decide +kernel
theorem dX9_laysSums_124 : decode cX9_laysSums 124 = .ok (.iinc 5 2, 3) := by decide +kernel
theorem dX9_laysSums_127 : decode cX9_laysSums 127 = .ok (.goto (-26), 3) := by decide +kernel
theorem dX9_laysSums_130 : decode cX9_laysSums 130 = .ok (.iinc 3 1, 3) := by decide +kernel
theorem dX9_laysSums_133 : decode cX9_laysSums 133 = .ok (.iinc 4 2, 3) := by decide +kernel
theorem dX9_laysSums_136 : decode cX9_laysSums 136 = .ok (.goto (-53), 3) := by decide +kernel
theorem dX9_laysSums_139 : decode cX9_laysSums 139 = .ok (.return_, 1) := by decide +kernel
set_option maxRecDepth 20000 in
theorem ggX9_starts_X9_laysBy : GoodIn wsX9_starts wsX9_laysBy := goodIn_r _ [10, 11, 12, 9, 13, 14, 15, 16] (by decide +kernel) (by decide +kernel)
set_option maxRecDepth 20000 in
theorem gX9_starts_X9_laysBy : GoodIn wsX9_starts (va_wsS RX9 234 yX9_laysBy wsX9_laysBy) := goodIn_app (goodIn_of _ (by decide +kernel)) ggX9_starts_X9_laysBy
set_option maxRecDepth 20000 in
theorem ggX9_starts_X9_isPerfect : GoodIn wsX9_starts wsX9_isPerfect := goodIn_r _ [19, 20, 21, 9, 22, 23, 24, 25, 26, 27, 28, 29, 30, 31, 32, 33, 34, 35, 36, 37] (by decide +kernel) (by decide +kernel)
set_option maxRecDepth 20000 in
theorem gX9_starts_X9_isPerfect : GoodIn wsX9_starts (va_wsS RX9 182 yX9_isPerfect wsX9_isPerfect) := goodIn_app (goodIn_of _ (by decide +kernel)) ggX9_starts_X9_isPerfect
set_option maxRecDepth 20000 in
theorem ggX9_starts_X9_least : GoodIn wsX9_starts wsX9_least := goodIn_r _ [28, 29, 30, 9, 31] (by decide +kernel) (by decide +kernel)
set_option maxRecDepth 20000 in
theorem gX9_starts_X9_least : GoodIn wsX9_starts (va_wsS RX9 164 yX9_least wsX9_least) := goodIn_app (goodIn_of _ (by decide +kernel)) ggX9_starts_X9_least
set_option maxRecDepth 20000 in
theorem ggX9_starts_X9_has : GoodIn wsX9_starts wsX9_has := goodIn_r _ [31] (by decide +kernel) (by decide +kernel)
set_option maxRecDepth 20000 in
theorem gX9_starts_X9_has : GoodIn wsX9_starts (va_wsS RX9 7 yX9_has wsX9_has) := goodIn_app (goodIn_of _ (by decide +kernel)) ggX9_starts_X9_has
set_option maxRecDepth 20000 in
theorem ggX9_starts_X9_starts : GoodIn wsX9_starts wsX9_starts := goodIn_r _ [0, 1, 2, 3, 4, 5, 6, 7, 8, 9, 10, 11, 12, 13, 14, 15, 16, 17, 18, 19, 20, 21, 22, 23, 24, 25, 26, 27, 28, 29, 30, 31, 32, 33, 34, 35, 36, 37, 38, 39, 40, 41, 42, 43, 44, 45, 46, 47, 48, 49, 50, 51, 52, 53, 54, 55, 56, 57, 58, 59, 60, 61, 62, 63, 64, 65, 66, 67, 68, 69] (by decide +kernel) (by decide +kernel)
set_option maxRecDepth 20000 in
theorem gX9_starts_X9_starts : GoodIn wsX9_starts (wsV RX9 241 RX9 yX9_starts wsX9_starts) := goodIn_app (goodIn_of _ (by decide +kernel)) ggX9_starts_X9_starts
theorem dX9_starts_0 : decode cX9_starts 0 = .ok (.iload_n 2, 1) := by decide +kernel
theorem dX9_starts_1 : decode cX9_starts 1 = .ok (.ifCond .ne 92, 3) := by decide +kernel
theorem dX9_starts_4 : decode cX9_starts 4 = .ok (.aload_n 0, 1) := by decide +kernel
theorem dX9_starts_5 : decode cX9_starts 5 = .ok (.getfield 228, 3) := by decide +kernel
theorem dX9_starts_8 : decode cX9_starts 8 = .ok (.aload_n 0, 1) := by decide +kernel
theorem dX9_starts_9 : decode cX9_starts 9 = .ok (.getfield 231, 3) := by decide +kernel
theorem dX9_starts_12 : decode cX9_starts 12 = .ok (.if_icmp .ne 32, 3) := by decide +kernel
theorem dX9_starts_15 : decode cX9_starts 15 = .ok (.iconst 0, 1) := by decide +kernel
theorem dX9_starts_16 : decode cX9_starts 16 = .ok (.istore 5, 2) := by decide +kernel
theorem dX9_starts_18 : decode cX9_starts 18 = .ok (.iload 5, 2) := by decide +kernel
theorem dX9_starts_20 : decode cX9_starts 20 = .ok (.iload_n 1, 1) := by decide +kernel
theorem dX9_starts_21 : decode cX9_starts 21 = .ok (.if_icmp .ge 23, 3) := by decide +kernel
theorem dX9_starts_24 : decode cX9_starts 24 = .ok (.aload_n 0, 1) := by decide +kernel
theorem dX9_starts_25 : decode cX9_starts 25 = .ok (.getfield 102, 3) := by decide +kernel
theorem dX9_starts_28 : decode cX9_starts 28 = .ok (.iload 5, 2) := by decide +kernel
theorem dX9_starts_30 : decode cX9_starts 30 = .ok (.aload_n 0, 1) := by decide +kernel
theorem dX9_starts_31 : decode cX9_starts 31 = .ok (.getfield 99, 3) := by decide +kernel
theorem dX9_starts_34 : decode cX9_starts 34 = .ok (.iload 5, 2) := by decide +kernel
theorem dX9_starts_36 : decode cX9_starts 36 = .ok (.iaload, 1) := by decide +kernel
theorem dX9_starts_37 : decode cX9_starts 37 = .ok (.iastore, 1) := by decide +kernel
theorem dX9_starts_38 : decode cX9_starts 38 = .ok (.iinc 5 1, 3) := by decide +kernel
theorem dX9_starts_41 : decode cX9_starts 41 = .ok (.goto (-23), 3) := by decide +kernel
theorem dX9_starts_44 : decode cX9_starts 44 = .ok (.aload_n 0, 1) := by decide +kernel
theorem dX9_starts_45 : decode cX9_starts 45 = .ok (.dup, 1) := by decide +kernel
theorem dX9_starts_46 : decode cX9_starts 46 = .ok (.getfield 228, 3) := by decide +kernel
theorem dX9_starts_49 : decode cX9_starts 49 = .ok (.iconst 1, 1) := by decide +kernel
theorem dX9_starts_50 : decode cX9_starts 50 = .ok (.iadd, 1) := by decide +kernel
theorem dX9_starts_51 : decode cX9_starts 51 = .ok (.putfield 228, 3) := by decide +kernel
theorem dX9_starts_54 : decode cX9_starts 54 = .ok (.iload 4, 2) := by decide +kernel
theorem dX9_starts_56 : decode cX9_starts 56 = .ok (.ifCond .ne 4, 3) := by decide +kernel
theorem dX9_starts_59 : decode cX9_starts 59 = .ok (.return_, 1) := by decide +kernel
theorem dX9_starts_60 : decode cX9_starts 60 = .ok (.aload_n 0, 1) := by decide +kernel
theorem dX9_starts_61 : decode cX9_starts 61 = .ok (.getfield 86, 3) := by decide +kernel
theorem dX9_starts_64 : decode cX9_starts 64 = .ok (.iload_n 1, 1) := by decide +kernel
theorem dX9_starts_65 : decode cX9_starts 65 = .ok (.aload_n 0, 1) := by decide +kernel
theorem dX9_starts_66 : decode cX9_starts 66 = .ok (.getfield 99, 3) := by decide +kernel
theorem dX9_starts_69 : decode cX9_starts 69 = .ok (.invokestatic 234, 3) := by decide +kernel
theorem dX9_starts_72 : decode cX9_starts 72 = .ok (.aload_n 0, 1) := by decide +kernel
theorem dX9_starts_73 : decode cX9_starts 73 = .ok (.getfield 86, 3) := by decide +kernel
theorem dX9_starts_76 : decode cX9_starts 76 = .ok (.invokestatic 182, 3) := by decide +kernel
theorem dX9_starts_79 : decode cX9_starts 79 = .ok (.ifCond .eq 13, 3) := by decide +kernel
theorem dX9_starts_82 : decode cX9_starts 82 = .ok (.aload_n 0, 1) := by decide +kernel
theorem dX9_starts_83 : decode cX9_starts 83 = .ok (.dup, 1) := by decide +kernel
theorem dX9_starts_84 : decode cX9_starts 84 = .ok (.getfield 238, 3) := by decide +kernel
theorem dX9_starts_87 : decode cX9_starts 87 = .ok (.iconst 1, 1) := by decide +kernel
theorem dX9_starts_88 : decode cX9_starts 88 = .ok (.iadd, 1) := by decide +kernel
theorem dX9_starts_89 : decode cX9_starts 89 = .ok (.putfield 238, 3) := by decide +kernel
theorem dX9_starts_92 : decode cX9_starts 92 = .ok (.return_, 1) := by decide +kernel
theorem dX9_starts_93 : decode cX9_starts 93 = .ok (.iload_n 2, 1) := by decide +kernel
theorem dX9_starts_94 : decode cX9_starts 94 = .ok (.invokestatic 164, 3) := by decide +kernel
theorem dX9_starts_97 : decode cX9_starts 97 = .ok (.istore 5, 2) := by decide +kernel
theorem dX9_starts_99 : decode cX9_starts 99 = .ok (.iload 5, 2) := by decide +kernel
theorem dX9_starts_101 : decode cX9_starts 101 = .ok (.iconst 1, 1) := by decide +kernel
theorem dX9_starts_102 : decode cX9_starts 102 = .ok (.iadd, 1) := by decide +kernel
theorem dX9_starts_103 : decode cX9_starts 103 = .ok (.istore 6, 2) := by decide +kernel
theorem dX9_starts_105 : decode cX9_starts 105 = .ok (.iload 6, 2) := by decide +kernel
theorem dX9_starts_107 : decode cX9_starts 107 = .ok (.iload_n 1, 1) := by decide +kernel
theorem dX9_starts_108 : decode cX9_starts 108 = .ok (.if_icmp .ge 91, 3) := by decide +kernel
theorem dX9_starts_111 : decode cX9_starts 111 = .ok (.iconst 1, 1) := by decide +kernel
theorem dX9_starts_112 : decode cX9_starts 112 = .ok (.iload 6, 2) := by decide +kernel
theorem dX9_starts_114 : decode cX9_starts 114 = .ok (.iload 5, 2) := by decide +kernel
theorem dX9_starts_116 : decode cX9_starts 116 = .ok (.isub, 1) := by decide +kernel
theorem dX9_starts_117 : decode cX9_starts 117 = .ok (.ishl, 1) := by decide +kernel
theorem dX9_starts_118 : decode cX9_starts 118 = .ok (.iconst 1, 1) := by decide +kernel
theorem dX9_starts_119 : decode cX9_starts 119 = .ok (.iload_n 1, 1) := by decide +kernel
theorem dX9_starts_120 : decode cX9_starts 120 = .ok (.iload 6, 2) := by decide +kernel
theorem dX9_starts_122 : decode cX9_starts 122 = .ok (.isub, 1) := by decide +kernel
theorem dX9_starts_123 : decode cX9_starts 123 = .ok (.iload 5, 2) := by decide +kernel
theorem dX9_starts_125 : decode cX9_starts 125 = .ok (.iadd, 1) := by decide +kernel
theorem dX9_starts_126 : decode cX9_starts 126 = .ok (.ishl, 1) := by decide +kernel
theorem dX9_starts_127 : decode cX9_starts 127 = .ok (.ior, 1) := by decide +kernel
theorem dX9_starts_128 : decode cX9_starts 128 = .ok (.istore 7, 2) := by decide +kernel
theorem dX9_starts_130 : decode cX9_starts 130 = .ok (.iload_n 2, 1) := by decide +kernel
theorem dX9_starts_131 : decode cX9_starts 131 = .ok (.iload 6, 2) := by decide +kernel
theorem dX9_starts_133 : decode cX9_starts 133 = .ok (.invokestatic 7, 3) := by decide +kernel
theorem dX9_starts_136 : decode cX9_starts 136 = .ok (.ifCond .eq 57, 3) := by decide +kernel
theorem dX9_starts_139 : decode cX9_starts 139 = .ok (.iload_n 3, 1) := by decide +kernel
theorem dX9_starts_140 : decode cX9_starts 140 = .ok (.iload 7, 2) := by decide +kernel
theorem dX9_starts_142 : decode cX9_starts 142 = .ok (.iand, 1) := by decide +kernel
theorem dX9_starts_143 : decode cX9_starts 143 = .ok (.ifCond .eq 6, 3) := by decide +kernel
theorem dX9_starts_146 : decode cX9_starts 146 = .ok (.goto 47, 3) := by decide +kernel
theorem dX9_starts_149 : decode cX9_starts 149 = .ok (.aload_n 0, 1) := by decide +kernel
theorem dX9_starts_150 : decode cX9_starts 150 = .ok (.getfield 99, 3) := by decide +kernel
theorem dX9_starts_153 : decode cX9_starts 153 = .ok (.iload 5, 2) := by decide +kernel
theorem dX9_starts_155 : decode cX9_starts 155 = .ok (.iload 6, 2) := by decide +kernel
theorem dX9_starts_157 : decode cX9_starts 157 = .ok (.iastore, 1) := by decide +kernel
theorem dX9_starts_158 : decode cX9_starts 158 = .ok (.aload_n 0, 1) := by decide +kernel
theorem dX9_starts_159 : decode cX9_starts 159 = .ok (.getfield 99, 3) := by decide +kernel
theorem dX9_starts_162 : decode cX9_starts 162 = .ok (.iload 6, 2) := by decide +kernel
theorem dX9_starts_164 : decode cX9_starts 164 = .ok (.iload 5, 2) := by decide +kernel
theorem dX9_starts_166 : decode cX9_starts 166 = .ok (.iastore, 1) := by decide +kernel
theorem dX9_starts_167 : decode cX9_starts 167 = .ok (.aload_n 0, 1) := by decide +kernel
theorem dX9_starts_168 : decode cX9_starts 168 = .ok (.iload_n 1, 1) := by decide +kernel
theorem dX9_starts_169 : decode cX9_starts 169 = .ok (.iload_n 2, 1) := by decide +kernel
theorem dX9_starts_170 : decode cX9_starts 170 = .ok (.iconst 1, 1) := by decide +kernel
theorem dX9_starts_171 : decode cX9_starts 171 = .ok (.iload 5, 2) := by decide +kernel
theorem dX9_starts_173 : decode cX9_starts 173 = .ok (.ishl, 1) := by decide +kernel
theorem dX9_starts_174 : decode cX9_starts 174 = .ok (.iconst (-1), 1) := by decide +kernel
theorem dX9_starts_175 : decode cX9_starts 175 = .ok (.ixor, 1) := by decide +kernel
theorem dX9_starts_176 : decode cX9_starts 176 = .ok (.iand, 1) := by decide +kernel
theorem dX9_starts_177 : decode cX9_starts 177 = .ok (.iconst 1, 1) := by decide +kernel
theorem dX9_starts_178 : decode cX9_starts 178 = .ok (.iload 6, 2) := by decide +kernel
theorem dX9_starts_180 : decode cX9_starts 180 = .ok (.ishl, 1) := by decide +kernel
theorem dX9_starts_181 : decode cX9_starts 181 = .ok (.iconst (-1), 1) := by decide +kernel
theorem dX9_starts_182 : decode cX9_starts 182 = .ok (.ixor, 1) := by decide +kernel
theorem dX9_starts_183 : decode cX9_starts 183 = .ok (.iand, 1) := by decide +kernel
theorem dX9_starts_184 : decode cX9_starts 184 = .ok (.iload_n 3, 1) := by decide +kernel
theorem dX9_starts_185 : decode cX9_starts 185 = .ok (.iload 7, 2) := by decide +kernel
theorem dX9_starts_187 : decode cX9_starts 187 = .ok (.ior, 1) := by decide +kernel
theorem dX9_starts_188 : decode cX9_starts 188 = .ok (.iload 4, 2) := by decide +kernel
theorem dX9_starts_190 : decode cX9_starts 190 = .ok (.invokevirtual 241, 3) := by decide +kernel
theorem dX9_starts_193 : decode cX9_starts 193 = .ok (.iinc 6 1, 3) := by decide +kernel
theorem dX9_starts_196 : decode cX9_starts 196 = .ok (.goto (-91), 3) := by decide +kernel
theorem dX9_starts_199 : decode cX9_starts 199 = .ok (.return_, 1) := by decide +kernel
set_option maxRecDepth 20000 in
theorem ggX9_isOdd_X9_isIn : GoodIn wsX9_isOdd wsX9_isIn := goodIn_r _ [4] (by decide +kernel) (by decide +kernel)
set_option maxRecDepth 20000 in
theorem gX9_isOdd_X9_isIn : GoodIn wsX9_isOdd (va_wsS RX9 118 yX9_isIn wsX9_isIn) := goodIn_app (goodIn_of _ (by decide +kernel)) ggX9_isOdd_X9_isIn
theorem dX9_isOdd_0 : decode cX9_isOdd 0 = .ok (.iload_n 0, 1) := by decide +kernel
theorem dX9_isOdd_1 : decode cX9_isOdd 1 = .ok (.iconst 3, 1) := by decide +kernel
theorem dX9_isOdd_2 : decode cX9_isOdd 2 = .ok (.bipush 13, 2) := by decide +kernel
theorem dX9_isOdd_4 : decode cX9_isOdd 4 = .ok (.invokestatic 118, 3) := by decide +kernel
theorem dX9_isOdd_7 : decode cX9_isOdd 7 = .ok (.ifCond .eq 14, 3) := by decide +kernel
theorem dX9_isOdd_10 : decode cX9_isOdd 10 = .ok (.iload_n 0, 1) := by decide +kernel
theorem dX9_isOdd_11 : decode cX9_isOdd 11 = .ok (.iconst 2, 1) := by decide +kernel
theorem dX9_isOdd_12 : decode cX9_isOdd 12 = .ok (.irem, 1) := by decide +kernel
theorem dX9_isOdd_13 : decode cX9_isOdd 13 = .ok (.iconst 1, 1) := by decide +kernel
theorem dX9_isOdd_14 : decode cX9_isOdd 14 = .ok (.if_icmp .ne 7, 3) := by decide +kernel
theorem dX9_isOdd_17 : decode cX9_isOdd 17 = .ok (.iconst 1, 1) := by decide +kernel
theorem dX9_isOdd_18 : decode cX9_isOdd 18 = .ok (.goto 4, 3) := by decide +kernel
theorem dX9_isOdd_21 : decode cX9_isOdd 21 = .ok (.iconst 0, 1) := by decide +kernel
theorem dX9_isOdd_22 : decode cX9_isOdd 22 = .ok (.ireturn, 1) := by decide +kernel
set_option maxRecDepth 20000 in
theorem ggX9_laysStarters_X9_starts : GoodIn wsX9_laysStarters wsX9_starts := goodIn_r _ [8, 1, 3, 9, 10, 11, 2, 12, 13, 7, 14, 15, 16, 17, 18, 19, 20, 21, 22, 23, 24, 25, 26, 27, 28, 29, 30, 31, 32, 33, 34, 35, 36, 37, 38, 39, 40, 41, 4, 5, 6, 42, 43, 44, 45, 46, 47, 48, 49, 50, 51, 52, 53, 54, 55, 56, 57, 58, 59, 60, 61, 62, 63, 64, 65, 66, 67, 68, 69, 70] (by decide +kernel) (by decide +kernel)
set_option maxRecDepth 20000 in
theorem gX9_laysStarters_X9_starts : GoodIn wsX9_laysStarters (wsV RX9 241 RX9 yX9_starts wsX9_starts) := goodIn_app (goodIn_of _ (by decide +kernel)) ggX9_laysStarters_X9_starts
theorem dX9_laysStarters_0 : decode cX9_laysStarters 0 = .ok (.aload_n 0, 1) := by decide +kernel
theorem dX9_laysStarters_1 : decode cX9_laysStarters 1 = .ok (.iconst 0, 1) := by decide +kernel
theorem dX9_laysStarters_2 : decode cX9_laysStarters 2 = .ok (.putfield 228, 3) := by decide +kernel
theorem dX9_laysStarters_5 : decode cX9_laysStarters 5 = .ok (.aload_n 0, 1) := by decide +kernel
theorem dX9_laysStarters_6 : decode cX9_laysStarters 6 = .ok (.iconst 0, 1) := by decide +kernel
theorem dX9_laysStarters_7 : decode cX9_laysStarters 7 = .ok (.putfield 238, 3) := by decide +kernel
theorem dX9_laysStarters_10 : decode cX9_laysStarters 10 = .ok (.aload_n 0, 1) := by decide +kernel
theorem dX9_laysStarters_11 : decode cX9_laysStarters 11 = .ok (.iload_n 2, 1) := by decide +kernel
theorem dX9_laysStarters_12 : decode cX9_laysStarters 12 = .ok (.putfield 231, 3) := by decide +kernel
theorem dX9_laysStarters_15 : decode cX9_laysStarters 15 = .ok (.aload_n 0, 1) := by decide +kernel
theorem dX9_laysStarters_16 : decode cX9_laysStarters 16 = .ok (.iload_n 1, 1) := by decide +kernel
theorem dX9_laysStarters_17 : decode cX9_laysStarters 17 = .ok (.iconst 1, 1) := by decide +kernel
theorem dX9_laysStarters_18 : decode cX9_laysStarters 18 = .ok (.iload_n 1, 1) := by decide +kernel
theorem dX9_laysStarters_19 : decode cX9_laysStarters 19 = .ok (.ishl, 1) := by decide +kernel
theorem dX9_laysStarters_20 : decode cX9_laysStarters 20 = .ok (.iconst 2, 1) := by decide +kernel
theorem dX9_laysStarters_21 : decode cX9_laysStarters 21 = .ok (.isub, 1) := by decide +kernel
theorem dX9_laysStarters_22 : decode cX9_laysStarters 22 = .ok (.iconst 0, 1) := by decide +kernel
theorem dX9_laysStarters_23 : decode cX9_laysStarters 23 = .ok (.iload_n 3, 1) := by decide +kernel
theorem dX9_laysStarters_24 : decode cX9_laysStarters 24 = .ok (.invokevirtual 241, 3) := by decide +kernel
theorem dX9_laysStarters_27 : decode cX9_laysStarters 27 = .ok (.return_, 1) := by decide +kernel
set_option maxRecDepth 20000 in
theorem ggX9_laysBy_X9_clears : GoodIn wsX9_laysBy wsX9_clears := goodIn_r _ [4] (by decide +kernel) (by decide +kernel)
set_option maxRecDepth 20000 in
theorem gX9_laysBy_X9_clears : GoodIn wsX9_laysBy (va_wsS RX9 218 yX9_clears wsX9_clears) := goodIn_app (goodIn_of _ (by decide +kernel)) ggX9_laysBy_X9_clears
set_option maxRecDepth 20000 in
theorem ggX9_laysBy_X9_pairs : GoodIn wsX9_laysBy wsX9_pairs := goodIn_r _ [7] (by decide +kernel) (by decide +kernel)
set_option maxRecDepth 20000 in
theorem gX9_laysBy_X9_pairs : GoodIn wsX9_laysBy (va_wsS RX9 125 yX9_pairs wsX9_pairs) := goodIn_app (goodIn_of _ (by decide +kernel)) ggX9_laysBy_X9_pairs
theorem dX9_laysBy_0 : decode cX9_laysBy 0 = .ok (.aload_n 0, 1) := by decide +kernel
theorem dX9_laysBy_1 : decode cX9_laysBy 1 = .ok (.iload_n 1, 1) := by decide +kernel
theorem dX9_laysBy_2 : decode cX9_laysBy 2 = .ok (.iconst 1, 1) := by decide +kernel
theorem dX9_laysBy_3 : decode cX9_laysBy 3 = .ok (.iadd, 1) := by decide +kernel
theorem dX9_laysBy_4 : decode cX9_laysBy 4 = .ok (.invokestatic 218, 3) := by decide +kernel
theorem dX9_laysBy_7 : decode cX9_laysBy 7 = .ok (.iconst 0, 1) := by decide +kernel
theorem dX9_laysBy_8 : decode cX9_laysBy 8 = .ok (.istore_n 3, 1) := by decide +kernel
theorem dX9_laysBy_9 : decode cX9_laysBy 9 = .ok (.iload_n 3, 1) := by decide +kernel
theorem dX9_laysBy_10 : decode cX9_laysBy 10 = .ok (.iload_n 1, 1) := by decide +kernel
theorem dX9_laysBy_11 : decode cX9_laysBy 11 = .ok (.if_icmp .ge 50, 3) := by decide +kernel
theorem dX9_laysBy_14 : decode cX9_laysBy 14 = .ok (.aload_n 0, 1) := by decide +kernel
theorem dX9_laysBy_15 : decode cX9_laysBy 15 = .ok (.iload_n 3, 1) := by decide +kernel
theorem dX9_laysBy_16 : decode cX9_laysBy 16 = .ok (.iload_n 1, 1) := by decide +kernel
theorem dX9_laysBy_17 : decode cX9_laysBy 17 = .ok (.iload_n 3, 1) := by decide +kernel
theorem dX9_laysBy_18 : decode cX9_laysBy 18 = .ok (.invokestatic 125, 3) := by decide +kernel
theorem dX9_laysBy_21 : decode cX9_laysBy 21 = .ok (.iconst 1, 1) := by decide +kernel
theorem dX9_laysBy_22 : decode cX9_laysBy 22 = .ok (.istore 4, 2) := by decide +kernel
theorem dX9_laysBy_24 : decode cX9_laysBy 24 = .ok (.iload 4, 2) := by decide +kernel
theorem dX9_laysBy_26 : decode cX9_laysBy 26 = .ok (.iload_n 1, 1) := by decide +kernel
theorem dX9_laysBy_27 : decode cX9_laysBy 27 = .ok (.if_icmp .ge 28, 3) := by decide +kernel
theorem dX9_laysBy_30 : decode cX9_laysBy 30 = .ok (.aload_n 0, 1) := by decide +kernel
theorem dX9_laysBy_31 : decode cX9_laysBy 31 = .ok (.iload_n 3, 1) := by decide +kernel
theorem dX9_laysBy_32 : decode cX9_laysBy 32 = .ok (.iload 4, 2) := by decide +kernel
theorem dX9_laysBy_34 : decode cX9_laysBy 34 = .ok (.iload_n 3, 1) := by decide +kernel
theorem dX9_laysBy_35 : decode cX9_laysBy 35 = .ok (.iadd, 1) := by decide +kernel
theorem dX9_laysBy_36 : decode cX9_laysBy 36 = .ok (.iload_n 1, 1) := by decide +kernel
theorem dX9_laysBy_37 : decode cX9_laysBy 37 = .ok (.irem, 1) := by decide +kernel
theorem dX9_laysBy_38 : decode cX9_laysBy 38 = .ok (.aload_n 2, 1) := by decide +kernel
theorem dX9_laysBy_39 : decode cX9_laysBy 39 = .ok (.iload 4, 2) := by decide +kernel
theorem dX9_laysBy_41 : decode cX9_laysBy 41 = .ok (.iaload, 1) := by decide +kernel
theorem dX9_laysBy_42 : decode cX9_laysBy 42 = .ok (.iload_n 3, 1) := by decide +kernel
theorem dX9_laysBy_43 : decode cX9_laysBy 43 = .ok (.iadd, 1) := by decide +kernel
theorem dX9_laysBy_44 : decode cX9_laysBy 44 = .ok (.iload_n 1, 1) := by decide +kernel
theorem dX9_laysBy_45 : decode cX9_laysBy 45 = .ok (.irem, 1) := by decide +kernel
theorem dX9_laysBy_46 : decode cX9_laysBy 46 = .ok (.invokestatic 125, 3) := by decide +kernel
theorem dX9_laysBy_49 : decode cX9_laysBy 49 = .ok (.iinc 4 1, 3) := by decide +kernel
theorem dX9_laysBy_52 : decode cX9_laysBy 52 = .ok (.goto (-28), 3) := by decide +kernel
theorem dX9_laysBy_55 : decode cX9_laysBy 55 = .ok (.iinc 3 1, 3) := by decide +kernel
theorem dX9_laysBy_58 : decode cX9_laysBy 58 = .ok (.goto (-49), 3) := by decide +kernel
theorem dX9_laysBy_61 : decode cX9_laysBy 61 = .ok (.aload_n 0, 1) := by decide +kernel
theorem dX9_laysBy_62 : decode cX9_laysBy 62 = .ok (.iconst 1, 1) := by decide +kernel
theorem dX9_laysBy_63 : decode cX9_laysBy 63 = .ok (.iload_n 1, 1) := by decide +kernel
theorem dX9_laysBy_64 : decode cX9_laysBy 64 = .ok (.iastore, 1) := by decide +kernel
theorem dX9_laysBy_65 : decode cX9_laysBy 65 = .ok (.return_, 1) := by decide +kernel
set_option maxRecDepth 20000 in
theorem ggX9_starters_X9_isOdd : GoodIn wsX9_starters wsX9_isOdd := goodIn_r _ [7, 8, 9, 6, 10] (by decide +kernel) (by decide +kernel)
set_option maxRecDepth 20000 in
theorem gX9_starters_X9_isOdd : GoodIn wsX9_starters (va_wsS RX9 245 yX9_isOdd wsX9_isOdd) := goodIn_app (goodIn_of _ (by decide +kernel)) ggX9_starters_X9_isOdd
set_option maxRecDepth 20000 in
theorem ggX9_starters_X9_isIn : GoodIn wsX9_starters wsX9_isIn := goodIn_r _ [10] (by decide +kernel) (by decide +kernel)
set_option maxRecDepth 20000 in
theorem gX9_starters_X9_isIn : GoodIn wsX9_starters (va_wsS RX9 118 yX9_isIn wsX9_isIn) := goodIn_app (goodIn_of _ (by decide +kernel)) ggX9_starters_X9_isIn
set_option maxRecDepth 20000 in
theorem ggX9_starters_X9_laysStarters : GoodIn wsX9_starters wsX9_laysStarters := goodIn_r _ [14, 2, 3, 15, 16, 17, 18, 6, 19, 20, 21, 22, 23, 24, 25, 26, 27, 28, 29, 30, 31, 32, 33, 34, 35, 36, 37, 38, 39, 40, 41, 42, 43, 44, 45, 46, 47, 48, 49, 50, 51, 52, 53, 54, 55, 56, 57, 58, 59, 60, 61, 62, 63, 64, 65, 66, 67, 68, 69, 70, 71, 72, 73, 74, 75, 76, 77, 78, 79, 80, 81] (by decide +kernel) (by decide +kernel)
set_option maxRecDepth 20000 in
theorem gX9_starters_X9_laysStarters : GoodIn wsX9_starters (wsV RX9 248 RX9 yX9_laysStarters wsX9_laysStarters) := goodIn_app (goodIn_of _ (by decide +kernel)) ggX9_starters_X9_laysStarters
theorem dX9_starters_0 : decode cX9_starters 0 = .ok (.aload_n 0, 1) := by decide +kernel
theorem dX9_starters_1 : decode cX9_starters 1 = .ok (.iconst 0, 1) := by decide +kernel
theorem dX9_starters_2 : decode cX9_starters 2 = .ok (.putfield 1, 3) := by decide +kernel
theorem dX9_starters_5 : decode cX9_starters 5 = .ok (.iload_n 1, 1) := by decide +kernel
theorem dX9_starters_6 : decode cX9_starters 6 = .ok (.invokestatic 245, 3) := by decide +kernel
theorem dX9_starters_9 : decode cX9_starters 9 = .ok (.ifCond .eq 12, 3) := by decide +kernel
theorem dX9_starters_12 : decode cX9_starters 12 = .ok (.iload_n 2, 1) := by decide +kernel
theorem dX9_starters_13 : decode cX9_starters 13 = .ok (.iconst 0, 1) := by decide +kernel
theorem dX9_starters_14 : decode cX9_starters 14 = .ok (.iconst 1, 1) := by decide +kernel
theorem dX9_starters_15 : decode cX9_starters 15 = .ok (.invokestatic 118, 3) := by decide +kernel
theorem dX9_starters_18 : decode cX9_starters 18 = .ok (.ifCond .ne 5, 3) := by decide +kernel
theorem dX9_starters_21 : decode cX9_starters 21 = .ok (.iconst (-1), 1) := by decide +kernel
theorem dX9_starters_22 : decode cX9_starters 22 = .ok (.ireturn, 1) := by decide +kernel
theorem dX9_starters_23 : decode cX9_starters 23 = .ok (.aload_n 0, 1) := by decide +kernel
theorem dX9_starters_24 : decode cX9_starters 24 = .ok (.iload_n 1, 1) := by decide +kernel
theorem dX9_starters_25 : decode cX9_starters 25 = .ok (.iconst (-1), 1) := by decide +kernel
theorem dX9_starters_26 : decode cX9_starters 26 = .ok (.iload_n 2, 1) := by decide +kernel
theorem dX9_starters_27 : decode cX9_starters 27 = .ok (.iconst 1, 1) := by decide +kernel
theorem dX9_starters_28 : decode cX9_starters 28 = .ok (.if_icmp .ne 7, 3) := by decide +kernel
theorem dX9_starters_31 : decode cX9_starters 31 = .ok (.iconst 1, 1) := by decide +kernel
theorem dX9_starters_32 : decode cX9_starters 32 = .ok (.goto 4, 3) := by decide +kernel
theorem dX9_starters_35 : decode cX9_starters 35 = .ok (.iconst 0, 1) := by decide +kernel
theorem dX9_starters_36 : decode cX9_starters 36 = .ok (.invokevirtual 248, 3) := by decide +kernel
theorem dX9_starters_39 : decode cX9_starters 39 = .ok (.iload_n 2, 1) := by decide +kernel
theorem dX9_starters_40 : decode cX9_starters 40 = .ok (.ifCond .ne 10, 3) := by decide +kernel
theorem dX9_starters_43 : decode cX9_starters 43 = .ok (.aload_n 0, 1) := by decide +kernel
theorem dX9_starters_44 : decode cX9_starters 44 = .ok (.getfield 228, 3) := by decide +kernel
theorem dX9_starters_47 : decode cX9_starters 47 = .ok (.goto 7, 3) := by decide +kernel
theorem dX9_starters_50 : decode cX9_starters 50 = .ok (.aload_n 0, 1) := by decide +kernel
theorem dX9_starters_51 : decode cX9_starters 51 = .ok (.getfield 238, 3) := by decide +kernel
theorem dX9_starters_54 : decode cX9_starters 54 = .ok (.ireturn, 1) := by decide +kernel
set_option maxRecDepth 20000 in
theorem ggX9_laysStarter_X9_isOdd : GoodIn wsX9_laysStarter wsX9_isOdd := goodIn_r _ [5, 6, 7, 4, 8] (by decide +kernel) (by decide +kernel)
set_option maxRecDepth 20000 in
theorem gX9_laysStarter_X9_isOdd : GoodIn wsX9_laysStarter (va_wsS RX9 245 yX9_isOdd wsX9_isOdd) := goodIn_app (goodIn_of _ (by decide +kernel)) ggX9_laysStarter_X9_isOdd
set_option maxRecDepth 20000 in
theorem ggX9_laysStarter_X9_laysStarters : GoodIn wsX9_laysStarter wsX9_laysStarters := goodIn_r _ [12, 1, 13, 14, 15, 16, 17, 4, 18, 19, 20, 21, 22, 23, 24, 25, 26, 27, 28, 29, 30, 31, 32, 33, 34, 35, 36, 37, 38, 39, 40, 41, 42, 43, 44, 45, 46, 47, 48, 49, 50, 51, 52, 53, 54, 55, 56, 57, 58, 59, 60, 61, 62, 63, 64, 65, 66, 67, 68, 69, 70, 71, 72, 73, 74, 75, 76, 77, 78, 79, 80] (by decide +kernel) (by decide +kernel)
set_option maxRecDepth 20000 in
theorem gX9_laysStarter_X9_laysStarters : GoodIn wsX9_laysStarter (wsV RX9 248 RX9 yX9_laysStarters wsX9_laysStarters) := goodIn_app (goodIn_of _ (by decide +kernel)) ggX9_laysStarter_X9_laysStarters
theorem dX9_laysStarter_0 : decode cX9_laysStarter 0 = .ok (.iload_n 1, 1) := by decide +kernel
theorem dX9_laysStarter_1 : decode cX9_laysStarter 1 = .ok (.invokestatic 245, 3) := by decide +kernel
theorem dX9_laysStarter_4 : decode cX9_laysStarter 4 = .ok (.ifCond .eq 7, 3) := by decide +kernel
theorem dX9_laysStarter_7 : decode cX9_laysStarter 7 = .ok (.iload_n 2, 1) := by decide +kernel
theorem dX9_laysStarter_8 : decode cX9_laysStarter 8 = .ok (.ifCond .ge 5, 3) := by decide +kernel
theorem dX9_laysStarter_11 : decode cX9_laysStarter 11 = .ok (.iconst 0, 1) := by decide +kernel
theorem dX9_laysStarter_12 : decode cX9_laysStarter 12 = .ok (.ireturn, 1) := by decide +kernel
theorem dX9_laysStarter_13 : decode cX9_laysStarter 13 = .ok (.aload_n 0, 1) := by decide +kernel
theorem dX9_laysStarter_14 : decode cX9_laysStarter 14 = .ok (.iload_n 1, 1) := by decide +kernel
theorem dX9_laysStarter_15 : decode cX9_laysStarter 15 = .ok (.iload_n 2, 1) := by decide +kernel
theorem dX9_laysStarter_16 : decode cX9_laysStarter 16 = .ok (.iconst 0, 1) := by decide +kernel
theorem dX9_laysStarter_17 : decode cX9_laysStarter 17 = .ok (.invokevirtual 248, 3) := by decide +kernel
theorem dX9_laysStarter_20 : decode cX9_laysStarter 20 = .ok (.iload_n 2, 1) := by decide +kernel
theorem dX9_laysStarter_21 : decode cX9_laysStarter 21 = .ok (.aload_n 0, 1) := by decide +kernel
theorem dX9_laysStarter_22 : decode cX9_laysStarter 22 = .ok (.getfield 228, 3) := by decide +kernel
theorem dX9_laysStarter_25 : decode cX9_laysStarter 25 = .ok (.if_icmp .ge 7, 3) := by decide +kernel
theorem dX9_laysStarter_28 : decode cX9_laysStarter 28 = .ok (.iconst 1, 1) := by decide +kernel
theorem dX9_laysStarter_29 : decode cX9_laysStarter 29 = .ok (.goto 4, 3) := by decide +kernel
theorem dX9_laysStarter_32 : decode cX9_laysStarter 32 = .ok (.iconst 0, 1) := by decide +kernel
theorem dX9_laysStarter_33 : decode cX9_laysStarter 33 = .ok (.ireturn, 1) := by decide +kernel
set_option maxRecDepth 20000 in
theorem ggX9_starter_X9_laysStarter : GoodIn wsX9_starter wsX9_laysStarter := goodIn_r _ [7, 8, 9, 10, 6, 11, 12, 13, 14, 15, 16, 17, 18, 19, 20, 21, 22, 23, 24, 2, 25, 26, 27, 28, 29, 30, 31, 32, 33, 34, 35, 36, 37, 38, 39, 40, 41, 42, 43, 44, 45, 46, 47, 48, 49, 50, 51, 52, 53, 54, 55, 56, 57, 58, 59, 60, 61, 62, 63, 64, 65, 66, 67, 68, 69, 70, 71, 72, 73, 74, 75, 76, 77, 78, 79, 80, 81, 82, 83, 84, 85] (by decide +kernel) (by decide +kernel)
set_option maxRecDepth 20000 in
theorem gX9_starter_X9_laysStarter : GoodIn wsX9_starter (wsV RX9 252 RX9 yX9_laysStarter wsX9_laysStarter) := goodIn_app (goodIn_of _ (by decide +kernel)) ggX9_starter_X9_laysStarter
set_option maxRecDepth 20000 in
theorem ggX9_starter_X9_isIn : GoodIn wsX9_starter wsX9_isIn := goodIn_r _ [14] (by decide +kernel) (by decide +kernel)
set_option maxRecDepth 20000 in
theorem gX9_starter_X9_isIn : GoodIn wsX9_starter (va_wsS RX9 118 yX9_isIn wsX9_isIn) := goodIn_app (goodIn_of _ (by decide +kernel)) ggX9_starter_X9_isIn
theorem dX9_starter_0 : decode cX9_starter 0 = .ok (.aload_n 0, 1) := by decide +kernel
theorem dX9_starter_1 : decode cX9_starter 1 = .ok (.iconst 0, 1) := by decide +kernel
theorem dX9_starter_2 : decode cX9_starter 2 = .ok (.putfield 1, 3) := by decide +kernel
theorem dX9_starter_5 : decode cX9_starter 5 = .ok (.aload_n 0, 1) := by decide +kernel
theorem dX9_starter_6 : decode cX9_starter 6 = .ok (.iload_n 1, 1) := by decide +kernel
theorem dX9_starter_7 : decode cX9_starter 7 = .ok (.iload_n 2, 1) := by decide +kernel
theorem dX9_starter_8 : decode cX9_starter 8 = .ok (.invokevirtual 252, 3) := by decide +kernel
theorem dX9_starter_11 : decode cX9_starter 11 = .ok (.ifCond .eq 23, 3) := by decide +kernel
theorem dX9_starter_14 : decode cX9_starter 14 = .ok (.iload_n 3, 1) := by decide +kernel
theorem dX9_starter_15 : decode cX9_starter 15 = .ok (.iconst 1, 1) := by decide +kernel
theorem dX9_starter_16 : decode cX9_starter 16 = .ok (.iload_n 1, 1) := by decide +kernel
theorem dX9_starter_17 : decode cX9_starter 17 = .ok (.iconst 1, 1) := by decide +kernel
theorem dX9_starter_18 : decode cX9_starter 18 = .ok (.isub, 1) := by decide +kernel
theorem dX9_starter_19 : decode cX9_starter 19 = .ok (.invokestatic 118, 3) := by decide +kernel
theorem dX9_starter_22 : decode cX9_starter 22 = .ok (.ifCond .eq 12, 3) := by decide +kernel
theorem dX9_starter_25 : decode cX9_starter 25 = .ok (.aload_n 0, 1) := by decide +kernel
theorem dX9_starter_26 : decode cX9_starter 26 = .ok (.getfield 102, 3) := by decide +kernel
theorem dX9_starter_29 : decode cX9_starter 29 = .ok (.iload_n 3, 1) := by decide +kernel
theorem dX9_starter_30 : decode cX9_starter 30 = .ok (.iaload, 1) := by decide +kernel
theorem dX9_starter_31 : decode cX9_starter 31 = .ok (.goto 4, 3) := by decide +kernel
theorem dX9_starter_34 : decode cX9_starter 34 = .ok (.iconst (-1), 1) := by decide +kernel
theorem dX9_starter_35 : decode cX9_starter 35 = .ok (.ireturn, 1) := by decide +kernel
set_option maxRecDepth 20000 in
theorem ggX9_by_X9_laysStarter : GoodIn wsX9_by wsX9_laysStarter := goodIn_r _ [8, 9, 10, 11, 7, 12, 13, 14, 15, 16, 17, 18, 19, 20, 21, 22, 23, 24, 25, 3, 26, 27, 28, 29, 30, 31, 32, 33, 34, 35, 36, 37, 38, 39, 40, 41, 42, 43, 44, 45, 46, 47, 48, 49, 50, 51, 52, 53, 54, 55, 56, 57, 67, 68, 69, 70, 71, 72, 73, 74, 75, 76, 77, 78, 79, 80, 81, 82, 83, 84, 85, 86, 87, 88, 89, 90, 91, 92, 93, 94, 95] (by decide +kernel) (by decide +kernel)
set_option maxRecDepth 20000 in
theorem gX9_by_X9_laysStarter : GoodIn wsX9_by (wsV RX9 252 RX9 yX9_laysStarter wsX9_laysStarter) := goodIn_app (goodIn_of _ (by decide +kernel)) ggX9_by_X9_laysStarter
set_option maxRecDepth 20000 in
theorem ggX9_by_X9_snap : GoodIn wsX9_by wsX9_snap := goodIn_r _ [61, 62, 63, 2, 64, 65, 7, 66, 67, 68, 69, 70, 71, 72, 73, 74, 75, 76, 77, 78, 79, 80, 81, 82, 83, 84, 85, 86, 87, 88, 89, 90, 91, 92, 93, 94, 95] (by decide +kernel) (by decide +kernel)
set_option maxRecDepth 20000 in
theorem gX9_by_X9_snap : GoodIn wsX9_by (wsV RX9 215 RX9 yX9_snap wsX9_snap) := goodIn_app (goodIn_of _ (by decide +kernel)) ggX9_by_X9_snap
set_option maxRecDepth 20000 in
theorem ggX9_by_X9_laysBy : GoodIn wsX9_by wsX9_laysBy := goodIn_r _ [30, 31, 32, 7, 33, 34, 35, 36] (by decide +kernel) (by decide +kernel)
set_option maxRecDepth 20000 in
theorem gX9_by_X9_laysBy : GoodIn wsX9_by (va_wsS RX9 234 yX9_laysBy wsX9_laysBy) := goodIn_app (goodIn_of _ (by decide +kernel)) ggX9_by_X9_laysBy
theorem dX9_by_0 : decode cX9_by 0 = .ok (.aload_n 0, 1) := by decide +kernel
theorem dX9_by_1 : decode cX9_by 1 = .ok (.iconst 0, 1) := by decide +kernel
theorem dX9_by_2 : decode cX9_by 2 = .ok (.putfield 1, 3) := by decide +kernel
theorem dX9_by_5 : decode cX9_by 5 = .ok (.aload_n 0, 1) := by decide +kernel
theorem dX9_by_6 : decode cX9_by 6 = .ok (.iload_n 1, 1) := by decide +kernel
theorem dX9_by_7 : decode cX9_by 7 = .ok (.iload_n 2, 1) := by decide +kernel
theorem dX9_by_8 : decode cX9_by 8 = .ok (.invokevirtual 252, 3) := by decide +kernel
theorem dX9_by_11 : decode cX9_by 11 = .ok (.ifCond .ne 5, 3) := by decide +kernel
theorem dX9_by_14 : decode cX9_by 14 = .ok (.iconst (-1), 1) := by decide +kernel
theorem dX9_by_15 : decode cX9_by 15 = .ok (.ireturn, 1) := by decide +kernel
theorem dX9_by_16 : decode cX9_by 16 = .ok (.aload_n 0, 1) := by decide +kernel
theorem dX9_by_17 : decode cX9_by 17 = .ok (.invokevirtual 215, 3) := by decide +kernel
theorem dX9_by_20 : decode cX9_by 20 = .ok (.aload_n 0, 1) := by decide +kernel
theorem dX9_by_21 : decode cX9_by 21 = .ok (.getfield 68, 3) := by decide +kernel
theorem dX9_by_24 : decode cX9_by 24 = .ok (.iload_n 1, 1) := by decide +kernel
theorem dX9_by_25 : decode cX9_by 25 = .ok (.aload_n 0, 1) := by decide +kernel
theorem dX9_by_26 : decode cX9_by 26 = .ok (.getfield 102, 3) := by decide +kernel
theorem dX9_by_29 : decode cX9_by 29 = .ok (.invokestatic 234, 3) := by decide +kernel
theorem dX9_by_32 : decode cX9_by 32 = .ok (.iload_n 1, 1) := by decide +kernel
theorem dX9_by_33 : decode cX9_by 33 = .ok (.ireturn, 1) := by decide +kernel
set_option maxRecDepth 20000 in
theorem ggX9_isDayBy_X9_teams : GoodIn wsX9_isDayBy wsX9_teams := goodIn_r _ [6, 1, 13, 14, 15, 16, 17, 18, 19, 20, 21, 22, 23, 24, 25, 26, 27, 28, 29, 30, 31, 32, 33, 34, 35, 36, 37, 38, 39, 40, 41] (by decide +kernel) (by decide +kernel)
set_option maxRecDepth 20000 in
theorem gX9_isDayBy_X9_teams : GoodIn wsX9_isDayBy (wsV RX9 157 RX9 yX9_teams wsX9_teams) := goodIn_app (goodIn_of _ (by decide +kernel)) ggX9_isDayBy_X9_teams
set_option maxRecDepth 20000 in
theorem ggX9_isDayBy_X9_meets : GoodIn wsX9_isDayBy wsX9_meets := goodIn_r _ [9] (by decide +kernel) (by decide +kernel)
set_option maxRecDepth 20000 in
theorem gX9_isDayBy_X9_meets : GoodIn wsX9_isDayBy (va_wsS RX9 108 yX9_meets wsX9_meets) := goodIn_app (goodIn_of _ (by decide +kernel)) ggX9_isDayBy_X9_meets
set_option maxRecDepth 20000 in
theorem ggX9_isDayBy_X9_metOn : GoodIn wsX9_isDayBy wsX9_metOn := goodIn_r _ [12, 7, 8, 5, 9] (by decide +kernel) (by decide +kernel)
set_option maxRecDepth 20000 in
theorem gX9_isDayBy_X9_metOn : GoodIn wsX9_isDayBy (va_wsS RX9 122 yX9_metOn wsX9_metOn) := goodIn_app (goodIn_of _ (by decide +kernel)) ggX9_isDayBy_X9_metOn
theorem dX9_isDayBy_0 : decode cX9_isDayBy 0 = .ok (.aload_n 0, 1) := by decide +kernel
theorem dX9_isDayBy_1 : decode cX9_isDayBy 1 = .ok (.invokevirtual 157, 3) := by decide +kernel
theorem dX9_isDayBy_4 : decode cX9_isDayBy 4 = .ok (.iconst 1, 1) := by decide +kernel
theorem dX9_isDayBy_5 : decode cX9_isDayBy 5 = .ok (.isub, 1) := by decide +kernel
theorem dX9_isDayBy_6 : decode cX9_isDayBy 6 = .ok (.istore_n 3, 1) := by decide +kernel
theorem dX9_isDayBy_7 : decode cX9_isDayBy 7 = .ok (.aload_n 0, 1) := by decide +kernel
theorem dX9_isDayBy_8 : decode cX9_isDayBy 8 = .ok (.getfield 68, 3) := by decide +kernel
theorem dX9_isDayBy_11 : decode cX9_isDayBy 11 = .ok (.iload_n 3, 1) := by decide +kernel
theorem dX9_isDayBy_12 : decode cX9_isDayBy 12 = .ok (.aload_n 0, 1) := by decide +kernel
theorem dX9_isDayBy_13 : decode cX9_isDayBy 13 = .ok (.getfield 68, 3) := by decide +kernel
theorem dX9_isDayBy_16 : decode cX9_isDayBy 16 = .ok (.iload_n 1, 1) := by decide +kernel
theorem dX9_isDayBy_17 : decode cX9_isDayBy 17 = .ok (.iload_n 3, 1) := by decide +kernel
theorem dX9_isDayBy_18 : decode cX9_isDayBy 18 = .ok (.invokestatic 108, 3) := by decide +kernel
theorem dX9_isDayBy_21 : decode cX9_isDayBy 21 = .ok (.iload_n 2, 1) := by decide +kernel
theorem dX9_isDayBy_22 : decode cX9_isDayBy 22 = .ok (.iadd, 1) := by decide +kernel
theorem dX9_isDayBy_23 : decode cX9_isDayBy 23 = .ok (.iload_n 3, 1) := by decide +kernel
theorem dX9_isDayBy_24 : decode cX9_isDayBy 24 = .ok (.irem, 1) := by decide +kernel
theorem dX9_isDayBy_25 : decode cX9_isDayBy 25 = .ok (.invokestatic 122, 3) := by decide +kernel
theorem dX9_isDayBy_28 : decode cX9_isDayBy 28 = .ok (.istore 4, 2) := by decide +kernel
theorem dX9_isDayBy_30 : decode cX9_isDayBy 30 = .ok (.iload 4, 2) := by decide +kernel
theorem dX9_isDayBy_32 : decode cX9_isDayBy 32 = .ok (.iconst (-1), 1) := by decide +kernel
theorem dX9_isDayBy_33 : decode cX9_isDayBy 33 = .ok (.if_icmp .ne 5, 3) := by decide +kernel
theorem dX9_isDayBy_36 : decode cX9_isDayBy 36 = .ok (.iconst 0, 1) := by decide +kernel
theorem dX9_isDayBy_37 : decode cX9_isDayBy 37 = .ok (.ireturn, 1) := by decide +kernel
theorem dX9_isDayBy_38 : decode cX9_isDayBy 38 = .ok (.iconst 0, 1) := by decide +kernel
theorem dX9_isDayBy_39 : decode cX9_isDayBy 39 = .ok (.istore 5, 2) := by decide +kernel
theorem dX9_isDayBy_41 : decode cX9_isDayBy 41 = .ok (.iload 5, 2) := by decide +kernel
theorem dX9_isDayBy_43 : decode cX9_isDayBy 43 = .ok (.iload_n 3, 1) := by decide +kernel
theorem dX9_isDayBy_44 : decode cX9_isDayBy 44 = .ok (.if_icmp .ge 57, 3) := by decide +kernel
theorem dX9_isDayBy_47 : decode cX9_isDayBy 47 = .ok (.aload_n 0, 1) := by decide +kernel
theorem dX9_isDayBy_48 : decode cX9_isDayBy 48 = .ok (.getfield 68, 3) := by decide +kernel
theorem dX9_isDayBy_51 : decode cX9_isDayBy 51 = .ok (.iload_n 1, 1) := by decide +kernel
theorem dX9_isDayBy_52 : decode cX9_isDayBy 52 = .ok (.iload 5, 2) := by decide +kernel
theorem dX9_isDayBy_54 : decode cX9_isDayBy 54 = .ok (.invokestatic 108, 3) := by decide +kernel
theorem dX9_isDayBy_57 : decode cX9_isDayBy 57 = .ok (.istore 6, 2) := by decide +kernel
theorem dX9_isDayBy_59 : decode cX9_isDayBy 59 = .ok (.aload_n 0, 1) := by decide +kernel
theorem dX9_isDayBy_60 : decode cX9_isDayBy 60 = .ok (.getfield 68, 3) := by decide +kernel
theorem dX9_isDayBy_63 : decode cX9_isDayBy 63 = .ok (.iload 4, 2) := by decide +kernel
theorem dX9_isDayBy_65 : decode cX9_isDayBy 65 = .ok (.iload 5, 2) := by decide +kernel
theorem dX9_isDayBy_67 : decode cX9_isDayBy 67 = .ok (.iload_n 2, 1) := by decide +kernel
theorem dX9_isDayBy_68 : decode cX9_isDayBy 68 = .ok (.iadd, 1) := by decide +kernel
theorem dX9_isDayBy_69 : decode cX9_isDayBy 69 = .ok (.iload_n 3, 1) := by decide +kernel
theorem dX9_isDayBy_70 : decode cX9_isDayBy 70 = .ok (.irem, 1) := by decide +kernel
theorem dX9_isDayBy_71 : decode cX9_isDayBy 71 = .ok (.invokestatic 108, 3) := by decide +kernel
theorem dX9_isDayBy_74 : decode cX9_isDayBy 74 = .ok (.iload 6, 2) := by decide +kernel
theorem dX9_isDayBy_76 : decode cX9_isDayBy 76 = .ok (.iload_n 3, 1) := by decide +kernel
theorem dX9_isDayBy_77 : decode cX9_isDayBy 77 = .ok (.if_icmp .ne 7, 3) := by decide +kernel
theorem dX9_isDayBy_80 : decode cX9_isDayBy 80 = .ok (.iload_n 3, 1) := by decide +kernel
theorem dX9_isDayBy_81 : decode cX9_isDayBy 81 = .ok (.goto 9, 3) := by decide +kernel
theorem dX9_isDayBy_84 : decode cX9_isDayBy 84 = .ok (.iload 6, 2) := by decide +kernel
theorem dX9_isDayBy_86 : decode cX9_isDayBy 86 = .ok (.iload_n 2, 1) := by decide +kernel
theorem dX9_isDayBy_87 : decode cX9_isDayBy 87 = .ok (.iadd, 1) := by decide +kernel
theorem dX9_isDayBy_88 : decode cX9_isDayBy 88 = .ok (.iload_n 3, 1) := by decide +kernel
theorem dX9_isDayBy_89 : decode cX9_isDayBy 89 = .ok (.irem, 1) := by decide +kernel
theorem dX9_isDayBy_90 : decode cX9_isDayBy 90 = .ok (.if_icmp .eq 5, 3) := by decide +kernel
theorem dX9_isDayBy_93 : decode cX9_isDayBy 93 = .ok (.iconst 0, 1) := by decide +kernel
theorem dX9_isDayBy_94 : decode cX9_isDayBy 94 = .ok (.ireturn, 1) := by decide +kernel
theorem dX9_isDayBy_95 : decode cX9_isDayBy 95 = .ok (.iinc 5 1, 3) := by decide +kernel
theorem dX9_isDayBy_98 : decode cX9_isDayBy 98 = .ok (.goto (-57), 3) := by decide +kernel
theorem dX9_isDayBy_101 : decode cX9_isDayBy 101 = .ok (.iconst 1, 1) := by decide +kernel
theorem dX9_isDayBy_102 : decode cX9_isDayBy 102 = .ok (.ireturn, 1) := by decide +kernel
set_option maxRecDepth 20000 in
theorem ggX9_turned_X9_teams : GoodIn wsX9_turned wsX9_teams := goodIn_r _ [6, 7, 22, 23, 24, 25, 26, 27, 28, 29, 30, 31, 32, 33, 34, 35, 36, 37, 38, 39, 40, 41, 42, 43, 44, 45, 46, 47, 48, 49, 50] (by decide +kernel) (by decide +kernel)
set_option maxRecDepth 20000 in
theorem gX9_turned_X9_teams : GoodIn wsX9_turned (wsV RX9 157 RX9 yX9_teams wsX9_teams) := goodIn_app (goodIn_of _ (by decide +kernel)) ggX9_turned_X9_teams
set_option maxRecDepth 20000 in
theorem ggX9_turned_X9_days : GoodIn wsX9_turned wsX9_days := goodIn_r _ [11, 7, 22, 23, 24, 25, 26, 27, 28, 29, 30, 31, 32, 33, 34, 35, 36, 37, 38, 39, 40, 41, 42, 43, 44, 45, 46, 47, 48, 49, 50] (by decide +kernel) (by decide +kernel)
set_option maxRecDepth 20000 in
theorem gX9_turned_X9_days : GoodIn wsX9_turned (wsV RX9 161 RX9 yX9_days wsX9_days) := goodIn_app (goodIn_of _ (by decide +kernel)) ggX9_turned_X9_days
set_option maxRecDepth 20000 in
theorem ggX9_turned_X9_isDayBy : GoodIn wsX9_turned wsX9_isDayBy := goodIn_r _ [15, 7, 2, 3, 4, 5, 6, 16, 17, 18, 19, 20, 21, 22, 23, 24, 25, 26, 27, 28, 29, 30, 31, 32, 33, 34, 35, 36, 37, 38, 39, 40, 41, 42, 43, 44, 45, 46, 47, 48, 49, 50] (by decide +kernel) (by decide +kernel)
set_option maxRecDepth 20000 in
theorem gX9_turned_X9_isDayBy : GoodIn wsX9_turned (wsV RX9 255 RX9 yX9_isDayBy wsX9_isDayBy) := goodIn_app (goodIn_of _ (by decide +kernel)) ggX9_turned_X9_isDayBy
theorem dX9_turned_0 : decode cX9_turned 0 = .ok (.aload_n 0, 1) := by decide +kernel
theorem dX9_turned_1 : decode cX9_turned 1 = .ok (.iconst 0, 1) := by decide +kernel
theorem dX9_turned_2 : decode cX9_turned 2 = .ok (.putfield 1, 3) := by decide +kernel
theorem dX9_turned_5 : decode cX9_turned 5 = .ok (.aload_n 0, 1) := by decide +kernel
theorem dX9_turned_6 : decode cX9_turned 6 = .ok (.invokevirtual 157, 3) := by decide +kernel
theorem dX9_turned_9 : decode cX9_turned 9 = .ok (.ifCond .ne 5, 3) := by decide +kernel
theorem dX9_turned_12 : decode cX9_turned 12 = .ok (.iconst (-1), 1) := by decide +kernel
theorem dX9_turned_13 : decode cX9_turned 13 = .ok (.ireturn, 1) := by decide +kernel
theorem dX9_turned_14 : decode cX9_turned 14 = .ok (.iconst 0, 1) := by decide +kernel
theorem dX9_turned_15 : decode cX9_turned 15 = .ok (.istore_n 1, 1) := by decide +kernel
theorem dX9_turned_16 : decode cX9_turned 16 = .ok (.iconst 0, 1) := by decide +kernel
theorem dX9_turned_17 : decode cX9_turned 17 = .ok (.istore_n 2, 1) := by decide +kernel
theorem dX9_turned_18 : decode cX9_turned 18 = .ok (.iload_n 2, 1) := by decide +kernel
theorem dX9_turned_19 : decode cX9_turned 19 = .ok (.aload_n 0, 1) := by decide +kernel
theorem dX9_turned_20 : decode cX9_turned 20 = .ok (.invokevirtual 157, 3) := by decide +kernel
theorem dX9_turned_23 : decode cX9_turned 23 = .ok (.iconst 1, 1) := by decide +kernel
theorem dX9_turned_24 : decode cX9_turned 24 = .ok (.isub, 1) := by decide +kernel
theorem dX9_turned_25 : decode cX9_turned 25 = .ok (.if_icmp .ge 59, 3) := by decide +kernel
theorem dX9_turned_28 : decode cX9_turned 28 = .ok (.iconst 1, 1) := by decide +kernel
theorem dX9_turned_29 : decode cX9_turned 29 = .ok (.istore_n 3, 1) := by decide +kernel
theorem dX9_turned_30 : decode cX9_turned 30 = .ok (.iconst 0, 1) := by decide +kernel
theorem dX9_turned_31 : decode cX9_turned 31 = .ok (.istore 4, 2) := by decide +kernel
theorem dX9_turned_33 : decode cX9_turned 33 = .ok (.iload 4, 2) := by decide +kernel
theorem dX9_turned_35 : decode cX9_turned 35 = .ok (.aload_n 0, 1) := by decide +kernel
theorem dX9_turned_36 : decode cX9_turned 36 = .ok (.invokevirtual 161, 3) := by decide +kernel
theorem dX9_turned_39 : decode cX9_turned 39 = .ok (.if_icmp .ge 29, 3) := by decide +kernel
theorem dX9_turned_42 : decode cX9_turned 42 = .ok (.iload_n 3, 1) := by decide +kernel
theorem dX9_turned_43 : decode cX9_turned 43 = .ok (.ifCond .eq 17, 3) := by decide +kernel
theorem dX9_turned_46 : decode cX9_turned 46 = .ok (.aload_n 0, 1) := by decide +kernel
theorem dX9_turned_47 : decode cX9_turned 47 = .ok (.iload 4, 2) := by decide +kernel
theorem dX9_turned_49 : decode cX9_turned 49 = .ok (.iload_n 2, 1) := by decide +kernel
theorem dX9_turned_50 : decode cX9_turned 50 = .ok (.invokevirtual 255, 3) := by decide +kernel
theorem dX9_turned_53 : decode cX9_turned 53 = .ok (.ifCond .eq 7, 3) := by decide +kernel
theorem dX9_turned_56 : decode cX9_turned 56 = .ok (.iconst 1, 1) := by decide +kernel
theorem dX9_turned_57 : decode cX9_turned 57 = .ok (.goto 4, 3) := by decide +kernel
theorem dX9_turned_60 : decode cX9_turned 60 = .ok (.iconst 0, 1) := by decide +kernel
theorem dX9_turned_61 : decode cX9_turned 61 = .ok (.istore_n 3, 1) := by decide +kernel
theorem dX9_turned_62 : decode cX9_turned 62 = .ok (.iinc 4 1, 3) := by decide +kernel
theorem dX9_turned_65 : decode cX9_turned 65 = .ok (.goto (-32), 3) := by decide +kernel
theorem dX9_turned_68 : decode cX9_turned 68 = .ok (.iload_n 3, 1) := by decide +kernel
theorem dX9_turned_69 : decode cX9_turned 69 = .ok (.ifCond .eq 9, 3) := by decide +kernel
theorem dX9_turned_72 : decode cX9_turned 72 = .ok (.iload_n 1, 1) := by decide +kernel
theorem dX9_turned_73 : decode cX9_turned 73 = .ok (.iconst 1, 1) := by decide +kernel
theorem dX9_turned_74 : decode cX9_turned 74 = .ok (.iload_n 2, 1) := by decide +kernel
theorem dX9_turned_75 : decode cX9_turned 75 = .ok (.ishl, 1) := by decide +kernel
theorem dX9_turned_76 : decode cX9_turned 76 = .ok (.ior, 1) := by decide +kernel
theorem dX9_turned_77 : decode cX9_turned 77 = .ok (.istore_n 1, 1) := by decide +kernel
theorem dX9_turned_78 : decode cX9_turned 78 = .ok (.iinc 2 1, 3) := by decide +kernel
theorem dX9_turned_81 : decode cX9_turned 81 = .ok (.goto (-63), 3) := by decide +kernel
theorem dX9_turned_84 : decode cX9_turned 84 = .ok (.iload_n 1, 1) := by decide +kernel
theorem dX9_turned_85 : decode cX9_turned 85 = .ok (.ireturn, 1) := by decide +kernel
set_option maxRecDepth 20000 in
theorem ggX9_signed_X9_signOf : GoodIn wsX9_signed wsX9_signOf := goodIn_r _ [4, 5, 6, 3, 7, 8, 9, 10, 11, 12, 13, 14, 15, 16] (by decide +kernel) (by decide +kernel)
set_option maxRecDepth 20000 in
theorem gX9_signed_X9_signOf : GoodIn wsX9_signed (va_wsS RX9 195 yX9_signOf wsX9_signOf) := goodIn_app (goodIn_of _ (by decide +kernel)) ggX9_signed_X9_signOf
theorem dX9_signed_0 : decode cX9_signed 0 = .ok (.iconst 0, 1) := by decide +kernel
theorem dX9_signed_1 : decode cX9_signed 1 = .ok (.istore_n 2, 1) := by decide +kernel
theorem dX9_signed_2 : decode cX9_signed 2 = .ok (.iconst 0, 1) := by decide +kernel
theorem dX9_signed_3 : decode cX9_signed 3 = .ok (.istore_n 3, 1) := by decide +kernel
theorem dX9_signed_4 : decode cX9_signed 4 = .ok (.iload_n 3, 1) := by decide +kernel
theorem dX9_signed_5 : decode cX9_signed 5 = .ok (.aload_n 0, 1) := by decide +kernel
theorem dX9_signed_6 : decode cX9_signed 6 = .ok (.iconst 1, 1) := by decide +kernel
theorem dX9_signed_7 : decode cX9_signed 7 = .ok (.iaload, 1) := by decide +kernel
theorem dX9_signed_8 : decode cX9_signed 8 = .ok (.if_icmp .ge 21, 3) := by decide +kernel
theorem dX9_signed_11 : decode cX9_signed 11 = .ok (.aload_n 0, 1) := by decide +kernel
theorem dX9_signed_12 : decode cX9_signed 12 = .ok (.iload_n 3, 1) := by decide +kernel
theorem dX9_signed_13 : decode cX9_signed 13 = .ok (.invokestatic 195, 3) := by decide +kernel
theorem dX9_signed_16 : decode cX9_signed 16 = .ok (.iload_n 1, 1) := by decide +kernel
theorem dX9_signed_17 : decode cX9_signed 17 = .ok (.if_icmp .ne 6, 3) := by decide +kernel
theorem dX9_signed_20 : decode cX9_signed 20 = .ok (.iinc 2 1, 3) := by decide +kernel
theorem dX9_signed_23 : decode cX9_signed 23 = .ok (.iinc 3 1, 3) := by decide +kernel
theorem dX9_signed_26 : decode cX9_signed 26 = .ok (.goto (-22), 3) := by decide +kernel
theorem dX9_signed_29 : decode cX9_signed 29 = .ok (.iload_n 2, 1) := by decide +kernel
theorem dX9_signed_30 : decode cX9_signed 30 = .ok (.ireturn, 1) := by decide +kernel
set_option maxRecDepth 20000 in
theorem ggX9_alike_X9_isIn : GoodIn wsX9_alike wsX9_isIn := goodIn_r _ [9] (by decide +kernel) (by decide +kernel)
set_option maxRecDepth 20000 in
theorem gX9_alike_X9_isIn : GoodIn wsX9_alike (va_wsS RX9 118 yX9_isIn wsX9_isIn) := goodIn_app (goodIn_of _ (by decide +kernel)) ggX9_alike_X9_isIn
set_option maxRecDepth 20000 in
theorem ggX9_alike_X9_copy : GoodIn wsX9_alike wsX9_copy := goodIn_r _ [12] (by decide +kernel) (by decide +kernel)
set_option maxRecDepth 20000 in
theorem gX9_alike_X9_copy : GoodIn wsX9_alike (va_wsS RX9 150 yX9_copy wsX9_copy) := goodIn_app (goodIn_of _ (by decide +kernel)) ggX9_alike_X9_copy
set_option maxRecDepth 20000 in
theorem ggX9_alike_X9_teams : GoodIn wsX9_alike wsX9_teams := goodIn_r _ [16, 5, 48, 49, 50, 51, 52, 53, 54, 55, 56, 57, 58, 59, 60, 61, 62, 63, 64, 65, 66, 67, 68, 69, 70, 71, 72, 73, 74, 75, 76] (by decide +kernel) (by decide +kernel)
set_option maxRecDepth 20000 in
theorem gX9_alike_X9_teams : GoodIn wsX9_alike (wsV RX9 157 RX9 yX9_teams wsX9_teams) := goodIn_app (goodIn_of _ (by decide +kernel)) ggX9_alike_X9_teams
set_option maxRecDepth 20000 in
theorem ggX9_alike_X9_days : GoodIn wsX9_alike wsX9_days := goodIn_r _ [20, 5, 48, 49, 50, 51, 52, 53, 54, 55, 56, 57, 58, 59, 60, 61, 62, 63, 64, 65, 66, 67, 68, 69, 70, 71, 72, 73, 74, 75, 76] (by decide +kernel) (by decide +kernel)
set_option maxRecDepth 20000 in
theorem gX9_alike_X9_days : GoodIn wsX9_alike (wsV RX9 161 RX9 yX9_days wsX9_days) := goodIn_app (goodIn_of _ (by decide +kernel)) ggX9_alike_X9_days
set_option maxRecDepth 20000 in
theorem ggX9_alike_X9_signed : GoodIn wsX9_alike wsX9_signed := goodIn_r _ [23, 24, 25, 8, 26, 27, 28, 29, 30, 31, 32, 33, 34, 35, 36, 37, 38] (by decide +kernel) (by decide +kernel)
set_option maxRecDepth 20000 in
theorem gX9_alike_X9_signed : GoodIn wsX9_alike (va_wsS RX9 258 yX9_signed wsX9_signed) := goodIn_app (goodIn_of _ (by decide +kernel)) ggX9_alike_X9_signed
set_option maxRecDepth 20000 in
theorem ggX9_alike_X9_makes : GoodIn wsX9_alike wsX9_makes := goodIn_r _ [41, 42, 43, 8, 44, 45, 46, 47, 33, 34, 35, 30, 31, 32, 36, 37, 38] (by decide +kernel) (by decide +kernel)
set_option maxRecDepth 20000 in
theorem gX9_alike_X9_makes : GoodIn wsX9_alike (va_wsS RX9 178 yX9_makes wsX9_makes) := goodIn_app (goodIn_of _ (by decide +kernel)) ggX9_alike_X9_makes
theorem dX9_alike_0 : decode cX9_alike 0 = .ok (.aload_n 0, 1) := by decide +kernel
theorem dX9_alike_1 : decode cX9_alike 1 = .ok (.iconst 0, 1) := by decide +kernel
theorem dX9_alike_2 : decode cX9_alike 2 = .ok (.putfield 1, 3) := by decide +kernel
theorem dX9_alike_5 : decode cX9_alike 5 = .ok (.iload_n 1, 1) := by decide +kernel
theorem dX9_alike_6 : decode cX9_alike 6 = .ok (.iconst 0, 1) := by decide +kernel
theorem dX9_alike_7 : decode cX9_alike 7 = .ok (.iconst 1, 1) := by decide +kernel
theorem dX9_alike_8 : decode cX9_alike 8 = .ok (.invokestatic 118, 3) := by decide +kernel
theorem dX9_alike_11 : decode cX9_alike 11 = .ok (.ifCond .eq 12, 3) := by decide +kernel
theorem dX9_alike_14 : decode cX9_alike 14 = .ok (.aload_n 0, 1) := by decide +kernel
theorem dX9_alike_15 : decode cX9_alike 15 = .ok (.getfield 89, 3) := by decide +kernel
theorem dX9_alike_18 : decode cX9_alike 18 = .ok (.iload_n 1, 1) := by decide +kernel
theorem dX9_alike_19 : decode cX9_alike 19 = .ok (.baload, 1) := by decide +kernel
theorem dX9_alike_20 : decode cX9_alike 20 = .ok (.ifCond .ne 5, 3) := by decide +kernel
theorem dX9_alike_23 : decode cX9_alike 23 = .ok (.iconst (-1), 1) := by decide +kernel
theorem dX9_alike_24 : decode cX9_alike 24 = .ok (.ireturn, 1) := by decide +kernel
theorem dX9_alike_25 : decode cX9_alike 25 = .ok (.aload_n 0, 1) := by decide +kernel
theorem dX9_alike_26 : decode cX9_alike 26 = .ok (.getfield 74, 3) := by decide +kernel
theorem dX9_alike_29 : decode cX9_alike 29 = .ok (.sipush 184, 3) := by decide +kernel
theorem dX9_alike_32 : decode cX9_alike 32 = .ok (.iload_n 1, 1) := by decide +kernel
theorem dX9_alike_33 : decode cX9_alike 33 = .ok (.imul, 1) := by decide +kernel
theorem dX9_alike_34 : decode cX9_alike 34 = .ok (.aload_n 0, 1) := by decide +kernel
theorem dX9_alike_35 : decode cX9_alike 35 = .ok (.getfield 86, 3) := by decide +kernel
theorem dX9_alike_38 : decode cX9_alike 38 = .ok (.iconst 0, 1) := by decide +kernel
theorem dX9_alike_39 : decode cX9_alike 39 = .ok (.invokestatic 150, 3) := by decide +kernel
theorem dX9_alike_42 : decode cX9_alike 42 = .ok (.aload_n 0, 1) := by decide +kernel
theorem dX9_alike_43 : decode cX9_alike 43 = .ok (.getfield 86, 3) := by decide +kernel
theorem dX9_alike_46 : decode cX9_alike 46 = .ok (.iconst 0, 1) := by decide +kernel
theorem dX9_alike_47 : decode cX9_alike 47 = .ok (.iaload, 1) := by decide +kernel
theorem dX9_alike_48 : decode cX9_alike 48 = .ok (.aload_n 0, 1) := by decide +kernel
theorem dX9_alike_49 : decode cX9_alike 49 = .ok (.invokevirtual 157, 3) := by decide +kernel
theorem dX9_alike_52 : decode cX9_alike 52 = .ok (.if_icmp .ne 16, 3) := by decide +kernel
theorem dX9_alike_55 : decode cX9_alike 55 = .ok (.aload_n 0, 1) := by decide +kernel
theorem dX9_alike_56 : decode cX9_alike 56 = .ok (.getfield 86, 3) := by decide +kernel
theorem dX9_alike_59 : decode cX9_alike 59 = .ok (.iconst 1, 1) := by decide +kernel
theorem dX9_alike_60 : decode cX9_alike 60 = .ok (.iaload, 1) := by decide +kernel
theorem dX9_alike_61 : decode cX9_alike 61 = .ok (.aload_n 0, 1) := by decide +kernel
theorem dX9_alike_62 : decode cX9_alike 62 = .ok (.invokevirtual 161, 3) := by decide +kernel
theorem dX9_alike_65 : decode cX9_alike 65 = .ok (.if_icmp .eq 5, 3) := by decide +kernel
theorem dX9_alike_68 : decode cX9_alike 68 = .ok (.iconst 0, 1) := by decide +kernel
theorem dX9_alike_69 : decode cX9_alike 69 = .ok (.ireturn, 1) := by decide +kernel
theorem dX9_alike_70 : decode cX9_alike 70 = .ok (.iconst 0, 1) := by decide +kernel
theorem dX9_alike_71 : decode cX9_alike 71 = .ok (.istore_n 2, 1) := by decide +kernel
theorem dX9_alike_72 : decode cX9_alike 72 = .ok (.iload_n 2, 1) := by decide +kernel
theorem dX9_alike_73 : decode cX9_alike 73 = .ok (.bipush 13, 2) := by decide +kernel
theorem dX9_alike_75 : decode cX9_alike 75 = .ok (.if_icmp .ge 30, 3) := by decide +kernel
theorem dX9_alike_78 : decode cX9_alike 78 = .ok (.aload_n 0, 1) := by decide +kernel
theorem dX9_alike_79 : decode cX9_alike 79 = .ok (.getfield 68, 3) := by decide +kernel
theorem dX9_alike_82 : decode cX9_alike 82 = .ok (.iload_n 2, 1) := by decide +kernel
theorem dX9_alike_83 : decode cX9_alike 83 = .ok (.invokestatic 258, 3) := by decide +kernel
theorem dX9_alike_86 : decode cX9_alike 86 = .ok (.aload_n 0, 1) := by decide +kernel
theorem dX9_alike_87 : decode cX9_alike 87 = .ok (.getfield 86, 3) := by decide +kernel
theorem dX9_alike_90 : decode cX9_alike 90 = .ok (.iload_n 2, 1) := by decide +kernel
theorem dX9_alike_91 : decode cX9_alike 91 = .ok (.invokestatic 258, 3) := by decide +kernel
theorem dX9_alike_94 : decode cX9_alike 94 = .ok (.if_icmp .eq 5, 3) := by decide +kernel
theorem dX9_alike_97 : decode cX9_alike 97 = .ok (.iconst 0, 1) := by decide +kernel
theorem dX9_alike_98 : decode cX9_alike 98 = .ok (.ireturn, 1) := by decide +kernel
theorem dX9_alike_99 : decode cX9_alike 99 = .ok (.iinc 2 1, 3) := by decide +kernel
theorem dX9_alike_102 : decode cX9_alike 102 = .ok (.goto (-30), 3) := by decide +kernel
theorem dX9_alike_105 : decode cX9_alike 105 = .ok (.iconst 1, 1) := by decide +kernel
theorem dX9_alike_106 : decode cX9_alike 106 = .ok (.istore_n 2, 1) := by decide +kernel
theorem dX9_alike_107 : decode cX9_alike 107 = .ok (.iload_n 2, 1) := by decide +kernel
theorem dX9_alike_108 : decode cX9_alike 108 = .ok (.bipush 7, 2) := by decide +kernel
theorem dX9_alike_110 : decode cX9_alike 110 = .ok (.if_icmp .gt 30, 3) := by decide +kernel
theorem dX9_alike_113 : decode cX9_alike 113 = .ok (.aload_n 0, 1) := by decide +kernel
theorem dX9_alike_114 : decode cX9_alike 114 = .ok (.getfield 68, 3) := by decide +kernel
theorem dX9_alike_117 : decode cX9_alike 117 = .ok (.iload_n 2, 1) := by decide +kernel
theorem dX9_alike_118 : decode cX9_alike 118 = .ok (.invokestatic 178, 3) := by decide +kernel
theorem dX9_alike_121 : decode cX9_alike 121 = .ok (.aload_n 0, 1) := by decide +kernel
theorem dX9_alike_122 : decode cX9_alike 122 = .ok (.getfield 86, 3) := by decide +kernel
theorem dX9_alike_125 : decode cX9_alike 125 = .ok (.iload_n 2, 1) := by decide +kernel
theorem dX9_alike_126 : decode cX9_alike 126 = .ok (.invokestatic 178, 3) := by decide +kernel
theorem dX9_alike_129 : decode cX9_alike 129 = .ok (.if_icmp .eq 5, 3) := by decide +kernel
theorem dX9_alike_132 : decode cX9_alike 132 = .ok (.iconst 0, 1) := by decide +kernel
theorem dX9_alike_133 : decode cX9_alike 133 = .ok (.ireturn, 1) := by decide +kernel
theorem dX9_alike_134 : decode cX9_alike 134 = .ok (.iinc 2 1, 3) := by decide +kernel
theorem dX9_alike_137 : decode cX9_alike 137 = .ok (.goto (-30), 3) := by decide +kernel
theorem dX9_alike_140 : decode cX9_alike 140 = .ok (.iconst 1, 1) := by decide +kernel
theorem dX9_alike_141 : decode cX9_alike 141 = .ok (.ireturn, 1) := by decide +kernel
set_option maxRecDepth 20000 in
theorem ggX9_snap_X9_copy : GoodIn wsX9_snap wsX9_copy := goodIn_r _ [7] (by decide +kernel) (by decide +kernel)
set_option maxRecDepth 20000 in
theorem gX9_snap_X9_copy : GoodIn wsX9_snap (va_wsS RX9 150 yX9_copy wsX9_copy) := goodIn_app (goodIn_of _ (by decide +kernel)) ggX9_snap_X9_copy
theorem dX9_snap_0 : decode cX9_snap 0 = .ok (.aload_n 0, 1) := by decide +kernel
theorem dX9_snap_1 : decode cX9_snap 1 = .ok (.getfield 154, 3) := by decide +kernel
theorem dX9_snap_4 : decode cX9_snap 4 = .ok (.bipush 8, 2) := by decide +kernel
theorem dX9_snap_6 : decode cX9_snap 6 = .ok (.if_icmp .ne 44, 3) := by decide +kernel
theorem dX9_snap_9 : decode cX9_snap 9 = .ok (.iconst 0, 1) := by decide +kernel
theorem dX9_snap_10 : decode cX9_snap 10 = .ok (.istore_n 1, 1) := by decide +kernel
theorem dX9_snap_11 : decode cX9_snap 11 = .ok (.iload_n 1, 1) := by decide +kernel
theorem dX9_snap_12 : decode cX9_snap 12 = .ok (.sipush 1288, 3) := by decide +kernel
theorem dX9_snap_15 : decode cX9_snap 15 = .ok (.if_icmp .ge 25, 3) := by decide +kernel
theorem dX9_snap_18 : decode cX9_snap 18 = .ok (.aload_n 0, 1) := by decide +kernel
theorem dX9_snap_19 : decode cX9_snap 19 = .ok (.getfield 77, 3) := by decide +kernel
theorem dX9_snap_22 : decode cX9_snap 22 = .ok (.iload_n 1, 1) := by decide +kernel
theorem dX9_snap_23 : decode cX9_snap 23 = .ok (.aload_n 0, 1) := by decide +kernel
theorem dX9_snap_24 : decode cX9_snap 24 = .ok (.getfield 77, 3) := by decide +kernel
theorem dX9_snap_27 : decode cX9_snap 27 = .ok (.iload_n 1, 1) := by decide +kernel
theorem dX9_snap_28 : decode cX9_snap 28 = .ok (.sipush 184, 3) := by decide +kernel
theorem dX9_snap_31 : decode cX9_snap 31 = .ok (.iadd, 1) := by decide +kernel
theorem dX9_snap_32 : decode cX9_snap 32 = .ok (.iaload, 1) := by decide +kernel
theorem dX9_snap_33 : decode cX9_snap 33 = .ok (.iastore, 1) := by decide +kernel
theorem dX9_snap_34 : decode cX9_snap 34 = .ok (.iinc 1 1, 3) := by decide +kernel
theorem dX9_snap_37 : decode cX9_snap 37 = .ok (.goto (-26), 3) := by decide +kernel
theorem dX9_snap_40 : decode cX9_snap 40 = .ok (.aload_n 0, 1) := by decide +kernel
theorem dX9_snap_41 : decode cX9_snap 41 = .ok (.dup, 1) := by decide +kernel
theorem dX9_snap_42 : decode cX9_snap 42 = .ok (.getfield 154, 3) := by decide +kernel
theorem dX9_snap_45 : decode cX9_snap 45 = .ok (.iconst 1, 1) := by decide +kernel
theorem dX9_snap_46 : decode cX9_snap 46 = .ok (.isub, 1) := by decide +kernel
theorem dX9_snap_47 : decode cX9_snap 47 = .ok (.putfield 154, 3) := by decide +kernel
theorem dX9_snap_50 : decode cX9_snap 50 = .ok (.aload_n 0, 1) := by decide +kernel
theorem dX9_snap_51 : decode cX9_snap 51 = .ok (.getfield 68, 3) := by decide +kernel
theorem dX9_snap_54 : decode cX9_snap 54 = .ok (.iconst 0, 1) := by decide +kernel
theorem dX9_snap_55 : decode cX9_snap 55 = .ok (.aload_n 0, 1) := by decide +kernel
theorem dX9_snap_56 : decode cX9_snap 56 = .ok (.getfield 77, 3) := by decide +kernel
theorem dX9_snap_59 : decode cX9_snap 59 = .ok (.sipush 184, 3) := by decide +kernel
theorem dX9_snap_62 : decode cX9_snap 62 = .ok (.aload_n 0, 1) := by decide +kernel
theorem dX9_snap_63 : decode cX9_snap 63 = .ok (.getfield 154, 3) := by decide +kernel
theorem dX9_snap_66 : decode cX9_snap 66 = .ok (.imul, 1) := by decide +kernel
theorem dX9_snap_67 : decode cX9_snap 67 = .ok (.invokestatic 150, 3) := by decide +kernel
theorem dX9_snap_70 : decode cX9_snap 70 = .ok (.aload_n 0, 1) := by decide +kernel
theorem dX9_snap_71 : decode cX9_snap 71 = .ok (.dup, 1) := by decide +kernel
theorem dX9_snap_72 : decode cX9_snap 72 = .ok (.getfield 154, 3) := by decide +kernel
theorem dX9_snap_75 : decode cX9_snap 75 = .ok (.iconst 1, 1) := by decide +kernel
theorem dX9_snap_76 : decode cX9_snap 76 = .ok (.iadd, 1) := by decide +kernel
theorem dX9_snap_77 : decode cX9_snap 77 = .ok (.putfield 154, 3) := by decide +kernel
theorem dX9_snap_80 : decode cX9_snap 80 = .ok (.return_, 1) := by decide +kernel
set_option maxRecDepth 20000 in
theorem ggX9_stay_X9_copy : GoodIn wsX9_stay wsX9_copy := goodIn_r _ [7] (by decide +kernel) (by decide +kernel)
set_option maxRecDepth 20000 in
theorem gX9_stay_X9_copy : GoodIn wsX9_stay (va_wsS RX9 150 yX9_copy wsX9_copy) := goodIn_app (goodIn_of _ (by decide +kernel)) ggX9_stay_X9_copy
set_option maxRecDepth 20000 in
theorem ggX9_stay_X9_snap : GoodIn wsX9_stay wsX9_snap := goodIn_r _ [11, 12, 13, 1, 4, 5, 6, 7, 14, 15, 16, 17, 18, 19, 20, 21, 22, 23, 24, 25, 26, 27, 28, 29, 30, 31, 32, 33, 34, 35, 36, 37, 38, 39, 40, 41, 42] (by decide +kernel) (by decide +kernel)
set_option maxRecDepth 20000 in
theorem gX9_stay_X9_snap : GoodIn wsX9_stay (wsV RX9 215 RX9 yX9_snap wsX9_snap) := goodIn_app (goodIn_of _ (by decide +kernel)) ggX9_stay_X9_snap
theorem dX9_stay_0 : decode cX9_stay 0 = .ok (.aload_n 0, 1) := by decide +kernel
theorem dX9_stay_1 : decode cX9_stay 1 = .ok (.getfield 68, 3) := by decide +kernel
theorem dX9_stay_4 : decode cX9_stay 4 = .ok (.iconst 0, 1) := by decide +kernel
theorem dX9_stay_5 : decode cX9_stay 5 = .ok (.aload_n 0, 1) := by decide +kernel
theorem dX9_stay_6 : decode cX9_stay 6 = .ok (.getfield 83, 3) := by decide +kernel
theorem dX9_stay_9 : decode cX9_stay 9 = .ok (.iconst 0, 1) := by decide +kernel
theorem dX9_stay_10 : decode cX9_stay 10 = .ok (.invokestatic 150, 3) := by decide +kernel
theorem dX9_stay_13 : decode cX9_stay 13 = .ok (.aload_n 0, 1) := by decide +kernel
theorem dX9_stay_14 : decode cX9_stay 14 = .ok (.getfield 80, 3) := by decide +kernel
theorem dX9_stay_17 : decode cX9_stay 17 = .ok (.iconst 0, 1) := by decide +kernel
theorem dX9_stay_18 : decode cX9_stay 18 = .ok (.aload_n 0, 1) := by decide +kernel
theorem dX9_stay_19 : decode cX9_stay 19 = .ok (.getfield 68, 3) := by decide +kernel
theorem dX9_stay_22 : decode cX9_stay 22 = .ok (.iconst 0, 1) := by decide +kernel
theorem dX9_stay_23 : decode cX9_stay 23 = .ok (.invokestatic 150, 3) := by decide +kernel
theorem dX9_stay_26 : decode cX9_stay 26 = .ok (.aload_n 0, 1) := by decide +kernel
theorem dX9_stay_27 : decode cX9_stay 27 = .ok (.invokevirtual 215, 3) := by decide +kernel
theorem dX9_stay_30 : decode cX9_stay 30 = .ok (.aload_n 0, 1) := by decide +kernel
theorem dX9_stay_31 : decode cX9_stay 31 = .ok (.getfield 83, 3) := by decide +kernel
theorem dX9_stay_34 : decode cX9_stay 34 = .ok (.iconst 0, 1) := by decide +kernel
theorem dX9_stay_35 : decode cX9_stay 35 = .ok (.aload_n 0, 1) := by decide +kernel
theorem dX9_stay_36 : decode cX9_stay 36 = .ok (.getfield 68, 3) := by decide +kernel
theorem dX9_stay_39 : decode cX9_stay 39 = .ok (.iconst 0, 1) := by decide +kernel
theorem dX9_stay_40 : decode cX9_stay 40 = .ok (.invokestatic 150, 3) := by decide +kernel
theorem dX9_stay_43 : decode cX9_stay 43 = .ok (.return_, 1) := by decide +kernel
set_option maxRecDepth 20000 in
theorem ggX9_comes_X9_teams : GoodIn wsX9_comes wsX9_teams := goodIn_r _ [7, 1, 12, 13, 14, 15, 16, 17, 18, 19, 20, 21, 22, 23, 24, 25, 26, 27, 28, 29, 30, 31, 32, 33, 34, 35, 36, 37, 38, 39, 40] (by decide +kernel) (by decide +kernel)
set_option maxRecDepth 20000 in
theorem gX9_comes_X9_teams : GoodIn wsX9_comes (wsV RX9 157 RX9 yX9_teams wsX9_teams) := goodIn_app (goodIn_of _ (by decide +kernel)) ggX9_comes_X9_teams
set_option maxRecDepth 20000 in
theorem ggX9_comes_X9_days : GoodIn wsX9_comes wsX9_days := goodIn_r _ [11, 1, 12, 13, 14, 15, 16, 17, 18, 19, 20, 21, 22, 23, 24, 25, 26, 27, 28, 29, 30, 31, 32, 33, 34, 35, 36, 37, 38, 39, 40] (by decide +kernel) (by decide +kernel)
set_option maxRecDepth 20000 in
theorem gX9_comes_X9_days : GoodIn wsX9_comes (wsV RX9 161 RX9 yX9_days wsX9_days) := goodIn_app (goodIn_of _ (by decide +kernel)) ggX9_comes_X9_days
theorem dX9_comes_0 : decode cX9_comes 0 = .ok (.iconst 0, 1) := by decide +kernel
theorem dX9_comes_1 : decode cX9_comes 1 = .ok (.istore_n 1, 1) := by decide +kernel
theorem dX9_comes_2 : decode cX9_comes 2 = .ok (.iload_n 1, 1) := by decide +kernel
theorem dX9_comes_3 : decode cX9_comes 3 = .ok (.aload_n 0, 1) := by decide +kernel
theorem dX9_comes_4 : decode cX9_comes 4 = .ok (.invokevirtual 157, 3) := by decide +kernel
theorem dX9_comes_7 : decode cX9_comes 7 = .ok (.if_icmp .ge 31, 3) := by decide +kernel
theorem dX9_comes_10 : decode cX9_comes 10 = .ok (.aload_n 0, 1) := by decide +kernel
theorem dX9_comes_11 : decode cX9_comes 11 = .ok (.getfield 68, 3) := by decide +kernel
theorem dX9_comes_14 : decode cX9_comes 14 = .ok (.iconst 2, 1) := by decide +kernel
theorem dX9_comes_15 : decode cX9_comes 15 = .ok (.bipush 14, 2) := by decide +kernel
theorem dX9_comes_17 : decode cX9_comes 17 = .ok (.aload_n 0, 1) := by decide +kernel
theorem dX9_comes_18 : decode cX9_comes 18 = .ok (.invokevirtual 161, 3) := by decide +kernel
theorem dX9_comes_21 : decode cX9_comes 21 = .ok (.imul, 1) := by decide +kernel
theorem dX9_comes_22 : decode cX9_comes 22 = .ok (.iadd, 1) := by decide +kernel
theorem dX9_comes_23 : decode cX9_comes 23 = .ok (.iload_n 1, 1) := by decide +kernel
theorem dX9_comes_24 : decode cX9_comes 24 = .ok (.iadd, 1) := by decide +kernel
theorem dX9_comes_25 : decode cX9_comes 25 = .ok (.aload_n 0, 1) := by decide +kernel
theorem dX9_comes_26 : decode cX9_comes 26 = .ok (.getfield 96, 3) := by decide +kernel
theorem dX9_comes_29 : decode cX9_comes 29 = .ok (.iload_n 1, 1) := by decide +kernel
theorem dX9_comes_30 : decode cX9_comes 30 = .ok (.iaload, 1) := by decide +kernel
theorem dX9_comes_31 : decode cX9_comes 31 = .ok (.iastore, 1) := by decide +kernel
theorem dX9_comes_32 : decode cX9_comes 32 = .ok (.iinc 1 1, 3) := by decide +kernel
theorem dX9_comes_35 : decode cX9_comes 35 = .ok (.goto (-33), 3) := by decide +kernel
theorem dX9_comes_38 : decode cX9_comes 38 = .ok (.aload_n 0, 1) := by decide +kernel
theorem dX9_comes_39 : decode cX9_comes 39 = .ok (.getfield 68, 3) := by decide +kernel
theorem dX9_comes_42 : decode cX9_comes 42 = .ok (.iconst 1, 1) := by decide +kernel
theorem dX9_comes_43 : decode cX9_comes 43 = .ok (.dup2, 1) := by decide +kernel
theorem dX9_comes_44 : decode cX9_comes 44 = .ok (.iaload, 1) := by decide +kernel
theorem dX9_comes_45 : decode cX9_comes 45 = .ok (.iconst 1, 1) := by decide +kernel
theorem dX9_comes_46 : decode cX9_comes 46 = .ok (.iadd, 1) := by decide +kernel
theorem dX9_comes_47 : decode cX9_comes 47 = .ok (.iastore, 1) := by decide +kernel
theorem dX9_comes_48 : decode cX9_comes 48 = .ok (.return_, 1) := by decide +kernel
set_option maxRecDepth 20000 in
theorem ggX9_isTold_X9_teams : GoodIn wsX9_isTold wsX9_teams := goodIn_r _ [7, 2, 21, 22, 23, 24, 25, 26, 27, 28, 29, 30, 31, 32, 33, 34, 35, 36, 37, 38, 39, 40, 41, 42, 43, 44, 45, 46, 47, 48, 49] (by decide +kernel) (by decide +kernel)
set_option maxRecDepth 20000 in
theorem gX9_isTold_X9_teams : GoodIn wsX9_isTold (wsV RX9 157 RX9 yX9_teams wsX9_teams) := goodIn_app (goodIn_of _ (by decide +kernel)) ggX9_isTold_X9_teams
set_option maxRecDepth 20000 in
theorem ggX9_isTold_X9_isTeam : GoodIn wsX9_isTold wsX9_isTeam := goodIn_r _ [11, 3, 4, 5, 6, 7, 2, 12, 13, 14, 21, 22, 23, 24, 25, 26, 27, 28, 29, 30, 31, 32, 33, 34, 35, 36, 37, 38, 39, 40, 41, 42, 43, 44, 45, 46, 47, 48, 49] (by decide +kernel) (by decide +kernel)
set_option maxRecDepth 20000 in
theorem gX9_isTold_X9_isTeam : GoodIn wsX9_isTold (wsV RX9 189 RX9 yX9_isTeam wsX9_isTeam) := goodIn_app (goodIn_of _ (by decide +kernel)) ggX9_isTold_X9_isTeam
set_option maxRecDepth 20000 in
theorem ggX9_isTold_X9_metOn : GoodIn wsX9_isTold wsX9_metOn := goodIn_r _ [17, 18, 19, 6, 20] (by decide +kernel) (by decide +kernel)
set_option maxRecDepth 20000 in
theorem gX9_isTold_X9_metOn : GoodIn wsX9_isTold (va_wsS RX9 122 yX9_metOn wsX9_metOn) := goodIn_app (goodIn_of _ (by decide +kernel)) ggX9_isTold_X9_metOn
theorem dX9_isTold_0 : decode cX9_isTold 0 = .ok (.iconst 0, 1) := by decide +kernel
theorem dX9_isTold_1 : decode cX9_isTold 1 = .ok (.istore_n 1, 1) := by decide +kernel
theorem dX9_isTold_2 : decode cX9_isTold 2 = .ok (.iload_n 1, 1) := by decide +kernel
theorem dX9_isTold_3 : decode cX9_isTold 3 = .ok (.aload_n 0, 1) := by decide +kernel
theorem dX9_isTold_4 : decode cX9_isTold 4 = .ok (.invokevirtual 157, 3) := by decide +kernel
theorem dX9_isTold_7 : decode cX9_isTold 7 = .ok (.if_icmp .ge 54, 3) := by decide +kernel
theorem dX9_isTold_10 : decode cX9_isTold 10 = .ok (.aload_n 0, 1) := by decide +kernel
theorem dX9_isTold_11 : decode cX9_isTold 11 = .ok (.getfield 11, 3) := by decide +kernel
theorem dX9_isTold_14 : decode cX9_isTold 14 = .ok (.iload_n 1, 1) := by decide +kernel
theorem dX9_isTold_15 : decode cX9_isTold 15 = .ok (.iaload, 1) := by decide +kernel
theorem dX9_isTold_16 : decode cX9_isTold 16 = .ok (.istore_n 2, 1) := by decide +kernel
theorem dX9_isTold_17 : decode cX9_isTold 17 = .ok (.aload_n 0, 1) := by decide +kernel
theorem dX9_isTold_18 : decode cX9_isTold 18 = .ok (.iload_n 2, 1) := by decide +kernel
theorem dX9_isTold_19 : decode cX9_isTold 19 = .ok (.invokevirtual 189, 3) := by decide +kernel
theorem dX9_isTold_22 : decode cX9_isTold 22 = .ok (.ifCond .eq 31, 3) := by decide +kernel
theorem dX9_isTold_25 : decode cX9_isTold 25 = .ok (.iload_n 2, 1) := by decide +kernel
theorem dX9_isTold_26 : decode cX9_isTold 26 = .ok (.iload_n 1, 1) := by decide +kernel
theorem dX9_isTold_27 : decode cX9_isTold 27 = .ok (.if_icmp .eq 26, 3) := by decide +kernel
theorem dX9_isTold_30 : decode cX9_isTold 30 = .ok (.aload_n 0, 1) := by decide +kernel
theorem dX9_isTold_31 : decode cX9_isTold 31 = .ok (.getfield 11, 3) := by decide +kernel
theorem dX9_isTold_34 : decode cX9_isTold 34 = .ok (.iload_n 2, 1) := by decide +kernel
theorem dX9_isTold_35 : decode cX9_isTold 35 = .ok (.iaload, 1) := by decide +kernel
theorem dX9_isTold_36 : decode cX9_isTold 36 = .ok (.iload_n 1, 1) := by decide +kernel
theorem dX9_isTold_37 : decode cX9_isTold 37 = .ok (.if_icmp .ne 16, 3) := by decide +kernel
theorem dX9_isTold_40 : decode cX9_isTold 40 = .ok (.aload_n 0, 1) := by decide +kernel
theorem dX9_isTold_41 : decode cX9_isTold 41 = .ok (.getfield 68, 3) := by decide +kernel
theorem dX9_isTold_44 : decode cX9_isTold 44 = .ok (.iload_n 1, 1) := by decide +kernel
theorem dX9_isTold_45 : decode cX9_isTold 45 = .ok (.iload_n 2, 1) := by decide +kernel
theorem dX9_isTold_46 : decode cX9_isTold 46 = .ok (.invokestatic 122, 3) := by decide +kernel
theorem dX9_isTold_49 : decode cX9_isTold 49 = .ok (.iconst (-1), 1) := by decide +kernel
theorem dX9_isTold_50 : decode cX9_isTold 50 = .ok (.if_icmp .eq 5, 3) := by decide +kernel
theorem dX9_isTold_53 : decode cX9_isTold 53 = .ok (.iconst 0, 1) := by decide +kernel
theorem dX9_isTold_54 : decode cX9_isTold 54 = .ok (.ireturn, 1) := by decide +kernel
theorem dX9_isTold_55 : decode cX9_isTold 55 = .ok (.iinc 1 1, 3) := by decide +kernel
theorem dX9_isTold_58 : decode cX9_isTold 58 = .ok (.goto (-56), 3) := by decide +kernel
theorem dX9_isTold_61 : decode cX9_isTold 61 = .ok (.iconst 1, 1) := by decide +kernel
theorem dX9_isTold_62 : decode cX9_isTold 62 = .ok (.ireturn, 1) := by decide +kernel
set_option maxRecDepth 20000 in
theorem ggX9_tell_X9_teams : GoodIn wsX9_tell wsX9_teams := goodIn_r _ [9, 10, 45, 46, 47, 48, 49, 50, 51, 52, 53, 54, 55, 56, 57, 58, 59, 60, 61, 62, 63, 64, 65, 66, 67, 68, 69, 70, 71, 72, 73] (by decide +kernel) (by decide +kernel)
set_option maxRecDepth 20000 in
theorem gX9_tell_X9_teams : GoodIn wsX9_tell (wsV RX9 157 RX9 yX9_teams wsX9_teams) := goodIn_app (goodIn_of _ (by decide +kernel)) ggX9_tell_X9_teams
set_option maxRecDepth 20000 in
theorem ggX9_tell_X9_isTold : GoodIn wsX9_tell wsX9_isTold := goodIn_r _ [14, 4, 10, 5, 6, 7, 8, 9, 15, 16, 17, 18, 19, 20, 21, 22, 23, 24, 25, 26, 27, 45, 46, 47, 48, 49, 50, 51, 52, 53, 54, 55, 56, 57, 58, 59, 60, 61, 62, 63, 64, 65, 66, 67, 68, 69, 70, 71, 72, 73] (by decide +kernel) (by decide +kernel)
set_option maxRecDepth 20000 in
theorem gX9_tell_X9_isTold : GoodIn wsX9_tell (wsV RX9 261 RX9 yX9_isTold wsX9_isTold) := goodIn_app (goodIn_of _ (by decide +kernel)) ggX9_tell_X9_isTold
set_option maxRecDepth 20000 in
theorem ggX9_tell_X9_snap : GoodIn wsX9_tell wsX9_snap := goodIn_r _ [31, 32, 33, 10, 34, 35, 8, 36, 45, 46, 47, 48, 49, 50, 51, 52, 53, 54, 55, 56, 57, 58, 59, 60, 61, 62, 63, 64, 65, 66, 67, 68, 69, 70, 71, 72, 73] (by decide +kernel) (by decide +kernel)
set_option maxRecDepth 20000 in
theorem gX9_tell_X9_snap : GoodIn wsX9_tell (wsV RX9 215 RX9 yX9_snap wsX9_snap) := goodIn_app (goodIn_of _ (by decide +kernel)) ggX9_tell_X9_snap
set_option maxRecDepth 20000 in
theorem ggX9_tell_X9_comes : GoodIn wsX9_tell wsX9_comes := goodIn_r _ [40, 10, 3, 5, 6, 7, 8, 9, 41, 42, 43, 44, 45, 46, 47, 48, 49, 50, 51, 52, 53, 54, 55, 56, 57, 58, 59, 60, 61, 62, 63, 64, 65, 66, 67, 68, 69, 70, 71, 72, 73] (by decide +kernel) (by decide +kernel)
set_option maxRecDepth 20000 in
theorem gX9_tell_X9_comes : GoodIn wsX9_tell (wsV RX9 264 RX9 yX9_comes wsX9_comes) := goodIn_app (goodIn_of _ (by decide +kernel)) ggX9_tell_X9_comes
set_option maxRecDepth 20000 in
theorem ggX9_tell_X9_days : GoodIn wsX9_tell wsX9_days := goodIn_r _ [44, 10, 45, 46, 47, 48, 49, 50, 51, 52, 53, 54, 55, 56, 57, 58, 59, 60, 61, 62, 63, 64, 65, 66, 67, 68, 69, 70, 71, 72, 73] (by decide +kernel) (by decide +kernel)
set_option maxRecDepth 20000 in
theorem gX9_tell_X9_days : GoodIn wsX9_tell (wsV RX9 161 RX9 yX9_days wsX9_days) := goodIn_app (goodIn_of _ (by decide +kernel)) ggX9_tell_X9_days
theorem dX9_tell_0 : decode cX9_tell 0 = .ok (.aload_n 0, 1) := by decide +kernel
theorem dX9_tell_1 : decode cX9_tell 1 = .ok (.iconst 0, 1) := by decide +kernel
theorem dX9_tell_2 : decode cX9_tell 2 = .ok (.putfield 1, 3) := by decide +kernel
theorem dX9_tell_5 : decode cX9_tell 5 = .ok (.aload_n 0, 1) := by decide +kernel
theorem dX9_tell_6 : decode cX9_tell 6 = .ok (.getfield 15, 3) := by decide +kernel
theorem dX9_tell_9 : decode cX9_tell 9 = .ok (.istore_n 1, 1) := by decide +kernel
theorem dX9_tell_10 : decode cX9_tell 10 = .ok (.aload_n 0, 1) := by decide +kernel
theorem dX9_tell_11 : decode cX9_tell 11 = .ok (.iconst 0, 1) := by decide +kernel
theorem dX9_tell_12 : decode cX9_tell 12 = .ok (.putfield 15, 3) := by decide +kernel
theorem dX9_tell_15 : decode cX9_tell 15 = .ok (.aload_n 0, 1) := by decide +kernel
theorem dX9_tell_16 : decode cX9_tell 16 = .ok (.invokevirtual 157, 3) := by decide +kernel
theorem dX9_tell_19 : decode cX9_tell 19 = .ok (.ifCond .eq 18, 3) := by decide +kernel
theorem dX9_tell_22 : decode cX9_tell 22 = .ok (.iload_n 1, 1) := by decide +kernel
theorem dX9_tell_23 : decode cX9_tell 23 = .ok (.aload_n 0, 1) := by decide +kernel
theorem dX9_tell_24 : decode cX9_tell 24 = .ok (.invokevirtual 157, 3) := by decide +kernel
theorem dX9_tell_27 : decode cX9_tell 27 = .ok (.if_icmp .ne 10, 3) := by decide +kernel
theorem dX9_tell_30 : decode cX9_tell 30 = .ok (.aload_n 0, 1) := by decide +kernel
theorem dX9_tell_31 : decode cX9_tell 31 = .ok (.invokevirtual 261, 3) := by decide +kernel
theorem dX9_tell_34 : decode cX9_tell 34 = .ok (.ifCond .ne 5, 3) := by decide +kernel
theorem dX9_tell_37 : decode cX9_tell 37 = .ok (.iconst (-1), 1) := by decide +kernel
theorem dX9_tell_38 : decode cX9_tell 38 = .ok (.ireturn, 1) := by decide +kernel
theorem dX9_tell_39 : decode cX9_tell 39 = .ok (.aload_n 0, 1) := by decide +kernel
theorem dX9_tell_40 : decode cX9_tell 40 = .ok (.invokevirtual 215, 3) := by decide +kernel
theorem dX9_tell_43 : decode cX9_tell 43 = .ok (.iconst 0, 1) := by decide +kernel
theorem dX9_tell_44 : decode cX9_tell 44 = .ok (.istore_n 2, 1) := by decide +kernel
theorem dX9_tell_45 : decode cX9_tell 45 = .ok (.iload_n 2, 1) := by decide +kernel
theorem dX9_tell_46 : decode cX9_tell 46 = .ok (.iload_n 1, 1) := by decide +kernel
theorem dX9_tell_47 : decode cX9_tell 47 = .ok (.if_icmp .ge 21, 3) := by decide +kernel
theorem dX9_tell_50 : decode cX9_tell 50 = .ok (.aload_n 0, 1) := by decide +kernel
theorem dX9_tell_51 : decode cX9_tell 51 = .ok (.getfield 96, 3) := by decide +kernel
theorem dX9_tell_54 : decode cX9_tell 54 = .ok (.iload_n 2, 1) := by decide +kernel
theorem dX9_tell_55 : decode cX9_tell 55 = .ok (.aload_n 0, 1) := by decide +kernel
theorem dX9_tell_56 : decode cX9_tell 56 = .ok (.getfield 11, 3) := by decide +kernel
theorem dX9_tell_59 : decode cX9_tell 59 = .ok (.iload_n 2, 1) := by decide +kernel
theorem dX9_tell_60 : decode cX9_tell 60 = .ok (.iaload, 1) := by decide +kernel
theorem dX9_tell_61 : decode cX9_tell 61 = .ok (.iastore, 1) := by decide +kernel
theorem dX9_tell_62 : decode cX9_tell 62 = .ok (.iinc 2 1, 3) := by decide +kernel
theorem dX9_tell_65 : decode cX9_tell 65 = .ok (.goto (-20), 3) := by decide +kernel
theorem dX9_tell_68 : decode cX9_tell 68 = .ok (.aload_n 0, 1) := by decide +kernel
theorem dX9_tell_69 : decode cX9_tell 69 = .ok (.invokevirtual 264, 3) := by decide +kernel
theorem dX9_tell_72 : decode cX9_tell 72 = .ok (.aload_n 0, 1) := by decide +kernel
theorem dX9_tell_73 : decode cX9_tell 73 = .ok (.invokevirtual 161, 3) := by decide +kernel
theorem dX9_tell_76 : decode cX9_tell 76 = .ok (.ireturn, 1) := by decide +kernel
set_option maxRecDepth 20000 in
theorem ggX9_add_X9_laysSought : GoodIn wsX9_add wsX9_laysSought := goodIn_r _ [6, 7, 8, 9, 10, 5, 11, 12, 13, 14, 15, 16, 17, 18, 19, 20, 21, 22, 23, 24, 25, 26, 27, 28, 29, 30, 31, 32, 33, 34, 35, 36, 37, 38, 39, 40, 41, 42, 43, 44, 45, 59, 60, 61, 62, 63, 64, 65, 66, 67, 68, 69, 70, 71, 72, 73, 74, 75, 76, 77, 78, 79, 80, 81, 82, 83, 84, 85, 86, 87] (by decide +kernel) (by decide +kernel)
set_option maxRecDepth 20000 in
theorem gX9_add_X9_laysSought : GoodIn wsX9_add (wsV RX9 211 RX9 yX9_laysSought wsX9_laysSought) := goodIn_app (goodIn_of _ (by decide +kernel)) ggX9_add_X9_laysSought
set_option maxRecDepth 20000 in
theorem ggX9_add_X9_snap : GoodIn wsX9_add wsX9_snap := goodIn_r _ [49, 50, 51, 12, 52, 53, 5, 54, 59, 60, 61, 62, 63, 64, 65, 66, 67, 68, 69, 70, 71, 72, 73, 74, 75, 76, 77, 78, 79, 80, 81, 82, 83, 84, 85, 86, 87] (by decide +kernel) (by decide +kernel)
set_option maxRecDepth 20000 in
theorem gX9_add_X9_snap : GoodIn wsX9_add (wsV RX9 215 RX9 yX9_snap wsX9_snap) := goodIn_app (goodIn_of _ (by decide +kernel)) ggX9_add_X9_snap
set_option maxRecDepth 20000 in
theorem ggX9_add_X9_comes : GoodIn wsX9_add wsX9_comes := goodIn_r _ [58, 12, 7, 8, 9, 10, 5, 11, 42, 43, 44, 45, 59, 60, 61, 62, 63, 64, 65, 66, 67, 68, 69, 70, 71, 72, 73, 74, 75, 76, 77, 78, 79, 80, 81, 82, 83, 84, 85, 86, 87] (by decide +kernel) (by decide +kernel)
set_option maxRecDepth 20000 in
theorem gX9_add_X9_comes : GoodIn wsX9_add (wsV RX9 264 RX9 yX9_comes wsX9_comes) := goodIn_app (goodIn_of _ (by decide +kernel)) ggX9_add_X9_comes
set_option maxRecDepth 20000 in
theorem ggX9_add_X9_days : GoodIn wsX9_add wsX9_days := goodIn_r _ [45, 12, 59, 60, 61, 62, 63, 64, 65, 66, 67, 68, 69, 70, 71, 72, 73, 74, 75, 76, 77, 78, 79, 80, 81, 82, 83, 84, 85, 86, 87] (by decide +kernel) (by decide +kernel)
set_option maxRecDepth 20000 in
theorem gX9_add_X9_days : GoodIn wsX9_add (wsV RX9 161 RX9 yX9_days wsX9_days) := goodIn_app (goodIn_of _ (by decide +kernel)) ggX9_add_X9_days
theorem dX9_add_0 : decode cX9_add 0 = .ok (.aload_n 0, 1) := by decide +kernel
theorem dX9_add_1 : decode cX9_add 1 = .ok (.iconst 0, 1) := by decide +kernel
theorem dX9_add_2 : decode cX9_add 2 = .ok (.putfield 1, 3) := by decide +kernel
theorem dX9_add_5 : decode cX9_add 5 = .ok (.aload_n 0, 1) := by decide +kernel
theorem dX9_add_6 : decode cX9_add 6 = .ok (.iload_n 1, 1) := by decide +kernel
theorem dX9_add_7 : decode cX9_add 7 = .ok (.invokevirtual 211, 3) := by decide +kernel
theorem dX9_add_10 : decode cX9_add 10 = .ok (.ifCond .ne 5, 3) := by decide +kernel
theorem dX9_add_13 : decode cX9_add 13 = .ok (.iconst (-1), 1) := by decide +kernel
theorem dX9_add_14 : decode cX9_add 14 = .ok (.ireturn, 1) := by decide +kernel
theorem dX9_add_15 : decode cX9_add 15 = .ok (.aload_n 0, 1) := by decide +kernel
theorem dX9_add_16 : decode cX9_add 16 = .ok (.invokevirtual 215, 3) := by decide +kernel
theorem dX9_add_19 : decode cX9_add 19 = .ok (.aload_n 0, 1) := by decide +kernel
theorem dX9_add_20 : decode cX9_add 20 = .ok (.invokevirtual 264, 3) := by decide +kernel
theorem dX9_add_23 : decode cX9_add 23 = .ok (.aload_n 0, 1) := by decide +kernel
theorem dX9_add_24 : decode cX9_add 24 = .ok (.invokevirtual 161, 3) := by decide +kernel
theorem dX9_add_27 : decode cX9_add 27 = .ok (.ireturn, 1) := by decide +kernel
set_option maxRecDepth 20000 in
theorem ggX9_addAll_X9_copy : GoodIn wsX9_addAll wsX9_copy := goodIn_r _ [7] (by decide +kernel) (by decide +kernel)
set_option maxRecDepth 20000 in
theorem gX9_addAll_X9_copy : GoodIn wsX9_addAll (va_wsS RX9 150 yX9_copy wsX9_copy) := goodIn_app (goodIn_of _ (by decide +kernel)) ggX9_addAll_X9_copy
set_option maxRecDepth 20000 in
theorem ggX9_addAll_X9_laysSought : GoodIn wsX9_addAll wsX9_laysSought := goodIn_r _ [11, 12, 13, 14, 15, 6, 16, 2, 17, 18, 19, 20, 21, 22, 23, 24, 25, 26, 27, 28, 29, 30, 31, 32, 33, 34, 35, 36, 37, 38, 39, 40, 41, 42, 43, 44, 45, 46, 47, 48, 49, 65, 66, 67, 68, 69, 70, 71, 72, 73, 74, 75, 76, 77, 78, 79, 80, 81, 82, 83, 84, 85, 86, 87, 88, 89, 90, 91, 92, 93] (by decide +kernel) (by decide +kernel)
set_option maxRecDepth 20000 in
theorem gX9_addAll_X9_laysSought : GoodIn wsX9_addAll (wsV RX9 211 RX9 yX9_laysSought wsX9_laysSought) := goodIn_app (goodIn_of _ (by decide +kernel)) ggX9_addAll_X9_laysSought
set_option maxRecDepth 20000 in
theorem ggX9_addAll_X9_comes : GoodIn wsX9_addAll wsX9_comes := goodIn_r _ [53, 2, 12, 13, 14, 15, 6, 16, 46, 47, 48, 49, 65, 66, 67, 68, 69, 70, 71, 72, 73, 74, 75, 76, 77, 78, 79, 80, 81, 82, 83, 84, 85, 86, 87, 88, 89, 90, 91, 92, 93] (by decide +kernel) (by decide +kernel)
set_option maxRecDepth 20000 in
theorem gX9_addAll_X9_comes : GoodIn wsX9_addAll (wsV RX9 264 RX9 yX9_comes wsX9_comes) := goodIn_app (goodIn_of _ (by decide +kernel)) ggX9_addAll_X9_comes
set_option maxRecDepth 20000 in
theorem ggX9_addAll_X9_stay : GoodIn wsX9_addAll wsX9_stay := goodIn_r _ [57, 2, 58, 3, 4, 5, 6, 7, 59, 60, 61, 62, 63, 64, 65, 66, 67, 68, 69, 70, 71, 72, 73, 74, 75, 76, 77, 78, 79, 80, 81, 82, 83, 84, 85, 86, 87, 88, 89, 90, 91, 92, 93] (by decide +kernel) (by decide +kernel)
set_option maxRecDepth 20000 in
theorem gX9_addAll_X9_stay : GoodIn wsX9_addAll (wsV RX9 267 RX9 yX9_stay wsX9_stay) := goodIn_app (goodIn_of _ (by decide +kernel)) ggX9_addAll_X9_stay
theorem dX9_addAll_0 : decode cX9_addAll 0 = .ok (.aload_n 0, 1) := by decide +kernel
theorem dX9_addAll_1 : decode cX9_addAll 1 = .ok (.iconst 0, 1) := by decide +kernel
theorem dX9_addAll_2 : decode cX9_addAll 2 = .ok (.putfield 1, 3) := by decide +kernel
theorem dX9_addAll_5 : decode cX9_addAll 5 = .ok (.aload_n 0, 1) := by decide +kernel
theorem dX9_addAll_6 : decode cX9_addAll 6 = .ok (.getfield 68, 3) := by decide +kernel
theorem dX9_addAll_9 : decode cX9_addAll 9 = .ok (.iconst 0, 1) := by decide +kernel
theorem dX9_addAll_10 : decode cX9_addAll 10 = .ok (.aload_n 0, 1) := by decide +kernel
theorem dX9_addAll_11 : decode cX9_addAll 11 = .ok (.getfield 80, 3) := by decide +kernel
theorem dX9_addAll_14 : decode cX9_addAll 14 = .ok (.iconst 0, 1) := by decide +kernel
theorem dX9_addAll_15 : decode cX9_addAll 15 = .ok (.invokestatic 150, 3) := by decide +kernel
theorem dX9_addAll_18 : decode cX9_addAll 18 = .ok (.iconst 0, 1) := by decide +kernel
theorem dX9_addAll_19 : decode cX9_addAll 19 = .ok (.istore_n 2, 1) := by decide +kernel
theorem dX9_addAll_20 : decode cX9_addAll 20 = .ok (.aload_n 0, 1) := by decide +kernel
theorem dX9_addAll_21 : decode cX9_addAll 21 = .ok (.iload_n 1, 1) := by decide +kernel
theorem dX9_addAll_22 : decode cX9_addAll 22 = .ok (.invokevirtual 211, 3) := by decide +kernel
theorem dX9_addAll_25 : decode cX9_addAll 25 = .ok (.ifCond .eq 13, 3) := by decide +kernel
theorem dX9_addAll_28 : decode cX9_addAll 28 = .ok (.aload_n 0, 1) := by decide +kernel
theorem dX9_addAll_29 : decode cX9_addAll 29 = .ok (.invokevirtual 264, 3) := by decide +kernel
theorem dX9_addAll_32 : decode cX9_addAll 32 = .ok (.iinc 2 1, 3) := by decide +kernel
theorem dX9_addAll_35 : decode cX9_addAll 35 = .ok (.goto (-15), 3) := by decide +kernel
theorem dX9_addAll_38 : decode cX9_addAll 38 = .ok (.iload_n 2, 1) := by decide +kernel
theorem dX9_addAll_39 : decode cX9_addAll 39 = .ok (.ifCond .le 7, 3) := by decide +kernel
theorem dX9_addAll_42 : decode cX9_addAll 42 = .ok (.aload_n 0, 1) := by decide +kernel
theorem dX9_addAll_43 : decode cX9_addAll 43 = .ok (.invokevirtual 267, 3) := by decide +kernel
theorem dX9_addAll_46 : decode cX9_addAll 46 = .ok (.iload_n 2, 1) := by decide +kernel
theorem dX9_addAll_47 : decode cX9_addAll 47 = .ok (.ireturn, 1) := by decide +kernel
theorem dX9_goes_0 : decode cX9_goes 0 = .ok (.iconst 2, 1) := by decide +kernel
theorem dX9_goes_1 : decode cX9_goes 1 = .ok (.bipush 14, 2) := by decide +kernel
theorem dX9_goes_3 : decode cX9_goes 3 = .ok (.iload_n 1, 1) := by decide +kernel
theorem dX9_goes_4 : decode cX9_goes 4 = .ok (.imul, 1) := by decide +kernel
theorem dX9_goes_5 : decode cX9_goes 5 = .ok (.iadd, 1) := by decide +kernel
theorem dX9_goes_6 : decode cX9_goes 6 = .ok (.istore_n 2, 1) := by decide +kernel
theorem dX9_goes_7 : decode cX9_goes 7 = .ok (.iload_n 2, 1) := by decide +kernel
theorem dX9_goes_8 : decode cX9_goes 8 = .ok (.sipush 184, 3) := by decide +kernel
theorem dX9_goes_11 : decode cX9_goes 11 = .ok (.if_icmp .ge 38, 3) := by decide +kernel
theorem dX9_goes_14 : decode cX9_goes 14 = .ok (.aload_n 0, 1) := by decide +kernel
theorem dX9_goes_15 : decode cX9_goes 15 = .ok (.getfield 68, 3) := by decide +kernel
theorem dX9_goes_18 : decode cX9_goes 18 = .ok (.iload_n 2, 1) := by decide +kernel
theorem dX9_goes_19 : decode cX9_goes 19 = .ok (.iload_n 2, 1) := by decide +kernel
theorem dX9_goes_20 : decode cX9_goes 20 = .ok (.bipush 14, 2) := by decide +kernel
theorem dX9_goes_22 : decode cX9_goes 22 = .ok (.iadd, 1) := by decide +kernel
theorem dX9_goes_23 : decode cX9_goes 23 = .ok (.sipush 184, 3) := by decide +kernel
theorem dX9_goes_26 : decode cX9_goes 26 = .ok (.if_icmp .ge 15, 3) := by decide +kernel
theorem dX9_goes_29 : decode cX9_goes 29 = .ok (.aload_n 0, 1) := by decide +kernel
theorem dX9_goes_30 : decode cX9_goes 30 = .ok (.getfield 68, 3) := by decide +kernel
theorem dX9_goes_33 : decode cX9_goes 33 = .ok (.iload_n 2, 1) := by decide +kernel
theorem dX9_goes_34 : decode cX9_goes 34 = .ok (.bipush 14, 2) := by decide +kernel
theorem dX9_goes_36 : decode cX9_goes 36 = .ok (.iadd, 1) := by decide +kernel
theorem dX9_goes_37 : decode cX9_goes 37 = .ok (.iaload, 1) := by decide +kernel
theorem dX9_goes_38 : decode cX9_goes 38 = .ok (.goto 4, 3) := by decide +kernel
theorem dX9_goes_41 : decode cX9_goes 41 = .ok (.iconst 0, 1) := by decide +kernel
theorem dX9_goes_42 : decode cX9_goes 42 = .ok (.iastore, 1) := by decide +kernel
theorem dX9_goes_43 : decode cX9_goes 43 = .ok (.iinc 2 1, 3) := by decide +kernel
theorem dX9_goes_46 : decode cX9_goes 46 = .ok (.goto (-39), 3) := by decide +kernel
theorem dX9_goes_49 : decode cX9_goes 49 = .ok (.aload_n 0, 1) := by decide +kernel
theorem dX9_goes_50 : decode cX9_goes 50 = .ok (.getfield 68, 3) := by decide +kernel
theorem dX9_goes_53 : decode cX9_goes 53 = .ok (.iconst 1, 1) := by decide +kernel
theorem dX9_goes_54 : decode cX9_goes 54 = .ok (.dup2, 1) := by decide +kernel
theorem dX9_goes_55 : decode cX9_goes 55 = .ok (.iaload, 1) := by decide +kernel
theorem dX9_goes_56 : decode cX9_goes 56 = .ok (.iconst 1, 1) := by decide +kernel
theorem dX9_goes_57 : decode cX9_goes 57 = .ok (.isub, 1) := by decide +kernel
theorem dX9_goes_58 : decode cX9_goes 58 = .ok (.iastore, 1) := by decide +kernel
theorem dX9_goes_59 : decode cX9_goes 59 = .ok (.return_, 1) := by decide +kernel
set_option maxRecDepth 20000 in
theorem ggX9_drop_X9_isDay : GoodIn wsX9_drop wsX9_isDay := goodIn_r _ [6, 7, 8, 9, 5, 10, 11, 12, 13, 14, 28, 29, 30, 31, 32, 33, 34, 35, 36, 37, 38, 39, 40, 41, 42, 43, 44, 45, 46, 47, 48, 49, 50, 51, 52, 53, 54, 55, 56] (by decide +kernel) (by decide +kernel)
set_option maxRecDepth 20000 in
theorem gX9_drop_X9_isDay : GoodIn wsX9_drop (wsV RX9 186 RX9 yX9_isDay wsX9_isDay) := goodIn_app (goodIn_of _ (by decide +kernel)) ggX9_drop_X9_isDay
set_option maxRecDepth 20000 in
theorem ggX9_drop_X9_snap : GoodIn wsX9_drop wsX9_snap := goodIn_r _ [18, 19, 20, 11, 21, 22, 5, 23, 28, 29, 30, 31, 32, 33, 34, 35, 36, 37, 38, 39, 40, 41, 42, 43, 44, 45, 46, 47, 48, 49, 50, 51, 52, 53, 54, 55, 56] (by decide +kernel) (by decide +kernel)
set_option maxRecDepth 20000 in
theorem gX9_drop_X9_snap : GoodIn wsX9_drop (wsV RX9 215 RX9 yX9_snap wsX9_snap) := goodIn_app (goodIn_of _ (by decide +kernel)) ggX9_drop_X9_snap
set_option maxRecDepth 20000 in
theorem ggX9_drop_X9_goes : GoodIn wsX9_drop wsX9_goes := goodIn_r _ [27, 11, 28, 29, 30, 31, 32, 33, 34, 35, 36, 37, 38, 39, 40, 41, 42, 43, 44, 45, 46, 47, 48, 49, 50, 51, 52, 53, 54, 55, 56] (by decide +kernel) (by decide +kernel)
set_option maxRecDepth 20000 in
theorem gX9_drop_X9_goes : GoodIn wsX9_drop (wsV RX9 270 RX9 yX9_goes wsX9_goes) := goodIn_app (goodIn_of _ (by decide +kernel)) ggX9_drop_X9_goes
set_option maxRecDepth 20000 in
theorem ggX9_drop_X9_days : GoodIn wsX9_drop wsX9_days := goodIn_r _ [10, 11, 28, 29, 30, 31, 32, 33, 34, 35, 36, 37, 38, 39, 40, 41, 42, 43, 44, 45, 46, 47, 48, 49, 50, 51, 52, 53, 54, 55, 56] (by decide +kernel) (by decide +kernel)
set_option maxRecDepth 20000 in
theorem gX9_drop_X9_days : GoodIn wsX9_drop (wsV RX9 161 RX9 yX9_days wsX9_days) := goodIn_app (goodIn_of _ (by decide +kernel)) ggX9_drop_X9_days
