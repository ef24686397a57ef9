theorem dX2_look_36 : decode cX2_look 36 = .ok (.istore_n 2, 1) := by decide +kernel
theorem dX2_look_37 : decode cX2_look 37 = .ok (.iload_n 2, 1) := by decide +kernel
theorem dX2_look_38 : decode cX2_look 38 = .ok (.bipush 14, 2) := by decide +kernel
theorem dX2_look_40 : decode cX2_look 40 = .ok (.if_icmp .ge 64, 3) := by decide +kernel
theorem dX2_look_43 : decode cX2_look 43 = .ok (.iconst 1, 1) := by decide +kernel
theorem dX2_look_44 : decode cX2_look 44 = .ok (.iload_n 2, 1) := by decide +kernel
theorem dX2_look_45 : decode cX2_look 45 = .ok (.ishl, 1) := by decide +kernel
theorem dX2_look_46 : decode cX2_look 46 = .ok (.istore_n 3, 1) := by decide +kernel
theorem dX2_look_47 : decode cX2_look 47 = .ok (.iconst 0, 1) := by decide +kernel
theorem dX2_look_48 : decode cX2_look 48 = .ok (.istore 4, 2) := by decide +kernel
theorem dX2_look_50 : decode cX2_look 50 = .ok (.iload 4, 2) := by decide +kernel
theorem dX2_look_52 : decode cX2_look 52 = .ok (.aload_n 0, 1) := by decide +kernel
theorem dX2_look_53 : decode cX2_look 53 = .ok (.getfield 73, 3) := by decide +kernel
theorem dX2_look_56 : decode cX2_look 56 = .ok (.if_icmp .ge 21, 3) := by decide +kernel
theorem dX2_look_59 : decode cX2_look 59 = .ok (.iload_n 3, 1) := by decide +kernel
theorem dX2_look_60 : decode cX2_look 60 = .ok (.iconst 1, 1) := by decide +kernel
theorem dX2_look_61 : decode cX2_look 61 = .ok (.aload_n 1, 1) := by decide +kernel
theorem dX2_look_62 : decode cX2_look 62 = .ok (.iload 4, 2) := by decide +kernel
theorem dX2_look_64 : decode cX2_look 64 = .ok (.iload_n 2, 1) := by decide +kernel
theorem dX2_look_65 : decode cX2_look 65 = .ok (.invokevirtual 74, 3) := by decide +kernel
theorem dX2_look_68 : decode cX2_look 68 = .ok (.ishl, 1) := by decide +kernel
theorem dX2_look_69 : decode cX2_look 69 = .ok (.ior, 1) := by decide +kernel
theorem dX2_look_70 : decode cX2_look 70 = .ok (.istore_n 3, 1) := by decide +kernel
theorem dX2_look_71 : decode cX2_look 71 = .ok (.iinc 4 1, 3) := by decide +kernel
theorem dX2_look_74 : decode cX2_look 74 = .ok (.goto (-24), 3) := by decide +kernel
theorem dX2_look_77 : decode cX2_look 77 = .ok (.aload_n 0, 1) := by decide +kernel
theorem dX2_look_78 : decode cX2_look 78 = .ok (.getfield 15, 3) := by decide +kernel
theorem dX2_look_81 : decode cX2_look 81 = .ok (.iload_n 2, 1) := by decide +kernel
theorem dX2_look_82 : decode cX2_look 82 = .ok (.aload_n 0, 1) := by decide +kernel
theorem dX2_look_83 : decode cX2_look 83 = .ok (.getfield 37, 3) := by decide +kernel
theorem dX2_look_86 : decode cX2_look 86 = .ok (.iload_n 3, 1) := by decide +kernel
theorem dX2_look_87 : decode cX2_look 87 = .ok (.iconst (-1), 1) := by decide +kernel
theorem dX2_look_88 : decode cX2_look 88 = .ok (.ixor, 1) := by decide +kernel
theorem dX2_look_89 : decode cX2_look 89 = .ok (.iand, 1) := by decide +kernel
theorem dX2_look_90 : decode cX2_look 90 = .ok (.iastore, 1) := by decide +kernel
theorem dX2_look_91 : decode cX2_look 91 = .ok (.aload_n 0, 1) := by decide +kernel
theorem dX2_look_92 : decode cX2_look 92 = .ok (.getfield 9, 3) := by decide +kernel
theorem dX2_look_95 : decode cX2_look 95 = .ok (.iload_n 2, 1) := by decide +kernel
theorem dX2_look_96 : decode cX2_look 96 = .ok (.iconst 0, 1) := by decide +kernel
theorem dX2_look_97 : decode cX2_look 97 = .ok (.iastore, 1) := by decide +kernel
theorem dX2_look_98 : decode cX2_look 98 = .ok (.iinc 2 1, 3) := by decide +kernel
theorem dX2_look_101 : decode cX2_look 101 = .ok (.goto (-64), 3) := by decide +kernel
theorem dX2_look_104 : decode cX2_look 104 = .ok (.return_, 1) := by decide +kernel
set_option maxRecDepth 20000 in
theorem ggX2_lookAtEnds_X3_partner : GoodIn wsX2_lookAtEnds wsX3_partner := goodIn_r _ [8, 9, 10, 11, 20, 21, 22] (by decide +kernel) (by decide +kernel)
set_option maxRecDepth 20000 in
theorem gX2_lookAtEnds_X3_partner : GoodIn wsX2_lookAtEnds (wsV RX2 74 RX3 yX3_partner wsX3_partner) := goodIn_app (goodIn_of _ (by decide +kernel)) ggX2_lookAtEnds_X3_partner
theorem dX2_lookAtEnds_0 : decode cX2_lookAtEnds 0 = .ok (.iconst 0, 1) := by decide +kernel
theorem dX2_lookAtEnds_1 : decode cX2_lookAtEnds 1 = .ok (.istore_n 2, 1) := by decide +kernel
theorem dX2_lookAtEnds_2 : decode cX2_lookAtEnds 2 = .ok (.iload_n 2, 1) := by decide +kernel
theorem dX2_lookAtEnds_3 : decode cX2_lookAtEnds 3 = .ok (.aload_n 0, 1) := by decide +kernel
theorem dX2_lookAtEnds_4 : decode cX2_lookAtEnds 4 = .ok (.getfield 73, 3) := by decide +kernel
theorem dX2_lookAtEnds_7 : decode cX2_lookAtEnds 7 = .ok (.if_icmp .ge 42, 3) := by decide +kernel
theorem dX2_lookAtEnds_10 : decode cX2_lookAtEnds 10 = .ok (.iconst 0, 1) := by decide +kernel
theorem dX2_lookAtEnds_11 : decode cX2_lookAtEnds 11 = .ok (.istore_n 3, 1) := by decide +kernel
theorem dX2_lookAtEnds_12 : decode cX2_lookAtEnds 12 = .ok (.iload_n 3, 1) := by decide +kernel
theorem dX2_lookAtEnds_13 : decode cX2_lookAtEnds 13 = .ok (.aload_n 1, 1) := by decide +kernel
theorem dX2_lookAtEnds_14 : decode cX2_lookAtEnds 14 = .ok (.getfield 27, 3) := by decide +kernel
theorem dX2_lookAtEnds_17 : decode cX2_lookAtEnds 17 = .ok (.if_icmp .ge 26, 3) := by decide +kernel
theorem dX2_lookAtEnds_20 : decode cX2_lookAtEnds 20 = .ok (.aload_n 0, 1) := by decide +kernel
theorem dX2_lookAtEnds_21 : decode cX2_lookAtEnds 21 = .ok (.getfield 18, 3) := by decide +kernel
theorem dX2_lookAtEnds_24 : decode cX2_lookAtEnds 24 = .ok (.iload_n 2, 1) := by decide +kernel
theorem dX2_lookAtEnds_25 : decode cX2_lookAtEnds 25 = .ok (.bipush 14, 2) := by decide +kernel
theorem dX2_lookAtEnds_27 : decode cX2_lookAtEnds 27 = .ok (.imul, 1) := by decide +kernel
theorem dX2_lookAtEnds_28 : decode cX2_lookAtEnds 28 = .ok (.iload_n 3, 1) := by decide +kernel
theorem dX2_lookAtEnds_29 : decode cX2_lookAtEnds 29 = .ok (.iadd, 1) := by decide +kernel
theorem dX2_lookAtEnds_30 : decode cX2_lookAtEnds 30 = .ok (.aload_n 1, 1) := by decide +kernel
theorem dX2_lookAtEnds_31 : decode cX2_lookAtEnds 31 = .ok (.iload_n 2, 1) := by decide +kernel
theorem dX2_lookAtEnds_32 : decode cX2_lookAtEnds 32 = .ok (.iload_n 3, 1) := by decide +kernel
theorem dX2_lookAtEnds_33 : decode cX2_lookAtEnds 33 = .ok (.invokevirtual 74, 3) := by decide +kernel
theorem dX2_lookAtEnds_36 : decode cX2_lookAtEnds 36 = .ok (.iastore, 1) := by decide +kernel
theorem dX2_lookAtEnds_37 : decode cX2_lookAtEnds 37 = .ok (.iinc 3 1, 3) := by decide +kernel
theorem dX2_lookAtEnds_40 : decode cX2_lookAtEnds 40 = .ok (.goto (-28), 3) := by decide +kernel
theorem dX2_lookAtEnds_43 : decode cX2_lookAtEnds 43 = .ok (.iinc 2 1, 3) := by decide +kernel
theorem dX2_lookAtEnds_46 : decode cX2_lookAtEnds 46 = .ok (.goto (-44), 3) := by decide +kernel
theorem dX2_lookAtEnds_49 : decode cX2_lookAtEnds 49 = .ok (.return_, 1) := by decide +kernel
theorem dX2_slot_0 : decode cX2_slot 0 = .ok (.iload_n 0, 1) := by decide +kernel
theorem dX2_slot_1 : decode cX2_slot 1 = .ok (.iconst 1, 1) := by decide +kernel
theorem dX2_slot_2 : decode cX2_slot 2 = .ok (.ishr, 1) := by decide +kernel
theorem dX2_slot_3 : decode cX2_slot 3 = .ok (.sipush 4095, 3) := by decide +kernel
theorem dX2_slot_6 : decode cX2_slot 6 = .ok (.iand, 1) := by decide +kernel
theorem dX2_slot_7 : decode cX2_slot 7 = .ok (.ireturn, 1) := by decide +kernel
theorem dX2_lowest_0 : decode cX2_lowest 0 = .ok (.iload_n 1, 1) := by decide +kernel
theorem dX2_lowest_1 : decode cX2_lowest 1 = .ok (.istore_n 2, 1) := by decide +kernel
theorem dX2_lowest_2 : decode cX2_lowest 2 = .ok (.iload_n 2, 1) := by decide +kernel
theorem dX2_lowest_3 : decode cX2_lowest 3 = .ok (.bipush 14, 2) := by decide +kernel
theorem dX2_lowest_5 : decode cX2_lowest 5 = .ok (.if_icmp .ge 17, 3) := by decide +kernel
theorem dX2_lowest_8 : decode cX2_lowest 8 = .ok (.iload_n 0, 1) := by decide +kernel
theorem dX2_lowest_9 : decode cX2_lowest 9 = .ok (.iload_n 2, 1) := by decide +kernel
theorem dX2_lowest_10 : decode cX2_lowest 10 = .ok (.ishr, 1) := by decide +kernel
theorem dX2_lowest_11 : decode cX2_lowest 11 = .ok (.iconst 1, 1) := by decide +kernel
theorem dX2_lowest_12 : decode cX2_lowest 12 = .ok (.iand, 1) := by decide +kernel
theorem dX2_lowest_13 : decode cX2_lowest 13 = .ok (.ifCond .ne 9, 3) := by decide +kernel
theorem dX2_lowest_16 : decode cX2_lowest 16 = .ok (.iinc 2 1, 3) := by decide +kernel
theorem dX2_lowest_19 : decode cX2_lowest 19 = .ok (.goto (-17), 3) := by decide +kernel
theorem dX2_lowest_22 : decode cX2_lowest 22 = .ok (.iload_n 2, 1) := by decide +kernel
theorem dX2_lowest_23 : decode cX2_lowest 23 = .ok (.ireturn, 1) := by decide +kernel
set_option maxRecDepth 20000 in
theorem ggX2_countFrom_X2_lowest : GoodIn wsX2_countFrom wsX2_lowest := goodIn_r _ [8] (by decide +kernel) (by decide +kernel)
set_option maxRecDepth 20000 in
theorem gX2_countFrom_X2_lowest : GoodIn wsX2_countFrom (va_wsS RX2 77 yX2_lowest wsX2_lowest) := goodIn_app (goodIn_of _ (by decide +kernel)) ggX2_countFrom_X2_lowest
set_option maxRecDepth 20000 in
theorem ggX2_countFrom_X2_slot : GoodIn wsX2_countFrom wsX2_slot := goodIn_r _ [11] (by decide +kernel) (by decide +kernel)
set_option maxRecDepth 20000 in
theorem gX2_countFrom_X2_slot : GoodIn wsX2_countFrom (va_wsS RX2 80 yX2_slot wsX2_slot) := goodIn_app (goodIn_of _ (by decide +kernel)) ggX2_countFrom_X2_slot
set_option maxRecDepth 20000 in
theorem ggX2_countFrom_X2_countFrom : GoodIn wsX2_countFrom wsX2_countFrom := goodIn_r _ [0, 1, 2, 3, 4, 5, 6, 7, 8, 9, 10, 11, 12, 13, 14, 15, 16, 17, 18, 19, 20, 21, 22] (by decide +kernel) (by decide +kernel)
set_option maxRecDepth 20000 in
theorem gX2_countFrom_X2_countFrom : GoodIn wsX2_countFrom (wsV RX2 40 RX2 yX2_countFrom wsX2_countFrom) := goodIn_app (goodIn_of _ (by decide +kernel)) ggX2_countFrom_X2_countFrom
theorem dX2_countFrom_0 : decode cX2_countFrom 0 = .ok (.iload_n 1, 1) := by decide +kernel
theorem dX2_countFrom_1 : decode cX2_countFrom 1 = .ok (.ifCond .ne 5, 3) := by decide +kernel
theorem dX2_countFrom_4 : decode cX2_countFrom 4 = .ok (.iconst 1, 1) := by decide +kernel
theorem dX2_countFrom_5 : decode cX2_countFrom 5 = .ok (.ireturn, 1) := by decide +kernel
theorem dX2_countFrom_6 : decode cX2_countFrom 6 = .ok (.iload_n 1, 1) := by decide +kernel
theorem dX2_countFrom_7 : decode cX2_countFrom 7 = .ok (.iload_n 2, 1) := by decide +kernel
theorem dX2_countFrom_8 : decode cX2_countFrom 8 = .ok (.invokestatic 77, 3) := by decide +kernel
theorem dX2_countFrom_11 : decode cX2_countFrom 11 = .ok (.istore_n 3, 1) := by decide +kernel
theorem dX2_countFrom_12 : decode cX2_countFrom 12 = .ok (.iload_n 3, 1) := by decide +kernel
theorem dX2_countFrom_13 : decode cX2_countFrom 13 = .ok (.bipush 14, 2) := by decide +kernel
theorem dX2_countFrom_15 : decode cX2_countFrom 15 = .ok (.if_icmp .lt 5, 3) := by decide +kernel
theorem dX2_countFrom_18 : decode cX2_countFrom 18 = .ok (.iconst 0, 1) := by decide +kernel
theorem dX2_countFrom_19 : decode cX2_countFrom 19 = .ok (.ireturn, 1) := by decide +kernel
theorem dX2_countFrom_20 : decode cX2_countFrom 20 = .ok (.iload_n 1, 1) := by decide +kernel
theorem dX2_countFrom_21 : decode cX2_countFrom 21 = .ok (.invokestatic 80, 3) := by decide +kernel
theorem dX2_countFrom_24 : decode cX2_countFrom 24 = .ok (.istore 4, 2) := by decide +kernel
theorem dX2_countFrom_26 : decode cX2_countFrom 26 = .ok (.aload_n 0, 1) := by decide +kernel
theorem dX2_countFrom_27 : decode cX2_countFrom 27 = .ok (.getfield 21, 3) := by decide +kernel
theorem dX2_countFrom_30 : decode cX2_countFrom 30 = .ok (.iload 4, 2) := by decide +kernel
theorem dX2_countFrom_32 : decode cX2_countFrom 32 = .ok (.iaload, 1) := by decide +kernel
theorem dX2_countFrom_33 : decode cX2_countFrom 33 = .ok (.aload_n 0, 1) := by decide +kernel
theorem dX2_countFrom_34 : decode cX2_countFrom 34 = .ok (.getfield 62, 3) := by decide +kernel
theorem dX2_countFrom_37 : decode cX2_countFrom 37 = .ok (.if_icmp .ne 11, 3) := by decide +kernel
theorem dX2_countFrom_40 : decode cX2_countFrom 40 = .ok (.aload_n 0, 1) := by decide +kernel
theorem dX2_countFrom_41 : decode cX2_countFrom 41 = .ok (.getfield 24, 3) := by decide +kernel
theorem dX2_countFrom_44 : decode cX2_countFrom 44 = .ok (.iload 4, 2) := by decide +kernel
theorem dX2_countFrom_46 : decode cX2_countFrom 46 = .ok (.iaload, 1) := by decide +kernel
theorem dX2_countFrom_47 : decode cX2_countFrom 47 = .ok (.ireturn, 1) := by decide +kernel
theorem dX2_countFrom_48 : decode cX2_countFrom 48 = .ok (.aload_n 0, 1) := by decide +kernel
theorem dX2_countFrom_49 : decode cX2_countFrom 49 = .ok (.getfield 15, 3) := by decide +kernel
theorem dX2_countFrom_52 : decode cX2_countFrom 52 = .ok (.iload_n 3, 1) := by decide +kernel
theorem dX2_countFrom_53 : decode cX2_countFrom 53 = .ok (.iaload, 1) := by decide +kernel
theorem dX2_countFrom_54 : decode cX2_countFrom 54 = .ok (.iload_n 1, 1) := by decide +kernel
theorem dX2_countFrom_55 : decode cX2_countFrom 55 = .ok (.iand, 1) := by decide +kernel
theorem dX2_countFrom_56 : decode cX2_countFrom 56 = .ok (.istore 5, 2) := by decide +kernel
theorem dX2_countFrom_58 : decode cX2_countFrom 58 = .ok (.iconst 0, 1) := by decide +kernel
theorem dX2_countFrom_59 : decode cX2_countFrom 59 = .ok (.istore 6, 2) := by decide +kernel
theorem dX2_countFrom_61 : decode cX2_countFrom 61 = .ok (.iload_n 3, 1) := by decide +kernel
theorem dX2_countFrom_62 : decode cX2_countFrom 62 = .ok (.iconst 1, 1) := by decide +kernel
theorem dX2_countFrom_63 : decode cX2_countFrom 63 = .ok (.iadd, 1) := by decide +kernel
theorem dX2_countFrom_64 : decode cX2_countFrom 64 = .ok (.istore 7, 2) := by decide +kernel
theorem dX2_countFrom_66 : decode cX2_countFrom 66 = .ok (.iload 7, 2) := by decide +kernel
theorem dX2_countFrom_68 : decode cX2_countFrom 68 = .ok (.bipush 14, 2) := by decide +kernel
theorem dX2_countFrom_70 : decode cX2_countFrom 70 = .ok (.if_icmp .ge 44, 3) := by decide +kernel
theorem dX2_countFrom_73 : decode cX2_countFrom 73 = .ok (.iload 5, 2) := by decide +kernel
theorem dX2_countFrom_75 : decode cX2_countFrom 75 = .ok (.iload 7, 2) := by decide +kernel
theorem dX2_countFrom_77 : decode cX2_countFrom 77 = .ok (.ishr, 1) := by decide +kernel
theorem dX2_countFrom_78 : decode cX2_countFrom 78 = .ok (.iconst 1, 1) := by decide +kernel
theorem dX2_countFrom_79 : decode cX2_countFrom 79 = .ok (.iand, 1) := by decide +kernel
theorem dX2_countFrom_80 : decode cX2_countFrom 80 = .ok (.iconst 1, 1) := by decide +kernel
theorem dX2_countFrom_81 : decode cX2_countFrom 81 = .ok (.if_icmp .ne 27, 3) := by decide +kernel
theorem dX2_countFrom_84 : decode cX2_countFrom 84 = .ok (.iload 6, 2) := by decide +kernel
theorem dX2_countFrom_86 : decode cX2_countFrom 86 = .ok (.aload_n 0, 1) := by decide +kernel
theorem dX2_countFrom_87 : decode cX2_countFrom 87 = .ok (.iload_n 1, 1) := by decide +kernel
theorem dX2_countFrom_88 : decode cX2_countFrom 88 = .ok (.iconst 1, 1) := by decide +kernel
theorem dX2_countFrom_89 : decode cX2_countFrom 89 = .ok (.iload_n 3, 1) := by decide +kernel
theorem dX2_countFrom_90 : decode cX2_countFrom 90 = .ok (.ishl, 1) := by decide +kernel
theorem dX2_countFrom_91 : decode cX2_countFrom 91 = .ok (.iconst 1, 1) := by decide +kernel
theorem dX2_countFrom_92 : decode cX2_countFrom 92 = .ok (.iload 7, 2) := by decide +kernel
theorem dX2_countFrom_94 : decode cX2_countFrom 94 = .ok (.ishl, 1) := by decide +kernel
theorem dX2_countFrom_95 : decode cX2_countFrom 95 = .ok (.ior, 1) := by decide +kernel
theorem dX2_countFrom_96 : decode cX2_countFrom 96 = .ok (.iconst (-1), 1) := by decide +kernel
theorem dX2_countFrom_97 : decode cX2_countFrom 97 = .ok (.ixor, 1) := by decide +kernel
theorem dX2_countFrom_98 : decode cX2_countFrom 98 = .ok (.iand, 1) := by decide +kernel
theorem dX2_countFrom_99 : decode cX2_countFrom 99 = .ok (.iload_n 3, 1) := by decide +kernel
theorem dX2_countFrom_100 : decode cX2_countFrom 100 = .ok (.iconst 1, 1) := by decide +kernel
theorem dX2_countFrom_101 : decode cX2_countFrom 101 = .ok (.iadd, 1) := by decide +kernel
theorem dX2_countFrom_102 : decode cX2_countFrom 102 = .ok (.invokevirtual 40, 3) := by decide +kernel
theorem dX2_countFrom_105 : decode cX2_countFrom 105 = .ok (.iadd, 1) := by decide +kernel
theorem dX2_countFrom_106 : decode cX2_countFrom 106 = .ok (.istore 6, 2) := by decide +kernel
theorem dX2_countFrom_108 : decode cX2_countFrom 108 = .ok (.iinc 7 1, 3) := by decide +kernel
theorem dX2_countFrom_111 : decode cX2_countFrom 111 = .ok (.goto (-45), 3) := by decide +kernel
theorem dX2_countFrom_114 : decode cX2_countFrom 114 = .ok (.aload_n 0, 1) := by decide +kernel
theorem dX2_countFrom_115 : decode cX2_countFrom 115 = .ok (.getfield 21, 3) := by decide +kernel
theorem dX2_countFrom_118 : decode cX2_countFrom 118 = .ok (.iload 4, 2) := by decide +kernel
theorem dX2_countFrom_120 : decode cX2_countFrom 120 = .ok (.aload_n 0, 1) := by decide +kernel
theorem dX2_countFrom_121 : decode cX2_countFrom 121 = .ok (.getfield 62, 3) := by decide +kernel
theorem dX2_countFrom_124 : decode cX2_countFrom 124 = .ok (.iastore, 1) := by decide +kernel
theorem dX2_countFrom_125 : decode cX2_countFrom 125 = .ok (.aload_n 0, 1) := by decide +kernel
theorem dX2_countFrom_126 : decode cX2_countFrom 126 = .ok (.getfield 24, 3) := by decide +kernel
theorem dX2_countFrom_129 : decode cX2_countFrom 129 = .ok (.iload 4, 2) := by decide +kernel
theorem dX2_countFrom_131 : decode cX2_countFrom 131 = .ok (.iload 6, 2) := by decide +kernel
theorem dX2_countFrom_133 : decode cX2_countFrom 133 = .ok (.iastore, 1) := by decide +kernel
theorem dX2_countFrom_134 : decode cX2_countFrom 134 = .ok (.iload 6, 2) := by decide +kernel
theorem dX2_countFrom_136 : decode cX2_countFrom 136 = .ok (.ireturn, 1) := by decide +kernel
set_option maxRecDepth 20000 in
theorem ggX2_firstFrom_X2_lowest : GoodIn wsX2_firstFrom wsX2_lowest := goodIn_r _ [8] (by decide +kernel) (by decide +kernel)
set_option maxRecDepth 20000 in
theorem gX2_firstFrom_X2_lowest : GoodIn wsX2_firstFrom (va_wsS RX2 77 yX2_lowest wsX2_lowest) := goodIn_app (goodIn_of _ (by decide +kernel)) ggX2_firstFrom_X2_lowest
set_option maxRecDepth 20000 in
theorem ggX2_firstFrom_X2_slot : GoodIn wsX2_firstFrom wsX2_slot := goodIn_r _ [11] (by decide +kernel) (by decide +kernel)
set_option maxRecDepth 20000 in
theorem gX2_firstFrom_X2_slot : GoodIn wsX2_firstFrom (va_wsS RX2 80 yX2_slot wsX2_slot) := goodIn_app (goodIn_of _ (by decide +kernel)) ggX2_firstFrom_X2_slot
set_option maxRecDepth 20000 in
theorem ggX2_firstFrom_X2_firstFrom : GoodIn wsX2_firstFrom wsX2_firstFrom := goodIn_r _ [0, 1, 2, 3, 4, 5, 6, 7, 8, 9, 10, 11, 12, 13, 14, 15, 16, 17, 18, 19, 20, 21, 22] (by decide +kernel) (by decide +kernel)
set_option maxRecDepth 20000 in
theorem gX2_firstFrom_X2_firstFrom : GoodIn wsX2_firstFrom (wsV RX2 44 RX2 yX2_firstFrom wsX2_firstFrom) := goodIn_app (goodIn_of _ (by decide +kernel)) ggX2_firstFrom_X2_firstFrom
theorem dX2_firstFrom_0 : decode cX2_firstFrom 0 = .ok (.iload_n 1, 1) := by decide +kernel
theorem dX2_firstFrom_1 : decode cX2_firstFrom 1 = .ok (.ifCond .ne 5, 3) := by decide +kernel
theorem dX2_firstFrom_4 : decode cX2_firstFrom 4 = .ok (.iconst 1, 1) := by decide +kernel
theorem dX2_firstFrom_5 : decode cX2_firstFrom 5 = .ok (.ireturn, 1) := by decide +kernel
theorem dX2_firstFrom_6 : decode cX2_firstFrom 6 = .ok (.iload_n 1, 1) := by decide +kernel
theorem dX2_firstFrom_7 : decode cX2_firstFrom 7 = .ok (.iload_n 2, 1) := by decide +kernel
theorem dX2_firstFrom_8 : decode cX2_firstFrom 8 = .ok (.invokestatic 77, 3) := by decide +kernel
theorem dX2_firstFrom_11 : decode cX2_firstFrom 11 = .ok (.istore_n 3, 1) := by decide +kernel
theorem dX2_firstFrom_12 : decode cX2_firstFrom 12 = .ok (.iload_n 3, 1) := by decide +kernel
theorem dX2_firstFrom_13 : decode cX2_firstFrom 13 = .ok (.bipush 14, 2) := by decide +kernel
theorem dX2_firstFrom_15 : decode cX2_firstFrom 15 = .ok (.if_icmp .ge 19, 3) := by decide +kernel
theorem dX2_firstFrom_18 : decode cX2_firstFrom 18 = .ok (.aload_n 0, 1) := by decide +kernel
theorem dX2_firstFrom_19 : decode cX2_firstFrom 19 = .ok (.getfield 21, 3) := by decide +kernel
theorem dX2_firstFrom_22 : decode cX2_firstFrom 22 = .ok (.iload_n 1, 1) := by decide +kernel
theorem dX2_firstFrom_23 : decode cX2_firstFrom 23 = .ok (.invokestatic 80, 3) := by decide +kernel
theorem dX2_firstFrom_26 : decode cX2_firstFrom 26 = .ok (.iaload, 1) := by decide +kernel
theorem dX2_firstFrom_27 : decode cX2_firstFrom 27 = .ok (.aload_n 0, 1) := by decide +kernel
theorem dX2_firstFrom_28 : decode cX2_firstFrom 28 = .ok (.getfield 62, 3) := by decide +kernel
theorem dX2_firstFrom_31 : decode cX2_firstFrom 31 = .ok (.if_icmp .ne 5, 3) := by decide +kernel
theorem dX2_firstFrom_34 : decode cX2_firstFrom 34 = .ok (.iconst 0, 1) := by decide +kernel
theorem dX2_firstFrom_35 : decode cX2_firstFrom 35 = .ok (.ireturn, 1) := by decide +kernel
theorem dX2_firstFrom_36 : decode cX2_firstFrom 36 = .ok (.aload_n 0, 1) := by decide +kernel
theorem dX2_firstFrom_37 : decode cX2_firstFrom 37 = .ok (.getfield 15, 3) := by decide +kernel
theorem dX2_firstFrom_40 : decode cX2_firstFrom 40 = .ok (.iload_n 3, 1) := by decide +kernel
theorem dX2_firstFrom_41 : decode cX2_firstFrom 41 = .ok (.iaload, 1) := by decide +kernel
theorem dX2_firstFrom_42 : decode cX2_firstFrom 42 = .ok (.iload_n 1, 1) := by decide +kernel
theorem dX2_firstFrom_43 : decode cX2_firstFrom 43 = .ok (.iand, 1) := by decide +kernel
theorem dX2_firstFrom_44 : decode cX2_firstFrom 44 = .ok (.istore 4, 2) := by decide +kernel
theorem dX2_firstFrom_46 : decode cX2_firstFrom 46 = .ok (.iload_n 3, 1) := by decide +kernel
theorem dX2_firstFrom_47 : decode cX2_firstFrom 47 = .ok (.iconst 1, 1) := by decide +kernel
theorem dX2_firstFrom_48 : decode cX2_firstFrom 48 = .ok (.iadd, 1) := by decide +kernel
theorem dX2_firstFrom_49 : decode cX2_firstFrom 49 = .ok (.istore 5, 2) := by decide +kernel
theorem dX2_firstFrom_51 : decode cX2_firstFrom 51 = .ok (.iload 5, 2) := by decide +kernel
theorem dX2_firstFrom_53 : decode cX2_firstFrom 53 = .ok (.bipush 14, 2) := by decide +kernel
theorem dX2_firstFrom_55 : decode cX2_firstFrom 55 = .ok (.if_icmp .ge 60, 3) := by decide +kernel
theorem dX2_firstFrom_58 : decode cX2_firstFrom 58 = .ok (.iload 4, 2) := by decide +kernel
theorem dX2_firstFrom_60 : decode cX2_firstFrom 60 = .ok (.iload 5, 2) := by decide +kernel
theorem dX2_firstFrom_62 : decode cX2_firstFrom 62 = .ok (.ishr, 1) := by decide +kernel
theorem dX2_firstFrom_63 : decode cX2_firstFrom 63 = .ok (.iconst 1, 1) := by decide +kernel
theorem dX2_firstFrom_64 : decode cX2_firstFrom 64 = .ok (.iand, 1) := by decide +kernel
theorem dX2_firstFrom_65 : decode cX2_firstFrom 65 = .ok (.iconst 1, 1) := by decide +kernel
theorem dX2_firstFrom_66 : decode cX2_firstFrom 66 = .ok (.if_icmp .ne 43, 3) := by decide +kernel
theorem dX2_firstFrom_69 : decode cX2_firstFrom 69 = .ok (.aload_n 0, 1) := by decide +kernel
theorem dX2_firstFrom_70 : decode cX2_firstFrom 70 = .ok (.iload_n 1, 1) := by decide +kernel
theorem dX2_firstFrom_71 : decode cX2_firstFrom 71 = .ok (.iconst 1, 1) := by decide +kernel
theorem dX2_firstFrom_72 : decode cX2_firstFrom 72 = .ok (.iload_n 3, 1) := by decide +kernel
theorem dX2_firstFrom_73 : decode cX2_firstFrom 73 = .ok (.ishl, 1) := by decide +kernel
theorem dX2_firstFrom_74 : decode cX2_firstFrom 74 = .ok (.iconst 1, 1) := by decide +kernel
theorem dX2_firstFrom_75 : decode cX2_firstFrom 75 = .ok (.iload 5, 2) := by decide +kernel
theorem dX2_firstFrom_77 : decode cX2_firstFrom 77 = .ok (.ishl, 1) := by decide +kernel
theorem dX2_firstFrom_78 : decode cX2_firstFrom 78 = .ok (.ior, 1) := by decide +kernel
theorem dX2_firstFrom_79 : decode cX2_firstFrom 79 = .ok (.iconst (-1), 1) := by decide +kernel
theorem dX2_firstFrom_80 : decode cX2_firstFrom 80 = .ok (.ixor, 1) := by decide +kernel
theorem dX2_firstFrom_81 : decode cX2_firstFrom 81 = .ok (.iand, 1) := by decide +kernel
theorem dX2_firstFrom_82 : decode cX2_firstFrom 82 = .ok (.iload_n 3, 1) := by decide +kernel
theorem dX2_firstFrom_83 : decode cX2_firstFrom 83 = .ok (.iconst 1, 1) := by decide +kernel
theorem dX2_firstFrom_84 : decode cX2_firstFrom 84 = .ok (.iadd, 1) := by decide +kernel
theorem dX2_firstFrom_85 : decode cX2_firstFrom 85 = .ok (.invokevirtual 44, 3) := by decide +kernel
theorem dX2_firstFrom_88 : decode cX2_firstFrom 88 = .ok (.ifCond .eq 21, 3) := by decide +kernel
theorem dX2_firstFrom_91 : decode cX2_firstFrom 91 = .ok (.aload_n 0, 1) := by decide +kernel
theorem dX2_firstFrom_92 : decode cX2_firstFrom 92 = .ok (.getfield 9, 3) := by decide +kernel
theorem dX2_firstFrom_95 : decode cX2_firstFrom 95 = .ok (.iload_n 3, 1) := by decide +kernel
theorem dX2_firstFrom_96 : decode cX2_firstFrom 96 = .ok (.iload 5, 2) := by decide +kernel
theorem dX2_firstFrom_98 : decode cX2_firstFrom 98 = .ok (.iastore, 1) := by decide +kernel
theorem dX2_firstFrom_99 : decode cX2_firstFrom 99 = .ok (.aload_n 0, 1) := by decide +kernel
theorem dX2_firstFrom_100 : decode cX2_firstFrom 100 = .ok (.getfield 9, 3) := by decide +kernel
theorem dX2_firstFrom_103 : decode cX2_firstFrom 103 = .ok (.iload 5, 2) := by decide +kernel
theorem dX2_firstFrom_105 : decode cX2_firstFrom 105 = .ok (.iload_n 3, 1) := by decide +kernel
theorem dX2_firstFrom_106 : decode cX2_firstFrom 106 = .ok (.iastore, 1) := by decide +kernel
theorem dX2_firstFrom_107 : decode cX2_firstFrom 107 = .ok (.iconst 1, 1) := by decide +kernel
theorem dX2_firstFrom_108 : decode cX2_firstFrom 108 = .ok (.ireturn, 1) := by decide +kernel
theorem dX2_firstFrom_109 : decode cX2_firstFrom 109 = .ok (.iinc 5 1, 3) := by decide +kernel
theorem dX2_firstFrom_112 : decode cX2_firstFrom 112 = .ok (.goto (-61), 3) := by decide +kernel
theorem dX2_firstFrom_115 : decode cX2_firstFrom 115 = .ok (.aload_n 0, 1) := by decide +kernel
theorem dX2_firstFrom_116 : decode cX2_firstFrom 116 = .ok (.getfield 21, 3) := by decide +kernel
theorem dX2_firstFrom_119 : decode cX2_firstFrom 119 = .ok (.iload_n 1, 1) := by decide +kernel
theorem dX2_firstFrom_120 : decode cX2_firstFrom 120 = .ok (.invokestatic 80, 3) := by decide +kernel
theorem dX2_firstFrom_123 : decode cX2_firstFrom 123 = .ok (.aload_n 0, 1) := by decide +kernel
theorem dX2_firstFrom_124 : decode cX2_firstFrom 124 = .ok (.getfield 62, 3) := by decide +kernel
theorem dX2_firstFrom_127 : decode cX2_firstFrom 127 = .ok (.iastore, 1) := by decide +kernel
theorem dX2_firstFrom_128 : decode cX2_firstFrom 128 = .ok (.iconst 0, 1) := by decide +kernel
theorem dX2_firstFrom_129 : decode cX2_firstFrom 129 = .ok (.ireturn, 1) := by decide +kernel
set_option maxRecDepth 20000 in
theorem ggX2_bestFrom_X2_lowest : GoodIn wsX2_bestFrom wsX2_lowest := goodIn_r _ [6] (by decide +kernel) (by decide +kernel)
set_option maxRecDepth 20000 in
theorem gX2_bestFrom_X2_lowest : GoodIn wsX2_bestFrom (va_wsS RX2 77 yX2_lowest wsX2_lowest) := goodIn_app (goodIn_of _ (by decide +kernel)) ggX2_bestFrom_X2_lowest
set_option maxRecDepth 20000 in
theorem ggX2_bestFrom_X2_closers : GoodIn wsX2_bestFrom wsX2_closers := goodIn_r _ [10, 11, 12, 13, 14, 15, 16, 17, 18, 19, 35, 36, 37, 38, 39, 40, 41, 42] (by decide +kernel) (by decide +kernel)
set_option maxRecDepth 20000 in
theorem gX2_bestFrom_X2_closers : GoodIn wsX2_bestFrom (wsV RX2 84 RX2 yX2_closers wsX2_closers) := goodIn_app (goodIn_of _ (by decide +kernel)) ggX2_bestFrom_X2_closers
set_option maxRecDepth 20000 in
theorem ggX2_bestFrom_X2_join : GoodIn wsX2_bestFrom wsX2_join := goodIn_r _ [23, 11, 12, 24, 25, 26, 5, 27, 35, 36, 37, 38, 39, 40, 41, 42] (by decide +kernel) (by decide +kernel)
set_option maxRecDepth 20000 in
theorem gX2_bestFrom_X2_join : GoodIn wsX2_bestFrom (wsV RX2 87 RX2 yX2_join wsX2_join) := goodIn_app (goodIn_of _ (by decide +kernel)) ggX2_bestFrom_X2_join
set_option maxRecDepth 20000 in
theorem ggX2_bestFrom_X2_bestFrom : GoodIn wsX2_bestFrom wsX2_bestFrom := goodIn_r _ [0, 1, 2, 3, 4, 5, 6, 7, 8, 9, 10, 11, 12, 13, 14, 15, 16, 17, 18, 19, 20, 21, 22, 23, 24, 25, 26, 27, 28, 29, 30, 31, 32, 33, 34, 35, 36, 37, 38, 39, 40, 41, 42] (by decide +kernel) (by decide +kernel)
set_option maxRecDepth 20000 in
theorem gX2_bestFrom_X2_bestFrom : GoodIn wsX2_bestFrom (wsV RX2 51 RX2 yX2_bestFrom wsX2_bestFrom) := goodIn_app (goodIn_of _ (by decide +kernel)) ggX2_bestFrom_X2_bestFrom
set_option maxRecDepth 20000 in
theorem ggX2_bestFrom_X2_part : GoodIn wsX2_bestFrom wsX2_part := goodIn_r _ [34, 11, 12, 24, 25, 26, 5, 27, 35, 36, 37, 38, 39, 40, 41, 42] (by decide +kernel) (by decide +kernel)
set_option maxRecDepth 20000 in
theorem gX2_bestFrom_X2_part : GoodIn wsX2_bestFrom (wsV RX2 91 RX2 yX2_part wsX2_part) := goodIn_app (goodIn_of _ (by decide +kernel)) ggX2_bestFrom_X2_part
theorem dX2_bestFrom_0 : decode cX2_bestFrom 0 = .ok (.iload_n 1, 1) := by decide +kernel
theorem dX2_bestFrom_1 : decode cX2_bestFrom 1 = .ok (.ifCond .ne 5, 3) := by decide +kernel
theorem dX2_bestFrom_4 : decode cX2_bestFrom 4 = .ok (.iconst 1, 1) := by decide +kernel
theorem dX2_bestFrom_5 : decode cX2_bestFrom 5 = .ok (.ireturn, 1) := by decide +kernel
theorem dX2_bestFrom_6 : decode cX2_bestFrom 6 = .ok (.iload_n 1, 1) := by decide +kernel
theorem dX2_bestFrom_7 : decode cX2_bestFrom 7 = .ok (.iload_n 2, 1) := by decide +kernel
theorem dX2_bestFrom_8 : decode cX2_bestFrom 8 = .ok (.invokestatic 77, 3) := by decide +kernel
theorem dX2_bestFrom_11 : decode cX2_bestFrom 11 = .ok (.istore_n 3, 1) := by decide +kernel
theorem dX2_bestFrom_12 : decode cX2_bestFrom 12 = .ok (.iload_n 3, 1) := by decide +kernel
theorem dX2_bestFrom_13 : decode cX2_bestFrom 13 = .ok (.bipush 14, 2) := by decide +kernel
theorem dX2_bestFrom_15 : decode cX2_bestFrom 15 = .ok (.if_icmp .lt 5, 3) := by decide +kernel
theorem dX2_bestFrom_18 : decode cX2_bestFrom 18 = .ok (.iconst 0, 1) := by decide +kernel
theorem dX2_bestFrom_19 : decode cX2_bestFrom 19 = .ok (.ireturn, 1) := by decide +kernel
theorem dX2_bestFrom_20 : decode cX2_bestFrom 20 = .ok (.aload_n 0, 1) := by decide +kernel
theorem dX2_bestFrom_21 : decode cX2_bestFrom 21 = .ok (.getfield 15, 3) := by decide +kernel
theorem dX2_bestFrom_24 : decode cX2_bestFrom 24 = .ok (.iload_n 3, 1) := by decide +kernel
theorem dX2_bestFrom_25 : decode cX2_bestFrom 25 = .ok (.iaload, 1) := by decide +kernel
theorem dX2_bestFrom_26 : decode cX2_bestFrom 26 = .ok (.iload_n 1, 1) := by decide +kernel
theorem dX2_bestFrom_27 : decode cX2_bestFrom 27 = .ok (.iand, 1) := by decide +kernel
theorem dX2_bestFrom_28 : decode cX2_bestFrom 28 = .ok (.aload_n 0, 1) := by decide +kernel
theorem dX2_bestFrom_29 : decode cX2_bestFrom 29 = .ok (.iload_n 1, 1) := by decide +kernel
theorem dX2_bestFrom_30 : decode cX2_bestFrom 30 = .ok (.iload_n 3, 1) := by decide +kernel
theorem dX2_bestFrom_31 : decode cX2_bestFrom 31 = .ok (.invokevirtual 84, 3) := by decide +kernel
theorem dX2_bestFrom_34 : decode cX2_bestFrom 34 = .ok (.iconst (-1), 1) := by decide +kernel
theorem dX2_bestFrom_35 : decode cX2_bestFrom 35 = .ok (.ixor, 1) := by decide +kernel
theorem dX2_bestFrom_36 : decode cX2_bestFrom 36 = .ok (.iand, 1) := by decide +kernel
theorem dX2_bestFrom_37 : decode cX2_bestFrom 37 = .ok (.istore 4, 2) := by decide +kernel
theorem dX2_bestFrom_39 : decode cX2_bestFrom 39 = .ok (.iload_n 3, 1) := by decide +kernel
theorem dX2_bestFrom_40 : decode cX2_bestFrom 40 = .ok (.iconst 1, 1) := by decide +kernel
theorem dX2_bestFrom_41 : decode cX2_bestFrom 41 = .ok (.iadd, 1) := by decide +kernel
theorem dX2_bestFrom_42 : decode cX2_bestFrom 42 = .ok (.istore 5, 2) := by decide +kernel
theorem dX2_bestFrom_44 : decode cX2_bestFrom 44 = .ok (.iload 5, 2) := by decide +kernel
theorem dX2_bestFrom_46 : decode cX2_bestFrom 46 = .ok (.bipush 14, 2) := by decide +kernel
theorem dX2_bestFrom_48 : decode cX2_bestFrom 48 = .ok (.if_icmp .ge 74, 3) := by decide +kernel
theorem dX2_bestFrom_51 : decode cX2_bestFrom 51 = .ok (.iload 4, 2) := by decide +kernel
theorem dX2_bestFrom_53 : decode cX2_bestFrom 53 = .ok (.iload 5, 2) := by decide +kernel
theorem dX2_bestFrom_55 : decode cX2_bestFrom 55 = .ok (.ishr, 1) := by decide +kernel
theorem dX2_bestFrom_56 : decode cX2_bestFrom 56 = .ok (.iconst 1, 1) := by decide +kernel
theorem dX2_bestFrom_57 : decode cX2_bestFrom 57 = .ok (.iand, 1) := by decide +kernel
theorem dX2_bestFrom_58 : decode cX2_bestFrom 58 = .ok (.iconst 1, 1) := by decide +kernel
theorem dX2_bestFrom_59 : decode cX2_bestFrom 59 = .ok (.if_icmp .ne 57, 3) := by decide +kernel
theorem dX2_bestFrom_62 : decode cX2_bestFrom 62 = .ok (.aload_n 0, 1) := by decide +kernel
theorem dX2_bestFrom_63 : decode cX2_bestFrom 63 = .ok (.iload_n 3, 1) := by decide +kernel
theorem dX2_bestFrom_64 : decode cX2_bestFrom 64 = .ok (.iload 5, 2) := by decide +kernel
theorem dX2_bestFrom_66 : decode cX2_bestFrom 66 = .ok (.invokevirtual 87, 3) := by decide +kernel
theorem dX2_bestFrom_69 : decode cX2_bestFrom 69 = .ok (.aload_n 0, 1) := by decide +kernel
theorem dX2_bestFrom_70 : decode cX2_bestFrom 70 = .ok (.iload_n 1, 1) := by decide +kernel
theorem dX2_bestFrom_71 : decode cX2_bestFrom 71 = .ok (.iconst 1, 1) := by decide +kernel
theorem dX2_bestFrom_72 : decode cX2_bestFrom 72 = .ok (.iload_n 3, 1) := by decide +kernel
theorem dX2_bestFrom_73 : decode cX2_bestFrom 73 = .ok (.ishl, 1) := by decide +kernel
theorem dX2_bestFrom_74 : decode cX2_bestFrom 74 = .ok (.iconst 1, 1) := by decide +kernel
theorem dX2_bestFrom_75 : decode cX2_bestFrom 75 = .ok (.iload 5, 2) := by decide +kernel
theorem dX2_bestFrom_77 : decode cX2_bestFrom 77 = .ok (.ishl, 1) := by decide +kernel
theorem dX2_bestFrom_78 : decode cX2_bestFrom 78 = .ok (.ior, 1) := by decide +kernel
theorem dX2_bestFrom_79 : decode cX2_bestFrom 79 = .ok (.iconst (-1), 1) := by decide +kernel
theorem dX2_bestFrom_80 : decode cX2_bestFrom 80 = .ok (.ixor, 1) := by decide +kernel
theorem dX2_bestFrom_81 : decode cX2_bestFrom 81 = .ok (.iand, 1) := by decide +kernel
theorem dX2_bestFrom_82 : decode cX2_bestFrom 82 = .ok (.iload_n 3, 1) := by decide +kernel
theorem dX2_bestFrom_83 : decode cX2_bestFrom 83 = .ok (.iconst 1, 1) := by decide +kernel
theorem dX2_bestFrom_84 : decode cX2_bestFrom 84 = .ok (.iadd, 1) := by decide +kernel
theorem dX2_bestFrom_85 : decode cX2_bestFrom 85 = .ok (.invokevirtual 51, 3) := by decide +kernel
theorem dX2_bestFrom_88 : decode cX2_bestFrom 88 = .ok (.ifCond .eq 21, 3) := by decide +kernel
theorem dX2_bestFrom_91 : decode cX2_bestFrom 91 = .ok (.aload_n 0, 1) := by decide +kernel
theorem dX2_bestFrom_92 : decode cX2_bestFrom 92 = .ok (.getfield 9, 3) := by decide +kernel
theorem dX2_bestFrom_95 : decode cX2_bestFrom 95 = .ok (.iload_n 3, 1) := by decide +kernel
theorem dX2_bestFrom_96 : decode cX2_bestFrom 96 = .ok (.iload 5, 2) := by decide +kernel
theorem dX2_bestFrom_98 : decode cX2_bestFrom 98 = .ok (.iastore, 1) := by decide +kernel
theorem dX2_bestFrom_99 : decode cX2_bestFrom 99 = .ok (.aload_n 0, 1) := by decide +kernel
theorem dX2_bestFrom_100 : decode cX2_bestFrom 100 = .ok (.getfield 9, 3) := by decide +kernel
theorem dX2_bestFrom_103 : decode cX2_bestFrom 103 = .ok (.iload 5, 2) := by decide +kernel
theorem dX2_bestFrom_105 : decode cX2_bestFrom 105 = .ok (.iload_n 3, 1) := by decide +kernel
theorem dX2_bestFrom_106 : decode cX2_bestFrom 106 = .ok (.iastore, 1) := by decide +kernel
theorem dX2_bestFrom_107 : decode cX2_bestFrom 107 = .ok (.iconst 1, 1) := by decide +kernel
theorem dX2_bestFrom_108 : decode cX2_bestFrom 108 = .ok (.ireturn, 1) := by decide +kernel
theorem dX2_bestFrom_109 : decode cX2_bestFrom 109 = .ok (.aload_n 0, 1) := by decide +kernel
theorem dX2_bestFrom_110 : decode cX2_bestFrom 110 = .ok (.iload_n 3, 1) := by decide +kernel
theorem dX2_bestFrom_111 : decode cX2_bestFrom 111 = .ok (.iload 5, 2) := by decide +kernel
theorem dX2_bestFrom_113 : decode cX2_bestFrom 113 = .ok (.invokevirtual 91, 3) := by decide +kernel
theorem dX2_bestFrom_116 : decode cX2_bestFrom 116 = .ok (.iinc 5 1, 3) := by decide +kernel
theorem dX2_bestFrom_119 : decode cX2_bestFrom 119 = .ok (.goto (-75), 3) := by decide +kernel
theorem dX2_bestFrom_122 : decode cX2_bestFrom 122 = .ok (.iconst 0, 1) := by decide +kernel
theorem dX2_bestFrom_123 : decode cX2_bestFrom 123 = .ok (.ireturn, 1) := by decide +kernel
set_option maxRecDepth 20000 in
theorem ggX2_closers_J6_bitCount_0f7a4 : GoodIn wsX2_closers wsJ6_bitCount_0f7a4 := goodIn_r _ [6, 7, 8, 9] (by decide +kernel) (by decide +kernel)
set_option maxRecDepth 20000 in
theorem gX2_closers_J6_bitCount_0f7a4 : GoodIn wsX2_closers (va_wsS RX2 94 yJ6_bitCount_0f7a4 wsJ6_bitCount_0f7a4) := goodIn_app (goodIn_of _ (by decide +kernel)) ggX2_closers_J6_bitCount_0f7a4
theorem dX2_closers_0 : decode cX2_closers 0 = .ok (.iload_n 1, 1) := by decide +kernel
theorem dX2_closers_1 : decode cX2_closers 1 = .ok (.invokestatic 94, 3) := by decide +kernel
theorem dX2_closers_4 : decode cX2_closers 4 = .ok (.iconst 2, 1) := by decide +kernel
theorem dX2_closers_5 : decode cX2_closers 5 = .ok (.if_icmp .ne 5, 3) := by decide +kernel
theorem dX2_closers_8 : decode cX2_closers 8 = .ok (.iconst 0, 1) := by decide +kernel
theorem dX2_closers_9 : decode cX2_closers 9 = .ok (.ireturn, 1) := by decide +kernel
theorem dX2_closers_10 : decode cX2_closers 10 = .ok (.iconst 0, 1) := by decide +kernel
theorem dX2_closers_11 : decode cX2_closers 11 = .ok (.istore_n 3, 1) := by decide +kernel
theorem dX2_closers_12 : decode cX2_closers 12 = .ok (.iconst 0, 1) := by decide +kernel
theorem dX2_closers_13 : decode cX2_closers 13 = .ok (.istore 4, 2) := by decide +kernel
theorem dX2_closers_15 : decode cX2_closers 15 = .ok (.iload 4, 2) := by decide +kernel
theorem dX2_closers_17 : decode cX2_closers 17 = .ok (.aload_n 0, 1) := by decide +kernel
theorem dX2_closers_18 : decode cX2_closers 18 = .ok (.getfield 73, 3) := by decide +kernel
theorem dX2_closers_21 : decode cX2_closers 21 = .ok (.if_icmp .ge 26, 3) := by decide +kernel
theorem dX2_closers_24 : decode cX2_closers 24 = .ok (.iload_n 3, 1) := by decide +kernel
theorem dX2_closers_25 : decode cX2_closers 25 = .ok (.iconst 1, 1) := by decide +kernel
theorem dX2_closers_26 : decode cX2_closers 26 = .ok (.aload_n 0, 1) := by decide +kernel
theorem dX2_closers_27 : decode cX2_closers 27 = .ok (.getfield 18, 3) := by decide +kernel
theorem dX2_closers_30 : decode cX2_closers 30 = .ok (.iload 4, 2) := by decide +kernel
theorem dX2_closers_32 : decode cX2_closers 32 = .ok (.bipush 14, 2) := by decide +kernel
theorem dX2_closers_34 : decode cX2_closers 34 = .ok (.imul, 1) := by decide +kernel
theorem dX2_closers_35 : decode cX2_closers 35 = .ok (.iload_n 2, 1) := by decide +kernel
theorem dX2_closers_36 : decode cX2_closers 36 = .ok (.iadd, 1) := by decide +kernel
theorem dX2_closers_37 : decode cX2_closers 37 = .ok (.iaload, 1) := by decide +kernel
theorem dX2_closers_38 : decode cX2_closers 38 = .ok (.ishl, 1) := by decide +kernel
theorem dX2_closers_39 : decode cX2_closers 39 = .ok (.ior, 1) := by decide +kernel
theorem dX2_closers_40 : decode cX2_closers 40 = .ok (.istore_n 3, 1) := by decide +kernel
theorem dX2_closers_41 : decode cX2_closers 41 = .ok (.iinc 4 1, 3) := by decide +kernel
theorem dX2_closers_44 : decode cX2_closers 44 = .ok (.goto (-29), 3) := by decide +kernel
theorem dX2_closers_47 : decode cX2_closers 47 = .ok (.iload_n 3, 1) := by decide +kernel
theorem dX2_closers_48 : decode cX2_closers 48 = .ok (.ireturn, 1) := by decide +kernel
set_option maxRecDepth 20000 in
theorem ggX2_join_X2_setEnd : GoodIn wsX2_join wsX2_setEnd := goodIn_r _ [7, 2, 8, 9, 10, 11, 12, 13, 14, 15] (by decide +kernel) (by decide +kernel)
set_option maxRecDepth 20000 in
theorem gX2_join_X2_setEnd : GoodIn wsX2_join (wsV RX2 99 RX2 yX2_setEnd wsX2_setEnd) := goodIn_app (goodIn_of _ (by decide +kernel)) ggX2_join_X2_setEnd
theorem dX2_join_0 : decode cX2_join 0 = .ok (.iconst 0, 1) := by decide +kernel
theorem dX2_join_1 : decode cX2_join 1 = .ok (.istore_n 3, 1) := by decide +kernel
theorem dX2_join_2 : decode cX2_join 2 = .ok (.iload_n 3, 1) := by decide +kernel
theorem dX2_join_3 : decode cX2_join 3 = .ok (.aload_n 0, 1) := by decide +kernel
theorem dX2_join_4 : decode cX2_join 4 = .ok (.getfield 73, 3) := by decide +kernel
theorem dX2_join_7 : decode cX2_join 7 = .ok (.if_icmp .ge 57, 3) := by decide +kernel
theorem dX2_join_10 : decode cX2_join 10 = .ok (.iload_n 3, 1) := by decide +kernel
theorem dX2_join_11 : decode cX2_join 11 = .ok (.bipush 14, 2) := by decide +kernel
theorem dX2_join_13 : decode cX2_join 13 = .ok (.imul, 1) := by decide +kernel
theorem dX2_join_14 : decode cX2_join 14 = .ok (.istore 4, 2) := by decide +kernel
theorem dX2_join_16 : decode cX2_join 16 = .ok (.aload_n 0, 1) := by decide +kernel
theorem dX2_join_17 : decode cX2_join 17 = .ok (.getfield 18, 3) := by decide +kernel
theorem dX2_join_20 : decode cX2_join 20 = .ok (.iload 4, 2) := by decide +kernel
theorem dX2_join_22 : decode cX2_join 22 = .ok (.iload_n 1, 1) := by decide +kernel
theorem dX2_join_23 : decode cX2_join 23 = .ok (.iadd, 1) := by decide +kernel
theorem dX2_join_24 : decode cX2_join 24 = .ok (.iaload, 1) := by decide +kernel
theorem dX2_join_25 : decode cX2_join 25 = .ok (.istore 5, 2) := by decide +kernel
theorem dX2_join_27 : decode cX2_join 27 = .ok (.aload_n 0, 1) := by decide +kernel
theorem dX2_join_28 : decode cX2_join 28 = .ok (.getfield 18, 3) := by decide +kernel
theorem dX2_join_31 : decode cX2_join 31 = .ok (.iload 4, 2) := by decide +kernel
theorem dX2_join_33 : decode cX2_join 33 = .ok (.iload_n 2, 1) := by decide +kernel
theorem dX2_join_34 : decode cX2_join 34 = .ok (.iadd, 1) := by decide +kernel
theorem dX2_join_35 : decode cX2_join 35 = .ok (.iaload, 1) := by decide +kernel
theorem dX2_join_36 : decode cX2_join 36 = .ok (.istore 6, 2) := by decide +kernel
theorem dX2_join_38 : decode cX2_join 38 = .ok (.aload_n 0, 1) := by decide +kernel
theorem dX2_join_39 : decode cX2_join 39 = .ok (.iload 4, 2) := by decide +kernel
theorem dX2_join_41 : decode cX2_join 41 = .ok (.iload 5, 2) := by decide +kernel
theorem dX2_join_43 : decode cX2_join 43 = .ok (.iload 6, 2) := by decide +kernel
theorem dX2_join_45 : decode cX2_join 45 = .ok (.invokevirtual 99, 3) := by decide +kernel
theorem dX2_join_48 : decode cX2_join 48 = .ok (.aload_n 0, 1) := by decide +kernel
theorem dX2_join_49 : decode cX2_join 49 = .ok (.iload 4, 2) := by decide +kernel
theorem dX2_join_51 : decode cX2_join 51 = .ok (.iload 6, 2) := by decide +kernel
theorem dX2_join_53 : decode cX2_join 53 = .ok (.iload 5, 2) := by decide +kernel
theorem dX2_join_55 : decode cX2_join 55 = .ok (.invokevirtual 99, 3) := by decide +kernel
theorem dX2_join_58 : decode cX2_join 58 = .ok (.iinc 3 1, 3) := by decide +kernel
theorem dX2_join_61 : decode cX2_join 61 = .ok (.goto (-59), 3) := by decide +kernel
theorem dX2_join_64 : decode cX2_join 64 = .ok (.return_, 1) := by decide +kernel
set_option maxRecDepth 20000 in
theorem ggX2_part_X2_setEnd : GoodIn wsX2_part wsX2_setEnd := goodIn_r _ [7, 2, 8, 9, 10, 11, 12, 13, 14, 15] (by decide +kernel) (by decide +kernel)
set_option maxRecDepth 20000 in
theorem gX2_part_X2_setEnd : GoodIn wsX2_part (wsV RX2 99 RX2 yX2_setEnd wsX2_setEnd) := goodIn_app (goodIn_of _ (by decide +kernel)) ggX2_part_X2_setEnd
theorem dX2_part_0 : decode cX2_part 0 = .ok (.iconst 0, 1) := by decide +kernel
theorem dX2_part_1 : decode cX2_part 1 = .ok (.istore_n 3, 1) := by decide +kernel
theorem dX2_part_2 : decode cX2_part 2 = .ok (.iload_n 3, 1) := by decide +kernel
theorem dX2_part_3 : decode cX2_part 3 = .ok (.aload_n 0, 1) := by decide +kernel
theorem dX2_part_4 : decode cX2_part 4 = .ok (.getfield 73, 3) := by decide +kernel
theorem dX2_part_7 : decode cX2_part 7 = .ok (.if_icmp .ge 47, 3) := by decide +kernel
theorem dX2_part_10 : decode cX2_part 10 = .ok (.iload_n 3, 1) := by decide +kernel
theorem dX2_part_11 : decode cX2_part 11 = .ok (.bipush 14, 2) := by decide +kernel
theorem dX2_part_13 : decode cX2_part 13 = .ok (.imul, 1) := by decide +kernel
theorem dX2_part_14 : decode cX2_part 14 = .ok (.istore 4, 2) := by decide +kernel
theorem dX2_part_16 : decode cX2_part 16 = .ok (.aload_n 0, 1) := by decide +kernel
theorem dX2_part_17 : decode cX2_part 17 = .ok (.iload 4, 2) := by decide +kernel
theorem dX2_part_19 : decode cX2_part 19 = .ok (.aload_n 0, 1) := by decide +kernel
theorem dX2_part_20 : decode cX2_part 20 = .ok (.getfield 18, 3) := by decide +kernel
theorem dX2_part_23 : decode cX2_part 23 = .ok (.iload 4, 2) := by decide +kernel
theorem dX2_part_25 : decode cX2_part 25 = .ok (.iload_n 1, 1) := by decide +kernel
theorem dX2_part_26 : decode cX2_part 26 = .ok (.iadd, 1) := by decide +kernel
theorem dX2_part_27 : decode cX2_part 27 = .ok (.iaload, 1) := by decide +kernel
theorem dX2_part_28 : decode cX2_part 28 = .ok (.iload_n 1, 1) := by decide +kernel
theorem dX2_part_29 : decode cX2_part 29 = .ok (.invokevirtual 99, 3) := by decide +kernel
theorem dX2_part_32 : decode cX2_part 32 = .ok (.aload_n 0, 1) := by decide +kernel
theorem dX2_part_33 : decode cX2_part 33 = .ok (.iload 4, 2) := by decide +kernel
theorem dX2_part_35 : decode cX2_part 35 = .ok (.aload_n 0, 1) := by decide +kernel
theorem dX2_part_36 : decode cX2_part 36 = .ok (.getfield 18, 3) := by decide +kernel
theorem dX2_part_39 : decode cX2_part 39 = .ok (.iload 4, 2) := by decide +kernel
theorem dX2_part_41 : decode cX2_part 41 = .ok (.iload_n 2, 1) := by decide +kernel
theorem dX2_part_42 : decode cX2_part 42 = .ok (.iadd, 1) := by decide +kernel
theorem dX2_part_43 : decode cX2_part 43 = .ok (.iaload, 1) := by decide +kernel
theorem dX2_part_44 : decode cX2_part 44 = .ok (.iload_n 2, 1) := by decide +kernel
theorem dX2_part_45 : decode cX2_part 45 = .ok (.invokevirtual 99, 3) := by decide +kernel
theorem dX2_part_48 : decode cX2_part 48 = .ok (.iinc 3 1, 3) := by decide +kernel
theorem dX2_part_51 : decode cX2_part 51 = .ok (.goto (-49), 3) := by decide +kernel
theorem dX2_part_54 : decode cX2_part 54 = .ok (.return_, 1) := by decide +kernel
theorem dX2_setEnd_0 : decode cX2_setEnd 0 = .ok (.iload_n 2, 1) := by decide +kernel
theorem dX2_setEnd_1 : decode cX2_setEnd 1 = .ok (.ifCond .lt 18, 3) := by decide +kernel
theorem dX2_setEnd_4 : decode cX2_setEnd 4 = .ok (.iload_n 2, 1) := by decide +kernel
theorem dX2_setEnd_5 : decode cX2_setEnd 5 = .ok (.bipush 14, 2) := by decide +kernel
theorem dX2_setEnd_7 : decode cX2_setEnd 7 = .ok (.if_icmp .ge 12, 3) := by decide +kernel
theorem dX2_setEnd_10 : decode cX2_setEnd 10 = .ok (.aload_n 0, 1) := by decide +kernel
theorem dX2_setEnd_11 : decode cX2_setEnd 11 = .ok (.getfield 18, 3) := by decide +kernel
theorem dX2_setEnd_14 : decode cX2_setEnd 14 = .ok (.iload_n 1, 1) := by decide +kernel
theorem dX2_setEnd_15 : decode cX2_setEnd 15 = .ok (.iload_n 2, 1) := by decide +kernel
theorem dX2_setEnd_16 : decode cX2_setEnd 16 = .ok (.iadd, 1) := by decide +kernel
theorem dX2_setEnd_17 : decode cX2_setEnd 17 = .ok (.iload_n 3, 1) := by decide +kernel
theorem dX2_setEnd_18 : decode cX2_setEnd 18 = .ok (.iastore, 1) := by decide +kernel
theorem dX2_setEnd_19 : decode cX2_setEnd 19 = .ok (.return_, 1) := by decide +kernel
theorem dX3_init_0 : decode cX3_init 0 = .ok (.aload_n 0, 1) := by decide +kernel
theorem dX3_init_1 : decode cX3_init 1 = .ok (.invokespecial 3, 3) := by decide +kernel
theorem dX3_init_4 : decode cX3_init 4 = .ok (.aload_n 0, 1) := by decide +kernel
theorem dX3_init_5 : decode cX3_init 5 = .ok (.sipush 182, 3) := by decide +kernel
theorem dX3_init_8 : decode cX3_init 8 = .ok (.newarray .int, 2) := by decide +kernel
theorem dX3_init_10 : decode cX3_init 10 = .ok (.putfield 9, 3) := by decide +kernel
theorem dX3_init_13 : decode cX3_init 13 = .ok (.return_, 1) := by decide +kernel
theorem dX3_clear_0 : decode cX3_clear 0 = .ok (.aload_n 0, 1) := by decide +kernel
theorem dX3_clear_1 : decode cX3_clear 1 = .ok (.iload_n 1, 1) := by decide +kernel
theorem dX3_clear_2 : decode cX3_clear 2 = .ok (.putfield 15, 3) := by decide +kernel
theorem dX3_clear_5 : decode cX3_clear 5 = .ok (.aload_n 0, 1) := by decide +kernel
theorem dX3_clear_6 : decode cX3_clear 6 = .ok (.iconst 0, 1) := by decide +kernel
theorem dX3_clear_7 : decode cX3_clear 7 = .ok (.putfield 19, 3) := by decide +kernel
theorem dX3_clear_10 : decode cX3_clear 10 = .ok (.return_, 1) := by decide +kernel
theorem dX3_copy_0 : decode cX3_copy 0 = .ok (.aload_n 0, 1) := by decide +kernel
theorem dX3_copy_1 : decode cX3_copy 1 = .ok (.aload_n 1, 1) := by decide +kernel
theorem dX3_copy_2 : decode cX3_copy 2 = .ok (.getfield 15, 3) := by decide +kernel
theorem dX3_copy_5 : decode cX3_copy 5 = .ok (.putfield 15, 3) := by decide +kernel
theorem dX3_copy_8 : decode cX3_copy 8 = .ok (.aload_n 0, 1) := by decide +kernel
theorem dX3_copy_9 : decode cX3_copy 9 = .ok (.aload_n 1, 1) := by decide +kernel
theorem dX3_copy_10 : decode cX3_copy 10 = .ok (.getfield 19, 3) := by decide +kernel
theorem dX3_copy_13 : decode cX3_copy 13 = .ok (.putfield 19, 3) := by decide +kernel
theorem dX3_copy_16 : decode cX3_copy 16 = .ok (.aload_n 1, 1) := by decide +kernel
theorem dX3_copy_17 : decode cX3_copy 17 = .ok (.getfield 9, 3) := by decide +kernel
theorem dX3_copy_20 : decode cX3_copy 20 = .ok (.iconst 0, 1) := by decide +kernel
theorem dX3_copy_21 : decode cX3_copy 21 = .ok (.aload_n 0, 1) := by decide +kernel
theorem dX3_copy_22 : decode cX3_copy 22 = .ok (.getfield 9, 3) := by decide +kernel
theorem dX3_copy_25 : decode cX3_copy 25 = .ok (.iconst 0, 1) := by decide +kernel
theorem dX3_copy_26 : decode cX3_copy 26 = .ok (.aload_n 0, 1) := by decide +kernel
theorem dX3_copy_27 : decode cX3_copy 27 = .ok (.getfield 9, 3) := by decide +kernel
theorem dX3_copy_30 : decode cX3_copy 30 = .ok (.arraylength, 1) := by decide +kernel
theorem dX3_copy_31 : decode cX3_copy 31 = .ok (.invokestatic 22, 3) := by decide +kernel
theorem dX3_copy_34 : decode cX3_copy 34 = .ok (.return_, 1) := by decide +kernel
theorem dX3_hasTeam_0 : decode cX3_hasTeam 0 = .ok (.iload_n 1, 1) := by decide +kernel
theorem dX3_hasTeam_1 : decode cX3_hasTeam 1 = .ok (.ifCond .lt 15, 3) := by decide +kernel
theorem dX3_hasTeam_4 : decode cX3_hasTeam 4 = .ok (.iload_n 1, 1) := by decide +kernel
theorem dX3_hasTeam_5 : decode cX3_hasTeam 5 = .ok (.aload_n 0, 1) := by decide +kernel
theorem dX3_hasTeam_6 : decode cX3_hasTeam 6 = .ok (.getfield 15, 3) := by decide +kernel
theorem dX3_hasTeam_9 : decode cX3_hasTeam 9 = .ok (.if_icmp .ge 7, 3) := by decide +kernel
theorem dX3_hasTeam_12 : decode cX3_hasTeam 12 = .ok (.iconst 1, 1) := by decide +kernel
theorem dX3_hasTeam_13 : decode cX3_hasTeam 13 = .ok (.goto 4, 3) := by decide +kernel
theorem dX3_hasTeam_16 : decode cX3_hasTeam 16 = .ok (.iconst 0, 1) := by decide +kernel
theorem dX3_hasTeam_17 : decode cX3_hasTeam 17 = .ok (.ireturn, 1) := by decide +kernel
theorem dX3_hasTwoTeams_0 : decode cX3_hasTwoTeams 0 = .ok (.iload_n 1, 1) := by decide +kernel
theorem dX3_hasTwoTeams_1 : decode cX3_hasTwoTeams 1 = .ok (.iload_n 2, 1) := by decide +kernel
theorem dX3_hasTwoTeams_2 : decode cX3_hasTwoTeams 2 = .ok (.if_icmp .eq 31, 3) := by decide +kernel
theorem dX3_hasTwoTeams_5 : decode cX3_hasTwoTeams 5 = .ok (.iload_n 1, 1) := by decide +kernel
theorem dX3_hasTwoTeams_6 : decode cX3_hasTwoTeams 6 = .ok (.ifCond .lt 27, 3) := by decide +kernel
theorem dX3_hasTwoTeams_9 : decode cX3_hasTwoTeams 9 = .ok (.iload_n 1, 1) := by decide +kernel
theorem dX3_hasTwoTeams_10 : decode cX3_hasTwoTeams 10 = .ok (.aload_n 0, 1) := by decide +kernel
theorem dX3_hasTwoTeams_11 : decode cX3_hasTwoTeams 11 = .ok (.getfield 15, 3) := by decide +kernel
theorem dX3_hasTwoTeams_14 : decode cX3_hasTwoTeams 14 = .ok (.if_icmp .ge 19, 3) := by decide +kernel
theorem dX3_hasTwoTeams_17 : decode cX3_hasTwoTeams 17 = .ok (.iload_n 2, 1) := by decide +kernel
theorem dX3_hasTwoTeams_18 : decode cX3_hasTwoTeams 18 = .ok (.ifCond .lt 15, 3) := by decide +kernel
theorem dX3_hasTwoTeams_21 : decode cX3_hasTwoTeams 21 = .ok (.iload_n 2, 1) := by decide +kernel
theorem dX3_hasTwoTeams_22 : decode cX3_hasTwoTeams 22 = .ok (.aload_n 0, 1) := by decide +kernel
theorem dX3_hasTwoTeams_23 : decode cX3_hasTwoTeams 23 = .ok (.getfield 15, 3) := by decide +kernel
theorem dX3_hasTwoTeams_26 : decode cX3_hasTwoTeams 26 = .ok (.if_icmp .ge 7, 3) := by decide +kernel
theorem dX3_hasTwoTeams_29 : decode cX3_hasTwoTeams 29 = .ok (.iconst 1, 1) := by decide +kernel
theorem dX3_hasTwoTeams_30 : decode cX3_hasTwoTeams 30 = .ok (.goto 4, 3) := by decide +kernel
theorem dX3_hasTwoTeams_33 : decode cX3_hasTwoTeams 33 = .ok (.iconst 0, 1) := by decide +kernel
theorem dX3_hasTwoTeams_34 : decode cX3_hasTwoTeams 34 = .ok (.ireturn, 1) := by decide +kernel
theorem dX3_hasDay_0 : decode cX3_hasDay 0 = .ok (.iload_n 1, 1) := by decide +kernel
theorem dX3_hasDay_1 : decode cX3_hasDay 1 = .ok (.ifCond .lt 15, 3) := by decide +kernel
theorem dX3_hasDay_4 : decode cX3_hasDay 4 = .ok (.iload_n 1, 1) := by decide +kernel
theorem dX3_hasDay_5 : decode cX3_hasDay 5 = .ok (.aload_n 0, 1) := by decide +kernel
theorem dX3_hasDay_6 : decode cX3_hasDay 6 = .ok (.getfield 19, 3) := by decide +kernel
theorem dX3_hasDay_9 : decode cX3_hasDay 9 = .ok (.if_icmp .ge 7, 3) := by decide +kernel
theorem dX3_hasDay_12 : decode cX3_hasDay 12 = .ok (.iconst 1, 1) := by decide +kernel
theorem dX3_hasDay_13 : decode cX3_hasDay 13 = .ok (.goto 4, 3) := by decide +kernel
theorem dX3_hasDay_16 : decode cX3_hasDay 16 = .ok (.iconst 0, 1) := by decide +kernel
theorem dX3_hasDay_17 : decode cX3_hasDay 17 = .ok (.ireturn, 1) := by decide +kernel
theorem dX3_hasTwoDays_0 : decode cX3_hasTwoDays 0 = .ok (.iload_n 1, 1) := by decide +kernel
theorem dX3_hasTwoDays_1 : decode cX3_hasTwoDays 1 = .ok (.iload_n 2, 1) := by decide +kernel
theorem dX3_hasTwoDays_2 : decode cX3_hasTwoDays 2 = .ok (.if_icmp .eq 31, 3) := by decide +kernel
theorem dX3_hasTwoDays_5 : decode cX3_hasTwoDays 5 = .ok (.iload_n 1, 1) := by decide +kernel
theorem dX3_hasTwoDays_6 : decode cX3_hasTwoDays 6 = .ok (.ifCond .lt 27, 3) := by decide +kernel
theorem dX3_hasTwoDays_9 : decode cX3_hasTwoDays 9 = .ok (.iload_n 1, 1) := by decide +kernel
theorem dX3_hasTwoDays_10 : decode cX3_hasTwoDays 10 = .ok (.aload_n 0, 1) := by decide +kernel
theorem dX3_hasTwoDays_11 : decode cX3_hasTwoDays 11 = .ok (.getfield 19, 3) := by decide +kernel
theorem dX3_hasTwoDays_14 : decode cX3_hasTwoDays 14 = .ok (.if_icmp .ge 19, 3) := by decide +kernel
theorem dX3_hasTwoDays_17 : decode cX3_hasTwoDays 17 = .ok (.iload_n 2, 1) := by decide +kernel
theorem dX3_hasTwoDays_18 : decode cX3_hasTwoDays 18 = .ok (.ifCond .lt 15, 3) := by decide +kernel
theorem dX3_hasTwoDays_21 : decode cX3_hasTwoDays 21 = .ok (.iload_n 2, 1) := by decide +kernel
theorem dX3_hasTwoDays_22 : decode cX3_hasTwoDays 22 = .ok (.aload_n 0, 1) := by decide +kernel
theorem dX3_hasTwoDays_23 : decode cX3_hasTwoDays 23 = .ok (.getfield 19, 3) := by decide +kernel
theorem dX3_hasTwoDays_26 : decode cX3_hasTwoDays 26 = .ok (.if_icmp .ge 7, 3) := by decide +kernel
theorem dX3_hasTwoDays_29 : decode cX3_hasTwoDays 29 = .ok (.iconst 1, 1) := by decide +kernel
theorem dX3_hasTwoDays_30 : decode cX3_hasTwoDays 30 = .ok (.goto 4, 3) := by decide +kernel
theorem dX3_hasTwoDays_33 : decode cX3_hasTwoDays 33 = .ok (.iconst 0, 1) := by decide +kernel
theorem dX3_hasTwoDays_34 : decode cX3_hasTwoDays 34 = .ok (.ireturn, 1) := by decide +kernel
theorem dX3_partner_0 : decode cX3_partner 0 = .ok (.iload_n 1, 1) := by decide +kernel
theorem dX3_partner_1 : decode cX3_partner 1 = .ok (.ifCond .lt 23, 3) := by decide +kernel
theorem dX3_partner_4 : decode cX3_partner 4 = .ok (.iload_n 1, 1) := by decide +kernel
theorem dX3_partner_5 : decode cX3_partner 5 = .ok (.aload_n 0, 1) := by decide +kernel
theorem dX3_partner_6 : decode cX3_partner 6 = .ok (.getfield 19, 3) := by decide +kernel
theorem dX3_partner_9 : decode cX3_partner 9 = .ok (.if_icmp .ge 15, 3) := by decide +kernel
theorem dX3_partner_12 : decode cX3_partner 12 = .ok (.iload_n 2, 1) := by decide +kernel
theorem dX3_partner_13 : decode cX3_partner 13 = .ok (.ifCond .lt 11, 3) := by decide +kernel
theorem dX3_partner_16 : decode cX3_partner 16 = .ok (.iload_n 2, 1) := by decide +kernel
theorem dX3_partner_17 : decode cX3_partner 17 = .ok (.aload_n 0, 1) := by decide +kernel
theorem dX3_partner_18 : decode cX3_partner 18 = .ok (.getfield 15, 3) := by decide +kernel
theorem dX3_partner_21 : decode cX3_partner 21 = .ok (.if_icmp .lt 5, 3) := by decide +kernel
theorem dX3_partner_24 : decode cX3_partner 24 = .ok (.iconst (-1), 1) := by decide +kernel
theorem dX3_partner_25 : decode cX3_partner 25 = .ok (.ireturn, 1) := by decide +kernel
theorem dX3_partner_26 : decode cX3_partner 26 = .ok (.aload_n 0, 1) := by decide +kernel
theorem dX3_partner_27 : decode cX3_partner 27 = .ok (.getfield 9, 3) := by decide +kernel
theorem dX3_partner_30 : decode cX3_partner 30 = .ok (.iload_n 1, 1) := by decide +kernel
theorem dX3_partner_31 : decode cX3_partner 31 = .ok (.bipush 14, 2) := by decide +kernel
theorem dX3_partner_33 : decode cX3_partner 33 = .ok (.imul, 1) := by decide +kernel
theorem dX3_partner_34 : decode cX3_partner 34 = .ok (.iload_n 2, 1) := by decide +kernel
theorem dX3_partner_35 : decode cX3_partner 35 = .ok (.iadd, 1) := by decide +kernel
theorem dX3_partner_36 : decode cX3_partner 36 = .ok (.iaload, 1) := by decide +kernel
theorem dX3_partner_37 : decode cX3_partner 37 = .ok (.ireturn, 1) := by decide +kernel
set_option maxRecDepth 20000 in
theorem ggX3_dayOf_X3_hasTwoTeams : GoodIn wsX3_dayOf wsX3_hasTwoTeams := goodIn_r _ [7, 8, 9, 10, 11] (by decide +kernel) (by decide +kernel)
set_option maxRecDepth 20000 in
theorem gX3_dayOf_X3_hasTwoTeams : GoodIn wsX3_dayOf (wsV RX3 28 RX3 yX3_hasTwoTeams wsX3_hasTwoTeams) := goodIn_app (goodIn_of _ (by decide +kernel)) ggX3_dayOf_X3_hasTwoTeams
theorem dX3_dayOf_0 : decode cX3_dayOf 0 = .ok (.aload_n 0, 1) := by decide +kernel
theorem dX3_dayOf_1 : decode cX3_dayOf 1 = .ok (.iload_n 1, 1) := by decide +kernel
theorem dX3_dayOf_2 : decode cX3_dayOf 2 = .ok (.iload_n 2, 1) := by decide +kernel
theorem dX3_dayOf_3 : decode cX3_dayOf 3 = .ok (.invokevirtual 28, 3) := by decide +kernel
theorem dX3_dayOf_6 : decode cX3_dayOf 6 = .ok (.ifCond .ne 5, 3) := by decide +kernel
theorem dX3_dayOf_9 : decode cX3_dayOf 9 = .ok (.iconst (-1), 1) := by decide +kernel
theorem dX3_dayOf_10 : decode cX3_dayOf 10 = .ok (.ireturn, 1) := by decide +kernel
theorem dX3_dayOf_11 : decode cX3_dayOf 11 = .ok (.iconst 0, 1) := by decide +kernel
theorem dX3_dayOf_12 : decode cX3_dayOf 12 = .ok (.istore_n 3, 1) := by decide +kernel
theorem dX3_dayOf_13 : decode cX3_dayOf 13 = .ok (.iload_n 3, 1) := by decide +kernel
theorem dX3_dayOf_14 : decode cX3_dayOf 14 = .ok (.aload_n 0, 1) := by decide +kernel
theorem dX3_dayOf_15 : decode cX3_dayOf 15 = .ok (.getfield 19, 3) := by decide +kernel
theorem dX3_dayOf_18 : decode cX3_dayOf 18 = .ok (.if_icmp .ge 26, 3) := by decide +kernel
theorem dX3_dayOf_21 : decode cX3_dayOf 21 = .ok (.aload_n 0, 1) := by decide +kernel
theorem dX3_dayOf_22 : decode cX3_dayOf 22 = .ok (.getfield 9, 3) := by decide +kernel
theorem dX3_dayOf_25 : decode cX3_dayOf 25 = .ok (.iload_n 3, 1) := by decide +kernel
theorem dX3_dayOf_26 : decode cX3_dayOf 26 = .ok (.bipush 14, 2) := by decide +kernel
theorem dX3_dayOf_28 : decode cX3_dayOf 28 = .ok (.imul, 1) := by decide +kernel
theorem dX3_dayOf_29 : decode cX3_dayOf 29 = .ok (.iload_n 1, 1) := by decide +kernel
theorem dX3_dayOf_30 : decode cX3_dayOf 30 = .ok (.iadd, 1) := by decide +kernel
theorem dX3_dayOf_31 : decode cX3_dayOf 31 = .ok (.iaload, 1) := by decide +kernel
theorem dX3_dayOf_32 : decode cX3_dayOf 32 = .ok (.iload_n 2, 1) := by decide +kernel
theorem dX3_dayOf_33 : decode cX3_dayOf 33 = .ok (.if_icmp .ne 5, 3) := by decide +kernel
theorem dX3_dayOf_36 : decode cX3_dayOf 36 = .ok (.iload_n 3, 1) := by decide +kernel
theorem dX3_dayOf_37 : decode cX3_dayOf 37 = .ok (.ireturn, 1) := by decide +kernel
theorem dX3_dayOf_38 : decode cX3_dayOf 38 = .ok (.iinc 3 1, 3) := by decide +kernel
theorem dX3_dayOf_41 : decode cX3_dayOf 41 = .ok (.goto (-28), 3) := by decide +kernel
theorem dX3_dayOf_44 : decode cX3_dayOf 44 = .ok (.iconst (-1), 1) := by decide +kernel
theorem dX3_dayOf_45 : decode cX3_dayOf 45 = .ok (.ireturn, 1) := by decide +kernel
set_option maxRecDepth 20000 in
theorem ggX3_circleOf_X3_partner : GoodIn wsX3_circleOf wsX3_partner := goodIn_r _ [5, 6, 7, 8, 9, 10, 11] (by decide +kernel) (by decide +kernel)
set_option maxRecDepth 20000 in
theorem gX3_circleOf_X3_partner : GoodIn wsX3_circleOf (wsV RX3 32 RX3 yX3_partner wsX3_partner) := goodIn_app (goodIn_of _ (by decide +kernel)) ggX3_circleOf_X3_partner
theorem dX3_circleOf_0 : decode cX3_circleOf 0 = .ok (.iconst 0, 1) := by decide +kernel
theorem dX3_circleOf_1 : decode cX3_circleOf 1 = .ok (.istore 4, 2) := by decide +kernel
theorem dX3_circleOf_3 : decode cX3_circleOf 3 = .ok (.iload_n 3, 1) := by decide +kernel
theorem dX3_circleOf_4 : decode cX3_circleOf 4 = .ok (.istore 5, 2) := by decide +kernel
theorem dX3_circleOf_6 : decode cX3_circleOf 6 = .ok (.iconst 0, 1) := by decide +kernel
theorem dX3_circleOf_7 : decode cX3_circleOf 7 = .ok (.istore 6, 2) := by decide +kernel
theorem dX3_circleOf_9 : decode cX3_circleOf 9 = .ok (.iload 6, 2) := by decide +kernel
theorem dX3_circleOf_11 : decode cX3_circleOf 11 = .ok (.bipush 14, 2) := by decide +kernel
theorem dX3_circleOf_13 : decode cX3_circleOf 13 = .ok (.if_icmp .ge 51, 3) := by decide +kernel
theorem dX3_circleOf_16 : decode cX3_circleOf 16 = .ok (.iload 4, 2) := by decide +kernel
theorem dX3_circleOf_18 : decode cX3_circleOf 18 = .ok (.iload 5, 2) := by decide +kernel
theorem dX3_circleOf_20 : decode cX3_circleOf 20 = .ok (.ishr, 1) := by decide +kernel
theorem dX3_circleOf_21 : decode cX3_circleOf 21 = .ok (.iconst 1, 1) := by decide +kernel
theorem dX3_circleOf_22 : decode cX3_circleOf 22 = .ok (.iand, 1) := by decide +kernel
theorem dX3_circleOf_23 : decode cX3_circleOf 23 = .ok (.ifCond .ne 41, 3) := by decide +kernel
theorem dX3_circleOf_26 : decode cX3_circleOf 26 = .ok (.aload_n 0, 1) := by decide +kernel
theorem dX3_circleOf_27 : decode cX3_circleOf 27 = .ok (.iload_n 1, 1) := by decide +kernel
theorem dX3_circleOf_28 : decode cX3_circleOf 28 = .ok (.iload 5, 2) := by decide +kernel
theorem dX3_circleOf_30 : decode cX3_circleOf 30 = .ok (.invokevirtual 32, 3) := by decide +kernel
theorem dX3_circleOf_33 : decode cX3_circleOf 33 = .ok (.istore 7, 2) := by decide +kernel
theorem dX3_circleOf_35 : decode cX3_circleOf 35 = .ok (.iload 4, 2) := by decide +kernel
theorem dX3_circleOf_37 : decode cX3_circleOf 37 = .ok (.iconst 1, 1) := by decide +kernel
theorem dX3_circleOf_38 : decode cX3_circleOf 38 = .ok (.iload 5, 2) := by decide +kernel
theorem dX3_circleOf_40 : decode cX3_circleOf 40 = .ok (.ishl, 1) := by decide +kernel
theorem dX3_circleOf_41 : decode cX3_circleOf 41 = .ok (.iconst 1, 1) := by decide +kernel
theorem dX3_circleOf_42 : decode cX3_circleOf 42 = .ok (.iload 7, 2) := by decide +kernel
theorem dX3_circleOf_44 : decode cX3_circleOf 44 = .ok (.ishl, 1) := by decide +kernel
theorem dX3_circleOf_45 : decode cX3_circleOf 45 = .ok (.ior, 1) := by decide +kernel
theorem dX3_circleOf_46 : decode cX3_circleOf 46 = .ok (.ior, 1) := by decide +kernel
theorem dX3_circleOf_47 : decode cX3_circleOf 47 = .ok (.istore 4, 2) := by decide +kernel
theorem dX3_circleOf_49 : decode cX3_circleOf 49 = .ok (.aload_n 0, 1) := by decide +kernel
theorem dX3_circleOf_50 : decode cX3_circleOf 50 = .ok (.iload_n 2, 1) := by decide +kernel
theorem dX3_circleOf_51 : decode cX3_circleOf 51 = .ok (.iload 7, 2) := by decide +kernel
theorem dX3_circleOf_53 : decode cX3_circleOf 53 = .ok (.invokevirtual 32, 3) := by decide +kernel
theorem dX3_circleOf_56 : decode cX3_circleOf 56 = .ok (.istore 5, 2) := by decide +kernel
theorem dX3_circleOf_58 : decode cX3_circleOf 58 = .ok (.iinc 6 1, 3) := by decide +kernel
theorem dX3_circleOf_61 : decode cX3_circleOf 61 = .ok (.goto (-52), 3) := by decide +kernel
theorem dX3_circleOf_64 : decode cX3_circleOf 64 = .ok (.iload 4, 2) := by decide +kernel
theorem dX3_circleOf_66 : decode cX3_circleOf 66 = .ok (.ireturn, 1) := by decide +kernel
set_option maxRecDepth 20000 in
theorem ggX3_circles_X3_circleOf : GoodIn wsX3_circles wsX3_circleOf := goodIn_r _ [6, 7, 8, 9, 5, 10, 11, 1, 12, 13, 14, 15] (by decide +kernel) (by decide +kernel)
set_option maxRecDepth 20000 in
theorem gX3_circles_X3_circleOf : GoodIn wsX3_circles (wsV RX3 36 RX3 yX3_circleOf wsX3_circleOf) := goodIn_app (goodIn_of _ (by decide +kernel)) ggX3_circles_X3_circleOf
theorem dX3_circles_0 : decode cX3_circles 0 = .ok (.iconst 0, 1) := by decide +kernel
theorem dX3_circles_1 : decode cX3_circles 1 = .ok (.istore_n 3, 1) := by decide +kernel
theorem dX3_circles_2 : decode cX3_circles 2 = .ok (.iconst 0, 1) := by decide +kernel
theorem dX3_circles_3 : decode cX3_circles 3 = .ok (.istore 4, 2) := by decide +kernel
theorem dX3_circles_5 : decode cX3_circles 5 = .ok (.iconst 0, 1) := by decide +kernel
theorem dX3_circles_6 : decode cX3_circles 6 = .ok (.istore 5, 2) := by decide +kernel
theorem dX3_circles_8 : decode cX3_circles 8 = .ok (.iload 5, 2) := by decide +kernel
theorem dX3_circles_10 : decode cX3_circles 10 = .ok (.aload_n 0, 1) := by decide +kernel
theorem dX3_circles_11 : decode cX3_circles 11 = .ok (.getfield 15, 3) := by decide +kernel
theorem dX3_circles_14 : decode cX3_circles 14 = .ok (.if_icmp .ge 32, 3) := by decide +kernel
theorem dX3_circles_17 : decode cX3_circles 17 = .ok (.iload_n 3, 1) := by decide +kernel
theorem dX3_circles_18 : decode cX3_circles 18 = .ok (.iload 5, 2) := by decide +kernel
theorem dX3_circles_20 : decode cX3_circles 20 = .ok (.ishr, 1) := by decide +kernel
theorem dX3_circles_21 : decode cX3_circles 21 = .ok (.iconst 1, 1) := by decide +kernel
theorem dX3_circles_22 : decode cX3_circles 22 = .ok (.iand, 1) := by decide +kernel
theorem dX3_circles_23 : decode cX3_circles 23 = .ok (.ifCond .ne 17, 3) := by decide +kernel
theorem dX3_circles_26 : decode cX3_circles 26 = .ok (.iload_n 3, 1) := by decide +kernel
theorem dX3_circles_27 : decode cX3_circles 27 = .ok (.aload_n 0, 1) := by decide +kernel
theorem dX3_circles_28 : decode cX3_circles 28 = .ok (.iload_n 1, 1) := by decide +kernel
theorem dX3_circles_29 : decode cX3_circles 29 = .ok (.iload_n 2, 1) := by decide +kernel
theorem dX3_circles_30 : decode cX3_circles 30 = .ok (.iload 5, 2) := by decide +kernel
theorem dX3_circles_32 : decode cX3_circles 32 = .ok (.invokevirtual 36, 3) := by decide +kernel
theorem dX3_circles_35 : decode cX3_circles 35 = .ok (.ior, 1) := by decide +kernel
theorem dX3_circles_36 : decode cX3_circles 36 = .ok (.istore_n 3, 1) := by decide +kernel
theorem dX3_circles_37 : decode cX3_circles 37 = .ok (.iinc 4 1, 3) := by decide +kernel
theorem dX3_circles_40 : decode cX3_circles 40 = .ok (.iinc 5 1, 3) := by decide +kernel
theorem dX3_circles_43 : decode cX3_circles 43 = .ok (.goto (-35), 3) := by decide +kernel
theorem dX3_circles_46 : decode cX3_circles 46 = .ok (.iload 4, 2) := by decide +kernel
theorem dX3_circles_48 : decode cX3_circles 48 = .ok (.ireturn, 1) := by decide +kernel
set_option maxRecDepth 20000 in
theorem ggX3_circleAt_X3_circleOf : GoodIn wsX3_circleAt wsX3_circleOf := goodIn_r _ [6, 7, 8, 9, 5, 10, 11, 1, 12, 13, 14, 15] (by decide +kernel) (by decide +kernel)
set_option maxRecDepth 20000 in
theorem gX3_circleAt_X3_circleOf : GoodIn wsX3_circleAt (wsV RX3 36 RX3 yX3_circleOf wsX3_circleOf) := goodIn_app (goodIn_of _ (by decide +kernel)) ggX3_circleAt_X3_circleOf
theorem dX3_circleAt_0 : decode cX3_circleAt 0 = .ok (.iconst 0, 1) := by decide +kernel
theorem dX3_circleAt_1 : decode cX3_circleAt 1 = .ok (.istore 4, 2) := by decide +kernel
theorem dX3_circleAt_3 : decode cX3_circleAt 3 = .ok (.iconst 0, 1) := by decide +kernel
theorem dX3_circleAt_4 : decode cX3_circleAt 4 = .ok (.istore 5, 2) := by decide +kernel
theorem dX3_circleAt_6 : decode cX3_circleAt 6 = .ok (.iconst 0, 1) := by decide +kernel
theorem dX3_circleAt_7 : decode cX3_circleAt 7 = .ok (.istore 6, 2) := by decide +kernel
theorem dX3_circleAt_9 : decode cX3_circleAt 9 = .ok (.iload 6, 2) := by decide +kernel
theorem dX3_circleAt_11 : decode cX3_circleAt 11 = .ok (.aload_n 0, 1) := by decide +kernel
theorem dX3_circleAt_12 : decode cX3_circleAt 12 = .ok (.getfield 15, 3) := by decide +kernel
theorem dX3_circleAt_15 : decode cX3_circleAt 15 = .ok (.if_icmp .ge 48, 3) := by decide +kernel
theorem dX3_circleAt_18 : decode cX3_circleAt 18 = .ok (.iload 4, 2) := by decide +kernel
theorem dX3_circleAt_20 : decode cX3_circleAt 20 = .ok (.iload 6, 2) := by decide +kernel
theorem dX3_circleAt_22 : decode cX3_circleAt 22 = .ok (.ishr, 1) := by decide +kernel
theorem dX3_circleAt_23 : decode cX3_circleAt 23 = .ok (.iconst 1, 1) := by decide +kernel
theorem dX3_circleAt_24 : decode cX3_circleAt 24 = .ok (.iand, 1) := by decide +kernel
theorem dX3_circleAt_25 : decode cX3_circleAt 25 = .ok (.ifCond .ne 32, 3) := by decide +kernel
theorem dX3_circleAt_28 : decode cX3_circleAt 28 = .ok (.aload_n 0, 1) := by decide +kernel
theorem dX3_circleAt_29 : decode cX3_circleAt 29 = .ok (.iload_n 1, 1) := by decide +kernel
theorem dX3_circleAt_30 : decode cX3_circleAt 30 = .ok (.iload_n 2, 1) := by decide +kernel
theorem dX3_circleAt_31 : decode cX3_circleAt 31 = .ok (.iload 6, 2) := by decide +kernel
theorem dX3_circleAt_33 : decode cX3_circleAt 33 = .ok (.invokevirtual 36, 3) := by decide +kernel
theorem dX3_circleAt_36 : decode cX3_circleAt 36 = .ok (.istore 7, 2) := by decide +kernel
theorem dX3_circleAt_38 : decode cX3_circleAt 38 = .ok (.iload 5, 2) := by decide +kernel
theorem dX3_circleAt_40 : decode cX3_circleAt 40 = .ok (.iload_n 3, 1) := by decide +kernel
theorem dX3_circleAt_41 : decode cX3_circleAt 41 = .ok (.if_icmp .ne 6, 3) := by decide +kernel
theorem dX3_circleAt_44 : decode cX3_circleAt 44 = .ok (.iload 7, 2) := by decide +kernel
theorem dX3_circleAt_46 : decode cX3_circleAt 46 = .ok (.ireturn, 1) := by decide +kernel
theorem dX3_circleAt_47 : decode cX3_circleAt 47 = .ok (.iload 4, 2) := by decide +kernel
theorem dX3_circleAt_49 : decode cX3_circleAt 49 = .ok (.iload 7, 2) := by decide +kernel
theorem dX3_circleAt_51 : decode cX3_circleAt 51 = .ok (.ior, 1) := by decide +kernel
theorem dX3_circleAt_52 : decode cX3_circleAt 52 = .ok (.istore 4, 2) := by decide +kernel
theorem dX3_circleAt_54 : decode cX3_circleAt 54 = .ok (.iinc 5 1, 3) := by decide +kernel
theorem dX3_circleAt_57 : decode cX3_circleAt 57 = .ok (.iinc 6 1, 3) := by decide +kernel
theorem dX3_circleAt_60 : decode cX3_circleAt 60 = .ok (.goto (-51), 3) := by decide +kernel
theorem dX3_circleAt_63 : decode cX3_circleAt 63 = .ok (.iconst 0, 1) := by decide +kernel
theorem dX3_circleAt_64 : decode cX3_circleAt 64 = .ok (.ireturn, 1) := by decide +kernel
set_option maxRecDepth 20000 in
theorem ggX3_isFirstOneWithAll_X3_circleOf : GoodIn wsX3_isFirstOneWithAll wsX3_circleOf := goodIn_r _ [7, 8, 9, 10, 6, 11, 2, 1, 12, 13, 14, 15] (by decide +kernel) (by decide +kernel)
set_option maxRecDepth 20000 in
theorem gX3_isFirstOneWithAll_X3_circleOf : GoodIn wsX3_isFirstOneWithAll (wsV RX3 36 RX3 yX3_circleOf wsX3_circleOf) := goodIn_app (goodIn_of _ (by decide +kernel)) ggX3_isFirstOneWithAll_X3_circleOf
theorem dX3_isFirstOneWithAll_0 : decode cX3_isFirstOneWithAll 0 = .ok (.iconst 1, 1) := by decide +kernel
theorem dX3_isFirstOneWithAll_1 : decode cX3_isFirstOneWithAll 1 = .ok (.aload_n 0, 1) := by decide +kernel
theorem dX3_isFirstOneWithAll_2 : decode cX3_isFirstOneWithAll 2 = .ok (.getfield 15, 3) := by decide +kernel
theorem dX3_isFirstOneWithAll_5 : decode cX3_isFirstOneWithAll 5 = .ok (.ishl, 1) := by decide +kernel
theorem dX3_isFirstOneWithAll_6 : decode cX3_isFirstOneWithAll 6 = .ok (.iconst 1, 1) := by decide +kernel
theorem dX3_isFirstOneWithAll_7 : decode cX3_isFirstOneWithAll 7 = .ok (.isub, 1) := by decide +kernel
theorem dX3_isFirstOneWithAll_8 : decode cX3_isFirstOneWithAll 8 = .ok (.istore_n 1, 1) := by decide +kernel
theorem dX3_isFirstOneWithAll_9 : decode cX3_isFirstOneWithAll 9 = .ok (.iconst 1, 1) := by decide +kernel
theorem dX3_isFirstOneWithAll_10 : decode cX3_isFirstOneWithAll 10 = .ok (.istore_n 2, 1) := by decide +kernel
theorem dX3_isFirstOneWithAll_11 : decode cX3_isFirstOneWithAll 11 = .ok (.iload_n 2, 1) := by decide +kernel
theorem dX3_isFirstOneWithAll_12 : decode cX3_isFirstOneWithAll 12 = .ok (.aload_n 0, 1) := by decide +kernel
theorem dX3_isFirstOneWithAll_13 : decode cX3_isFirstOneWithAll 13 = .ok (.getfield 19, 3) := by decide +kernel
theorem dX3_isFirstOneWithAll_16 : decode cX3_isFirstOneWithAll 16 = .ok (.if_icmp .ge 22, 3) := by decide +kernel
theorem dX3_isFirstOneWithAll_19 : decode cX3_isFirstOneWithAll 19 = .ok (.aload_n 0, 1) := by decide +kernel
theorem dX3_isFirstOneWithAll_20 : decode cX3_isFirstOneWithAll 20 = .ok (.iconst 0, 1) := by decide +kernel
theorem dX3_isFirstOneWithAll_21 : decode cX3_isFirstOneWithAll 21 = .ok (.iload_n 2, 1) := by decide +kernel
theorem dX3_isFirstOneWithAll_22 : decode cX3_isFirstOneWithAll 22 = .ok (.iconst 0, 1) := by decide +kernel
theorem dX3_isFirstOneWithAll_23 : decode cX3_isFirstOneWithAll 23 = .ok (.invokevirtual 36, 3) := by decide +kernel
theorem dX3_isFirstOneWithAll_26 : decode cX3_isFirstOneWithAll 26 = .ok (.iload_n 1, 1) := by decide +kernel
theorem dX3_isFirstOneWithAll_27 : decode cX3_isFirstOneWithAll 27 = .ok (.if_icmp .eq 5, 3) := by decide +kernel
theorem dX3_isFirstOneWithAll_30 : decode cX3_isFirstOneWithAll 30 = .ok (.iconst 0, 1) := by decide +kernel
theorem dX3_isFirstOneWithAll_31 : decode cX3_isFirstOneWithAll 31 = .ok (.ireturn, 1) := by decide +kernel
theorem dX3_isFirstOneWithAll_32 : decode cX3_isFirstOneWithAll 32 = .ok (.iinc 2 1, 3) := by decide +kernel
theorem dX3_isFirstOneWithAll_35 : decode cX3_isFirstOneWithAll 35 = .ok (.goto (-24), 3) := by decide +kernel
theorem dX3_isFirstOneWithAll_38 : decode cX3_isFirstOneWithAll 38 = .ok (.iconst 1, 1) := by decide +kernel
theorem dX3_isFirstOneWithAll_39 : decode cX3_isFirstOneWithAll 39 = .ok (.ireturn, 1) := by decide +kernel
theorem dX3_append_0 : decode cX3_append 0 = .ok (.aload_n 0, 1) := by decide +kernel
theorem dX3_append_1 : decode cX3_append 1 = .ok (.getfield 19, 3) := by decide +kernel
theorem dX3_append_4 : decode cX3_append 4 = .ok (.bipush 13, 2) := by decide +kernel
theorem dX3_append_6 : decode cX3_append 6 = .ok (.if_icmp .ge 10, 3) := by decide +kernel
theorem dX3_append_9 : decode cX3_append 9 = .ok (.aload_n 1, 1) := by decide +kernel
theorem dX3_append_10 : decode cX3_append 10 = .ok (.arraylength, 1) := by decide +kernel
theorem dX3_append_11 : decode cX3_append 11 = .ok (.bipush 14, 2) := by decide +kernel
theorem dX3_append_13 : decode cX3_append 13 = .ok (.if_icmp .ge 4, 3) := by decide +kernel
theorem dX3_append_16 : decode cX3_append 16 = .ok (.return_, 1) := by decide +kernel
theorem dX3_append_17 : decode cX3_append 17 = .ok (.aload_n 1, 1) := by decide +kernel
theorem dX3_append_18 : decode cX3_append 18 = .ok (.iconst 0, 1) := by decide +kernel
theorem dX3_append_19 : decode cX3_append 19 = .ok (.aload_n 0, 1) := by decide +kernel
theorem dX3_append_20 : decode cX3_append 20 = .ok (.getfield 9, 3) := by decide +kernel
theorem dX3_append_23 : decode cX3_append 23 = .ok (.aload_n 0, 1) := by decide +kernel
theorem dX3_append_24 : decode cX3_append 24 = .ok (.getfield 19, 3) := by decide +kernel
theorem dX3_append_27 : decode cX3_append 27 = .ok (.bipush 14, 2) := by decide +kernel
theorem dX3_append_29 : decode cX3_append 29 = .ok (.imul, 1) := by decide +kernel
theorem dX3_append_30 : decode cX3_append 30 = .ok (.bipush 14, 2) := by decide +kernel
theorem dX3_append_32 : decode cX3_append 32 = .ok (.invokestatic 22, 3) := by decide +kernel
theorem dX3_append_35 : decode cX3_append 35 = .ok (.aload_n 0, 1) := by decide +kernel
theorem dX3_append_36 : decode cX3_append 36 = .ok (.dup, 1) := by decide +kernel
theorem dX3_append_37 : decode cX3_append 37 = .ok (.getfield 19, 3) := by decide +kernel
theorem dX3_append_40 : decode cX3_append 40 = .ok (.iconst 1, 1) := by decide +kernel
theorem dX3_append_41 : decode cX3_append 41 = .ok (.iadd, 1) := by decide +kernel
theorem dX3_append_42 : decode cX3_append 42 = .ok (.putfield 19, 3) := by decide +kernel
theorem dX3_append_45 : decode cX3_append 45 = .ok (.return_, 1) := by decide +kernel
set_option maxRecDepth 20000 in
theorem ggX3_remove_X3_hasDay : GoodIn wsX3_remove wsX3_hasDay := goodIn_r _ [11, 1, 12, 13, 14] (by decide +kernel) (by decide +kernel)
set_option maxRecDepth 20000 in
theorem gX3_remove_X3_hasDay : GoodIn wsX3_remove (wsV RX3 40 RX3 yX3_hasDay wsX3_hasDay) := goodIn_app (goodIn_of _ (by decide +kernel)) ggX3_remove_X3_hasDay
theorem dX3_remove_0 : decode cX3_remove 0 = .ok (.aload_n 0, 1) := by decide +kernel
theorem dX3_remove_1 : decode cX3_remove 1 = .ok (.iload_n 1, 1) := by decide +kernel
theorem dX3_remove_2 : decode cX3_remove 2 = .ok (.invokevirtual 40, 3) := by decide +kernel
theorem dX3_remove_5 : decode cX3_remove 5 = .ok (.ifCond .ne 4, 3) := by decide +kernel
theorem dX3_remove_8 : decode cX3_remove 8 = .ok (.return_, 1) := by decide +kernel
theorem dX3_remove_9 : decode cX3_remove 9 = .ok (.aload_n 0, 1) := by decide +kernel
theorem dX3_remove_10 : decode cX3_remove 10 = .ok (.getfield 19, 3) := by decide +kernel
theorem dX3_remove_13 : decode cX3_remove 13 = .ok (.iconst 1, 1) := by decide +kernel
theorem dX3_remove_14 : decode cX3_remove 14 = .ok (.isub, 1) := by decide +kernel
theorem dX3_remove_15 : decode cX3_remove 15 = .ok (.iload_n 1, 1) := by decide +kernel
theorem dX3_remove_16 : decode cX3_remove 16 = .ok (.isub, 1) := by decide +kernel
theorem dX3_remove_17 : decode cX3_remove 17 = .ok (.bipush 14, 2) := by decide +kernel
theorem dX3_remove_19 : decode cX3_remove 19 = .ok (.imul, 1) := by decide +kernel
theorem dX3_remove_20 : decode cX3_remove 20 = .ok (.istore_n 2, 1) := by decide +kernel
theorem dX3_remove_21 : decode cX3_remove 21 = .ok (.aload_n 0, 1) := by decide +kernel
theorem dX3_remove_22 : decode cX3_remove 22 = .ok (.getfield 9, 3) := by decide +kernel
theorem dX3_remove_25 : decode cX3_remove 25 = .ok (.iload_n 1, 1) := by decide +kernel
theorem dX3_remove_26 : decode cX3_remove 26 = .ok (.iconst 1, 1) := by decide +kernel
theorem dX3_remove_27 : decode cX3_remove 27 = .ok (.iadd, 1) := by decide +kernel
theorem dX3_remove_28 : decode cX3_remove 28 = .ok (.bipush 14, 2) := by decide +kernel
theorem dX3_remove_30 : decode cX3_remove 30 = .ok (.imul, 1) := by decide +kernel
theorem dX3_remove_31 : decode cX3_remove 31 = .ok (.aload_n 0, 1) := by decide +kernel
theorem dX3_remove_32 : decode cX3_remove 32 = .ok (.getfield 9, 3) := by decide +kernel
theorem dX3_remove_35 : decode cX3_remove 35 = .ok (.iload_n 1, 1) := by decide +kernel
theorem dX3_remove_36 : decode cX3_remove 36 = .ok (.bipush 14, 2) := by decide +kernel
theorem dX3_remove_38 : decode cX3_remove 38 = .ok (.imul, 1) := by decide +kernel
theorem dX3_remove_39 : decode cX3_remove 39 = .ok (.iload_n 2, 1) := by decide +kernel
theorem dX3_remove_40 : decode cX3_remove 40 = .ok (.invokestatic 22, 3) := by decide +kernel
theorem dX3_remove_43 : decode cX3_remove 43 = .ok (.aload_n 0, 1) := by decide +kernel
theorem dX3_remove_44 : decode cX3_remove 44 = .ok (.dup, 1) := by decide +kernel
theorem dX3_remove_45 : decode cX3_remove 45 = .ok (.getfield 19, 3) := by decide +kernel
theorem dX3_remove_48 : decode cX3_remove 48 = .ok (.iconst 1, 1) := by decide +kernel
theorem dX3_remove_49 : decode cX3_remove 49 = .ok (.isub, 1) := by decide +kernel
theorem dX3_remove_50 : decode cX3_remove 50 = .ok (.putfield 19, 3) := by decide +kernel
theorem dX3_remove_53 : decode cX3_remove 53 = .ok (.return_, 1) := by decide +kernel
set_option maxRecDepth 20000 in
theorem ggX3_swapTeams_X3_hasTwoTeams : GoodIn wsX3_swapTeams wsX3_hasTwoTeams := goodIn_r _ [6, 7, 17, 18, 19] (by decide +kernel) (by decide +kernel)
set_option maxRecDepth 20000 in
theorem gX3_swapTeams_X3_hasTwoTeams : GoodIn wsX3_swapTeams (wsV RX3 28 RX3 yX3_hasTwoTeams wsX3_hasTwoTeams) := goodIn_app (goodIn_of _ (by decide +kernel)) ggX3_swapTeams_X3_hasTwoTeams
set_option maxRecDepth 20000 in
theorem ggX3_swapTeams_X3_partner : GoodIn wsX3_swapTeams wsX3_partner := goodIn_r _ [11, 1, 7, 12, 17, 18, 19] (by decide +kernel) (by decide +kernel)
set_option maxRecDepth 20000 in
theorem gX3_swapTeams_X3_partner : GoodIn wsX3_swapTeams (wsV RX3 32 RX3 yX3_partner wsX3_partner) := goodIn_app (goodIn_of _ (by decide +kernel)) ggX3_swapTeams_X3_partner
set_option maxRecDepth 20000 in
theorem ggX3_swapTeams_X3_pair : GoodIn wsX3_swapTeams wsX3_pair := goodIn_r _ [16, 1, 12, 2, 3, 4, 5, 6, 7, 17, 18, 19] (by decide +kernel) (by decide +kernel)
set_option maxRecDepth 20000 in
theorem gX3_swapTeams_X3_pair : GoodIn wsX3_swapTeams (wsV RX3 44 RX3 yX3_pair wsX3_pair) := goodIn_app (goodIn_of _ (by decide +kernel)) ggX3_swapTeams_X3_pair
theorem dX3_swapTeams_0 : decode cX3_swapTeams 0 = .ok (.aload_n 0, 1) := by decide +kernel
theorem dX3_swapTeams_1 : decode cX3_swapTeams 1 = .ok (.iload_n 1, 1) := by decide +kernel
theorem dX3_swapTeams_2 : decode cX3_swapTeams 2 = .ok (.iload_n 2, 1) := by decide +kernel
theorem dX3_swapTeams_3 : decode cX3_swapTeams 3 = .ok (.invokevirtual 28, 3) := by decide +kernel
theorem dX3_swapTeams_6 : decode cX3_swapTeams 6 = .ok (.ifCond .ne 5, 3) := by decide +kernel
theorem dX3_swapTeams_9 : decode cX3_swapTeams 9 = .ok (.iconst 0, 1) := by decide +kernel
theorem dX3_swapTeams_10 : decode cX3_swapTeams 10 = .ok (.ireturn, 1) := by decide +kernel
theorem dX3_swapTeams_11 : decode cX3_swapTeams 11 = .ok (.iconst 0, 1) := by decide +kernel
theorem dX3_swapTeams_12 : decode cX3_swapTeams 12 = .ok (.istore_n 3, 1) := by decide +kernel
theorem dX3_swapTeams_13 : decode cX3_swapTeams 13 = .ok (.iconst 0, 1) := by decide +kernel
theorem dX3_swapTeams_14 : decode cX3_swapTeams 14 = .ok (.istore 4, 2) := by decide +kernel
theorem dX3_swapTeams_16 : decode cX3_swapTeams 16 = .ok (.iload 4, 2) := by decide +kernel
theorem dX3_swapTeams_18 : decode cX3_swapTeams 18 = .ok (.aload_n 0, 1) := by decide +kernel
theorem dX3_swapTeams_19 : decode cX3_swapTeams 19 = .ok (.getfield 19, 3) := by decide +kernel
theorem dX3_swapTeams_22 : decode cX3_swapTeams 22 = .ok (.if_icmp .ge 54, 3) := by decide +kernel
theorem dX3_swapTeams_25 : decode cX3_swapTeams 25 = .ok (.aload_n 0, 1) := by decide +kernel
theorem dX3_swapTeams_26 : decode cX3_swapTeams 26 = .ok (.iload 4, 2) := by decide +kernel
theorem dX3_swapTeams_28 : decode cX3_swapTeams 28 = .ok (.iload_n 1, 1) := by decide +kernel
theorem dX3_swapTeams_29 : decode cX3_swapTeams 29 = .ok (.invokevirtual 32, 3) := by decide +kernel
theorem dX3_swapTeams_32 : decode cX3_swapTeams 32 = .ok (.istore 5, 2) := by decide +kernel
theorem dX3_swapTeams_34 : decode cX3_swapTeams 34 = .ok (.aload_n 0, 1) := by decide +kernel
theorem dX3_swapTeams_35 : decode cX3_swapTeams 35 = .ok (.iload 4, 2) := by decide +kernel
theorem dX3_swapTeams_37 : decode cX3_swapTeams 37 = .ok (.iload_n 2, 1) := by decide +kernel
theorem dX3_swapTeams_38 : decode cX3_swapTeams 38 = .ok (.invokevirtual 32, 3) := by decide +kernel
theorem dX3_swapTeams_41 : decode cX3_swapTeams 41 = .ok (.istore 6, 2) := by decide +kernel
theorem dX3_swapTeams_43 : decode cX3_swapTeams 43 = .ok (.iload 5, 2) := by decide +kernel
theorem dX3_swapTeams_45 : decode cX3_swapTeams 45 = .ok (.iload_n 2, 1) := by decide +kernel
theorem dX3_swapTeams_46 : decode cX3_swapTeams 46 = .ok (.if_icmp .eq 24, 3) := by decide +kernel
theorem dX3_swapTeams_49 : decode cX3_swapTeams 49 = .ok (.aload_n 0, 1) := by decide +kernel
theorem dX3_swapTeams_50 : decode cX3_swapTeams 50 = .ok (.iload 4, 2) := by decide +kernel
theorem dX3_swapTeams_52 : decode cX3_swapTeams 52 = .ok (.iload_n 1, 1) := by decide +kernel
theorem dX3_swapTeams_53 : decode cX3_swapTeams 53 = .ok (.iload 6, 2) := by decide +kernel
theorem dX3_swapTeams_55 : decode cX3_swapTeams 55 = .ok (.invokevirtual 44, 3) := by decide +kernel
theorem dX3_swapTeams_58 : decode cX3_swapTeams 58 = .ok (.aload_n 0, 1) := by decide +kernel
theorem dX3_swapTeams_59 : decode cX3_swapTeams 59 = .ok (.iload 4, 2) := by decide +kernel
theorem dX3_swapTeams_61 : decode cX3_swapTeams 61 = .ok (.iload_n 2, 1) := by decide +kernel
theorem dX3_swapTeams_62 : decode cX3_swapTeams 62 = .ok (.iload 5, 2) := by decide +kernel
theorem dX3_swapTeams_64 : decode cX3_swapTeams 64 = .ok (.invokevirtual 44, 3) := by decide +kernel
theorem dX3_swapTeams_67 : decode cX3_swapTeams 67 = .ok (.iinc 3 1, 3) := by decide +kernel
theorem dX3_swapTeams_70 : decode cX3_swapTeams 70 = .ok (.iinc 4 1, 3) := by decide +kernel
theorem dX3_swapTeams_73 : decode cX3_swapTeams 73 = .ok (.goto (-57), 3) := by decide +kernel
theorem dX3_swapTeams_76 : decode cX3_swapTeams 76 = .ok (.iload_n 3, 1) := by decide +kernel
theorem dX3_swapTeams_77 : decode cX3_swapTeams 77 = .ok (.ireturn, 1) := by decide +kernel
set_option maxRecDepth 20000 in
theorem ggX3_pair_X3_hasTwoTeams : GoodIn wsX3_pair wsX3_hasTwoTeams := goodIn_r _ [7, 8, 9, 10, 11] (by decide +kernel) (by decide +kernel)
set_option maxRecDepth 20000 in
theorem gX3_pair_X3_hasTwoTeams : GoodIn wsX3_pair (wsV RX3 28 RX3 yX3_hasTwoTeams wsX3_hasTwoTeams) := goodIn_app (goodIn_of _ (by decide +kernel)) ggX3_pair_X3_hasTwoTeams
theorem dX3_pair_0 : decode cX3_pair 0 = .ok (.iload_n 1, 1) := by decide +kernel
theorem dX3_pair_1 : decode cX3_pair 1 = .ok (.ifCond .lt 44, 3) := by decide +kernel
theorem dX3_pair_4 : decode cX3_pair 4 = .ok (.iload_n 1, 1) := by decide +kernel
theorem dX3_pair_5 : decode cX3_pair 5 = .ok (.aload_n 0, 1) := by decide +kernel
theorem dX3_pair_6 : decode cX3_pair 6 = .ok (.getfield 19, 3) := by decide +kernel
theorem dX3_pair_9 : decode cX3_pair 9 = .ok (.if_icmp .ge 36, 3) := by decide +kernel
theorem dX3_pair_12 : decode cX3_pair 12 = .ok (.aload_n 0, 1) := by decide +kernel
theorem dX3_pair_13 : decode cX3_pair 13 = .ok (.iload_n 2, 1) := by decide +kernel
theorem dX3_pair_14 : decode cX3_pair 14 = .ok (.iload_n 3, 1) := by decide +kernel
theorem dX3_pair_15 : decode cX3_pair 15 = .ok (.invokevirtual 28, 3) := by decide +kernel
theorem dX3_pair_18 : decode cX3_pair 18 = .ok (.ifCond .eq 27, 3) := by decide +kernel
theorem dX3_pair_21 : decode cX3_pair 21 = .ok (.aload_n 0, 1) := by decide +kernel
theorem dX3_pair_22 : decode cX3_pair 22 = .ok (.getfield 9, 3) := by decide +kernel
theorem dX3_pair_25 : decode cX3_pair 25 = .ok (.iload_n 1, 1) := by decide +kernel
theorem dX3_pair_26 : decode cX3_pair 26 = .ok (.bipush 14, 2) := by decide +kernel
theorem dX3_pair_28 : decode cX3_pair 28 = .ok (.imul, 1) := by decide +kernel
theorem dX3_pair_29 : decode cX3_pair 29 = .ok (.iload_n 2, 1) := by decide +kernel
theorem dX3_pair_30 : decode cX3_pair 30 = .ok (.iadd, 1) := by decide +kernel
theorem dX3_pair_31 : decode cX3_pair 31 = .ok (.iload_n 3, 1) := by decide +kernel
theorem dX3_pair_32 : decode cX3_pair 32 = .ok (.iastore, 1) := by decide +kernel
theorem dX3_pair_33 : decode cX3_pair 33 = .ok (.aload_n 0, 1) := by decide +kernel
theorem dX3_pair_34 : decode cX3_pair 34 = .ok (.getfield 9, 3) := by decide +kernel
theorem dX3_pair_37 : decode cX3_pair 37 = .ok (.iload_n 1, 1) := by decide +kernel
theorem dX3_pair_38 : decode cX3_pair 38 = .ok (.bipush 14, 2) := by decide +kernel
theorem dX3_pair_40 : decode cX3_pair 40 = .ok (.imul, 1) := by decide +kernel
theorem dX3_pair_41 : decode cX3_pair 41 = .ok (.iload_n 3, 1) := by decide +kernel
theorem dX3_pair_42 : decode cX3_pair 42 = .ok (.iadd, 1) := by decide +kernel
theorem dX3_pair_43 : decode cX3_pair 43 = .ok (.iload_n 2, 1) := by decide +kernel
theorem dX3_pair_44 : decode cX3_pair 44 = .ok (.iastore, 1) := by decide +kernel
theorem dX3_pair_45 : decode cX3_pair 45 = .ok (.return_, 1) := by decide +kernel
set_option maxRecDepth 20000 in
theorem ggX3_order_X3_partner : GoodIn wsX3_order wsX3_partner := goodIn_r _ [6, 7, 1, 8, 9, 10, 11] (by decide +kernel) (by decide +kernel)
set_option maxRecDepth 20000 in
theorem gX3_order_X3_partner : GoodIn wsX3_order (wsV RX3 32 RX3 yX3_partner wsX3_partner) := goodIn_app (goodIn_of _ (by decide +kernel)) ggX3_order_X3_partner
theorem dX3_order_0 : decode cX3_order 0 = .ok (.iconst 0, 1) := by decide +kernel
theorem dX3_order_1 : decode cX3_order 1 = .ok (.istore_n 3, 1) := by decide +kernel
theorem dX3_order_2 : decode cX3_order 2 = .ok (.iload_n 3, 1) := by decide +kernel
theorem dX3_order_3 : decode cX3_order 3 = .ok (.aload_n 0, 1) := by decide +kernel
theorem dX3_order_4 : decode cX3_order 4 = .ok (.getfield 15, 3) := by decide +kernel
theorem dX3_order_7 : decode cX3_order 7 = .ok (.if_icmp .ge 32, 3) := by decide +kernel
theorem dX3_order_10 : decode cX3_order 10 = .ok (.aload_n 0, 1) := by decide +kernel
theorem dX3_order_11 : decode cX3_order 11 = .ok (.iload_n 1, 1) := by decide +kernel
theorem dX3_order_12 : decode cX3_order 12 = .ok (.iload_n 3, 1) := by decide +kernel
theorem dX3_order_13 : decode cX3_order 13 = .ok (.invokevirtual 32, 3) := by decide +kernel
theorem dX3_order_16 : decode cX3_order 16 = .ok (.aload_n 0, 1) := by decide +kernel
theorem dX3_order_17 : decode cX3_order 17 = .ok (.iload_n 2, 1) := by decide +kernel
theorem dX3_order_18 : decode cX3_order 18 = .ok (.iload_n 3, 1) := by decide +kernel
theorem dX3_order_19 : decode cX3_order 19 = .ok (.invokevirtual 32, 3) := by decide +kernel
theorem dX3_order_22 : decode cX3_order 22 = .ok (.isub, 1) := by decide +kernel
theorem dX3_order_23 : decode cX3_order 23 = .ok (.istore 4, 2) := by decide +kernel
theorem dX3_order_25 : decode cX3_order 25 = .ok (.iload 4, 2) := by decide +kernel
theorem dX3_order_27 : decode cX3_order 27 = .ok (.ifCond .eq 6, 3) := by decide +kernel
theorem dX3_order_30 : decode cX3_order 30 = .ok (.iload 4, 2) := by decide +kernel
theorem dX3_order_32 : decode cX3_order 32 = .ok (.ireturn, 1) := by decide +kernel
theorem dX3_order_33 : decode cX3_order 33 = .ok (.iinc 3 1, 3) := by decide +kernel
theorem dX3_order_36 : decode cX3_order 36 = .ok (.goto (-34), 3) := by decide +kernel
theorem dX3_order_39 : decode cX3_order 39 = .ok (.iconst 0, 1) := by decide +kernel
theorem dX3_order_40 : decode cX3_order 40 = .ok (.ireturn, 1) := by decide +kernel
set_option maxRecDepth 20000 in
theorem ggX3_outOfOrder_X3_order : GoodIn wsX3_outOfOrder wsX3_order := goodIn_r _ [6, 7, 8, 9, 10, 5, 11, 1, 12, 13, 14, 15] (by decide +kernel) (by decide +kernel)
set_option maxRecDepth 20000 in
theorem gX3_outOfOrder_X3_order : GoodIn wsX3_outOfOrder (wsV RX3 48 RX3 yX3_order wsX3_order) := goodIn_app (goodIn_of _ (by decide +kernel)) ggX3_outOfOrder_X3_order
theorem dX3_outOfOrder_0 : decode cX3_outOfOrder 0 = .ok (.iconst 0, 1) := by decide +kernel
theorem dX3_outOfOrder_1 : decode cX3_outOfOrder 1 = .ok (.istore_n 1, 1) := by decide +kernel
theorem dX3_outOfOrder_2 : decode cX3_outOfOrder 2 = .ok (.iconst 0, 1) := by decide +kernel
theorem dX3_outOfOrder_3 : decode cX3_outOfOrder 3 = .ok (.istore_n 2, 1) := by decide +kernel
theorem dX3_outOfOrder_4 : decode cX3_outOfOrder 4 = .ok (.iload_n 2, 1) := by decide +kernel
theorem dX3_outOfOrder_5 : decode cX3_outOfOrder 5 = .ok (.aload_n 0, 1) := by decide +kernel
theorem dX3_outOfOrder_6 : decode cX3_outOfOrder 6 = .ok (.getfield 19, 3) := by decide +kernel
theorem dX3_outOfOrder_9 : decode cX3_outOfOrder 9 = .ok (.if_icmp .ge 50, 3) := by decide +kernel
theorem dX3_outOfOrder_12 : decode cX3_outOfOrder 12 = .ok (.iconst 0, 1) := by decide +kernel
theorem dX3_outOfOrder_13 : decode cX3_outOfOrder 13 = .ok (.istore_n 3, 1) := by decide +kernel
theorem dX3_outOfOrder_14 : decode cX3_outOfOrder 14 = .ok (.iconst 0, 1) := by decide +kernel
theorem dX3_outOfOrder_15 : decode cX3_outOfOrder 15 = .ok (.istore 4, 2) := by decide +kernel
theorem dX3_outOfOrder_17 : decode cX3_outOfOrder 17 = .ok (.iload 4, 2) := by decide +kernel
theorem dX3_outOfOrder_19 : decode cX3_outOfOrder 19 = .ok (.aload_n 0, 1) := by decide +kernel
theorem dX3_outOfOrder_20 : decode cX3_outOfOrder 20 = .ok (.getfield 19, 3) := by decide +kernel
theorem dX3_outOfOrder_23 : decode cX3_outOfOrder 23 = .ok (.if_icmp .ge 22, 3) := by decide +kernel
theorem dX3_outOfOrder_26 : decode cX3_outOfOrder 26 = .ok (.aload_n 0, 1) := by decide +kernel
theorem dX3_outOfOrder_27 : decode cX3_outOfOrder 27 = .ok (.iload 4, 2) := by decide +kernel
theorem dX3_outOfOrder_29 : decode cX3_outOfOrder 29 = .ok (.iload_n 2, 1) := by decide +kernel
theorem dX3_outOfOrder_30 : decode cX3_outOfOrder 30 = .ok (.invokevirtual 48, 3) := by decide +kernel
theorem dX3_outOfOrder_33 : decode cX3_outOfOrder 33 = .ok (.ifCond .ge 6, 3) := by decide +kernel
theorem dX3_outOfOrder_36 : decode cX3_outOfOrder 36 = .ok (.iinc 3 1, 3) := by decide +kernel
theorem dX3_outOfOrder_39 : decode cX3_outOfOrder 39 = .ok (.iinc 4 1, 3) := by decide +kernel
theorem dX3_outOfOrder_42 : decode cX3_outOfOrder 42 = .ok (.goto (-25), 3) := by decide +kernel
theorem dX3_outOfOrder_45 : decode cX3_outOfOrder 45 = .ok (.iload_n 3, 1) := by decide +kernel
theorem dX3_outOfOrder_46 : decode cX3_outOfOrder 46 = .ok (.iload_n 2, 1) := by decide +kernel
theorem dX3_outOfOrder_47 : decode cX3_outOfOrder 47 = .ok (.if_icmp .eq 6, 3) := by decide +kernel
theorem dX3_outOfOrder_50 : decode cX3_outOfOrder 50 = .ok (.iinc 1 1, 3) := by decide +kernel
theorem dX3_outOfOrder_53 : decode cX3_outOfOrder 53 = .ok (.iinc 2 1, 3) := by decide +kernel
theorem dX3_outOfOrder_56 : decode cX3_outOfOrder 56 = .ok (.goto (-52), 3) := by decide +kernel
theorem dX3_outOfOrder_59 : decode cX3_outOfOrder 59 = .ok (.iload_n 1, 1) := by decide +kernel
theorem dX3_outOfOrder_60 : decode cX3_outOfOrder 60 = .ok (.ireturn, 1) := by decide +kernel
set_option maxRecDepth 20000 in
theorem ggX3_putInOrder_X3_order : GoodIn wsX3_putInOrder wsX3_order := goodIn_r _ [6, 7, 8, 9, 10, 5, 11, 1, 12, 21, 22, 23] (by decide +kernel) (by decide +kernel)
set_option maxRecDepth 20000 in
theorem gX3_putInOrder_X3_order : GoodIn wsX3_putInOrder (wsV RX3 48 RX3 yX3_order wsX3_order) := goodIn_app (goodIn_of _ (by decide +kernel)) ggX3_putInOrder_X3_order
set_option maxRecDepth 20000 in
theorem ggX3_putInOrder_X3_swapDays : GoodIn wsX3_putInOrder wsX3_swapDays := goodIn_r _ [16, 12, 17, 18, 19, 5, 20, 1, 21, 22, 23] (by decide +kernel) (by decide +kernel)
set_option maxRecDepth 20000 in
theorem gX3_putInOrder_X3_swapDays : GoodIn wsX3_putInOrder (wsV RX3 51 RX3 yX3_swapDays wsX3_swapDays) := goodIn_app (goodIn_of _ (by decide +kernel)) ggX3_putInOrder_X3_swapDays
theorem dX3_putInOrder_0 : decode cX3_putInOrder 0 = .ok (.iconst 1, 1) := by decide +kernel
theorem dX3_putInOrder_1 : decode cX3_putInOrder 1 = .ok (.istore_n 1, 1) := by decide +kernel
theorem dX3_putInOrder_2 : decode cX3_putInOrder 2 = .ok (.iload_n 1, 1) := by decide +kernel
theorem dX3_putInOrder_3 : decode cX3_putInOrder 3 = .ok (.aload_n 0, 1) := by decide +kernel
theorem dX3_putInOrder_4 : decode cX3_putInOrder 4 = .ok (.getfield 19, 3) := by decide +kernel
theorem dX3_putInOrder_7 : decode cX3_putInOrder 7 = .ok (.if_icmp .ge 40, 3) := by decide +kernel
theorem dX3_putInOrder_10 : decode cX3_putInOrder 10 = .ok (.iload_n 1, 1) := by decide +kernel
theorem dX3_putInOrder_11 : decode cX3_putInOrder 11 = .ok (.istore_n 2, 1) := by decide +kernel
theorem dX3_putInOrder_12 : decode cX3_putInOrder 12 = .ok (.iload_n 2, 1) := by decide +kernel
theorem dX3_putInOrder_13 : decode cX3_putInOrder 13 = .ok (.ifCond .le 28, 3) := by decide +kernel
theorem dX3_putInOrder_16 : decode cX3_putInOrder 16 = .ok (.aload_n 0, 1) := by decide +kernel
theorem dX3_putInOrder_17 : decode cX3_putInOrder 17 = .ok (.iload_n 2, 1) := by decide +kernel
theorem dX3_putInOrder_18 : decode cX3_putInOrder 18 = .ok (.iload_n 2, 1) := by decide +kernel
theorem dX3_putInOrder_19 : decode cX3_putInOrder 19 = .ok (.iconst 1, 1) := by decide +kernel
theorem dX3_putInOrder_20 : decode cX3_putInOrder 20 = .ok (.isub, 1) := by decide +kernel
theorem dX3_putInOrder_21 : decode cX3_putInOrder 21 = .ok (.invokevirtual 48, 3) := by decide +kernel
theorem dX3_putInOrder_24 : decode cX3_putInOrder 24 = .ok (.ifCond .ge 17, 3) := by decide +kernel
theorem dX3_putInOrder_27 : decode cX3_putInOrder 27 = .ok (.aload_n 0, 1) := by decide +kernel
theorem dX3_putInOrder_28 : decode cX3_putInOrder 28 = .ok (.iload_n 2, 1) := by decide +kernel
theorem dX3_putInOrder_29 : decode cX3_putInOrder 29 = .ok (.iload_n 2, 1) := by decide +kernel
theorem dX3_putInOrder_30 : decode cX3_putInOrder 30 = .ok (.iconst 1, 1) := by decide +kernel
theorem dX3_putInOrder_31 : decode cX3_putInOrder 31 = .ok (.isub, 1) := by decide +kernel
theorem dX3_putInOrder_32 : decode cX3_putInOrder 32 = .ok (.invokevirtual 51, 3) := by decide +kernel
theorem dX3_putInOrder_35 : decode cX3_putInOrder 35 = .ok (.iinc 2 (-1), 3) := by decide +kernel
theorem dX3_putInOrder_38 : decode cX3_putInOrder 38 = .ok (.goto (-26), 3) := by decide +kernel
theorem dX3_putInOrder_41 : decode cX3_putInOrder 41 = .ok (.iinc 1 1, 3) := by decide +kernel
theorem dX3_putInOrder_44 : decode cX3_putInOrder 44 = .ok (.goto (-42), 3) := by decide +kernel
theorem dX3_putInOrder_47 : decode cX3_putInOrder 47 = .ok (.return_, 1) := by decide +kernel
set_option maxRecDepth 20000 in
theorem ggX3_swapDays_X3_hasTwoDays : GoodIn wsX3_swapDays wsX3_hasTwoDays := goodIn_r _ [6, 7, 8, 9, 10] (by decide +kernel) (by decide +kernel)
set_option maxRecDepth 20000 in
theorem gX3_swapDays_X3_hasTwoDays : GoodIn wsX3_swapDays (wsV RX3 55 RX3 yX3_hasTwoDays wsX3_hasTwoDays) := goodIn_app (goodIn_of _ (by decide +kernel)) ggX3_swapDays_X3_hasTwoDays
theorem dX3_swapDays_0 : decode cX3_swapDays 0 = .ok (.aload_n 0, 1) := by decide +kernel
theorem dX3_swapDays_1 : decode cX3_swapDays 1 = .ok (.iload_n 1, 1) := by decide +kernel
theorem dX3_swapDays_2 : decode cX3_swapDays 2 = .ok (.iload_n 2, 1) := by decide +kernel
theorem dX3_swapDays_3 : decode cX3_swapDays 3 = .ok (.invokevirtual 55, 3) := by decide +kernel
theorem dX3_swapDays_6 : decode cX3_swapDays 6 = .ok (.ifCond .ne 4, 3) := by decide +kernel
theorem dX3_swapDays_9 : decode cX3_swapDays 9 = .ok (.return_, 1) := by decide +kernel
theorem dX3_swapDays_10 : decode cX3_swapDays 10 = .ok (.iconst 0, 1) := by decide +kernel
theorem dX3_swapDays_11 : decode cX3_swapDays 11 = .ok (.istore_n 3, 1) := by decide +kernel
theorem dX3_swapDays_12 : decode cX3_swapDays 12 = .ok (.iload_n 3, 1) := by decide +kernel
theorem dX3_swapDays_13 : decode cX3_swapDays 13 = .ok (.bipush 14, 2) := by decide +kernel
theorem dX3_swapDays_15 : decode cX3_swapDays 15 = .ok (.if_icmp .ge 57, 3) := by decide +kernel
theorem dX3_swapDays_18 : decode cX3_swapDays 18 = .ok (.aload_n 0, 1) := by decide +kernel
theorem dX3_swapDays_19 : decode cX3_swapDays 19 = .ok (.getfield 9, 3) := by decide +kernel
theorem dX3_swapDays_22 : decode cX3_swapDays 22 = .ok (.iload_n 1, 1) := by decide +kernel
theorem dX3_swapDays_23 : decode cX3_swapDays 23 = .ok (.bipush 14, 2) := by decide +kernel
theorem dX3_swapDays_25 : decode cX3_swapDays 25 = .ok (.imul, 1) := by decide +kernel
theorem dX3_swapDays_26 : decode cX3_swapDays 26 = .ok (.iload_n 3, 1) := by decide +kernel
theorem dX3_swapDays_27 : decode cX3_swapDays 27 = .ok (.iadd, 1) := by decide +kernel
theorem dX3_swapDays_28 : decode cX3_swapDays 28 = .ok (.iaload, 1) := by decide +kernel
theorem dX3_swapDays_29 : decode cX3_swapDays 29 = .ok (.istore 4, 2) := by decide +kernel
theorem dX3_swapDays_31 : decode cX3_swapDays 31 = .ok (.aload_n 0, 1) := by decide +kernel
theorem dX3_swapDays_32 : decode cX3_swapDays 32 = .ok (.getfield 9, 3) := by decide +kernel
theorem dX3_swapDays_35 : decode cX3_swapDays 35 = .ok (.iload_n 1, 1) := by decide +kernel
theorem dX3_swapDays_36 : decode cX3_swapDays 36 = .ok (.bipush 14, 2) := by decide +kernel
theorem dX3_swapDays_38 : decode cX3_swapDays 38 = .ok (.imul, 1) := by decide +kernel
theorem dX3_swapDays_39 : decode cX3_swapDays 39 = .ok (.iload_n 3, 1) := by decide +kernel
theorem dX3_swapDays_40 : decode cX3_swapDays 40 = .ok (.iadd, 1) := by decide +kernel
theorem dX3_swapDays_41 : decode cX3_swapDays 41 = .ok (.aload_n 0, 1) := by decide +kernel
theorem dX3_swapDays_42 : decode cX3_swapDays 42 = .ok (.getfield 9, 3) := by decide +kernel
theorem dX3_swapDays_45 : decode cX3_swapDays 45 = .ok (.iload_n 2, 1) := by decide +kernel
theorem dX3_swapDays_46 : decode cX3_swapDays 46 = .ok (.bipush 14, 2) := by decide +kernel
theorem dX3_swapDays_48 : decode cX3_swapDays 48 = .ok (.imul, 1) := by decide +kernel
theorem dX3_swapDays_49 : decode cX3_swapDays 49 = .ok (.iload_n 3, 1) := by decide +kernel
theorem dX3_swapDays_50 : decode cX3_swapDays 50 = .ok (.iadd, 1) := by decide +kernel
theorem dX3_swapDays_51 : decode cX3_swapDays 51 = .ok (.iaload, 1) := by decide +kernel
theorem dX3_swapDays_52 : decode cX3_swapDays 52 = .ok (.iastore, 1) := by decide +kernel
theorem dX3_swapDays_53 : decode cX3_swapDays 53 = .ok (.aload_n 0, 1) := by decide +kernel
theorem dX3_swapDays_54 : decode cX3_swapDays 54 = .ok (.getfield 9, 3) := by decide +kernel
theorem dX3_swapDays_57 : decode cX3_swapDays 57 = .ok (.iload_n 2, 1) := by decide +kernel
theorem dX3_swapDays_58 : decode cX3_swapDays 58 = .ok (.bipush 14, 2) := by decide +kernel
theorem dX3_swapDays_60 : decode cX3_swapDays 60 = .ok (.imul, 1) := by decide +kernel
theorem dX3_swapDays_61 : decode cX3_swapDays 61 = .ok (.iload_n 3, 1) := by decide +kernel
theorem dX3_swapDays_62 : decode cX3_swapDays 62 = .ok (.iadd, 1) := by decide +kernel
theorem dX3_swapDays_63 : decode cX3_swapDays 63 = .ok (.iload 4, 2) := by decide +kernel
theorem dX3_swapDays_65 : decode cX3_swapDays 65 = .ok (.iastore, 1) := by decide +kernel
theorem dX3_swapDays_66 : decode cX3_swapDays 66 = .ok (.iinc 3 1, 3) := by decide +kernel
theorem dX3_swapDays_69 : decode cX3_swapDays 69 = .ok (.goto (-57), 3) := by decide +kernel
theorem dX3_swapDays_72 : decode cX3_swapDays 72 = .ok (.return_, 1) := by decide +kernel
set_option maxRecDepth 20000 in
theorem ggX3_turns_X3_isTurnedToDay : GoodIn wsX3_turns wsX3_isTurnedToDay := goodIn_r _ [7, 1, 8, 9, 10, 6, 11, 12, 13, 14, 15, 2, 16, 17, 18, 19, 20, 21, 22, 23, 24, 25, 26, 27] (by decide +kernel) (by decide +kernel)
set_option maxRecDepth 20000 in
theorem gX3_turns_X3_isTurnedToDay : GoodIn wsX3_turns (wsV RX3 58 RX3 yX3_isTurnedToDay wsX3_isTurnedToDay) := goodIn_app (goodIn_of _ (by decide +kernel)) ggX3_turns_X3_isTurnedToDay
theorem dX3_turns_0 : decode cX3_turns 0 = .ok (.iconst 0, 1) := by decide +kernel
theorem dX3_turns_1 : decode cX3_turns 1 = .ok (.istore_n 1, 1) := by decide +kernel
theorem dX3_turns_2 : decode cX3_turns 2 = .ok (.iconst 0, 1) := by decide +kernel
theorem dX3_turns_3 : decode cX3_turns 3 = .ok (.istore_n 2, 1) := by decide +kernel
theorem dX3_turns_4 : decode cX3_turns 4 = .ok (.iload_n 2, 1) := by decide +kernel
theorem dX3_turns_5 : decode cX3_turns 5 = .ok (.aload_n 0, 1) := by decide +kernel
theorem dX3_turns_6 : decode cX3_turns 6 = .ok (.getfield 15, 3) := by decide +kernel
theorem dX3_turns_9 : decode cX3_turns 9 = .ok (.iconst 1, 1) := by decide +kernel
theorem dX3_turns_10 : decode cX3_turns 10 = .ok (.isub, 1) := by decide +kernel
theorem dX3_turns_11 : decode cX3_turns 11 = .ok (.if_icmp .ge 51, 3) := by decide +kernel
theorem dX3_turns_14 : decode cX3_turns 14 = .ok (.iconst 1, 1) := by decide +kernel
theorem dX3_turns_15 : decode cX3_turns 15 = .ok (.istore_n 3, 1) := by decide +kernel
theorem dX3_turns_16 : decode cX3_turns 16 = .ok (.iconst 0, 1) := by decide +kernel
theorem dX3_turns_17 : decode cX3_turns 17 = .ok (.istore 4, 2) := by decide +kernel
theorem dX3_turns_19 : decode cX3_turns 19 = .ok (.iload 4, 2) := by decide +kernel
theorem dX3_turns_21 : decode cX3_turns 21 = .ok (.aload_n 0, 1) := by decide +kernel
theorem dX3_turns_22 : decode cX3_turns 22 = .ok (.getfield 19, 3) := by decide +kernel
theorem dX3_turns_25 : decode cX3_turns 25 = .ok (.if_icmp .ge 21, 3) := by decide +kernel
theorem dX3_turns_28 : decode cX3_turns 28 = .ok (.iload_n 3, 1) := by decide +kernel
theorem dX3_turns_29 : decode cX3_turns 29 = .ok (.ifCond .eq 17, 3) := by decide +kernel
theorem dX3_turns_32 : decode cX3_turns 32 = .ok (.aload_n 0, 1) := by decide +kernel
theorem dX3_turns_33 : decode cX3_turns 33 = .ok (.iload 4, 2) := by decide +kernel
theorem dX3_turns_35 : decode cX3_turns 35 = .ok (.iload_n 2, 1) := by decide +kernel
theorem dX3_turns_36 : decode cX3_turns 36 = .ok (.invokevirtual 58, 3) := by decide +kernel
theorem dX3_turns_39 : decode cX3_turns 39 = .ok (.istore_n 3, 1) := by decide +kernel
theorem dX3_turns_40 : decode cX3_turns 40 = .ok (.iinc 4 1, 3) := by decide +kernel
theorem dX3_turns_43 : decode cX3_turns 43 = .ok (.goto (-24), 3) := by decide +kernel
theorem dX3_turns_46 : decode cX3_turns 46 = .ok (.iload_n 3, 1) := by decide +kernel
theorem dX3_turns_47 : decode cX3_turns 47 = .ok (.ifCond .eq 9, 3) := by decide +kernel
theorem dX3_turns_50 : decode cX3_turns 50 = .ok (.iload_n 1, 1) := by decide +kernel
theorem dX3_turns_51 : decode cX3_turns 51 = .ok (.iconst 1, 1) := by decide +kernel
theorem dX3_turns_52 : decode cX3_turns 52 = .ok (.iload_n 2, 1) := by decide +kernel
theorem dX3_turns_53 : decode cX3_turns 53 = .ok (.ishl, 1) := by decide +kernel
theorem dX3_turns_54 : decode cX3_turns 54 = .ok (.ior, 1) := by decide +kernel
theorem dX3_turns_55 : decode cX3_turns 55 = .ok (.istore_n 1, 1) := by decide +kernel
theorem dX3_turns_56 : decode cX3_turns 56 = .ok (.iinc 2 1, 3) := by decide +kernel
theorem dX3_turns_59 : decode cX3_turns 59 = .ok (.goto (-55), 3) := by decide +kernel
theorem dX3_turns_62 : decode cX3_turns 62 = .ok (.iload_n 1, 1) := by decide +kernel
theorem dX3_turns_63 : decode cX3_turns 63 = .ok (.ireturn, 1) := by decide +kernel
set_option maxRecDepth 20000 in
theorem ggX3_isTurnedToDay_X3_turn : GoodIn wsX3_isTurnedToDay wsX3_turn := goodIn_r _ [6, 1, 21, 22, 23] (by decide +kernel) (by decide +kernel)
set_option maxRecDepth 20000 in
theorem gX3_isTurnedToDay_X3_turn : GoodIn wsX3_isTurnedToDay (wsV RX3 61 RX3 yX3_turn wsX3_turn) := goodIn_app (goodIn_of _ (by decide +kernel)) ggX3_isTurnedToDay_X3_turn
set_option maxRecDepth 20000 in
theorem ggX3_isTurnedToDay_X3_partner : GoodIn wsX3_isTurnedToDay wsX3_partner := goodIn_r _ [10, 11, 1, 12, 21, 22, 23] (by decide +kernel) (by decide +kernel)
set_option maxRecDepth 20000 in
theorem gX3_isTurnedToDay_X3_partner : GoodIn wsX3_isTurnedToDay (wsV RX3 32 RX3 yX3_partner wsX3_partner) := goodIn_app (goodIn_of _ (by decide +kernel)) ggX3_isTurnedToDay_X3_partner
set_option maxRecDepth 20000 in
theorem ggX3_isTurnedToDay_X3_dayOf : GoodIn wsX3_isTurnedToDay wsX3_dayOf := goodIn_r _ [16, 11, 12, 17, 18, 19, 5, 20, 1, 21, 22, 23] (by decide +kernel) (by decide +kernel)
set_option maxRecDepth 20000 in
theorem gX3_isTurnedToDay_X3_dayOf : GoodIn wsX3_isTurnedToDay (wsV RX3 64 RX3 yX3_dayOf wsX3_dayOf) := goodIn_app (goodIn_of _ (by decide +kernel)) ggX3_isTurnedToDay_X3_dayOf
theorem dX3_isTurnedToDay_0 : decode cX3_isTurnedToDay 0 = .ok (.aload_n 0, 1) := by decide +kernel
theorem dX3_isTurnedToDay_1 : decode cX3_isTurnedToDay 1 = .ok (.aload_n 0, 1) := by decide +kernel
theorem dX3_isTurnedToDay_2 : decode cX3_isTurnedToDay 2 = .ok (.iconst 0, 1) := by decide +kernel
theorem dX3_isTurnedToDay_3 : decode cX3_isTurnedToDay 3 = .ok (.iload_n 2, 1) := by decide +kernel
theorem dX3_isTurnedToDay_4 : decode cX3_isTurnedToDay 4 = .ok (.invokevirtual 61, 3) := by decide +kernel
theorem dX3_isTurnedToDay_7 : decode cX3_isTurnedToDay 7 = .ok (.aload_n 0, 1) := by decide +kernel
theorem dX3_isTurnedToDay_8 : decode cX3_isTurnedToDay 8 = .ok (.aload_n 0, 1) := by decide +kernel
theorem dX3_isTurnedToDay_9 : decode cX3_isTurnedToDay 9 = .ok (.iload_n 1, 1) := by decide +kernel
theorem dX3_isTurnedToDay_10 : decode cX3_isTurnedToDay 10 = .ok (.iconst 0, 1) := by decide +kernel
theorem dX3_isTurnedToDay_11 : decode cX3_isTurnedToDay 11 = .ok (.invokevirtual 32, 3) := by decide +kernel
theorem dX3_isTurnedToDay_14 : decode cX3_isTurnedToDay 14 = .ok (.iload_n 2, 1) := by decide +kernel
theorem dX3_isTurnedToDay_15 : decode cX3_isTurnedToDay 15 = .ok (.invokevirtual 61, 3) := by decide +kernel
theorem dX3_isTurnedToDay_18 : decode cX3_isTurnedToDay 18 = .ok (.invokevirtual 64, 3) := by decide +kernel
theorem dX3_isTurnedToDay_21 : decode cX3_isTurnedToDay 21 = .ok (.istore_n 3, 1) := by decide +kernel
theorem dX3_isTurnedToDay_22 : decode cX3_isTurnedToDay 22 = .ok (.iload_n 3, 1) := by decide +kernel
theorem dX3_isTurnedToDay_23 : decode cX3_isTurnedToDay 23 = .ok (.iconst (-1), 1) := by decide +kernel
theorem dX3_isTurnedToDay_24 : decode cX3_isTurnedToDay 24 = .ok (.if_icmp .ne 5, 3) := by decide +kernel
theorem dX3_isTurnedToDay_27 : decode cX3_isTurnedToDay 27 = .ok (.iconst 0, 1) := by decide +kernel
theorem dX3_isTurnedToDay_28 : decode cX3_isTurnedToDay 28 = .ok (.ireturn, 1) := by decide +kernel
theorem dX3_isTurnedToDay_29 : decode cX3_isTurnedToDay 29 = .ok (.iconst 1, 1) := by decide +kernel
theorem dX3_isTurnedToDay_30 : decode cX3_isTurnedToDay 30 = .ok (.istore 4, 2) := by decide +kernel
theorem dX3_isTurnedToDay_32 : decode cX3_isTurnedToDay 32 = .ok (.iload 4, 2) := by decide +kernel
theorem dX3_isTurnedToDay_34 : decode cX3_isTurnedToDay 34 = .ok (.aload_n 0, 1) := by decide +kernel
theorem dX3_isTurnedToDay_35 : decode cX3_isTurnedToDay 35 = .ok (.getfield 15, 3) := by decide +kernel
theorem dX3_isTurnedToDay_38 : decode cX3_isTurnedToDay 38 = .ok (.if_icmp .ge 38, 3) := by decide +kernel
theorem dX3_isTurnedToDay_41 : decode cX3_isTurnedToDay 41 = .ok (.aload_n 0, 1) := by decide +kernel
theorem dX3_isTurnedToDay_42 : decode cX3_isTurnedToDay 42 = .ok (.iload_n 3, 1) := by decide +kernel
theorem dX3_isTurnedToDay_43 : decode cX3_isTurnedToDay 43 = .ok (.aload_n 0, 1) := by decide +kernel
theorem dX3_isTurnedToDay_44 : decode cX3_isTurnedToDay 44 = .ok (.iload 4, 2) := by decide +kernel
theorem dX3_isTurnedToDay_46 : decode cX3_isTurnedToDay 46 = .ok (.iload_n 2, 1) := by decide +kernel
theorem dX3_isTurnedToDay_47 : decode cX3_isTurnedToDay 47 = .ok (.invokevirtual 61, 3) := by decide +kernel
theorem dX3_isTurnedToDay_50 : decode cX3_isTurnedToDay 50 = .ok (.invokevirtual 32, 3) := by decide +kernel
theorem dX3_isTurnedToDay_53 : decode cX3_isTurnedToDay 53 = .ok (.aload_n 0, 1) := by decide +kernel
theorem dX3_isTurnedToDay_54 : decode cX3_isTurnedToDay 54 = .ok (.aload_n 0, 1) := by decide +kernel
theorem dX3_isTurnedToDay_55 : decode cX3_isTurnedToDay 55 = .ok (.iload_n 1, 1) := by decide +kernel
theorem dX3_isTurnedToDay_56 : decode cX3_isTurnedToDay 56 = .ok (.iload 4, 2) := by decide +kernel
theorem dX3_isTurnedToDay_58 : decode cX3_isTurnedToDay 58 = .ok (.invokevirtual 32, 3) := by decide +kernel
theorem dX3_isTurnedToDay_61 : decode cX3_isTurnedToDay 61 = .ok (.iload_n 2, 1) := by decide +kernel
theorem dX3_isTurnedToDay_62 : decode cX3_isTurnedToDay 62 = .ok (.invokevirtual 61, 3) := by decide +kernel
theorem dX3_isTurnedToDay_65 : decode cX3_isTurnedToDay 65 = .ok (.if_icmp .eq 5, 3) := by decide +kernel
theorem dX3_isTurnedToDay_68 : decode cX3_isTurnedToDay 68 = .ok (.iconst 0, 1) := by decide +kernel
theorem dX3_isTurnedToDay_69 : decode cX3_isTurnedToDay 69 = .ok (.ireturn, 1) := by decide +kernel
theorem dX3_isTurnedToDay_70 : decode cX3_isTurnedToDay 70 = .ok (.iinc 4 1, 3) := by decide +kernel
theorem dX3_isTurnedToDay_73 : decode cX3_isTurnedToDay 73 = .ok (.goto (-41), 3) := by decide +kernel
theorem dX3_isTurnedToDay_76 : decode cX3_isTurnedToDay 76 = .ok (.iconst 1, 1) := by decide +kernel
theorem dX3_isTurnedToDay_77 : decode cX3_isTurnedToDay 77 = .ok (.ireturn, 1) := by decide +kernel
theorem dX3_turn_0 : decode cX3_turn 0 = .ok (.aload_n 0, 1) := by decide +kernel
theorem dX3_turn_1 : decode cX3_turn 1 = .ok (.getfield 15, 3) := by decide +kernel
theorem dX3_turn_4 : decode cX3_turn 4 = .ok (.iconst 1, 1) := by decide +kernel
theorem dX3_turn_5 : decode cX3_turn 5 = .ok (.isub, 1) := by decide +kernel
theorem dX3_turn_6 : decode cX3_turn 6 = .ok (.istore_n 3, 1) := by decide +kernel
theorem dX3_turn_7 : decode cX3_turn 7 = .ok (.iload_n 3, 1) := by decide +kernel
theorem dX3_turn_8 : decode cX3_turn 8 = .ok (.ifCond .le 8, 3) := by decide +kernel
theorem dX3_turn_11 : decode cX3_turn 11 = .ok (.iload_n 1, 1) := by decide +kernel
theorem dX3_turn_12 : decode cX3_turn 12 = .ok (.iload_n 3, 1) := by decide +kernel
theorem dX3_turn_13 : decode cX3_turn 13 = .ok (.if_icmp .lt 7, 3) := by decide +kernel
theorem dX3_turn_16 : decode cX3_turn 16 = .ok (.iload_n 1, 1) := by decide +kernel
theorem dX3_turn_17 : decode cX3_turn 17 = .ok (.goto 8, 3) := by decide +kernel
theorem dX3_turn_20 : decode cX3_turn 20 = .ok (.iload_n 1, 1) := by decide +kernel
theorem dX3_turn_21 : decode cX3_turn 21 = .ok (.iload_n 2, 1) := by decide +kernel
theorem dX3_turn_22 : decode cX3_turn 22 = .ok (.iadd, 1) := by decide +kernel
theorem dX3_turn_23 : decode cX3_turn 23 = .ok (.iload_n 3, 1) := by decide +kernel
theorem dX3_turn_24 : decode cX3_turn 24 = .ok (.irem, 1) := by decide +kernel
theorem dX3_turn_25 : decode cX3_turn 25 = .ok (.ireturn, 1) := by decide +kernel
set_option maxRecDepth 20000 in
theorem ggX3_fillWheel_X3_clear : GoodIn wsX3_fillWheel wsX3_clear := goodIn_r _ [6, 7, 1, 17, 18, 19] (by decide +kernel) (by decide +kernel)
set_option maxRecDepth 20000 in
theorem gX3_fillWheel_X3_clear : GoodIn wsX3_fillWheel (wsV RX3 67 RX3 yX3_clear wsX3_clear) := goodIn_app (goodIn_of _ (by decide +kernel)) ggX3_fillWheel_X3_clear
set_option maxRecDepth 20000 in
theorem ggX3_fillWheel_X3_pair : GoodIn wsX3_fillWheel wsX3_pair := goodIn_r _ [11, 1, 12, 13, 14, 15, 5, 16, 7, 17, 18, 19] (by decide +kernel) (by decide +kernel)
set_option maxRecDepth 20000 in
theorem gX3_fillWheel_X3_pair : GoodIn wsX3_fillWheel (wsV RX3 44 RX3 yX3_pair wsX3_pair) := goodIn_app (goodIn_of _ (by decide +kernel)) ggX3_fillWheel_X3_pair
theorem dX3_fillWheel_0 : decode cX3_fillWheel 0 = .ok (.iload_n 1, 1) := by decide +kernel
theorem dX3_fillWheel_1 : decode cX3_fillWheel 1 = .ok (.iconst 1, 1) := by decide +kernel
theorem dX3_fillWheel_2 : decode cX3_fillWheel 2 = .ok (.isub, 1) := by decide +kernel
theorem dX3_fillWheel_3 : decode cX3_fillWheel 3 = .ok (.istore_n 2, 1) := by decide +kernel
theorem dX3_fillWheel_4 : decode cX3_fillWheel 4 = .ok (.iload_n 2, 1) := by decide +kernel
theorem dX3_fillWheel_5 : decode cX3_fillWheel 5 = .ok (.iconst 1, 1) := by decide +kernel
theorem dX3_fillWheel_6 : decode cX3_fillWheel 6 = .ok (.if_icmp .lt 9, 3) := by decide +kernel
theorem dX3_fillWheel_9 : decode cX3_fillWheel 9 = .ok (.iload_n 2, 1) := by decide +kernel
theorem dX3_fillWheel_10 : decode cX3_fillWheel 10 = .ok (.bipush 13, 2) := by decide +kernel
theorem dX3_fillWheel_12 : decode cX3_fillWheel 12 = .ok (.if_icmp .le 4, 3) := by decide +kernel
theorem dX3_fillWheel_15 : decode cX3_fillWheel 15 = .ok (.return_, 1) := by decide +kernel
theorem dX3_fillWheel_16 : decode cX3_fillWheel 16 = .ok (.aload_n 0, 1) := by decide +kernel
theorem dX3_fillWheel_17 : decode cX3_fillWheel 17 = .ok (.iload_n 1, 1) := by decide +kernel
theorem dX3_fillWheel_18 : decode cX3_fillWheel 18 = .ok (.invokevirtual 67, 3) := by decide +kernel
theorem dX3_fillWheel_21 : decode cX3_fillWheel 21 = .ok (.aload_n 0, 1) := by decide +kernel
theorem dX3_fillWheel_22 : decode cX3_fillWheel 22 = .ok (.iload_n 2, 1) := by decide +kernel
theorem dX3_fillWheel_23 : decode cX3_fillWheel 23 = .ok (.putfield 19, 3) := by decide +kernel
theorem dX3_fillWheel_26 : decode cX3_fillWheel 26 = .ok (.iconst 0, 1) := by decide +kernel
theorem dX3_fillWheel_27 : decode cX3_fillWheel 27 = .ok (.istore_n 3, 1) := by decide +kernel
theorem dX3_fillWheel_28 : decode cX3_fillWheel 28 = .ok (.iload_n 3, 1) := by decide +kernel
theorem dX3_fillWheel_29 : decode cX3_fillWheel 29 = .ok (.iload_n 2, 1) := by decide +kernel
theorem dX3_fillWheel_30 : decode cX3_fillWheel 30 = .ok (.if_icmp .ge 52, 3) := by decide +kernel
theorem dX3_fillWheel_33 : decode cX3_fillWheel 33 = .ok (.aload_n 0, 1) := by decide +kernel
theorem dX3_fillWheel_34 : decode cX3_fillWheel 34 = .ok (.iload_n 3, 1) := by decide +kernel
theorem dX3_fillWheel_35 : decode cX3_fillWheel 35 = .ok (.iload_n 2, 1) := by decide +kernel
theorem dX3_fillWheel_36 : decode cX3_fillWheel 36 = .ok (.iload_n 3, 1) := by decide +kernel
theorem dX3_fillWheel_37 : decode cX3_fillWheel 37 = .ok (.invokevirtual 44, 3) := by decide +kernel
theorem dX3_fillWheel_40 : decode cX3_fillWheel 40 = .ok (.iconst 1, 1) := by decide +kernel
theorem dX3_fillWheel_41 : decode cX3_fillWheel 41 = .ok (.istore 4, 2) := by decide +kernel
theorem dX3_fillWheel_43 : decode cX3_fillWheel 43 = .ok (.iload 4, 2) := by decide +kernel
theorem dX3_fillWheel_45 : decode cX3_fillWheel 45 = .ok (.iload_n 1, 1) := by decide +kernel
theorem dX3_fillWheel_46 : decode cX3_fillWheel 46 = .ok (.iconst 2, 1) := by decide +kernel
theorem dX3_fillWheel_47 : decode cX3_fillWheel 47 = .ok (.idiv, 1) := by decide +kernel
theorem dX3_fillWheel_48 : decode cX3_fillWheel 48 = .ok (.if_icmp .ge 28, 3) := by decide +kernel
theorem dX3_fillWheel_51 : decode cX3_fillWheel 51 = .ok (.aload_n 0, 1) := by decide +kernel
theorem dX3_fillWheel_52 : decode cX3_fillWheel 52 = .ok (.iload_n 3, 1) := by decide +kernel
theorem dX3_fillWheel_53 : decode cX3_fillWheel 53 = .ok (.iload_n 3, 1) := by decide +kernel
theorem dX3_fillWheel_54 : decode cX3_fillWheel 54 = .ok (.iload 4, 2) := by decide +kernel
theorem dX3_fillWheel_56 : decode cX3_fillWheel 56 = .ok (.iadd, 1) := by decide +kernel
theorem dX3_fillWheel_57 : decode cX3_fillWheel 57 = .ok (.iload_n 2, 1) := by decide +kernel
theorem dX3_fillWheel_58 : decode cX3_fillWheel 58 = .ok (.irem, 1) := by decide +kernel
theorem dX3_fillWheel_59 : decode cX3_fillWheel 59 = .ok (.iload_n 3, 1) := by decide +kernel
theorem dX3_fillWheel_60 : decode cX3_fillWheel 60 = .ok (.iload_n 2, 1) := by decide +kernel
theorem dX3_fillWheel_61 : decode cX3_fillWheel 61 = .ok (.iadd, 1) := by decide +kernel
theorem dX3_fillWheel_62 : decode cX3_fillWheel 62 = .ok (.iload 4, 2) := by decide +kernel
theorem dX3_fillWheel_64 : decode cX3_fillWheel 64 = .ok (.isub, 1) := by decide +kernel
theorem dX3_fillWheel_65 : decode cX3_fillWheel 65 = .ok (.iload_n 2, 1) := by decide +kernel
theorem dX3_fillWheel_66 : decode cX3_fillWheel 66 = .ok (.irem, 1) := by decide +kernel
theorem dX3_fillWheel_67 : decode cX3_fillWheel 67 = .ok (.invokevirtual 44, 3) := by decide +kernel
theorem dX3_fillWheel_70 : decode cX3_fillWheel 70 = .ok (.iinc 4 1, 3) := by decide +kernel
theorem dX3_fillWheel_73 : decode cX3_fillWheel 73 = .ok (.goto (-30), 3) := by decide +kernel
theorem dX3_fillWheel_76 : decode cX3_fillWheel 76 = .ok (.iinc 3 1, 3) := by decide +kernel
theorem dX3_fillWheel_79 : decode cX3_fillWheel 79 = .ok (.goto (-51), 3) := by decide +kernel
theorem dX3_fillWheel_82 : decode cX3_fillWheel 82 = .ok (.return_, 1) := by decide +kernel
set_option maxRecDepth 20000 in
theorem ggX3_fillTwins_X3_clear : GoodIn wsX3_fillTwins wsX3_clear := goodIn_r _ [6, 7, 1, 17, 18, 19] (by decide +kernel) (by decide +kernel)
set_option maxRecDepth 20000 in
theorem gX3_fillTwins_X3_clear : GoodIn wsX3_fillTwins (wsV RX3 67 RX3 yX3_clear wsX3_clear) := goodIn_app (goodIn_of _ (by decide +kernel)) ggX3_fillTwins_X3_clear
set_option maxRecDepth 20000 in
theorem ggX3_fillTwins_X3_pair : GoodIn wsX3_fillTwins wsX3_pair := goodIn_r _ [11, 1, 12, 13, 14, 15, 5, 16, 7, 17, 18, 19] (by decide +kernel) (by decide +kernel)
set_option maxRecDepth 20000 in
theorem gX3_fillTwins_X3_pair : GoodIn wsX3_fillTwins (wsV RX3 44 RX3 yX3_pair wsX3_pair) := goodIn_app (goodIn_of _ (by decide +kernel)) ggX3_fillTwins_X3_pair
theorem dX3_fillTwins_0 : decode cX3_fillTwins 0 = .ok (.iload_n 1, 1) := by decide +kernel
theorem dX3_fillTwins_1 : decode cX3_fillTwins 1 = .ok (.iconst 4, 1) := by decide +kernel
theorem dX3_fillTwins_2 : decode cX3_fillTwins 2 = .ok (.if_icmp .lt 9, 3) := by decide +kernel
theorem dX3_fillTwins_5 : decode cX3_fillTwins 5 = .ok (.iload_n 1, 1) := by decide +kernel
theorem dX3_fillTwins_6 : decode cX3_fillTwins 6 = .ok (.bipush 14, 2) := by decide +kernel
theorem dX3_fillTwins_8 : decode cX3_fillTwins 8 = .ok (.if_icmp .le 4, 3) := by decide +kernel
theorem dX3_fillTwins_11 : decode cX3_fillTwins 11 = .ok (.return_, 1) := by decide +kernel
theorem dX3_fillTwins_12 : decode cX3_fillTwins 12 = .ok (.iload_n 1, 1) := by decide +kernel
theorem dX3_fillTwins_13 : decode cX3_fillTwins 13 = .ok (.iconst 2, 1) := by decide +kernel
theorem dX3_fillTwins_14 : decode cX3_fillTwins 14 = .ok (.idiv, 1) := by decide +kernel
theorem dX3_fillTwins_15 : decode cX3_fillTwins 15 = .ok (.istore_n 2, 1) := by decide +kernel
theorem dX3_fillTwins_16 : decode cX3_fillTwins 16 = .ok (.aload_n 0, 1) := by decide +kernel
theorem dX3_fillTwins_17 : decode cX3_fillTwins 17 = .ok (.iload_n 1, 1) := by decide +kernel
theorem dX3_fillTwins_18 : decode cX3_fillTwins 18 = .ok (.invokevirtual 67, 3) := by decide +kernel
theorem dX3_fillTwins_21 : decode cX3_fillTwins 21 = .ok (.aload_n 0, 1) := by decide +kernel
theorem dX3_fillTwins_22 : decode cX3_fillTwins 22 = .ok (.iload_n 1, 1) := by decide +kernel
theorem dX3_fillTwins_23 : decode cX3_fillTwins 23 = .ok (.iconst 1, 1) := by decide +kernel
theorem dX3_fillTwins_24 : decode cX3_fillTwins 24 = .ok (.isub, 1) := by decide +kernel
theorem dX3_fillTwins_25 : decode cX3_fillTwins 25 = .ok (.putfield 19, 3) := by decide +kernel
theorem dX3_fillTwins_28 : decode cX3_fillTwins 28 = .ok (.iconst 0, 1) := by decide +kernel
theorem dX3_fillTwins_29 : decode cX3_fillTwins 29 = .ok (.istore_n 3, 1) := by decide +kernel
theorem dX3_fillTwins_30 : decode cX3_fillTwins 30 = .ok (.iload_n 3, 1) := by decide +kernel
theorem dX3_fillTwins_31 : decode cX3_fillTwins 31 = .ok (.iload_n 2, 1) := by decide +kernel
theorem dX3_fillTwins_32 : decode cX3_fillTwins 32 = .ok (.if_icmp .ge 50, 3) := by decide +kernel
theorem dX3_fillTwins_35 : decode cX3_fillTwins 35 = .ok (.aload_n 0, 1) := by decide +kernel
theorem dX3_fillTwins_36 : decode cX3_fillTwins 36 = .ok (.iload_n 3, 1) := by decide +kernel
theorem dX3_fillTwins_37 : decode cX3_fillTwins 37 = .ok (.iload_n 3, 1) := by decide +kernel
theorem dX3_fillTwins_38 : decode cX3_fillTwins 38 = .ok (.iload_n 3, 1) := by decide +kernel
theorem dX3_fillTwins_39 : decode cX3_fillTwins 39 = .ok (.iload_n 2, 1) := by decide +kernel
theorem dX3_fillTwins_40 : decode cX3_fillTwins 40 = .ok (.iadd, 1) := by decide +kernel
theorem dX3_fillTwins_41 : decode cX3_fillTwins 41 = .ok (.invokevirtual 44, 3) := by decide +kernel
theorem dX3_fillTwins_44 : decode cX3_fillTwins 44 = .ok (.iconst 0, 1) := by decide +kernel
theorem dX3_fillTwins_45 : decode cX3_fillTwins 45 = .ok (.istore 4, 2) := by decide +kernel
theorem dX3_fillTwins_47 : decode cX3_fillTwins 47 = .ok (.iload 4, 2) := by decide +kernel
theorem dX3_fillTwins_49 : decode cX3_fillTwins 49 = .ok (.iload_n 1, 1) := by decide +kernel
theorem dX3_fillTwins_50 : decode cX3_fillTwins 50 = .ok (.if_icmp .ge 26, 3) := by decide +kernel
theorem dX3_fillTwins_53 : decode cX3_fillTwins 53 = .ok (.aload_n 0, 1) := by decide +kernel
theorem dX3_fillTwins_54 : decode cX3_fillTwins 54 = .ok (.iload_n 3, 1) := by decide +kernel
theorem dX3_fillTwins_55 : decode cX3_fillTwins 55 = .ok (.iload 4, 2) := by decide +kernel
theorem dX3_fillTwins_57 : decode cX3_fillTwins 57 = .ok (.iconst 2, 1) := by decide +kernel
theorem dX3_fillTwins_58 : decode cX3_fillTwins 58 = .ok (.iload_n 3, 1) := by decide +kernel
theorem dX3_fillTwins_59 : decode cX3_fillTwins 59 = .ok (.imul, 1) := by decide +kernel
theorem dX3_fillTwins_60 : decode cX3_fillTwins 60 = .ok (.iload_n 1, 1) := by decide +kernel
theorem dX3_fillTwins_61 : decode cX3_fillTwins 61 = .ok (.iadd, 1) := by decide +kernel
theorem dX3_fillTwins_62 : decode cX3_fillTwins 62 = .ok (.iload 4, 2) := by decide +kernel
theorem dX3_fillTwins_64 : decode cX3_fillTwins 64 = .ok (.isub, 1) := by decide +kernel
theorem dX3_fillTwins_65 : decode cX3_fillTwins 65 = .ok (.iload_n 1, 1) := by decide +kernel
theorem dX3_fillTwins_66 : decode cX3_fillTwins 66 = .ok (.irem, 1) := by decide +kernel
theorem dX3_fillTwins_67 : decode cX3_fillTwins 67 = .ok (.invokevirtual 44, 3) := by decide +kernel
theorem dX3_fillTwins_70 : decode cX3_fillTwins 70 = .ok (.iinc 4 1, 3) := by decide +kernel
theorem dX3_fillTwins_73 : decode cX3_fillTwins 73 = .ok (.goto (-26), 3) := by decide +kernel
theorem dX3_fillTwins_76 : decode cX3_fillTwins 76 = .ok (.iinc 3 1, 3) := by decide +kernel
theorem dX3_fillTwins_79 : decode cX3_fillTwins 79 = .ok (.goto (-49), 3) := by decide +kernel
theorem dX3_fillTwins_82 : decode cX3_fillTwins 82 = .ok (.iload_n 2, 1) := by decide +kernel
theorem dX3_fillTwins_83 : decode cX3_fillTwins 83 = .ok (.istore_n 3, 1) := by decide +kernel
theorem dX3_fillTwins_84 : decode cX3_fillTwins 84 = .ok (.iconst 1, 1) := by decide +kernel
theorem dX3_fillTwins_85 : decode cX3_fillTwins 85 = .ok (.istore 4, 2) := by decide +kernel
theorem dX3_fillTwins_87 : decode cX3_fillTwins 87 = .ok (.iload 4, 2) := by decide +kernel
theorem dX3_fillTwins_89 : decode cX3_fillTwins 89 = .ok (.iload_n 1, 1) := by decide +kernel
theorem dX3_fillTwins_90 : decode cX3_fillTwins 90 = .ok (.if_icmp .ge 47, 3) := by decide +kernel
theorem dX3_fillTwins_93 : decode cX3_fillTwins 93 = .ok (.iload 4, 2) := by decide +kernel
theorem dX3_fillTwins_95 : decode cX3_fillTwins 95 = .ok (.iload_n 2, 1) := by decide +kernel
theorem dX3_fillTwins_96 : decode cX3_fillTwins 96 = .ok (.if_icmp .eq 35, 3) := by decide +kernel
theorem dX3_fillTwins_99 : decode cX3_fillTwins 99 = .ok (.iconst 0, 1) := by decide +kernel
theorem dX3_fillTwins_100 : decode cX3_fillTwins 100 = .ok (.istore 5, 2) := by decide +kernel
theorem dX3_fillTwins_102 : decode cX3_fillTwins 102 = .ok (.iload 5, 2) := by decide +kernel
theorem dX3_fillTwins_104 : decode cX3_fillTwins 104 = .ok (.iload_n 1, 1) := by decide +kernel
theorem dX3_fillTwins_105 : decode cX3_fillTwins 105 = .ok (.if_icmp .ge 23, 3) := by decide +kernel
theorem dX3_fillTwins_108 : decode cX3_fillTwins 108 = .ok (.aload_n 0, 1) := by decide +kernel
theorem dX3_fillTwins_109 : decode cX3_fillTwins 109 = .ok (.iload_n 3, 1) := by decide +kernel
theorem dX3_fillTwins_110 : decode cX3_fillTwins 110 = .ok (.iload 5, 2) := by decide +kernel
theorem dX3_fillTwins_112 : decode cX3_fillTwins 112 = .ok (.iload 5, 2) := by decide +kernel
theorem dX3_fillTwins_114 : decode cX3_fillTwins 114 = .ok (.iload 4, 2) := by decide +kernel
theorem dX3_fillTwins_116 : decode cX3_fillTwins 116 = .ok (.iadd, 1) := by decide +kernel
theorem dX3_fillTwins_117 : decode cX3_fillTwins 117 = .ok (.iload_n 1, 1) := by decide +kernel
theorem dX3_fillTwins_118 : decode cX3_fillTwins 118 = .ok (.irem, 1) := by decide +kernel
theorem dX3_fillTwins_119 : decode cX3_fillTwins 119 = .ok (.invokevirtual 44, 3) := by decide +kernel
theorem dX3_fillTwins_122 : decode cX3_fillTwins 122 = .ok (.iinc 5 2, 3) := by decide +kernel
theorem dX3_fillTwins_125 : decode cX3_fillTwins 125 = .ok (.goto (-23), 3) := by decide +kernel
theorem dX3_fillTwins_128 : decode cX3_fillTwins 128 = .ok (.iinc 3 1, 3) := by decide +kernel
theorem dX3_fillTwins_131 : decode cX3_fillTwins 131 = .ok (.iinc 4 2, 3) := by decide +kernel
theorem dX3_fillTwins_134 : decode cX3_fillTwins 134 = .ok (.goto (-47), 3) := by decide +kernel
theorem dX3_fillTwins_137 : decode cX3_fillTwins 137 = .ok (.return_, 1) := by decide +kernel
set_option maxRecDepth 20000 in
theorem ggX3_fillBy_X3_clear : GoodIn wsX3_fillBy wsX3_clear := goodIn_r _ [6, 7, 1, 17, 18, 19] (by decide +kernel) (by decide +kernel)
set_option maxRecDepth 20000 in
theorem gX3_fillBy_X3_clear : GoodIn wsX3_fillBy (wsV RX3 67 RX3 yX3_clear wsX3_clear) := goodIn_app (goodIn_of _ (by decide +kernel)) ggX3_fillBy_X3_clear
set_option maxRecDepth 20000 in
theorem ggX3_fillBy_X3_pair : GoodIn wsX3_fillBy wsX3_pair := goodIn_r _ [11, 1, 12, 13, 14, 15, 5, 16, 7, 17, 18, 19] (by decide +kernel) (by decide +kernel)
set_option maxRecDepth 20000 in
theorem gX3_fillBy_X3_pair : GoodIn wsX3_fillBy (wsV RX3 44 RX3 yX3_pair wsX3_pair) := goodIn_app (goodIn_of _ (by decide +kernel)) ggX3_fillBy_X3_pair
theorem dX3_fillBy_0 : decode cX3_fillBy 0 = .ok (.iload_n 1, 1) := by decide +kernel
theorem dX3_fillBy_1 : decode cX3_fillBy 1 = .ok (.iconst 1, 1) := by decide +kernel
theorem dX3_fillBy_2 : decode cX3_fillBy 2 = .ok (.if_icmp .lt 15, 3) := by decide +kernel
theorem dX3_fillBy_5 : decode cX3_fillBy 5 = .ok (.iload_n 1, 1) := by decide +kernel
theorem dX3_fillBy_6 : decode cX3_fillBy 6 = .ok (.bipush 13, 2) := by decide +kernel
theorem dX3_fillBy_8 : decode cX3_fillBy 8 = .ok (.if_icmp .gt 9, 3) := by decide +kernel
theorem dX3_fillBy_11 : decode cX3_fillBy 11 = .ok (.aload_n 2, 1) := by decide +kernel
theorem dX3_fillBy_12 : decode cX3_fillBy 12 = .ok (.arraylength, 1) := by decide +kernel
theorem dX3_fillBy_13 : decode cX3_fillBy 13 = .ok (.iload_n 1, 1) := by decide +kernel
theorem dX3_fillBy_14 : decode cX3_fillBy 14 = .ok (.if_icmp .ge 4, 3) := by decide +kernel
theorem dX3_fillBy_17 : decode cX3_fillBy 17 = .ok (.return_, 1) := by decide +kernel
theorem dX3_fillBy_18 : decode cX3_fillBy 18 = .ok (.aload_n 0, 1) := by decide +kernel
theorem dX3_fillBy_19 : decode cX3_fillBy 19 = .ok (.iload_n 1, 1) := by decide +kernel
theorem dX3_fillBy_20 : decode cX3_fillBy 20 = .ok (.iconst 1, 1) := by decide +kernel
theorem dX3_fillBy_21 : decode cX3_fillBy 21 = .ok (.iadd, 1) := by decide +kernel
theorem dX3_fillBy_22 : decode cX3_fillBy 22 = .ok (.invokevirtual 67, 3) := by decide +kernel
theorem dX3_fillBy_25 : decode cX3_fillBy 25 = .ok (.aload_n 0, 1) := by decide +kernel
theorem dX3_fillBy_26 : decode cX3_fillBy 26 = .ok (.iload_n 1, 1) := by decide +kernel
theorem dX3_fillBy_27 : decode cX3_fillBy 27 = .ok (.putfield 19, 3) := by decide +kernel
theorem dX3_fillBy_30 : decode cX3_fillBy 30 = .ok (.iconst 0, 1) := by decide +kernel
theorem dX3_fillBy_31 : decode cX3_fillBy 31 = .ok (.istore_n 3, 1) := by decide +kernel
theorem dX3_fillBy_32 : decode cX3_fillBy 32 = .ok (.iload_n 3, 1) := by decide +kernel
theorem dX3_fillBy_33 : decode cX3_fillBy 33 = .ok (.iload_n 1, 1) := by decide +kernel
theorem dX3_fillBy_34 : decode cX3_fillBy 34 = .ok (.if_icmp .ge 50, 3) := by decide +kernel
theorem dX3_fillBy_37 : decode cX3_fillBy 37 = .ok (.aload_n 0, 1) := by decide +kernel
theorem dX3_fillBy_38 : decode cX3_fillBy 38 = .ok (.iload_n 3, 1) := by decide +kernel
theorem dX3_fillBy_39 : decode cX3_fillBy 39 = .ok (.iload_n 1, 1) := by decide +kernel
theorem dX3_fillBy_40 : decode cX3_fillBy 40 = .ok (.iload_n 3, 1) := by decide +kernel
theorem dX3_fillBy_41 : decode cX3_fillBy 41 = .ok (.invokevirtual 44, 3) := by decide +kernel
theorem dX3_fillBy_44 : decode cX3_fillBy 44 = .ok (.iconst 1, 1) := by decide +kernel
theorem dX3_fillBy_45 : decode cX3_fillBy 45 = .ok (.istore 4, 2) := by decide +kernel
theorem dX3_fillBy_47 : decode cX3_fillBy 47 = .ok (.iload 4, 2) := by decide +kernel
theorem dX3_fillBy_49 : decode cX3_fillBy 49 = .ok (.iload_n 1, 1) := by decide +kernel
theorem dX3_fillBy_50 : decode cX3_fillBy 50 = .ok (.if_icmp .ge 28, 3) := by decide +kernel
theorem dX3_fillBy_53 : decode cX3_fillBy 53 = .ok (.aload_n 0, 1) := by decide +kernel
theorem dX3_fillBy_54 : decode cX3_fillBy 54 = .ok (.iload_n 3, 1) := by decide +kernel
theorem dX3_fillBy_55 : decode cX3_fillBy 55 = .ok (.iload 4, 2) := by decide +kernel
theorem dX3_fillBy_57 : decode cX3_fillBy 57 = .ok (.iload_n 3, 1) := by decide +kernel
theorem dX3_fillBy_58 : decode cX3_fillBy 58 = .ok (.iadd, 1) := by decide +kernel
theorem dX3_fillBy_59 : decode cX3_fillBy 59 = .ok (.iload_n 1, 1) := by decide +kernel
theorem dX3_fillBy_60 : decode cX3_fillBy 60 = .ok (.irem, 1) := by decide +kernel
theorem dX3_fillBy_61 : decode cX3_fillBy 61 = .ok (.aload_n 2, 1) := by decide +kernel
theorem dX3_fillBy_62 : decode cX3_fillBy 62 = .ok (.iload 4, 2) := by decide +kernel
theorem dX3_fillBy_64 : decode cX3_fillBy 64 = .ok (.iaload, 1) := by decide +kernel
theorem dX3_fillBy_65 : decode cX3_fillBy 65 = .ok (.iload_n 3, 1) := by decide +kernel
theorem dX3_fillBy_66 : decode cX3_fillBy 66 = .ok (.iadd, 1) := by decide +kernel
theorem dX3_fillBy_67 : decode cX3_fillBy 67 = .ok (.iload_n 1, 1) := by decide +kernel
theorem dX3_fillBy_68 : decode cX3_fillBy 68 = .ok (.irem, 1) := by decide +kernel
theorem dX3_fillBy_69 : decode cX3_fillBy 69 = .ok (.invokevirtual 44, 3) := by decide +kernel
theorem dX3_fillBy_72 : decode cX3_fillBy 72 = .ok (.iinc 4 1, 3) := by decide +kernel
theorem dX3_fillBy_75 : decode cX3_fillBy 75 = .ok (.goto (-28), 3) := by decide +kernel
theorem dX3_fillBy_78 : decode cX3_fillBy 78 = .ok (.iinc 3 1, 3) := by decide +kernel
theorem dX3_fillBy_81 : decode cX3_fillBy 81 = .ok (.goto (-49), 3) := by decide +kernel
theorem dX3_fillBy_84 : decode cX3_fillBy 84 = .ok (.return_, 1) := by decide +kernel
theorem dX4_init_0 : decode cX4_init 0 = .ok (.aload_n 0, 1) := by decide +kernel
theorem dX4_init_1 : decode cX4_init 1 = .ok (.invokespecial 3, 3) := by decide +kernel
theorem dX4_init_4 : decode cX4_init 4 = .ok (.aload_n 0, 1) := by decide +kernel
theorem dX4_init_5 : decode cX4_init 5 = .ok (.bipush 13, 2) := by decide +kernel
theorem dX4_init_7 : decode cX4_init 7 = .ok (.newarray .int, 2) := by decide +kernel
theorem dX4_init_9 : decode cX4_init 9 = .ok (.putfield 9, 3) := by decide +kernel
theorem dX4_init_12 : decode cX4_init 12 = .ok (.aload_n 0, 1) := by decide +kernel
theorem dX4_init_13 : decode cX4_init 13 = .ok (.bipush 13, 2) := by decide +kernel
theorem dX4_init_15 : decode cX4_init 15 = .ok (.newarray .int, 2) := by decide +kernel
theorem dX4_init_17 : decode cX4_init 17 = .ok (.putfield 15, 3) := by decide +kernel
theorem dX4_init_20 : decode cX4_init 20 = .ok (.aload_n 0, 1) := by decide +kernel
theorem dX4_init_21 : decode cX4_init 21 = .ok (.bipush 8, 2) := by decide +kernel
theorem dX4_init_23 : decode cX4_init 23 = .ok (.newarray .int, 2) := by decide +kernel
theorem dX4_init_25 : decode cX4_init 25 = .ok (.putfield 18, 3) := by decide +kernel
theorem dX4_init_28 : decode cX4_init 28 = .ok (.return_, 1) := by decide +kernel
set_option maxRecDepth 20000 in
theorem ggX4_measure_X4_clear : GoodIn wsX4_measure wsX4_clear := goodIn_r _ [14, 8, 9, 7, 34, 35, 36, 37] (by decide +kernel) (by decide +kernel)
set_option maxRecDepth 20000 in
theorem gX4_measure_X4_clear : GoodIn wsX4_measure (wsV RX4 34 RX4 yX4_clear wsX4_clear) := goodIn_app (goodIn_of _ (by decide +kernel)) ggX4_measure_X4_clear
set_option maxRecDepth 20000 in
theorem ggX4_measure_X3_circles : GoodIn wsX4_measure wsX3_circles := goodIn_r _ [19, 20, 21, 22, 23, 18, 24, 25, 26, 27, 28, 29, 30, 31, 32, 33] (by decide +kernel) (by decide +kernel)
set_option maxRecDepth 20000 in
theorem gX4_measure_X3_circles : GoodIn wsX4_measure (wsV RX4 37 RX3 yX3_circles wsX3_circles) := goodIn_app (goodIn_of _ (by decide +kernel)) ggX4_measure_X3_circles
theorem dX4_measure_0 : decode cX4_measure 0 = .ok (.aload_n 0, 1) := by decide +kernel
theorem dX4_measure_1 : decode cX4_measure 1 = .ok (.aload_n 1, 1) := by decide +kernel
theorem dX4_measure_2 : decode cX4_measure 2 = .ok (.getfield 21, 3) := by decide +kernel
theorem dX4_measure_5 : decode cX4_measure 5 = .ok (.bipush 13, 2) := by decide +kernel
theorem dX4_measure_7 : decode cX4_measure 7 = .ok (.invokestatic 27, 3) := by decide +kernel
theorem dX4_measure_10 : decode cX4_measure 10 = .ok (.putfield 33, 3) := by decide +kernel
theorem dX4_measure_13 : decode cX4_measure 13 = .ok (.aload_n 0, 1) := by decide +kernel
theorem dX4_measure_14 : decode cX4_measure 14 = .ok (.invokevirtual 34, 3) := by decide +kernel
theorem dX4_measure_17 : decode cX4_measure 17 = .ok (.iconst 0, 1) := by decide +kernel
theorem dX4_measure_18 : decode cX4_measure 18 = .ok (.istore_n 2, 1) := by decide +kernel
theorem dX4_measure_19 : decode cX4_measure 19 = .ok (.iload_n 2, 1) := by decide +kernel
theorem dX4_measure_20 : decode cX4_measure 20 = .ok (.aload_n 0, 1) := by decide +kernel
theorem dX4_measure_21 : decode cX4_measure 21 = .ok (.getfield 33, 3) := by decide +kernel
theorem dX4_measure_24 : decode cX4_measure 24 = .ok (.if_icmp .ge 84, 3) := by decide +kernel
theorem dX4_measure_27 : decode cX4_measure 27 = .ok (.iload_n 2, 1) := by decide +kernel
theorem dX4_measure_28 : decode cX4_measure 28 = .ok (.iconst 1, 1) := by decide +kernel
theorem dX4_measure_29 : decode cX4_measure 29 = .ok (.iadd, 1) := by decide +kernel
theorem dX4_measure_30 : decode cX4_measure 30 = .ok (.istore_n 3, 1) := by decide +kernel
theorem dX4_measure_31 : decode cX4_measure 31 = .ok (.iload_n 3, 1) := by decide +kernel
theorem dX4_measure_32 : decode cX4_measure 32 = .ok (.aload_n 0, 1) := by decide +kernel
theorem dX4_measure_33 : decode cX4_measure 33 = .ok (.getfield 33, 3) := by decide +kernel
theorem dX4_measure_36 : decode cX4_measure 36 = .ok (.if_icmp .ge 66, 3) := by decide +kernel
theorem dX4_measure_39 : decode cX4_measure 39 = .ok (.aload_n 1, 1) := by decide +kernel
theorem dX4_measure_40 : decode cX4_measure 40 = .ok (.iload_n 2, 1) := by decide +kernel
theorem dX4_measure_41 : decode cX4_measure 41 = .ok (.iload_n 3, 1) := by decide +kernel
theorem dX4_measure_42 : decode cX4_measure 42 = .ok (.invokevirtual 37, 3) := by decide +kernel
theorem dX4_measure_45 : decode cX4_measure 45 = .ok (.istore 4, 2) := by decide +kernel
theorem dX4_measure_47 : decode cX4_measure 47 = .ok (.iload 4, 2) := by decide +kernel
theorem dX4_measure_49 : decode cX4_measure 49 = .ok (.ifCond .lt 21, 3) := by decide +kernel
theorem dX4_measure_52 : decode cX4_measure 52 = .ok (.iload 4, 2) := by decide +kernel
theorem dX4_measure_54 : decode cX4_measure 54 = .ok (.bipush 7, 2) := by decide +kernel
theorem dX4_measure_56 : decode cX4_measure 56 = .ok (.if_icmp .gt 14, 3) := by decide +kernel
theorem dX4_measure_59 : decode cX4_measure 59 = .ok (.aload_n 0, 1) := by decide +kernel
theorem dX4_measure_60 : decode cX4_measure 60 = .ok (.getfield 18, 3) := by decide +kernel
theorem dX4_measure_63 : decode cX4_measure 63 = .ok (.iload 4, 2) := by decide +kernel
theorem dX4_measure_65 : decode cX4_measure 65 = .ok (.dup2, 1) := by decide +kernel
theorem dX4_measure_66 : decode cX4_measure 66 = .ok (.iaload, 1) := by decide +kernel
theorem dX4_measure_67 : decode cX4_measure 67 = .ok (.iconst 1, 1) := by decide +kernel
theorem dX4_measure_68 : decode cX4_measure 68 = .ok (.iadd, 1) := by decide +kernel
theorem dX4_measure_69 : decode cX4_measure 69 = .ok (.iastore, 1) := by decide +kernel
theorem dX4_measure_70 : decode cX4_measure 70 = .ok (.iload 4, 2) := by decide +kernel
theorem dX4_measure_72 : decode cX4_measure 72 = .ok (.iconst 1, 1) := by decide +kernel
theorem dX4_measure_73 : decode cX4_measure 73 = .ok (.if_icmp .ne 23, 3) := by decide +kernel
theorem dX4_measure_76 : decode cX4_measure 76 = .ok (.aload_n 0, 1) := by decide +kernel
theorem dX4_measure_77 : decode cX4_measure 77 = .ok (.getfield 9, 3) := by decide +kernel
theorem dX4_measure_80 : decode cX4_measure 80 = .ok (.iload_n 2, 1) := by decide +kernel
theorem dX4_measure_81 : decode cX4_measure 81 = .ok (.dup2, 1) := by decide +kernel
theorem dX4_measure_82 : decode cX4_measure 82 = .ok (.iaload, 1) := by decide +kernel
theorem dX4_measure_83 : decode cX4_measure 83 = .ok (.iconst 1, 1) := by decide +kernel
theorem dX4_measure_84 : decode cX4_measure 84 = .ok (.iadd, 1) := by decide +kernel
theorem dX4_measure_85 : decode cX4_measure 85 = .ok (.iastore, 1) := by decide +kernel
theorem dX4_measure_86 : decode cX4_measure 86 = .ok (.aload_n 0, 1) := by decide +kernel
theorem dX4_measure_87 : decode cX4_measure 87 = .ok (.getfield 9, 3) := by decide +kernel
theorem dX4_measure_90 : decode cX4_measure 90 = .ok (.iload_n 3, 1) := by decide +kernel
theorem dX4_measure_91 : decode cX4_measure 91 = .ok (.dup2, 1) := by decide +kernel
theorem dX4_measure_92 : decode cX4_measure 92 = .ok (.iaload, 1) := by decide +kernel
theorem dX4_measure_93 : decode cX4_measure 93 = .ok (.iconst 1, 1) := by decide +kernel
theorem dX4_measure_94 : decode cX4_measure 94 = .ok (.iadd, 1) := by decide +kernel
theorem dX4_measure_95 : decode cX4_measure 95 = .ok (.iastore, 1) := by decide +kernel
theorem dX4_measure_96 : decode cX4_measure 96 = .ok (.iinc 3 1, 3) := by decide +kernel
theorem dX4_measure_99 : decode cX4_measure 99 = .ok (.goto (-68), 3) := by decide +kernel
theorem dX4_measure_102 : decode cX4_measure 102 = .ok (.iinc 2 1, 3) := by decide +kernel
theorem dX4_measure_105 : decode cX4_measure 105 = .ok (.goto (-86), 3) := by decide +kernel
theorem dX4_measure_108 : decode cX4_measure 108 = .ok (.iconst 0, 1) := by decide +kernel
theorem dX4_measure_109 : decode cX4_measure 109 = .ok (.istore_n 2, 1) := by decide +kernel
theorem dX4_measure_110 : decode cX4_measure 110 = .ok (.iload_n 2, 1) := by decide +kernel
theorem dX4_measure_111 : decode cX4_measure 111 = .ok (.aload_n 0, 1) := by decide +kernel
theorem dX4_measure_112 : decode cX4_measure 112 = .ok (.getfield 33, 3) := by decide +kernel
theorem dX4_measure_115 : decode cX4_measure 115 = .ok (.if_icmp .ge 36, 3) := by decide +kernel
theorem dX4_measure_118 : decode cX4_measure 118 = .ok (.aload_n 0, 1) := by decide +kernel
theorem dX4_measure_119 : decode cX4_measure 119 = .ok (.getfield 9, 3) := by decide +kernel
theorem dX4_measure_122 : decode cX4_measure 122 = .ok (.iload_n 2, 1) := by decide +kernel
theorem dX4_measure_123 : decode cX4_measure 123 = .ok (.iaload, 1) := by decide +kernel
theorem dX4_measure_124 : decode cX4_measure 124 = .ok (.istore_n 3, 1) := by decide +kernel
theorem dX4_measure_125 : decode cX4_measure 125 = .ok (.iload_n 3, 1) := by decide +kernel
theorem dX4_measure_126 : decode cX4_measure 126 = .ok (.ifCond .lt 19, 3) := by decide +kernel
theorem dX4_measure_129 : decode cX4_measure 129 = .ok (.iload_n 3, 1) := by decide +kernel
theorem dX4_measure_130 : decode cX4_measure 130 = .ok (.bipush 13, 2) := by decide +kernel
theorem dX4_measure_132 : decode cX4_measure 132 = .ok (.if_icmp .ge 13, 3) := by decide +kernel
theorem dX4_measure_135 : decode cX4_measure 135 = .ok (.aload_n 0, 1) := by decide +kernel
theorem dX4_measure_136 : decode cX4_measure 136 = .ok (.getfield 15, 3) := by decide +kernel
theorem dX4_measure_139 : decode cX4_measure 139 = .ok (.iload_n 3, 1) := by decide +kernel
theorem dX4_measure_140 : decode cX4_measure 140 = .ok (.dup2, 1) := by decide +kernel
theorem dX4_measure_141 : decode cX4_measure 141 = .ok (.iaload, 1) := by decide +kernel
theorem dX4_measure_142 : decode cX4_measure 142 = .ok (.iconst 1, 1) := by decide +kernel
theorem dX4_measure_143 : decode cX4_measure 143 = .ok (.iadd, 1) := by decide +kernel
theorem dX4_measure_144 : decode cX4_measure 144 = .ok (.iastore, 1) := by decide +kernel
theorem dX4_measure_145 : decode cX4_measure 145 = .ok (.iinc 2 1, 3) := by decide +kernel
theorem dX4_measure_148 : decode cX4_measure 148 = .ok (.goto (-38), 3) := by decide +kernel
theorem dX4_measure_151 : decode cX4_measure 151 = .ok (.return_, 1) := by decide +kernel
theorem dX4_clear_0 : decode cX4_clear 0 = .ok (.iconst 0, 1) := by decide +kernel
theorem dX4_clear_1 : decode cX4_clear 1 = .ok (.istore_n 1, 1) := by decide +kernel
theorem dX4_clear_2 : decode cX4_clear 2 = .ok (.iload_n 1, 1) := by decide +kernel
theorem dX4_clear_3 : decode cX4_clear 3 = .ok (.bipush 13, 2) := by decide +kernel
theorem dX4_clear_5 : decode cX4_clear 5 = .ok (.if_icmp .ge 23, 3) := by decide +kernel
theorem dX4_clear_8 : decode cX4_clear 8 = .ok (.aload_n 0, 1) := by decide +kernel
theorem dX4_clear_9 : decode cX4_clear 9 = .ok (.getfield 9, 3) := by decide +kernel
theorem dX4_clear_12 : decode cX4_clear 12 = .ok (.iload_n 1, 1) := by decide +kernel
theorem dX4_clear_13 : decode cX4_clear 13 = .ok (.iconst 0, 1) := by decide +kernel
theorem dX4_clear_14 : decode cX4_clear 14 = .ok (.iastore, 1) := by decide +kernel
theorem dX4_clear_15 : decode cX4_clear 15 = .ok (.aload_n 0, 1) := by decide +kernel
theorem dX4_clear_16 : decode cX4_clear 16 = .ok (.getfield 15, 3) := by decide +kernel
theorem dX4_clear_19 : decode cX4_clear 19 = .ok (.iload_n 1, 1) := by decide +kernel
theorem dX4_clear_20 : decode cX4_clear 20 = .ok (.iconst 0, 1) := by decide +kernel
theorem dX4_clear_21 : decode cX4_clear 21 = .ok (.iastore, 1) := by decide +kernel
theorem dX4_clear_22 : decode cX4_clear 22 = .ok (.iinc 1 1, 3) := by decide +kernel
theorem dX4_clear_25 : decode cX4_clear 25 = .ok (.goto (-23), 3) := by decide +kernel
theorem dX4_clear_28 : decode cX4_clear 28 = .ok (.iconst 0, 1) := by decide +kernel
theorem dX4_clear_29 : decode cX4_clear 29 = .ok (.istore_n 1, 1) := by decide +kernel
theorem dX4_clear_30 : decode cX4_clear 30 = .ok (.iload_n 1, 1) := by decide +kernel
theorem dX4_clear_31 : decode cX4_clear 31 = .ok (.bipush 7, 2) := by decide +kernel
theorem dX4_clear_33 : decode cX4_clear 33 = .ok (.if_icmp .gt 16, 3) := by decide +kernel
theorem dX4_clear_36 : decode cX4_clear 36 = .ok (.aload_n 0, 1) := by decide +kernel
theorem dX4_clear_37 : decode cX4_clear 37 = .ok (.getfield 18, 3) := by decide +kernel
theorem dX4_clear_40 : decode cX4_clear 40 = .ok (.iload_n 1, 1) := by decide +kernel
theorem dX4_clear_41 : decode cX4_clear 41 = .ok (.iconst 0, 1) := by decide +kernel
theorem dX4_clear_42 : decode cX4_clear 42 = .ok (.iastore, 1) := by decide +kernel
theorem dX4_clear_43 : decode cX4_clear 43 = .ok (.iinc 1 1, 3) := by decide +kernel
theorem dX4_clear_46 : decode cX4_clear 46 = .ok (.goto (-16), 3) := by decide +kernel
theorem dX4_clear_49 : decode cX4_clear 49 = .ok (.return_, 1) := by decide +kernel
theorem dX4_makes_0 : decode cX4_makes 0 = .ok (.iload_n 1, 1) := by decide +kernel
theorem dX4_makes_1 : decode cX4_makes 1 = .ok (.ifCond .lt 9, 3) := by decide +kernel
theorem dX4_makes_4 : decode cX4_makes 4 = .ok (.iload_n 1, 1) := by decide +kernel
theorem dX4_makes_5 : decode cX4_makes 5 = .ok (.bipush 7, 2) := by decide +kernel
theorem dX4_makes_7 : decode cX4_makes 7 = .ok (.if_icmp .le 7, 3) := by decide +kernel
theorem dX4_makes_10 : decode cX4_makes 10 = .ok (.iconst (-1), 1) := by decide +kernel
theorem dX4_makes_11 : decode cX4_makes 11 = .ok (.goto 9, 3) := by decide +kernel
theorem dX4_makes_14 : decode cX4_makes 14 = .ok (.aload_n 0, 1) := by decide +kernel
theorem dX4_makes_15 : decode cX4_makes 15 = .ok (.getfield 18, 3) := by decide +kernel
theorem dX4_makes_18 : decode cX4_makes 18 = .ok (.iload_n 1, 1) := by decide +kernel
theorem dX4_makes_19 : decode cX4_makes 19 = .ok (.iaload, 1) := by decide +kernel
theorem dX4_makes_20 : decode cX4_makes 20 = .ok (.ireturn, 1) := by decide +kernel
theorem dX4_signOf_0 : decode cX4_signOf 0 = .ok (.iload_n 1, 1) := by decide +kernel
theorem dX4_signOf_1 : decode cX4_signOf 1 = .ok (.ifCond .lt 11, 3) := by decide +kernel
theorem dX4_signOf_4 : decode cX4_signOf 4 = .ok (.iload_n 1, 1) := by decide +kernel
theorem dX4_signOf_5 : decode cX4_signOf 5 = .ok (.aload_n 0, 1) := by decide +kernel
theorem dX4_signOf_6 : decode cX4_signOf 6 = .ok (.getfield 33, 3) := by decide +kernel
theorem dX4_signOf_9 : decode cX4_signOf 9 = .ok (.if_icmp .lt 7, 3) := by decide +kernel
theorem dX4_signOf_12 : decode cX4_signOf 12 = .ok (.iconst (-1), 1) := by decide +kernel
theorem dX4_signOf_13 : decode cX4_signOf 13 = .ok (.goto 9, 3) := by decide +kernel
theorem dX4_signOf_16 : decode cX4_signOf 16 = .ok (.aload_n 0, 1) := by decide +kernel
theorem dX4_signOf_17 : decode cX4_signOf 17 = .ok (.getfield 9, 3) := by decide +kernel
theorem dX4_signOf_20 : decode cX4_signOf 20 = .ok (.iload_n 1, 1) := by decide +kernel
theorem dX4_signOf_21 : decode cX4_signOf 21 = .ok (.iaload, 1) := by decide +kernel
theorem dX4_signOf_22 : decode cX4_signOf 22 = .ok (.ireturn, 1) := by decide +kernel
theorem dX4_daysBelow_0 : decode cX4_daysBelow 0 = .ok (.iconst 0, 1) := by decide +kernel
theorem dX4_daysBelow_1 : decode cX4_daysBelow 1 = .ok (.istore_n 2, 1) := by decide +kernel
theorem dX4_daysBelow_2 : decode cX4_daysBelow 2 = .ok (.iconst 0, 1) := by decide +kernel
theorem dX4_daysBelow_3 : decode cX4_daysBelow 3 = .ok (.istore_n 3, 1) := by decide +kernel
theorem dX4_daysBelow_4 : decode cX4_daysBelow 4 = .ok (.iload_n 3, 1) := by decide +kernel
theorem dX4_daysBelow_5 : decode cX4_daysBelow 5 = .ok (.bipush 13, 2) := by decide +kernel
theorem dX4_daysBelow_7 : decode cX4_daysBelow 7 = .ok (.if_icmp .ge 23, 3) := by decide +kernel
theorem dX4_daysBelow_10 : decode cX4_daysBelow 10 = .ok (.iload_n 3, 1) := by decide +kernel
theorem dX4_daysBelow_11 : decode cX4_daysBelow 11 = .ok (.iload_n 1, 1) := by decide +kernel
theorem dX4_daysBelow_12 : decode cX4_daysBelow 12 = .ok (.if_icmp .ge 18, 3) := by decide +kernel
theorem dX4_daysBelow_15 : decode cX4_daysBelow 15 = .ok (.iload_n 2, 1) := by decide +kernel
theorem dX4_daysBelow_16 : decode cX4_daysBelow 16 = .ok (.aload_n 0, 1) := by decide +kernel
theorem dX4_daysBelow_17 : decode cX4_daysBelow 17 = .ok (.getfield 15, 3) := by decide +kernel
theorem dX4_daysBelow_20 : decode cX4_daysBelow 20 = .ok (.iload_n 3, 1) := by decide +kernel
theorem dX4_daysBelow_21 : decode cX4_daysBelow 21 = .ok (.iaload, 1) := by decide +kernel
theorem dX4_daysBelow_22 : decode cX4_daysBelow 22 = .ok (.iadd, 1) := by decide +kernel
theorem dX4_daysBelow_23 : decode cX4_daysBelow 23 = .ok (.istore_n 2, 1) := by decide +kernel
theorem dX4_daysBelow_24 : decode cX4_daysBelow 24 = .ok (.iinc 3 1, 3) := by decide +kernel
theorem dX4_daysBelow_27 : decode cX4_daysBelow 27 = .ok (.goto (-23), 3) := by decide +kernel
theorem dX4_daysBelow_30 : decode cX4_daysBelow 30 = .ok (.iload_n 2, 1) := by decide +kernel
theorem dX4_daysBelow_31 : decode cX4_daysBelow 31 = .ok (.ireturn, 1) := by decide +kernel
theorem dX4_same_0 : decode cX4_same 0 = .ok (.iconst 0, 1) := by decide +kernel
theorem dX4_same_1 : decode cX4_same 1 = .ok (.istore_n 2, 1) := by decide +kernel
theorem dX4_same_2 : decode cX4_same 2 = .ok (.iload_n 2, 1) := by decide +kernel
theorem dX4_same_3 : decode cX4_same 3 = .ok (.bipush 13, 2) := by decide +kernel
theorem dX4_same_5 : decode cX4_same 5 = .ok (.if_icmp .ge 26, 3) := by decide +kernel
theorem dX4_same_8 : decode cX4_same 8 = .ok (.aload_n 0, 1) := by decide +kernel
theorem dX4_same_9 : decode cX4_same 9 = .ok (.getfield 15, 3) := by decide +kernel
theorem dX4_same_12 : decode cX4_same 12 = .ok (.iload_n 2, 1) := by decide +kernel
theorem dX4_same_13 : decode cX4_same 13 = .ok (.iaload, 1) := by decide +kernel
theorem dX4_same_14 : decode cX4_same 14 = .ok (.aload_n 1, 1) := by decide +kernel
theorem dX4_same_15 : decode cX4_same 15 = .ok (.getfield 15, 3) := by decide +kernel
theorem dX4_same_18 : decode cX4_same 18 = .ok (.iload_n 2, 1) := by decide +kernel
theorem dX4_same_19 : decode cX4_same 19 = .ok (.iaload, 1) := by decide +kernel
theorem dX4_same_20 : decode cX4_same 20 = .ok (.if_icmp .eq 5, 3) := by decide +kernel
theorem dX4_same_23 : decode cX4_same 23 = .ok (.iconst 0, 1) := by decide +kernel
theorem dX4_same_24 : decode cX4_same 24 = .ok (.ireturn, 1) := by decide +kernel
theorem dX4_same_25 : decode cX4_same 25 = .ok (.iinc 2 1, 3) := by decide +kernel
theorem dX4_same_28 : decode cX4_same 28 = .ok (.goto (-26), 3) := by decide +kernel
theorem dX4_same_31 : decode cX4_same 31 = .ok (.iconst 0, 1) := by decide +kernel
theorem dX4_same_32 : decode cX4_same 32 = .ok (.istore_n 2, 1) := by decide +kernel
theorem dX4_same_33 : decode cX4_same 33 = .ok (.iload_n 2, 1) := by decide +kernel
theorem dX4_same_34 : decode cX4_same 34 = .ok (.bipush 7, 2) := by decide +kernel
theorem dX4_same_36 : decode cX4_same 36 = .ok (.if_icmp .gt 26, 3) := by decide +kernel
theorem dX4_same_39 : decode cX4_same 39 = .ok (.aload_n 0, 1) := by decide +kernel
theorem dX4_same_40 : decode cX4_same 40 = .ok (.getfield 18, 3) := by decide +kernel
theorem dX4_same_43 : decode cX4_same 43 = .ok (.iload_n 2, 1) := by decide +kernel
theorem dX4_same_44 : decode cX4_same 44 = .ok (.iaload, 1) := by decide +kernel
theorem dX4_same_45 : decode cX4_same 45 = .ok (.aload_n 1, 1) := by decide +kernel
theorem dX4_same_46 : decode cX4_same 46 = .ok (.getfield 18, 3) := by decide +kernel
theorem dX4_same_49 : decode cX4_same 49 = .ok (.iload_n 2, 1) := by decide +kernel
theorem dX4_same_50 : decode cX4_same 50 = .ok (.iaload, 1) := by decide +kernel
theorem dX4_same_51 : decode cX4_same 51 = .ok (.if_icmp .eq 5, 3) := by decide +kernel
theorem dX4_same_54 : decode cX4_same 54 = .ok (.iconst 0, 1) := by decide +kernel
theorem dX4_same_55 : decode cX4_same 55 = .ok (.ireturn, 1) := by decide +kernel
theorem dX4_same_56 : decode cX4_same 56 = .ok (.iinc 2 1, 3) := by decide +kernel
theorem dX4_same_59 : decode cX4_same 59 = .ok (.goto (-26), 3) := by decide +kernel
theorem dX4_same_62 : decode cX4_same 62 = .ok (.iconst 1, 1) := by decide +kernel
theorem dX4_same_63 : decode cX4_same 63 = .ok (.ireturn, 1) := by decide +kernel
set_option maxRecDepth 20000 in
theorem ggX5_init_X3_init : GoodIn wsX5_init wsX3_init := goodIn_r _ [11, 12, 2, 3, 8, 13, 14, 15, 16] (by decide +kernel) (by decide +kernel)
set_option maxRecDepth 20000 in
theorem gX5_init_X3_init_n11 : GoodIn wsX5_init (wsX3_init) := ggX5_init_X3_init
theorem dX5_init_0 : decode cX5_init 0 = .ok (.aload_n 0, 1) := by decide +kernel
theorem dX5_init_1 : decode cX5_init 1 = .ok (.invokespecial 3, 3) := by decide +kernel
theorem dX5_init_4 : decode cX5_init 4 = .ok (.aload_n 0, 1) := by decide +kernel
theorem dX5_init_5 : decode cX5_init 5 = .ok (.new 9, 3) := by decide +kernel
theorem dX5_init_8 : decode cX5_init 8 = .ok (.dup, 1) := by decide +kernel
theorem dX5_init_9 : decode cX5_init 9 = .ok (.invokespecial 11, 3) := by decide +kernel
theorem dX5_init_12 : decode cX5_init 12 = .ok (.putfield 12, 3) := by decide +kernel
theorem dX5_init_15 : decode cX5_init 15 = .ok (.aload_n 0, 1) := by decide +kernel
theorem dX5_init_16 : decode cX5_init 16 = .ok (.bipush 14, 2) := by decide +kernel
theorem dX5_init_18 : decode cX5_init 18 = .ok (.newarray .int, 2) := by decide +kernel
theorem dX5_init_20 : decode cX5_init 20 = .ok (.putfield 18, 3) := by decide +kernel
theorem dX5_init_23 : decode cX5_init 23 = .ok (.return_, 1) := by decide +kernel
set_option maxRecDepth 20000 in
theorem ggX5_read_X3_clear : GoodIn wsX5_read wsX3_clear := goodIn_r _ [11, 12, 13, 154, 155, 156] (by decide +kernel) (by decide +kernel)
set_option maxRecDepth 20000 in
theorem gX5_read_X3_clear : GoodIn wsX5_read (wsV RX5 22 RX3 yX3_clear wsX3_clear) := goodIn_app (goodIn_of _ (by decide +kernel)) ggX5_read_X3_clear
set_option maxRecDepth 20000 in
theorem ggX5_read_X5_step : GoodIn wsX5_read wsX5_step := goodIn_r _ [18, 5, 19, 20, 6, 21, 22, 23, 24, 25, 26, 27, 28, 29, 17, 30, 31, 32, 33, 34, 35, 36, 37, 38, 39, 40, 41, 42, 43, 44, 45, 46, 47, 48, 49, 50, 51, 52, 53, 54, 55, 56, 57, 58, 59, 60, 61, 62, 63, 64, 65, 66, 67, 68, 69, 70, 71, 72, 73, 74, 75, 76, 77, 78, 79, 80, 81, 82, 83, 84, 85, 86, 87, 88, 89, 90, 91, 92, 93, 94, 95, 145, 146, 147, 148, 149, 150, 151, 152, 153, 157, 158] (by decide +kernel) (by decide +kernel)
set_option maxRecDepth 20000 in
theorem gX5_read_X5_step : GoodIn wsX5_read (wsV RX5 39 RX5 yX5_step wsX5_step) := goodIn_app (goodIn_of _ (by decide +kernel)) ggX5_read_X5_step
set_option maxRecDepth 20000 in
theorem ggX5_read_X5_readTeams : GoodIn wsX5_read wsX5_readTeams := goodIn_r _ [99, 6, 35, 1, 100, 101, 102, 17, 103, 3, 20, 4, 14, 15, 16, 18, 5, 19, 21, 22, 23, 24, 25, 26, 27, 28, 29, 30, 31, 32, 33, 34, 36, 37, 38, 39, 40, 41, 42, 43, 44, 45, 46, 47, 48, 49, 50, 51, 52, 53, 54, 55, 56, 57, 58, 59, 60, 61, 62, 63, 64, 65, 66, 67, 68, 69, 70, 71, 72, 73, 74, 75, 76, 77, 78, 79, 80, 81, 82, 83, 84, 85, 86, 87, 88, 89, 90, 91, 92, 93, 94, 95, 7, 8, 9, 10, 11, 12, 13, 104, 105, 106, 107, 2, 145, 146, 147, 148, 149, 150, 151, 152, 153, 157, 158, 154, 155, 156] (by decide +kernel) (by decide +kernel)
set_option maxRecDepth 20000 in
theorem gX5_read_X5_readTeams : GoodIn wsX5_read (wsV RX5 46 RX5 yX5_readTeams wsX5_readTeams) := goodIn_app (goodIn_of _ (by decide +kernel)) ggX5_read_X5_readTeams
set_option maxRecDepth 20000 in
theorem ggX5_read_X5_readDay : GoodIn wsX5_read wsX5_readDay := goodIn_r _ [111, 6, 1, 112, 113, 35, 114, 100, 101, 102, 17, 103, 3, 20, 4, 14, 15, 16, 18, 5, 19, 21, 22, 23, 24, 25, 26, 27, 28, 29, 30, 31, 32, 33, 34, 36, 37, 38, 39, 40, 41, 42, 43, 44, 45, 46, 47, 48, 49, 50, 51, 52, 53, 54, 55, 56, 57, 58, 59, 60, 61, 62, 63, 64, 65, 66, 67, 68, 69, 70, 71, 72, 73, 74, 75, 76, 77, 78, 79, 80, 81, 82, 83, 84, 85, 86, 87, 88, 89, 90, 91, 92, 93, 94, 95, 115, 116, 117, 118, 119, 120, 121, 10, 122, 12, 123, 124, 125, 126, 127, 128, 129, 130, 13, 131, 132, 133, 134, 135, 136, 104, 105, 106, 107, 2, 137, 138, 139, 140, 141, 142, 143, 144, 145, 146, 147, 148, 149, 150, 151, 152, 153, 154, 155, 156, 157, 158] (by decide +kernel) (by decide +kernel)
set_option maxRecDepth 20000 in
theorem gX5_read_X5_readDay : GoodIn wsX5_read (wsV RX5 50 RX5 yX5_readDay wsX5_readDay) := goodIn_app (goodIn_of _ (by decide +kernel)) ggX5_read_X5_readDay
theorem dX5_read_0 : decode cX5_read 0 = .ok (.aload_n 0, 1) := by decide +kernel
theorem dX5_read_1 : decode cX5_read 1 = .ok (.getfield 12, 3) := by decide +kernel
theorem dX5_read_4 : decode cX5_read 4 = .ok (.iconst 0, 1) := by decide +kernel
theorem dX5_read_5 : decode cX5_read 5 = .ok (.invokevirtual 22, 3) := by decide +kernel
theorem dX5_read_8 : decode cX5_read 8 = .ok (.aload_n 0, 1) := by decide +kernel
theorem dX5_read_9 : decode cX5_read 9 = .ok (.iconst 0, 1) := by decide +kernel
theorem dX5_read_10 : decode cX5_read 10 = .ok (.putfield 26, 3) := by decide +kernel
theorem dX5_read_13 : decode cX5_read 13 = .ok (.aload_n 0, 1) := by decide +kernel
theorem dX5_read_14 : decode cX5_read 14 = .ok (.iconst 0, 1) := by decide +kernel
theorem dX5_read_15 : decode cX5_read 15 = .ok (.putfield 30, 3) := by decide +kernel
theorem dX5_read_18 : decode cX5_read 18 = .ok (.aload_n 0, 1) := by decide +kernel
theorem dX5_read_19 : decode cX5_read 19 = .ok (.iconst 0, 1) := by decide +kernel
theorem dX5_read_20 : decode cX5_read 20 = .ok (.putfield 33, 3) := by decide +kernel
theorem dX5_read_23 : decode cX5_read 23 = .ok (.aload_n 0, 1) := by decide +kernel
theorem dX5_read_24 : decode cX5_read 24 = .ok (.iconst 0, 1) := by decide +kernel
theorem dX5_read_25 : decode cX5_read 25 = .ok (.putfield 36, 3) := by decide +kernel
theorem dX5_read_28 : decode cX5_read 28 = .ok (.aload_n 0, 1) := by decide +kernel
theorem dX5_read_29 : decode cX5_read 29 = .ok (.aload_n 1, 1) := by decide +kernel
theorem dX5_read_30 : decode cX5_read 30 = .ok (.invokevirtual 39, 3) := by decide +kernel
theorem dX5_read_33 : decode cX5_read 33 = .ok (.iconst 0, 1) := by decide +kernel
theorem dX5_read_34 : decode cX5_read 34 = .ok (.istore_n 2, 1) := by decide +kernel
theorem dX5_read_35 : decode cX5_read 35 = .ok (.iload_n 2, 1) := by decide +kernel
theorem dX5_read_36 : decode cX5_read 36 = .ok (.sipush 700, 3) := by decide +kernel
theorem dX5_read_39 : decode cX5_read 39 = .ok (.if_icmp .ge 40, 3) := by decide +kernel
theorem dX5_read_42 : decode cX5_read 42 = .ok (.aload_n 0, 1) := by decide +kernel
theorem dX5_read_43 : decode cX5_read 43 = .ok (.getfield 43, 3) := by decide +kernel
theorem dX5_read_46 : decode cX5_read 46 = .ok (.ifCond .eq 33, 3) := by decide +kernel
theorem dX5_read_49 : decode cX5_read 49 = .ok (.iload_n 2, 1) := by decide +kernel
theorem dX5_read_50 : decode cX5_read 50 = .ok (.ifCond .ne 11, 3) := by decide +kernel
theorem dX5_read_53 : decode cX5_read 53 = .ok (.aload_n 0, 1) := by decide +kernel
theorem dX5_read_54 : decode cX5_read 54 = .ok (.aload_n 1, 1) := by decide +kernel
