theorem dX8_joins_0 : decode cX8_joins 0 = .ok (.aload_n 0, 1) := by decide +kernel
theorem dX8_joins_1 : decode cX8_joins 1 = .ok (.iload_n 1, 1) := by decide +kernel
theorem dX8_joins_2 : decode cX8_joins 2 = .ok (.iload_n 2, 1) := by decide +kernel
theorem dX8_joins_3 : decode cX8_joins 3 = .ok (.invokevirtual 81, 3) := by decide +kernel
theorem dX8_joins_6 : decode cX8_joins 6 = .ok (.istore_n 3, 1) := by decide +kernel
theorem dX8_joins_7 : decode cX8_joins 7 = .ok (.iload_n 3, 1) := by decide +kernel
theorem dX8_joins_8 : decode cX8_joins 8 = .ok (.iconst (-1), 1) := by decide +kernel
theorem dX8_joins_9 : decode cX8_joins 9 = .ok (.if_icmp .eq 45, 3) := by decide +kernel
theorem dX8_joins_12 : decode cX8_joins 12 = .ok (.aload_n 0, 1) := by decide +kernel
theorem dX8_joins_13 : decode cX8_joins 13 = .ok (.iload_n 1, 1) := by decide +kernel
theorem dX8_joins_14 : decode cX8_joins 14 = .ok (.iload_n 2, 1) := by decide +kernel
theorem dX8_joins_15 : decode cX8_joins 15 = .ok (.invokevirtual 110, 3) := by decide +kernel
theorem dX8_joins_18 : decode cX8_joins 18 = .ok (.ifCond .ne 36, 3) := by decide +kernel
theorem dX8_joins_21 : decode cX8_joins 21 = .ok (.aload_n 0, 1) := by decide +kernel
theorem dX8_joins_22 : decode cX8_joins 22 = .ok (.getfield 16, 3) := by decide +kernel
theorem dX8_joins_25 : decode cX8_joins 25 = .ok (.iload_n 1, 1) := by decide +kernel
theorem dX8_joins_26 : decode cX8_joins 26 = .ok (.iaload, 1) := by decide +kernel
theorem dX8_joins_27 : decode cX8_joins 27 = .ok (.iload_n 2, 1) := by decide +kernel
theorem dX8_joins_28 : decode cX8_joins 28 = .ok (.invokestatic 114, 3) := by decide +kernel
theorem dX8_joins_31 : decode cX8_joins 31 = .ok (.ifCond .eq 23, 3) := by decide +kernel
theorem dX8_joins_34 : decode cX8_joins 34 = .ok (.aload_n 0, 1) := by decide +kernel
theorem dX8_joins_35 : decode cX8_joins 35 = .ok (.getfield 16, 3) := by decide +kernel
theorem dX8_joins_38 : decode cX8_joins 38 = .ok (.iload_n 3, 1) := by decide +kernel
theorem dX8_joins_39 : decode cX8_joins 39 = .ok (.iaload, 1) := by decide +kernel
theorem dX8_joins_40 : decode cX8_joins 40 = .ok (.iload_n 2, 1) := by decide +kernel
theorem dX8_joins_41 : decode cX8_joins 41 = .ok (.invokestatic 92, 3) := by decide +kernel
theorem dX8_joins_44 : decode cX8_joins 44 = .ok (.invokestatic 114, 3) := by decide +kernel
theorem dX8_joins_47 : decode cX8_joins 47 = .ok (.ifCond .eq 7, 3) := by decide +kernel
theorem dX8_joins_50 : decode cX8_joins 50 = .ok (.iconst 1, 1) := by decide +kernel
theorem dX8_joins_51 : decode cX8_joins 51 = .ok (.goto 4, 3) := by decide +kernel
theorem dX8_joins_54 : decode cX8_joins 54 = .ok (.iconst 0, 1) := by decide +kernel
theorem dX8_joins_55 : decode cX8_joins 55 = .ok (.ireturn, 1) := by decide +kernel
set_option maxRecDepth 20000 in
theorem ggX8_isJoined_X8_isCell : GoodIn wsX8_isJoined wsX8_isCell := goodIn_r _ [5, 6, 7, 8, 4, 9, 10, 11, 41, 42, 43, 44, 45, 46, 47, 48, 49, 50, 51, 52, 53, 54, 55, 56, 57, 58, 59] (by decide +kernel) (by decide +kernel)
set_option maxRecDepth 20000 in
theorem gX8_isJoined_X8_isCell : GoodIn wsX8_isJoined (wsV RX8 104 RX8 yX8_isCell wsX8_isCell) := goodIn_app (goodIn_of _ (by decide +kernel)) ggX8_isJoined_X8_isCell
set_option maxRecDepth 20000 in
theorem ggX8_isJoined_X8_isSide : GoodIn wsX8_isJoined wsX8_isSide := goodIn_r _ [14] (by decide +kernel) (by decide +kernel)
set_option maxRecDepth 20000 in
theorem gX8_isJoined_X8_isSide : GoodIn wsX8_isJoined (va_wsS RX8 107 yX8_isSide wsX8_isSide) := goodIn_app (goodIn_of _ (by decide +kernel)) ggX8_isJoined_X8_isSide
set_option maxRecDepth 20000 in
theorem ggX8_isJoined_X8_holds : GoodIn wsX8_isJoined wsX8_holds := goodIn_r _ [18, 19, 41, 42, 43, 44, 45, 46, 47, 48, 49, 50, 51, 52, 53, 54, 55, 56, 57, 58, 59] (by decide +kernel) (by decide +kernel)
set_option maxRecDepth 20000 in
theorem gX8_isJoined_X8_holds : GoodIn wsX8_isJoined (wsV RX8 69 RX8 yX8_holds wsX8_holds) := goodIn_app (goodIn_of _ (by decide +kernel)) ggX8_isJoined_X8_holds
set_option maxRecDepth 20000 in
theorem ggX8_isJoined_X8_joins : GoodIn wsX8_isJoined wsX8_joins := goodIn_r _ [23, 24, 25, 26, 27, 4, 28, 10, 11, 29, 30, 31, 32, 33, 34, 35, 36, 37, 38, 39, 40, 41, 42, 43, 44, 45, 46, 47, 48, 49, 50, 51, 52, 53, 54, 55, 56, 57, 58, 59] (by decide +kernel) (by decide +kernel)
set_option maxRecDepth 20000 in
theorem gX8_isJoined_X8_joins : GoodIn wsX8_isJoined (wsV RX8 117 RX8 yX8_joins wsX8_joins) := goodIn_app (goodIn_of _ (by decide +kernel)) ggX8_isJoined_X8_joins
theorem dX8_isJoined_0 : decode cX8_isJoined 0 = .ok (.aload_n 0, 1) := by decide +kernel
theorem dX8_isJoined_1 : decode cX8_isJoined 1 = .ok (.aload_n 0, 1) := by decide +kernel
theorem dX8_isJoined_2 : decode cX8_isJoined 2 = .ok (.iload_n 1, 1) := by decide +kernel
theorem dX8_isJoined_3 : decode cX8_isJoined 3 = .ok (.invokevirtual 104, 3) := by decide +kernel
theorem dX8_isJoined_6 : decode cX8_isJoined 6 = .ok (.ifCond .eq 14, 3) := by decide +kernel
theorem dX8_isJoined_9 : decode cX8_isJoined 9 = .ok (.iload_n 2, 1) := by decide +kernel
theorem dX8_isJoined_10 : decode cX8_isJoined 10 = .ok (.invokestatic 107, 3) := by decide +kernel
theorem dX8_isJoined_13 : decode cX8_isJoined 13 = .ok (.ifCond .eq 7, 3) := by decide +kernel
theorem dX8_isJoined_16 : decode cX8_isJoined 16 = .ok (.iconst 0, 1) := by decide +kernel
theorem dX8_isJoined_17 : decode cX8_isJoined 17 = .ok (.goto 4, 3) := by decide +kernel
theorem dX8_isJoined_20 : decode cX8_isJoined 20 = .ok (.iconst 1, 1) := by decide +kernel
theorem dX8_isJoined_21 : decode cX8_isJoined 21 = .ok (.invokevirtual 69, 3) := by decide +kernel
theorem dX8_isJoined_24 : decode cX8_isJoined 24 = .ok (.ifCond .eq 16, 3) := by decide +kernel
theorem dX8_isJoined_27 : decode cX8_isJoined 27 = .ok (.aload_n 0, 1) := by decide +kernel
theorem dX8_isJoined_28 : decode cX8_isJoined 28 = .ok (.iload_n 1, 1) := by decide +kernel
theorem dX8_isJoined_29 : decode cX8_isJoined 29 = .ok (.iload_n 2, 1) := by decide +kernel
theorem dX8_isJoined_30 : decode cX8_isJoined 30 = .ok (.invokevirtual 117, 3) := by decide +kernel
theorem dX8_isJoined_33 : decode cX8_isJoined 33 = .ok (.ifCond .eq 7, 3) := by decide +kernel
theorem dX8_isJoined_36 : decode cX8_isJoined 36 = .ok (.iconst 1, 1) := by decide +kernel
theorem dX8_isJoined_37 : decode cX8_isJoined 37 = .ok (.goto 4, 3) := by decide +kernel
theorem dX8_isJoined_40 : decode cX8_isJoined 40 = .ok (.iconst 0, 1) := by decide +kernel
theorem dX8_isJoined_41 : decode cX8_isJoined 41 = .ok (.ireturn, 1) := by decide +kernel
set_option maxRecDepth 20000 in
theorem ggX8_reaches_X8_cells : GoodIn wsX8_reaches wsX8_cells := goodIn_r _ [6, 7, 8, 30, 31, 32, 33, 34, 35, 36, 37, 38, 39, 40, 41, 42, 43, 44, 45, 46, 47, 48] (by decide +kernel) (by decide +kernel)
set_option maxRecDepth 20000 in
theorem gX8_reaches_X8_cells : GoodIn wsX8_reaches (wsV RX8 48 RX8 yX8_cells wsX8_cells) := goodIn_app (goodIn_of _ (by decide +kernel)) ggX8_reaches_X8_cells
set_option maxRecDepth 20000 in
theorem ggX8_reaches_X8_joins : GoodIn wsX8_reaches wsX8_joins := goodIn_r _ [12, 13, 14, 15, 16, 5, 17, 7, 8, 18, 19, 20, 21, 22, 23, 24, 25, 26, 27, 28, 29, 30, 31, 32, 33, 34, 35, 36, 37, 38, 39, 40, 41, 42, 43, 44, 45, 46, 47, 48] (by decide +kernel) (by decide +kernel)
set_option maxRecDepth 20000 in
theorem gX8_reaches_X8_joins : GoodIn wsX8_reaches (wsV RX8 117 RX8 yX8_joins wsX8_joins) := goodIn_app (goodIn_of _ (by decide +kernel)) ggX8_reaches_X8_joins
set_option maxRecDepth 20000 in
theorem ggX8_reaches_X8_neighbourOf : GoodIn wsX8_reaches wsX8_neighbourOf := goodIn_r _ [17, 7, 8, 18, 30, 31, 32, 33, 34, 35, 36, 37, 38, 39, 40, 41, 42, 43, 44, 45, 46, 47, 48] (by decide +kernel) (by decide +kernel)
set_option maxRecDepth 20000 in
theorem gX8_reaches_X8_neighbourOf : GoodIn wsX8_reaches (wsV RX8 81 RX8 yX8_neighbourOf wsX8_neighbourOf) := goodIn_app (goodIn_of _ (by decide +kernel)) ggX8_reaches_X8_neighbourOf
theorem dX8_reaches_0 : decode cX8_reaches 0 = .ok (.iconst 0, 1) := by decide +kernel
theorem dX8_reaches_1 : decode cX8_reaches 1 = .ok (.istore_n 2, 1) := by decide +kernel
theorem dX8_reaches_2 : decode cX8_reaches 2 = .ok (.iload_n 2, 1) := by decide +kernel
theorem dX8_reaches_3 : decode cX8_reaches 3 = .ok (.bipush 16, 2) := by decide +kernel
theorem dX8_reaches_5 : decode cX8_reaches 5 = .ok (.if_icmp .ge 25, 3) := by decide +kernel
theorem dX8_reaches_8 : decode cX8_reaches 8 = .ok (.aload_n 0, 1) := by decide +kernel
theorem dX8_reaches_9 : decode cX8_reaches 9 = .ok (.getfield 30, 3) := by decide +kernel
theorem dX8_reaches_12 : decode cX8_reaches 12 = .ok (.iload_n 2, 1) := by decide +kernel
theorem dX8_reaches_13 : decode cX8_reaches 13 = .ok (.iload_n 2, 1) := by decide +kernel
theorem dX8_reaches_14 : decode cX8_reaches 14 = .ok (.iload_n 1, 1) := by decide +kernel
theorem dX8_reaches_15 : decode cX8_reaches 15 = .ok (.if_icmp .ne 7, 3) := by decide +kernel
theorem dX8_reaches_18 : decode cX8_reaches 18 = .ok (.iconst 1, 1) := by decide +kernel
theorem dX8_reaches_19 : decode cX8_reaches 19 = .ok (.goto 4, 3) := by decide +kernel
theorem dX8_reaches_22 : decode cX8_reaches 22 = .ok (.iconst 0, 1) := by decide +kernel
theorem dX8_reaches_23 : decode cX8_reaches 23 = .ok (.bastore, 1) := by decide +kernel
theorem dX8_reaches_24 : decode cX8_reaches 24 = .ok (.iinc 2 1, 3) := by decide +kernel
theorem dX8_reaches_27 : decode cX8_reaches 27 = .ok (.goto (-25), 3) := by decide +kernel
theorem dX8_reaches_30 : decode cX8_reaches 30 = .ok (.iconst 0, 1) := by decide +kernel
theorem dX8_reaches_31 : decode cX8_reaches 31 = .ok (.istore_n 2, 1) := by decide +kernel
theorem dX8_reaches_32 : decode cX8_reaches 32 = .ok (.iconst (-1), 1) := by decide +kernel
theorem dX8_reaches_33 : decode cX8_reaches 33 = .ok (.istore_n 3, 1) := by decide +kernel
theorem dX8_reaches_34 : decode cX8_reaches 34 = .ok (.iload_n 2, 1) := by decide +kernel
theorem dX8_reaches_35 : decode cX8_reaches 35 = .ok (.iload_n 3, 1) := by decide +kernel
theorem dX8_reaches_36 : decode cX8_reaches 36 = .ok (.if_icmp .eq 110, 3) := by decide +kernel
theorem dX8_reaches_39 : decode cX8_reaches 39 = .ok (.iload_n 2, 1) := by decide +kernel
theorem dX8_reaches_40 : decode cX8_reaches 40 = .ok (.istore_n 3, 1) := by decide +kernel
theorem dX8_reaches_41 : decode cX8_reaches 41 = .ok (.iconst 0, 1) := by decide +kernel
theorem dX8_reaches_42 : decode cX8_reaches 42 = .ok (.istore_n 2, 1) := by decide +kernel
theorem dX8_reaches_43 : decode cX8_reaches 43 = .ok (.iconst 0, 1) := by decide +kernel
theorem dX8_reaches_44 : decode cX8_reaches 44 = .ok (.istore 4, 2) := by decide +kernel
theorem dX8_reaches_46 : decode cX8_reaches 46 = .ok (.iload 4, 2) := by decide +kernel
theorem dX8_reaches_48 : decode cX8_reaches 48 = .ok (.aload_n 0, 1) := by decide +kernel
theorem dX8_reaches_49 : decode cX8_reaches 49 = .ok (.invokevirtual 48, 3) := by decide +kernel
theorem dX8_reaches_52 : decode cX8_reaches 52 = .ok (.if_icmp .ge 91, 3) := by decide +kernel
theorem dX8_reaches_55 : decode cX8_reaches 55 = .ok (.iconst 0, 1) := by decide +kernel
theorem dX8_reaches_56 : decode cX8_reaches 56 = .ok (.istore 5, 2) := by decide +kernel
theorem dX8_reaches_58 : decode cX8_reaches 58 = .ok (.iload 5, 2) := by decide +kernel
theorem dX8_reaches_60 : decode cX8_reaches 60 = .ok (.iconst 4, 1) := by decide +kernel
theorem dX8_reaches_61 : decode cX8_reaches 61 = .ok (.if_icmp .ge 58, 3) := by decide +kernel
theorem dX8_reaches_64 : decode cX8_reaches 64 = .ok (.aload_n 0, 1) := by decide +kernel
theorem dX8_reaches_65 : decode cX8_reaches 65 = .ok (.getfield 30, 3) := by decide +kernel
theorem dX8_reaches_68 : decode cX8_reaches 68 = .ok (.iload 4, 2) := by decide +kernel
theorem dX8_reaches_70 : decode cX8_reaches 70 = .ok (.baload, 1) := by decide +kernel
theorem dX8_reaches_71 : decode cX8_reaches 71 = .ok (.ifCond .ne 48, 3) := by decide +kernel
theorem dX8_reaches_74 : decode cX8_reaches 74 = .ok (.aload_n 0, 1) := by decide +kernel
theorem dX8_reaches_75 : decode cX8_reaches 75 = .ok (.getfield 30, 3) := by decide +kernel
theorem dX8_reaches_78 : decode cX8_reaches 78 = .ok (.iload 4, 2) := by decide +kernel
theorem dX8_reaches_80 : decode cX8_reaches 80 = .ok (.aload_n 0, 1) := by decide +kernel
theorem dX8_reaches_81 : decode cX8_reaches 81 = .ok (.iload 4, 2) := by decide +kernel
theorem dX8_reaches_83 : decode cX8_reaches 83 = .ok (.iload 5, 2) := by decide +kernel
theorem dX8_reaches_85 : decode cX8_reaches 85 = .ok (.invokevirtual 117, 3) := by decide +kernel
theorem dX8_reaches_88 : decode cX8_reaches 88 = .ok (.ifCond .eq 23, 3) := by decide +kernel
theorem dX8_reaches_91 : decode cX8_reaches 91 = .ok (.aload_n 0, 1) := by decide +kernel
theorem dX8_reaches_92 : decode cX8_reaches 92 = .ok (.getfield 30, 3) := by decide +kernel
theorem dX8_reaches_95 : decode cX8_reaches 95 = .ok (.aload_n 0, 1) := by decide +kernel
theorem dX8_reaches_96 : decode cX8_reaches 96 = .ok (.iload 4, 2) := by decide +kernel
theorem dX8_reaches_98 : decode cX8_reaches 98 = .ok (.iload 5, 2) := by decide +kernel
theorem dX8_reaches_100 : decode cX8_reaches 100 = .ok (.invokevirtual 81, 3) := by decide +kernel
theorem dX8_reaches_103 : decode cX8_reaches 103 = .ok (.baload, 1) := by decide +kernel
theorem dX8_reaches_104 : decode cX8_reaches 104 = .ok (.ifCond .eq 7, 3) := by decide +kernel
theorem dX8_reaches_107 : decode cX8_reaches 107 = .ok (.iconst 1, 1) := by decide +kernel
theorem dX8_reaches_108 : decode cX8_reaches 108 = .ok (.goto 4, 3) := by decide +kernel
theorem dX8_reaches_111 : decode cX8_reaches 111 = .ok (.iconst 0, 1) := by decide +kernel
theorem dX8_reaches_112 : decode cX8_reaches 112 = .ok (.bastore, 1) := by decide +kernel
theorem dX8_reaches_113 : decode cX8_reaches 113 = .ok (.iinc 5 1, 3) := by decide +kernel
theorem dX8_reaches_116 : decode cX8_reaches 116 = .ok (.goto (-58), 3) := by decide +kernel
theorem dX8_reaches_119 : decode cX8_reaches 119 = .ok (.iload_n 2, 1) := by decide +kernel
theorem dX8_reaches_120 : decode cX8_reaches 120 = .ok (.aload_n 0, 1) := by decide +kernel
theorem dX8_reaches_121 : decode cX8_reaches 121 = .ok (.getfield 30, 3) := by decide +kernel
theorem dX8_reaches_124 : decode cX8_reaches 124 = .ok (.iload 4, 2) := by decide +kernel
theorem dX8_reaches_126 : decode cX8_reaches 126 = .ok (.baload, 1) := by decide +kernel
theorem dX8_reaches_127 : decode cX8_reaches 127 = .ok (.ifCond .eq 7, 3) := by decide +kernel
theorem dX8_reaches_130 : decode cX8_reaches 130 = .ok (.iconst 1, 1) := by decide +kernel
theorem dX8_reaches_131 : decode cX8_reaches 131 = .ok (.goto 4, 3) := by decide +kernel
theorem dX8_reaches_134 : decode cX8_reaches 134 = .ok (.iconst 0, 1) := by decide +kernel
theorem dX8_reaches_135 : decode cX8_reaches 135 = .ok (.iadd, 1) := by decide +kernel
theorem dX8_reaches_136 : decode cX8_reaches 136 = .ok (.istore_n 2, 1) := by decide +kernel
theorem dX8_reaches_137 : decode cX8_reaches 137 = .ok (.iinc 4 1, 3) := by decide +kernel
theorem dX8_reaches_140 : decode cX8_reaches 140 = .ok (.goto (-94), 3) := by decide +kernel
theorem dX8_reaches_143 : decode cX8_reaches 143 = .ok (.goto (-109), 3) := by decide +kernel
theorem dX8_reaches_146 : decode cX8_reaches 146 = .ok (.iload_n 2, 1) := by decide +kernel
theorem dX8_reaches_147 : decode cX8_reaches 147 = .ok (.ireturn, 1) := by decide +kernel
set_option maxRecDepth 20000 in
theorem ggX8_joined_X8_cells : GoodIn wsX8_joined wsX8_cells := goodIn_r _ [5, 6, 7, 29, 30, 31, 32, 33, 34, 35, 36, 37, 38, 39, 40, 41, 42, 43, 44, 45, 46, 47] (by decide +kernel) (by decide +kernel)
set_option maxRecDepth 20000 in
theorem gX8_joined_X8_cells : GoodIn wsX8_joined (wsV RX8 48 RX8 yX8_cells wsX8_cells) := goodIn_app (goodIn_of _ (by decide +kernel)) ggX8_joined_X8_cells
set_option maxRecDepth 20000 in
theorem ggX8_joined_X8_joins : GoodIn wsX8_joined wsX8_joins := goodIn_r _ [11, 12, 13, 14, 15, 4, 16, 6, 7, 17, 18, 19, 20, 21, 22, 23, 24, 25, 26, 27, 28, 29, 30, 31, 32, 33, 34, 35, 36, 37, 38, 39, 40, 41, 42, 43, 44, 45, 46, 47] (by decide +kernel) (by decide +kernel)
set_option maxRecDepth 20000 in
theorem gX8_joined_X8_joins : GoodIn wsX8_joined (wsV RX8 117 RX8 yX8_joins wsX8_joins) := goodIn_app (goodIn_of _ (by decide +kernel)) ggX8_joined_X8_joins
theorem dX8_joined_0 : decode cX8_joined 0 = .ok (.iconst 0, 1) := by decide +kernel
theorem dX8_joined_1 : decode cX8_joined 1 = .ok (.istore_n 1, 1) := by decide +kernel
theorem dX8_joined_2 : decode cX8_joined 2 = .ok (.iconst 0, 1) := by decide +kernel
theorem dX8_joined_3 : decode cX8_joined 3 = .ok (.istore_n 2, 1) := by decide +kernel
theorem dX8_joined_4 : decode cX8_joined 4 = .ok (.iload_n 2, 1) := by decide +kernel
theorem dX8_joined_5 : decode cX8_joined 5 = .ok (.aload_n 0, 1) := by decide +kernel
theorem dX8_joined_6 : decode cX8_joined 6 = .ok (.invokevirtual 48, 3) := by decide +kernel
theorem dX8_joined_9 : decode cX8_joined 9 = .ok (.if_icmp .ge 39, 3) := by decide +kernel
theorem dX8_joined_12 : decode cX8_joined 12 = .ok (.iconst 0, 1) := by decide +kernel
theorem dX8_joined_13 : decode cX8_joined 13 = .ok (.istore_n 3, 1) := by decide +kernel
theorem dX8_joined_14 : decode cX8_joined 14 = .ok (.iload_n 3, 1) := by decide +kernel
theorem dX8_joined_15 : decode cX8_joined 15 = .ok (.iconst 4, 1) := by decide +kernel
theorem dX8_joined_16 : decode cX8_joined 16 = .ok (.if_icmp .ge 26, 3) := by decide +kernel
theorem dX8_joined_19 : decode cX8_joined 19 = .ok (.iload_n 1, 1) := by decide +kernel
theorem dX8_joined_20 : decode cX8_joined 20 = .ok (.aload_n 0, 1) := by decide +kernel
theorem dX8_joined_21 : decode cX8_joined 21 = .ok (.iload_n 2, 1) := by decide +kernel
theorem dX8_joined_22 : decode cX8_joined 22 = .ok (.iload_n 3, 1) := by decide +kernel
theorem dX8_joined_23 : decode cX8_joined 23 = .ok (.invokevirtual 117, 3) := by decide +kernel
theorem dX8_joined_26 : decode cX8_joined 26 = .ok (.ifCond .eq 7, 3) := by decide +kernel
theorem dX8_joined_29 : decode cX8_joined 29 = .ok (.iconst 1, 1) := by decide +kernel
theorem dX8_joined_30 : decode cX8_joined 30 = .ok (.goto 4, 3) := by decide +kernel
theorem dX8_joined_33 : decode cX8_joined 33 = .ok (.iconst 0, 1) := by decide +kernel
theorem dX8_joined_34 : decode cX8_joined 34 = .ok (.iadd, 1) := by decide +kernel
theorem dX8_joined_35 : decode cX8_joined 35 = .ok (.istore_n 1, 1) := by decide +kernel
theorem dX8_joined_36 : decode cX8_joined 36 = .ok (.iinc 3 1, 3) := by decide +kernel
theorem dX8_joined_39 : decode cX8_joined 39 = .ok (.goto (-25), 3) := by decide +kernel
theorem dX8_joined_42 : decode cX8_joined 42 = .ok (.iinc 2 1, 3) := by decide +kernel
theorem dX8_joined_45 : decode cX8_joined 45 = .ok (.goto (-41), 3) := by decide +kernel
theorem dX8_joined_48 : decode cX8_joined 48 = .ok (.iload_n 1, 1) := by decide +kernel
theorem dX8_joined_49 : decode cX8_joined 49 = .ok (.ireturn, 1) := by decide +kernel
set_option maxRecDepth 20000 in
theorem ggX8_open_X8_cells : GoodIn wsX8_open wsX8_cells := goodIn_r _ [6, 7, 8, 12, 13, 14, 15, 16, 17, 18, 19, 20, 21, 22, 23, 24, 25, 26, 27, 28, 29, 30] (by decide +kernel) (by decide +kernel)
set_option maxRecDepth 20000 in
theorem gX8_open_X8_cells : GoodIn wsX8_open (wsV RX8 48 RX8 yX8_cells wsX8_cells) := goodIn_app (goodIn_of _ (by decide +kernel)) ggX8_open_X8_cells
set_option maxRecDepth 20000 in
theorem ggX8_open_X8_sides : GoodIn wsX8_open wsX8_sides := goodIn_r _ [11] (by decide +kernel) (by decide +kernel)
set_option maxRecDepth 20000 in
theorem gX8_open_X8_sides : GoodIn wsX8_open (va_wsS RX8 101 yX8_sides wsX8_sides) := goodIn_app (goodIn_of _ (by decide +kernel)) ggX8_open_X8_sides
theorem dX8_open_0 : decode cX8_open 0 = .ok (.iconst 0, 1) := by decide +kernel
theorem dX8_open_1 : decode cX8_open 1 = .ok (.istore_n 1, 1) := by decide +kernel
theorem dX8_open_2 : decode cX8_open 2 = .ok (.iconst 0, 1) := by decide +kernel
theorem dX8_open_3 : decode cX8_open 3 = .ok (.istore_n 2, 1) := by decide +kernel
theorem dX8_open_4 : decode cX8_open 4 = .ok (.iload_n 2, 1) := by decide +kernel
theorem dX8_open_5 : decode cX8_open 5 = .ok (.aload_n 0, 1) := by decide +kernel
theorem dX8_open_6 : decode cX8_open 6 = .ok (.invokevirtual 48, 3) := by decide +kernel
theorem dX8_open_9 : decode cX8_open 9 = .ok (.if_icmp .ge 21, 3) := by decide +kernel
theorem dX8_open_12 : decode cX8_open 12 = .ok (.iload_n 1, 1) := by decide +kernel
theorem dX8_open_13 : decode cX8_open 13 = .ok (.aload_n 0, 1) := by decide +kernel
theorem dX8_open_14 : decode cX8_open 14 = .ok (.getfield 16, 3) := by decide +kernel
theorem dX8_open_17 : decode cX8_open 17 = .ok (.iload_n 2, 1) := by decide +kernel
theorem dX8_open_18 : decode cX8_open 18 = .ok (.iaload, 1) := by decide +kernel
theorem dX8_open_19 : decode cX8_open 19 = .ok (.invokestatic 101, 3) := by decide +kernel
theorem dX8_open_22 : decode cX8_open 22 = .ok (.iadd, 1) := by decide +kernel
theorem dX8_open_23 : decode cX8_open 23 = .ok (.istore_n 1, 1) := by decide +kernel
theorem dX8_open_24 : decode cX8_open 24 = .ok (.iinc 2 1, 3) := by decide +kernel
theorem dX8_open_27 : decode cX8_open 27 = .ok (.goto (-23), 3) := by decide +kernel
theorem dX8_open_30 : decode cX8_open 30 = .ok (.iload_n 1, 1) := by decide +kernel
theorem dX8_open_31 : decode cX8_open 31 = .ok (.ireturn, 1) := by decide +kernel
set_option maxRecDepth 20000 in
theorem ggX8_loose_X8_open : GoodIn wsX8_loose wsX8_open := goodIn_r _ [6, 7, 8, 9, 10, 5, 11, 12, 13, 14, 15, 16, 41, 42, 43, 44, 45, 46, 47, 48, 49, 50, 51, 52, 53, 54, 55, 56, 57, 58, 59] (by decide +kernel) (by decide +kernel)
set_option maxRecDepth 20000 in
theorem gX8_loose_X8_open : GoodIn wsX8_loose (wsV RX8 120 RX8 yX8_open wsX8_open) := goodIn_app (goodIn_of _ (by decide +kernel)) ggX8_loose_X8_open
set_option maxRecDepth 20000 in
theorem ggX8_loose_X8_joined : GoodIn wsX8_loose wsX8_joined := goodIn_r _ [20, 8, 9, 10, 5, 11, 12, 13, 21, 22, 23, 24, 7, 25, 26, 27, 28, 29, 30, 31, 32, 33, 34, 35, 36, 37, 38, 39, 40, 41, 42, 43, 44, 45, 46, 47, 48, 49, 50, 51, 52, 53, 54, 55, 56, 57, 58, 59] (by decide +kernel) (by decide +kernel)
set_option maxRecDepth 20000 in
theorem gX8_loose_X8_joined : GoodIn wsX8_loose (wsV RX8 123 RX8 yX8_joined wsX8_joined) := goodIn_app (goodIn_of _ (by decide +kernel)) ggX8_loose_X8_joined
theorem dX8_loose_0 : decode cX8_loose 0 = .ok (.aload_n 0, 1) := by decide +kernel
theorem dX8_loose_1 : decode cX8_loose 1 = .ok (.iconst 0, 1) := by decide +kernel
theorem dX8_loose_2 : decode cX8_loose 2 = .ok (.putfield 45, 3) := by decide +kernel
theorem dX8_loose_5 : decode cX8_loose 5 = .ok (.aload_n 0, 1) := by decide +kernel
theorem dX8_loose_6 : decode cX8_loose 6 = .ok (.invokevirtual 120, 3) := by decide +kernel
theorem dX8_loose_9 : decode cX8_loose 9 = .ok (.aload_n 0, 1) := by decide +kernel
theorem dX8_loose_10 : decode cX8_loose 10 = .ok (.invokevirtual 123, 3) := by decide +kernel
theorem dX8_loose_13 : decode cX8_loose 13 = .ok (.isub, 1) := by decide +kernel
theorem dX8_loose_14 : decode cX8_loose 14 = .ok (.ireturn, 1) := by decide +kernel
set_option maxRecDepth 20000 in
theorem ggX8_watered_X8_reaches : GoodIn wsX8_watered wsX8_reaches := goodIn_r _ [7, 8, 9, 10, 11, 6, 12, 13, 14, 15, 16, 17, 18, 19, 20, 21, 22, 23, 24, 25, 26, 27, 28, 29, 30, 31, 32, 33, 34, 35, 36, 37, 38, 39, 40, 41, 42, 43, 44, 45, 46, 47, 48, 49, 50, 51, 52, 53, 54] (by decide +kernel) (by decide +kernel)
set_option maxRecDepth 20000 in
theorem gX8_watered_X8_reaches : GoodIn wsX8_watered (wsV RX8 89 RX8 yX8_reaches wsX8_reaches) := goodIn_app (goodIn_of _ (by decide +kernel)) ggX8_watered_X8_reaches
theorem dX8_watered_0 : decode cX8_watered 0 = .ok (.aload_n 0, 1) := by decide +kernel
theorem dX8_watered_1 : decode cX8_watered 1 = .ok (.iconst 0, 1) := by decide +kernel
theorem dX8_watered_2 : decode cX8_watered 2 = .ok (.putfield 45, 3) := by decide +kernel
theorem dX8_watered_5 : decode cX8_watered 5 = .ok (.aload_n 0, 1) := by decide +kernel
theorem dX8_watered_6 : decode cX8_watered 6 = .ok (.aload_n 0, 1) := by decide +kernel
theorem dX8_watered_7 : decode cX8_watered 7 = .ok (.getfield 56, 3) := by decide +kernel
theorem dX8_watered_10 : decode cX8_watered 10 = .ok (.invokevirtual 89, 3) := by decide +kernel
theorem dX8_watered_13 : decode cX8_watered 13 = .ok (.ireturn, 1) := by decide +kernel
set_option maxRecDepth 20000 in
theorem ggX8_isWatered_X8_isCell : GoodIn wsX8_isWatered wsX8_isCell := goodIn_r _ [7, 8, 9, 10, 6, 11, 12, 13, 44, 45, 46, 47, 48, 49, 50, 51, 52, 53, 54, 55, 56, 57, 58, 59, 60, 61, 62] (by decide +kernel) (by decide +kernel)
set_option maxRecDepth 20000 in
theorem gX8_isWatered_X8_isCell : GoodIn wsX8_isWatered (wsV RX8 104 RX8 yX8_isCell wsX8_isCell) := goodIn_app (goodIn_of _ (by decide +kernel)) ggX8_isWatered_X8_isCell
set_option maxRecDepth 20000 in
theorem ggX8_isWatered_X8_holds : GoodIn wsX8_isWatered wsX8_holds := goodIn_r _ [17, 18, 44, 45, 46, 47, 48, 49, 50, 51, 52, 53, 54, 55, 56, 57, 58, 59, 60, 61, 62] (by decide +kernel) (by decide +kernel)
set_option maxRecDepth 20000 in
theorem gX8_isWatered_X8_holds : GoodIn wsX8_isWatered (wsV RX8 69 RX8 yX8_holds wsX8_holds) := goodIn_app (goodIn_of _ (by decide +kernel)) ggX8_isWatered_X8_holds
set_option maxRecDepth 20000 in
theorem ggX8_isWatered_X8_reaches : GoodIn wsX8_isWatered wsX8_reaches := goodIn_r _ [22, 2, 8, 9, 10, 6, 11, 12, 13, 23, 24, 25, 26, 27, 28, 29, 30, 31, 32, 33, 34, 35, 36, 37, 38, 39, 40, 41, 42, 43, 44, 45, 46, 47, 48, 49, 50, 51, 52, 53, 54, 55, 56, 57, 58, 59, 60, 61, 62] (by decide +kernel) (by decide +kernel)
set_option maxRecDepth 20000 in
theorem gX8_isWatered_X8_reaches : GoodIn wsX8_isWatered (wsV RX8 89 RX8 yX8_reaches wsX8_reaches) := goodIn_app (goodIn_of _ (by decide +kernel)) ggX8_isWatered_X8_reaches
theorem dX8_isWatered_0 : decode cX8_isWatered 0 = .ok (.aload_n 0, 1) := by decide +kernel
theorem dX8_isWatered_1 : decode cX8_isWatered 1 = .ok (.aload_n 0, 1) := by decide +kernel
theorem dX8_isWatered_2 : decode cX8_isWatered 2 = .ok (.iload_n 1, 1) := by decide +kernel
theorem dX8_isWatered_3 : decode cX8_isWatered 3 = .ok (.invokevirtual 104, 3) := by decide +kernel
theorem dX8_isWatered_6 : decode cX8_isWatered 6 = .ok (.ifCond .eq 7, 3) := by decide +kernel
theorem dX8_isWatered_9 : decode cX8_isWatered 9 = .ok (.iconst 0, 1) := by decide +kernel
theorem dX8_isWatered_10 : decode cX8_isWatered 10 = .ok (.goto 4, 3) := by decide +kernel
theorem dX8_isWatered_13 : decode cX8_isWatered 13 = .ok (.iconst 1, 1) := by decide +kernel
theorem dX8_isWatered_14 : decode cX8_isWatered 14 = .ok (.invokevirtual 69, 3) := by decide +kernel
theorem dX8_isWatered_17 : decode cX8_isWatered 17 = .ok (.ifCond .ne 5, 3) := by decide +kernel
theorem dX8_isWatered_20 : decode cX8_isWatered 20 = .ok (.iconst 0, 1) := by decide +kernel
theorem dX8_isWatered_21 : decode cX8_isWatered 21 = .ok (.ireturn, 1) := by decide +kernel
theorem dX8_isWatered_22 : decode cX8_isWatered 22 = .ok (.aload_n 0, 1) := by decide +kernel
theorem dX8_isWatered_23 : decode cX8_isWatered 23 = .ok (.aload_n 0, 1) := by decide +kernel
theorem dX8_isWatered_24 : decode cX8_isWatered 24 = .ok (.getfield 56, 3) := by decide +kernel
theorem dX8_isWatered_27 : decode cX8_isWatered 27 = .ok (.invokevirtual 89, 3) := by decide +kernel
theorem dX8_isWatered_30 : decode cX8_isWatered 30 = .ok (.istore_n 2, 1) := by decide +kernel
theorem dX8_isWatered_31 : decode cX8_isWatered 31 = .ok (.iload_n 2, 1) := by decide +kernel
theorem dX8_isWatered_32 : decode cX8_isWatered 32 = .ok (.ifCond .le 16, 3) := by decide +kernel
theorem dX8_isWatered_35 : decode cX8_isWatered 35 = .ok (.aload_n 0, 1) := by decide +kernel
theorem dX8_isWatered_36 : decode cX8_isWatered 36 = .ok (.getfield 30, 3) := by decide +kernel
theorem dX8_isWatered_39 : decode cX8_isWatered 39 = .ok (.iload_n 1, 1) := by decide +kernel
theorem dX8_isWatered_40 : decode cX8_isWatered 40 = .ok (.baload, 1) := by decide +kernel
theorem dX8_isWatered_41 : decode cX8_isWatered 41 = .ok (.ifCond .eq 7, 3) := by decide +kernel
theorem dX8_isWatered_44 : decode cX8_isWatered 44 = .ok (.iconst 1, 1) := by decide +kernel
theorem dX8_isWatered_45 : decode cX8_isWatered 45 = .ok (.goto 4, 3) := by decide +kernel
theorem dX8_isWatered_48 : decode cX8_isWatered 48 = .ok (.iconst 0, 1) := by decide +kernel
theorem dX8_isWatered_49 : decode cX8_isWatered 49 = .ok (.ireturn, 1) := by decide +kernel
set_option maxRecDepth 20000 in
theorem ggX8_isDone_X8_open : GoodIn wsX8_isDone wsX8_open := goodIn_r _ [5, 6, 7, 8, 9, 4, 10, 11, 12, 13, 14, 15, 45, 46, 47, 48, 49, 50, 51, 52, 53, 54, 55, 56, 57, 58, 59, 60, 61, 62, 63] (by decide +kernel) (by decide +kernel)
set_option maxRecDepth 20000 in
theorem gX8_isDone_X8_open : GoodIn wsX8_isDone (wsV RX8 120 RX8 yX8_open wsX8_open) := goodIn_app (goodIn_of _ (by decide +kernel)) ggX8_isDone_X8_open
set_option maxRecDepth 20000 in
theorem ggX8_isDone_X8_joined : GoodIn wsX8_isDone wsX8_joined := goodIn_r _ [19, 7, 8, 9, 4, 10, 11, 12, 20, 21, 22, 23, 6, 24, 25, 26, 27, 28, 29, 30, 31, 32, 33, 34, 35, 36, 37, 38, 39, 45, 46, 47, 48, 49, 50, 51, 52, 53, 54, 55, 56, 57, 58, 59, 60, 61, 62, 63] (by decide +kernel) (by decide +kernel)
set_option maxRecDepth 20000 in
theorem gX8_isDone_X8_joined : GoodIn wsX8_isDone (wsV RX8 123 RX8 yX8_joined wsX8_joined) := goodIn_app (goodIn_of _ (by decide +kernel)) ggX8_isDone_X8_joined
set_option maxRecDepth 20000 in
theorem ggX8_isDone_X8_cells : GoodIn wsX8_isDone wsX8_cells := goodIn_r _ [10, 11, 12, 45, 46, 47, 48, 49, 50, 51, 52, 53, 54, 55, 56, 57, 58, 59, 60, 61, 62, 63] (by decide +kernel) (by decide +kernel)
set_option maxRecDepth 20000 in
theorem gX8_isDone_X8_cells : GoodIn wsX8_isDone (wsV RX8 48 RX8 yX8_cells wsX8_cells) := goodIn_app (goodIn_of _ (by decide +kernel)) ggX8_isDone_X8_cells
set_option maxRecDepth 20000 in
theorem ggX8_isDone_X8_reaches : GoodIn wsX8_isDone wsX8_reaches := goodIn_r _ [43, 44, 7, 8, 9, 4, 10, 11, 12, 20, 21, 22, 23, 6, 24, 25, 26, 27, 28, 29, 30, 31, 32, 33, 34, 35, 36, 37, 38, 39, 45, 46, 47, 48, 49, 50, 51, 52, 53, 54, 55, 56, 57, 58, 59, 60, 61, 62, 63] (by decide +kernel) (by decide +kernel)
set_option maxRecDepth 20000 in
theorem gX8_isDone_X8_reaches : GoodIn wsX8_isDone (wsV RX8 89 RX8 yX8_reaches wsX8_reaches) := goodIn_app (goodIn_of _ (by decide +kernel)) ggX8_isDone_X8_reaches
theorem dX8_isDone_0 : decode cX8_isDone 0 = .ok (.aload_n 0, 1) := by decide +kernel
theorem dX8_isDone_1 : decode cX8_isDone 1 = .ok (.invokevirtual 120, 3) := by decide +kernel
theorem dX8_isDone_4 : decode cX8_isDone 4 = .ok (.aload_n 0, 1) := by decide +kernel
theorem dX8_isDone_5 : decode cX8_isDone 5 = .ok (.invokevirtual 123, 3) := by decide +kernel
theorem dX8_isDone_8 : decode cX8_isDone 8 = .ok (.if_icmp .ne 34, 3) := by decide +kernel
theorem dX8_isDone_11 : decode cX8_isDone 11 = .ok (.aload_n 0, 1) := by decide +kernel
theorem dX8_isDone_12 : decode cX8_isDone 12 = .ok (.invokevirtual 123, 3) := by decide +kernel
theorem dX8_isDone_15 : decode cX8_isDone 15 = .ok (.iconst 2, 1) := by decide +kernel
theorem dX8_isDone_16 : decode cX8_isDone 16 = .ok (.aload_n 0, 1) := by decide +kernel
theorem dX8_isDone_17 : decode cX8_isDone 17 = .ok (.invokevirtual 48, 3) := by decide +kernel
theorem dX8_isDone_20 : decode cX8_isDone 20 = .ok (.iconst 1, 1) := by decide +kernel
theorem dX8_isDone_21 : decode cX8_isDone 21 = .ok (.isub, 1) := by decide +kernel
theorem dX8_isDone_22 : decode cX8_isDone 22 = .ok (.imul, 1) := by decide +kernel
theorem dX8_isDone_23 : decode cX8_isDone 23 = .ok (.if_icmp .ne 19, 3) := by decide +kernel
theorem dX8_isDone_26 : decode cX8_isDone 26 = .ok (.aload_n 0, 1) := by decide +kernel
theorem dX8_isDone_27 : decode cX8_isDone 27 = .ok (.iconst 0, 1) := by decide +kernel
theorem dX8_isDone_28 : decode cX8_isDone 28 = .ok (.invokevirtual 89, 3) := by decide +kernel
theorem dX8_isDone_31 : decode cX8_isDone 31 = .ok (.aload_n 0, 1) := by decide +kernel
theorem dX8_isDone_32 : decode cX8_isDone 32 = .ok (.invokevirtual 48, 3) := by decide +kernel
theorem dX8_isDone_35 : decode cX8_isDone 35 = .ok (.if_icmp .ne 7, 3) := by decide +kernel
theorem dX8_isDone_38 : decode cX8_isDone 38 = .ok (.iconst 1, 1) := by decide +kernel
theorem dX8_isDone_39 : decode cX8_isDone 39 = .ok (.goto 4, 3) := by decide +kernel
theorem dX8_isDone_42 : decode cX8_isDone 42 = .ok (.iconst 0, 1) := by decide +kernel
theorem dX8_isDone_43 : decode cX8_isDone 43 = .ok (.ireturn, 1) := by decide +kernel
set_option maxRecDepth 20000 in
theorem ggX8_isSolved_X8_isDone : GoodIn wsX8_isSolved wsX8_isDone := goodIn_r _ [6, 7, 8, 9, 5, 10, 11, 12, 13, 14, 15, 16, 17, 18, 19, 20, 21, 22, 23, 24, 25, 26, 27, 28, 29, 30, 31, 32, 33, 34, 35, 36, 37, 38, 39, 40, 41, 42, 43, 44, 45, 46, 47, 48, 49, 50, 51, 52, 53, 54, 55, 56, 57, 58, 59, 60, 61, 62, 63, 64, 65, 66, 67, 68] (by decide +kernel) (by decide +kernel)
set_option maxRecDepth 20000 in
theorem gX8_isSolved_X8_isDone : GoodIn wsX8_isSolved (wsV RX8 126 RX8 yX8_isDone wsX8_isDone) := goodIn_app (goodIn_of _ (by decide +kernel)) ggX8_isSolved_X8_isDone
theorem dX8_isSolved_0 : decode cX8_isSolved 0 = .ok (.aload_n 0, 1) := by decide +kernel
theorem dX8_isSolved_1 : decode cX8_isSolved 1 = .ok (.iconst 0, 1) := by decide +kernel
theorem dX8_isSolved_2 : decode cX8_isSolved 2 = .ok (.putfield 45, 3) := by decide +kernel
theorem dX8_isSolved_5 : decode cX8_isSolved 5 = .ok (.aload_n 0, 1) := by decide +kernel
theorem dX8_isSolved_6 : decode cX8_isSolved 6 = .ok (.invokevirtual 126, 3) := by decide +kernel
theorem dX8_isSolved_9 : decode cX8_isSolved 9 = .ok (.ireturn, 1) := by decide +kernel
theorem dX8_laysOf_0 : decode cX8_laysOf 0 = .ok (.aload_n 0, 1) := by decide +kernel
theorem dX8_laysOf_1 : decode cX8_laysOf 1 = .ok (.getfield 23, 3) := by decide +kernel
theorem dX8_laysOf_4 : decode cX8_laysOf 4 = .ok (.iload_n 1, 1) := by decide +kernel
theorem dX8_laysOf_5 : decode cX8_laysOf 5 = .ok (.baload, 1) := by decide +kernel
theorem dX8_laysOf_6 : decode cX8_laysOf 6 = .ok (.ifCond .ne 23, 3) := by decide +kernel
theorem dX8_laysOf_9 : decode cX8_laysOf 9 = .ok (.aload_n 0, 1) := by decide +kernel
theorem dX8_laysOf_10 : decode cX8_laysOf 10 = .ok (.getfield 16, 3) := by decide +kernel
theorem dX8_laysOf_13 : decode cX8_laysOf 13 = .ok (.iload_n 1, 1) := by decide +kernel
theorem dX8_laysOf_14 : decode cX8_laysOf 14 = .ok (.iaload, 1) := by decide +kernel
theorem dX8_laysOf_15 : decode cX8_laysOf 15 = .ok (.ifCond .eq 14, 3) := by decide +kernel
theorem dX8_laysOf_18 : decode cX8_laysOf 18 = .ok (.aload_n 0, 1) := by decide +kernel
theorem dX8_laysOf_19 : decode cX8_laysOf 19 = .ok (.getfield 16, 3) := by decide +kernel
theorem dX8_laysOf_22 : decode cX8_laysOf 22 = .ok (.iload_n 1, 1) := by decide +kernel
theorem dX8_laysOf_23 : decode cX8_laysOf 23 = .ok (.iaload, 1) := by decide +kernel
theorem dX8_laysOf_24 : decode cX8_laysOf 24 = .ok (.bipush 15, 2) := by decide +kernel
theorem dX8_laysOf_26 : decode cX8_laysOf 26 = .ok (.if_icmp .ne 5, 3) := by decide +kernel
theorem dX8_laysOf_29 : decode cX8_laysOf 29 = .ok (.iconst 1, 1) := by decide +kernel
theorem dX8_laysOf_30 : decode cX8_laysOf 30 = .ok (.ireturn, 1) := by decide +kernel
theorem dX8_laysOf_31 : decode cX8_laysOf 31 = .ok (.aload_n 0, 1) := by decide +kernel
theorem dX8_laysOf_32 : decode cX8_laysOf 32 = .ok (.getfield 16, 3) := by decide +kernel
theorem dX8_laysOf_35 : decode cX8_laysOf 35 = .ok (.iload_n 1, 1) := by decide +kernel
theorem dX8_laysOf_36 : decode cX8_laysOf 36 = .ok (.iaload, 1) := by decide +kernel
theorem dX8_laysOf_37 : decode cX8_laysOf 37 = .ok (.iconst 5, 1) := by decide +kernel
theorem dX8_laysOf_38 : decode cX8_laysOf 38 = .ok (.if_icmp .eq 14, 3) := by decide +kernel
theorem dX8_laysOf_41 : decode cX8_laysOf 41 = .ok (.aload_n 0, 1) := by decide +kernel
theorem dX8_laysOf_42 : decode cX8_laysOf 42 = .ok (.getfield 16, 3) := by decide +kernel
theorem dX8_laysOf_45 : decode cX8_laysOf 45 = .ok (.iload_n 1, 1) := by decide +kernel
theorem dX8_laysOf_46 : decode cX8_laysOf 46 = .ok (.iaload, 1) := by decide +kernel
theorem dX8_laysOf_47 : decode cX8_laysOf 47 = .ok (.bipush 10, 2) := by decide +kernel
theorem dX8_laysOf_49 : decode cX8_laysOf 49 = .ok (.if_icmp .ne 7, 3) := by decide +kernel
theorem dX8_laysOf_52 : decode cX8_laysOf 52 = .ok (.iconst 2, 1) := by decide +kernel
theorem dX8_laysOf_53 : decode cX8_laysOf 53 = .ok (.goto 4, 3) := by decide +kernel
theorem dX8_laysOf_56 : decode cX8_laysOf 56 = .ok (.iconst 4, 1) := by decide +kernel
theorem dX8_laysOf_57 : decode cX8_laysOf 57 = .ok (.ireturn, 1) := by decide +kernel
set_option maxRecDepth 20000 in
theorem ggX8_canBe_X8_turned : GoodIn wsX8_canBe wsX8_turned := goodIn_r _ [6] (by decide +kernel) (by decide +kernel)
set_option maxRecDepth 20000 in
theorem gX8_canBe_X8_turned : GoodIn wsX8_canBe (va_wsS RX8 98 yX8_turned wsX8_turned) := goodIn_app (goodIn_of _ (by decide +kernel)) ggX8_canBe_X8_turned
set_option maxRecDepth 20000 in
theorem ggX8_canBe_X8_isOpen : GoodIn wsX8_canBe wsX8_isOpen := goodIn_r _ [9] (by decide +kernel) (by decide +kernel)
set_option maxRecDepth 20000 in
theorem gX8_canBe_X8_isOpen : GoodIn wsX8_canBe (va_wsS RX8 114 yX8_isOpen wsX8_isOpen) := goodIn_app (goodIn_of _ (by decide +kernel)) ggX8_canBe_X8_isOpen
theorem dX8_canBe_0 : decode cX8_canBe 0 = .ok (.iconst 0, 1) := by decide +kernel
theorem dX8_canBe_1 : decode cX8_canBe 1 = .ok (.istore 4, 2) := by decide +kernel
theorem dX8_canBe_3 : decode cX8_canBe 3 = .ok (.iconst 0, 1) := by decide +kernel
theorem dX8_canBe_4 : decode cX8_canBe 4 = .ok (.istore 5, 2) := by decide +kernel
theorem dX8_canBe_6 : decode cX8_canBe 6 = .ok (.iload 5, 2) := by decide +kernel
theorem dX8_canBe_8 : decode cX8_canBe 8 = .ok (.iconst 4, 1) := by decide +kernel
theorem dX8_canBe_9 : decode cX8_canBe 9 = .ok (.if_icmp .ge 55, 3) := by decide +kernel
theorem dX8_canBe_12 : decode cX8_canBe 12 = .ok (.iload 4, 2) := by decide +kernel
theorem dX8_canBe_14 : decode cX8_canBe 14 = .ok (.ifCond .ne 37, 3) := by decide +kernel
theorem dX8_canBe_17 : decode cX8_canBe 17 = .ok (.aload_n 0, 1) := by decide +kernel
theorem dX8_canBe_18 : decode cX8_canBe 18 = .ok (.getfield 33, 3) := by decide +kernel
theorem dX8_canBe_21 : decode cX8_canBe 21 = .ok (.iload_n 1, 1) := by decide +kernel
theorem dX8_canBe_22 : decode cX8_canBe 22 = .ok (.iaload, 1) := by decide +kernel
theorem dX8_canBe_23 : decode cX8_canBe 23 = .ok (.iload 5, 2) := by decide +kernel
theorem dX8_canBe_25 : decode cX8_canBe 25 = .ok (.ishr, 1) := by decide +kernel
theorem dX8_canBe_26 : decode cX8_canBe 26 = .ok (.iconst 1, 1) := by decide +kernel
theorem dX8_canBe_27 : decode cX8_canBe 27 = .ok (.iand, 1) := by decide +kernel
theorem dX8_canBe_28 : decode cX8_canBe 28 = .ok (.iconst 1, 1) := by decide +kernel
theorem dX8_canBe_29 : decode cX8_canBe 29 = .ok (.if_icmp .ne 26, 3) := by decide +kernel
theorem dX8_canBe_32 : decode cX8_canBe 32 = .ok (.aload_n 0, 1) := by decide +kernel
theorem dX8_canBe_33 : decode cX8_canBe 33 = .ok (.getfield 16, 3) := by decide +kernel
theorem dX8_canBe_36 : decode cX8_canBe 36 = .ok (.iload_n 1, 1) := by decide +kernel
theorem dX8_canBe_37 : decode cX8_canBe 37 = .ok (.iaload, 1) := by decide +kernel
theorem dX8_canBe_38 : decode cX8_canBe 38 = .ok (.iload 5, 2) := by decide +kernel
theorem dX8_canBe_40 : decode cX8_canBe 40 = .ok (.invokestatic 98, 3) := by decide +kernel
theorem dX8_canBe_43 : decode cX8_canBe 43 = .ok (.iload_n 2, 1) := by decide +kernel
theorem dX8_canBe_44 : decode cX8_canBe 44 = .ok (.invokestatic 114, 3) := by decide +kernel
theorem dX8_canBe_47 : decode cX8_canBe 47 = .ok (.iload_n 3, 1) := by decide +kernel
theorem dX8_canBe_48 : decode cX8_canBe 48 = .ok (.if_icmp .ne 7, 3) := by decide +kernel
theorem dX8_canBe_51 : decode cX8_canBe 51 = .ok (.iconst 1, 1) := by decide +kernel
theorem dX8_canBe_52 : decode cX8_canBe 52 = .ok (.goto 4, 3) := by decide +kernel
theorem dX8_canBe_55 : decode cX8_canBe 55 = .ok (.iconst 0, 1) := by decide +kernel
theorem dX8_canBe_56 : decode cX8_canBe 56 = .ok (.istore 4, 2) := by decide +kernel
theorem dX8_canBe_58 : decode cX8_canBe 58 = .ok (.iinc 5 1, 3) := by decide +kernel
theorem dX8_canBe_61 : decode cX8_canBe 61 = .ok (.goto (-55), 3) := by decide +kernel
theorem dX8_canBe_64 : decode cX8_canBe 64 = .ok (.iload 4, 2) := by decide +kernel
theorem dX8_canBe_66 : decode cX8_canBe 66 = .ok (.ireturn, 1) := by decide +kernel
set_option maxRecDepth 20000 in
theorem ggX8_isSettled_X8_neighbourOf : GoodIn wsX8_isSettled wsX8_neighbourOf := goodIn_r _ [5, 6, 7, 8, 29, 30, 31, 32, 33, 34, 35, 36, 37, 38, 39, 40, 41, 42, 43, 44, 45, 46, 47] (by decide +kernel) (by decide +kernel)
set_option maxRecDepth 20000 in
theorem gX8_isSettled_X8_neighbourOf : GoodIn wsX8_isSettled (wsV RX8 81 RX8 yX8_neighbourOf wsX8_neighbourOf) := goodIn_app (goodIn_of _ (by decide +kernel)) ggX8_isSettled_X8_neighbourOf
set_option maxRecDepth 20000 in
theorem ggX8_isSettled_X8_hasWall : GoodIn wsX8_isSettled wsX8_hasWall := goodIn_r _ [12, 13, 29, 30, 31, 32, 33, 34, 35, 36, 37, 38, 39, 40, 41, 42, 43, 44, 45, 46, 47] (by decide +kernel) (by decide +kernel)
set_option maxRecDepth 20000 in
theorem gX8_isSettled_X8_hasWall : GoodIn wsX8_isSettled (wsV RX8 110 RX8 yX8_hasWall wsX8_hasWall) := goodIn_app (goodIn_of _ (by decide +kernel)) ggX8_isSettled_X8_hasWall
set_option maxRecDepth 20000 in
theorem ggX8_isSettled_X8_canBe : GoodIn wsX8_isSettled wsX8_canBe := goodIn_r _ [17, 18, 19, 20, 21, 4, 22, 23, 24, 25, 29, 30, 31, 32, 33, 34, 35, 36, 37, 38, 39, 40, 41, 42, 43, 44, 45, 46, 47] (by decide +kernel) (by decide +kernel)
set_option maxRecDepth 20000 in
theorem gX8_isSettled_X8_canBe : GoodIn wsX8_isSettled (wsV RX8 130 RX8 yX8_canBe wsX8_canBe) := goodIn_app (goodIn_of _ (by decide +kernel)) ggX8_isSettled_X8_canBe
set_option maxRecDepth 20000 in
theorem ggX8_isSettled_X8_opposite : GoodIn wsX8_isSettled wsX8_opposite := goodIn_r _ [28] (by decide +kernel) (by decide +kernel)
set_option maxRecDepth 20000 in
theorem gX8_isSettled_X8_opposite : GoodIn wsX8_isSettled (va_wsS RX8 92 yX8_opposite wsX8_opposite) := goodIn_app (goodIn_of _ (by decide +kernel)) ggX8_isSettled_X8_opposite
theorem dX8_isSettled_0 : decode cX8_isSettled 0 = .ok (.aload_n 0, 1) := by decide +kernel
theorem dX8_isSettled_1 : decode cX8_isSettled 1 = .ok (.iload_n 1, 1) := by decide +kernel
theorem dX8_isSettled_2 : decode cX8_isSettled 2 = .ok (.iload_n 2, 1) := by decide +kernel
theorem dX8_isSettled_3 : decode cX8_isSettled 3 = .ok (.invokevirtual 81, 3) := by decide +kernel
theorem dX8_isSettled_6 : decode cX8_isSettled 6 = .ok (.istore_n 3, 1) := by decide +kernel
theorem dX8_isSettled_7 : decode cX8_isSettled 7 = .ok (.iload_n 3, 1) := by decide +kernel
theorem dX8_isSettled_8 : decode cX8_isSettled 8 = .ok (.iconst (-1), 1) := by decide +kernel
theorem dX8_isSettled_9 : decode cX8_isSettled 9 = .ok (.if_icmp .eq 39, 3) := by decide +kernel
theorem dX8_isSettled_12 : decode cX8_isSettled 12 = .ok (.aload_n 0, 1) := by decide +kernel
theorem dX8_isSettled_13 : decode cX8_isSettled 13 = .ok (.iload_n 1, 1) := by decide +kernel
theorem dX8_isSettled_14 : decode cX8_isSettled 14 = .ok (.iload_n 2, 1) := by decide +kernel
theorem dX8_isSettled_15 : decode cX8_isSettled 15 = .ok (.invokevirtual 110, 3) := by decide +kernel
theorem dX8_isSettled_18 : decode cX8_isSettled 18 = .ok (.ifCond .ne 30, 3) := by decide +kernel
theorem dX8_isSettled_21 : decode cX8_isSettled 21 = .ok (.aload_n 0, 1) := by decide +kernel
theorem dX8_isSettled_22 : decode cX8_isSettled 22 = .ok (.iload_n 1, 1) := by decide +kernel
theorem dX8_isSettled_23 : decode cX8_isSettled 23 = .ok (.iload_n 2, 1) := by decide +kernel
theorem dX8_isSettled_24 : decode cX8_isSettled 24 = .ok (.iconst 0, 1) := by decide +kernel
theorem dX8_isSettled_25 : decode cX8_isSettled 25 = .ok (.invokevirtual 130, 3) := by decide +kernel
theorem dX8_isSettled_28 : decode cX8_isSettled 28 = .ok (.ifCond .ne 20, 3) := by decide +kernel
theorem dX8_isSettled_31 : decode cX8_isSettled 31 = .ok (.aload_n 0, 1) := by decide +kernel
theorem dX8_isSettled_32 : decode cX8_isSettled 32 = .ok (.iload_n 3, 1) := by decide +kernel
theorem dX8_isSettled_33 : decode cX8_isSettled 33 = .ok (.iload_n 2, 1) := by decide +kernel
theorem dX8_isSettled_34 : decode cX8_isSettled 34 = .ok (.invokestatic 92, 3) := by decide +kernel
theorem dX8_isSettled_37 : decode cX8_isSettled 37 = .ok (.iconst 0, 1) := by decide +kernel
theorem dX8_isSettled_38 : decode cX8_isSettled 38 = .ok (.invokevirtual 130, 3) := by decide +kernel
theorem dX8_isSettled_41 : decode cX8_isSettled 41 = .ok (.ifCond .ne 7, 3) := by decide +kernel
theorem dX8_isSettled_44 : decode cX8_isSettled 44 = .ok (.iconst 1, 1) := by decide +kernel
theorem dX8_isSettled_45 : decode cX8_isSettled 45 = .ok (.goto 4, 3) := by decide +kernel
theorem dX8_isSettled_48 : decode cX8_isSettled 48 = .ok (.iconst 0, 1) := by decide +kernel
theorem dX8_isSettled_49 : decode cX8_isSettled 49 = .ok (.ireturn, 1) := by decide +kernel
set_option maxRecDepth 20000 in
theorem ggX8_hang_X8_cells : GoodIn wsX8_hang wsX8_cells := goodIn_r _ [6, 7, 8, 38, 39, 40, 41, 42, 43, 44, 45, 46, 47, 48, 49, 50, 51, 52, 53, 54, 55, 56] (by decide +kernel) (by decide +kernel)
set_option maxRecDepth 20000 in
theorem gX8_hang_X8_cells : GoodIn wsX8_hang (wsV RX8 48 RX8 yX8_cells wsX8_cells) := goodIn_app (goodIn_of _ (by decide +kernel)) ggX8_hang_X8_cells
set_option maxRecDepth 20000 in
theorem ggX8_hang_X8_isSettled : GoodIn wsX8_hang wsX8_isSettled := goodIn_r _ [12, 13, 14, 15, 5, 16, 7, 8, 17, 18, 19, 20, 21, 22, 23, 24, 25, 26, 27, 28, 29, 30, 31, 32, 33, 34, 35, 36, 37, 38, 39, 40, 41, 42, 43, 44, 45, 46, 47, 48, 49, 50, 51, 52, 53, 54, 55, 56] (by decide +kernel) (by decide +kernel)
set_option maxRecDepth 20000 in
theorem gX8_hang_X8_isSettled : GoodIn wsX8_hang (wsV RX8 133 RX8 yX8_isSettled wsX8_isSettled) := goodIn_app (goodIn_of _ (by decide +kernel)) ggX8_hang_X8_isSettled
set_option maxRecDepth 20000 in
theorem ggX8_hang_X8_neighbourOf : GoodIn wsX8_hang wsX8_neighbourOf := goodIn_r _ [16, 7, 8, 17, 38, 39, 40, 41, 42, 43, 44, 45, 46, 47, 48, 49, 50, 51, 52, 53, 54, 55, 56] (by decide +kernel) (by decide +kernel)
set_option maxRecDepth 20000 in
theorem gX8_hang_X8_neighbourOf : GoodIn wsX8_hang (wsV RX8 81 RX8 yX8_neighbourOf wsX8_neighbourOf) := goodIn_app (goodIn_of _ (by decide +kernel)) ggX8_hang_X8_neighbourOf
theorem dX8_hang_0 : decode cX8_hang 0 = .ok (.iconst 0, 1) := by decide +kernel
theorem dX8_hang_1 : decode cX8_hang 1 = .ok (.istore 4, 2) := by decide +kernel
theorem dX8_hang_3 : decode cX8_hang 3 = .ok (.iload 4, 2) := by decide +kernel
theorem dX8_hang_5 : decode cX8_hang 5 = .ok (.bipush 16, 2) := by decide +kernel
theorem dX8_hang_7 : decode cX8_hang 7 = .ok (.if_icmp .ge 27, 3) := by decide +kernel
theorem dX8_hang_10 : decode cX8_hang 10 = .ok (.aload_n 0, 1) := by decide +kernel
theorem dX8_hang_11 : decode cX8_hang 11 = .ok (.getfield 30, 3) := by decide +kernel
theorem dX8_hang_14 : decode cX8_hang 14 = .ok (.iload 4, 2) := by decide +kernel
theorem dX8_hang_16 : decode cX8_hang 16 = .ok (.iload 4, 2) := by decide +kernel
theorem dX8_hang_18 : decode cX8_hang 18 = .ok (.iload_n 1, 1) := by decide +kernel
theorem dX8_hang_19 : decode cX8_hang 19 = .ok (.if_icmp .ne 7, 3) := by decide +kernel
theorem dX8_hang_22 : decode cX8_hang 22 = .ok (.iconst 1, 1) := by decide +kernel
theorem dX8_hang_23 : decode cX8_hang 23 = .ok (.goto 4, 3) := by decide +kernel
theorem dX8_hang_26 : decode cX8_hang 26 = .ok (.iconst 0, 1) := by decide +kernel
theorem dX8_hang_27 : decode cX8_hang 27 = .ok (.bastore, 1) := by decide +kernel
theorem dX8_hang_28 : decode cX8_hang 28 = .ok (.iinc 4 1, 3) := by decide +kernel
theorem dX8_hang_31 : decode cX8_hang 31 = .ok (.goto (-28), 3) := by decide +kernel
theorem dX8_hang_34 : decode cX8_hang 34 = .ok (.iconst 1, 1) := by decide +kernel
theorem dX8_hang_35 : decode cX8_hang 35 = .ok (.istore 4, 2) := by decide +kernel
theorem dX8_hang_37 : decode cX8_hang 37 = .ok (.iload 4, 2) := by decide +kernel
theorem dX8_hang_39 : decode cX8_hang 39 = .ok (.ifCond .eq 127, 3) := by decide +kernel
theorem dX8_hang_42 : decode cX8_hang 42 = .ok (.aload_n 0, 1) := by decide +kernel
theorem dX8_hang_43 : decode cX8_hang 43 = .ok (.getfield 30, 3) := by decide +kernel
theorem dX8_hang_46 : decode cX8_hang 46 = .ok (.iload_n 2, 1) := by decide +kernel
theorem dX8_hang_47 : decode cX8_hang 47 = .ok (.baload, 1) := by decide +kernel
theorem dX8_hang_48 : decode cX8_hang 48 = .ok (.ifCond .ne 118, 3) := by decide +kernel
theorem dX8_hang_51 : decode cX8_hang 51 = .ok (.iconst 0, 1) := by decide +kernel
theorem dX8_hang_52 : decode cX8_hang 52 = .ok (.istore 4, 2) := by decide +kernel
theorem dX8_hang_54 : decode cX8_hang 54 = .ok (.iconst 0, 1) := by decide +kernel
theorem dX8_hang_55 : decode cX8_hang 55 = .ok (.istore 5, 2) := by decide +kernel
theorem dX8_hang_57 : decode cX8_hang 57 = .ok (.iload 5, 2) := by decide +kernel
theorem dX8_hang_59 : decode cX8_hang 59 = .ok (.aload_n 0, 1) := by decide +kernel
theorem dX8_hang_60 : decode cX8_hang 60 = .ok (.invokevirtual 48, 3) := by decide +kernel
theorem dX8_hang_63 : decode cX8_hang 63 = .ok (.if_icmp .ge 100, 3) := by decide +kernel
theorem dX8_hang_66 : decode cX8_hang 66 = .ok (.iconst 0, 1) := by decide +kernel
theorem dX8_hang_67 : decode cX8_hang 67 = .ok (.istore 6, 2) := by decide +kernel
theorem dX8_hang_69 : decode cX8_hang 69 = .ok (.iload 6, 2) := by decide +kernel
theorem dX8_hang_71 : decode cX8_hang 71 = .ok (.iconst 4, 1) := by decide +kernel
theorem dX8_hang_72 : decode cX8_hang 72 = .ok (.if_icmp .ge 85, 3) := by decide +kernel
theorem dX8_hang_75 : decode cX8_hang 75 = .ok (.aload_n 0, 1) := by decide +kernel
theorem dX8_hang_76 : decode cX8_hang 76 = .ok (.getfield 30, 3) := by decide +kernel
theorem dX8_hang_79 : decode cX8_hang 79 = .ok (.iload 5, 2) := by decide +kernel
theorem dX8_hang_81 : decode cX8_hang 81 = .ok (.baload, 1) := by decide +kernel
theorem dX8_hang_82 : decode cX8_hang 82 = .ok (.ifCond .ne 75, 3) := by decide +kernel
theorem dX8_hang_85 : decode cX8_hang 85 = .ok (.iload 5, 2) := by decide +kernel
theorem dX8_hang_87 : decode cX8_hang 87 = .ok (.iload_n 3, 1) := by decide +kernel
theorem dX8_hang_88 : decode cX8_hang 88 = .ok (.if_icmp .eq 69, 3) := by decide +kernel
theorem dX8_hang_91 : decode cX8_hang 91 = .ok (.aload_n 0, 1) := by decide +kernel
theorem dX8_hang_92 : decode cX8_hang 92 = .ok (.iload 5, 2) := by decide +kernel
theorem dX8_hang_94 : decode cX8_hang 94 = .ok (.iload 6, 2) := by decide +kernel
theorem dX8_hang_96 : decode cX8_hang 96 = .ok (.invokevirtual 133, 3) := by decide +kernel
theorem dX8_hang_99 : decode cX8_hang 99 = .ok (.ifCond .eq 23, 3) := by decide +kernel
theorem dX8_hang_102 : decode cX8_hang 102 = .ok (.aload_n 0, 1) := by decide +kernel
theorem dX8_hang_103 : decode cX8_hang 103 = .ok (.getfield 30, 3) := by decide +kernel
theorem dX8_hang_106 : decode cX8_hang 106 = .ok (.aload_n 0, 1) := by decide +kernel
theorem dX8_hang_107 : decode cX8_hang 107 = .ok (.iload 5, 2) := by decide +kernel
theorem dX8_hang_109 : decode cX8_hang 109 = .ok (.iload 6, 2) := by decide +kernel
theorem dX8_hang_111 : decode cX8_hang 111 = .ok (.invokevirtual 81, 3) := by decide +kernel
theorem dX8_hang_114 : decode cX8_hang 114 = .ok (.baload, 1) := by decide +kernel
theorem dX8_hang_115 : decode cX8_hang 115 = .ok (.ifCond .eq 7, 3) := by decide +kernel
theorem dX8_hang_118 : decode cX8_hang 118 = .ok (.iconst 1, 1) := by decide +kernel
theorem dX8_hang_119 : decode cX8_hang 119 = .ok (.goto 4, 3) := by decide +kernel
theorem dX8_hang_122 : decode cX8_hang 122 = .ok (.iconst 0, 1) := by decide +kernel
theorem dX8_hang_123 : decode cX8_hang 123 = .ok (.istore 7, 2) := by decide +kernel
theorem dX8_hang_125 : decode cX8_hang 125 = .ok (.aload_n 0, 1) := by decide +kernel
theorem dX8_hang_126 : decode cX8_hang 126 = .ok (.getfield 30, 3) := by decide +kernel
theorem dX8_hang_129 : decode cX8_hang 129 = .ok (.iload 5, 2) := by decide +kernel
theorem dX8_hang_131 : decode cX8_hang 131 = .ok (.iload 7, 2) := by decide +kernel
theorem dX8_hang_133 : decode cX8_hang 133 = .ok (.bastore, 1) := by decide +kernel
theorem dX8_hang_134 : decode cX8_hang 134 = .ok (.iload 4, 2) := by decide +kernel
theorem dX8_hang_136 : decode cX8_hang 136 = .ok (.ifCond .ne 8, 3) := by decide +kernel
theorem dX8_hang_139 : decode cX8_hang 139 = .ok (.iload 7, 2) := by decide +kernel
theorem dX8_hang_141 : decode cX8_hang 141 = .ok (.ifCond .eq 7, 3) := by decide +kernel
theorem dX8_hang_144 : decode cX8_hang 144 = .ok (.iconst 1, 1) := by decide +kernel
theorem dX8_hang_145 : decode cX8_hang 145 = .ok (.goto 4, 3) := by decide +kernel
theorem dX8_hang_148 : decode cX8_hang 148 = .ok (.iconst 0, 1) := by decide +kernel
theorem dX8_hang_149 : decode cX8_hang 149 = .ok (.istore 4, 2) := by decide +kernel
theorem dX8_hang_151 : decode cX8_hang 151 = .ok (.iinc 6 1, 3) := by decide +kernel
theorem dX8_hang_154 : decode cX8_hang 154 = .ok (.goto (-85), 3) := by decide +kernel
theorem dX8_hang_157 : decode cX8_hang 157 = .ok (.iinc 5 1, 3) := by decide +kernel
theorem dX8_hang_160 : decode cX8_hang 160 = .ok (.goto (-103), 3) := by decide +kernel
theorem dX8_hang_163 : decode cX8_hang 163 = .ok (.goto (-126), 3) := by decide +kernel
theorem dX8_hang_166 : decode cX8_hang 166 = .ok (.aload_n 0, 1) := by decide +kernel
theorem dX8_hang_167 : decode cX8_hang 167 = .ok (.getfield 30, 3) := by decide +kernel
theorem dX8_hang_170 : decode cX8_hang 170 = .ok (.iload_n 2, 1) := by decide +kernel
theorem dX8_hang_171 : decode cX8_hang 171 = .ok (.baload, 1) := by decide +kernel
theorem dX8_hang_172 : decode cX8_hang 172 = .ok (.ireturn, 1) := by decide +kernel
set_option maxRecDepth 20000 in
theorem ggX8_isStruck_X8_turned : GoodIn wsX8_isStruck wsX8_turned := goodIn_r _ [5] (by decide +kernel) (by decide +kernel)
set_option maxRecDepth 20000 in
theorem gX8_isStruck_X8_turned : GoodIn wsX8_isStruck (va_wsS RX8 98 yX8_turned wsX8_turned) := goodIn_app (goodIn_of _ (by decide +kernel)) ggX8_isStruck_X8_turned
set_option maxRecDepth 20000 in
theorem ggX8_isStruck_X8_neighbourOf : GoodIn wsX8_isStruck wsX8_neighbourOf := goodIn_r _ [9, 10, 11, 12, 42, 43, 44, 45, 46, 47, 48, 49, 50, 51, 52, 53, 54, 55, 56, 57, 58, 59, 60] (by decide +kernel) (by decide +kernel)
set_option maxRecDepth 20000 in
theorem gX8_isStruck_X8_neighbourOf : GoodIn wsX8_isStruck (wsV RX8 81 RX8 yX8_neighbourOf wsX8_neighbourOf) := goodIn_app (goodIn_of _ (by decide +kernel)) ggX8_isStruck_X8_neighbourOf
set_option maxRecDepth 20000 in
theorem ggX8_isStruck_X8_hasWall : GoodIn wsX8_isStruck wsX8_hasWall := goodIn_r _ [16, 17, 42, 43, 44, 45, 46, 47, 48, 49, 50, 51, 52, 53, 54, 55, 56, 57, 58, 59, 60] (by decide +kernel) (by decide +kernel)
set_option maxRecDepth 20000 in
theorem gX8_isStruck_X8_hasWall : GoodIn wsX8_isStruck (wsV RX8 110 RX8 yX8_hasWall wsX8_hasWall) := goodIn_app (goodIn_of _ (by decide +kernel)) ggX8_isStruck_X8_hasWall
set_option maxRecDepth 20000 in
theorem ggX8_isStruck_X8_opposite : GoodIn wsX8_isStruck wsX8_opposite := goodIn_r _ [20] (by decide +kernel) (by decide +kernel)
set_option maxRecDepth 20000 in
theorem gX8_isStruck_X8_opposite : GoodIn wsX8_isStruck (va_wsS RX8 92 yX8_opposite wsX8_opposite) := goodIn_app (goodIn_of _ (by decide +kernel)) ggX8_isStruck_X8_opposite
set_option maxRecDepth 20000 in
theorem ggX8_isStruck_X8_isOpen : GoodIn wsX8_isStruck wsX8_isOpen := goodIn_r _ [23] (by decide +kernel) (by decide +kernel)
set_option maxRecDepth 20000 in
theorem gX8_isStruck_X8_isOpen : GoodIn wsX8_isStruck (va_wsS RX8 114 yX8_isOpen wsX8_isOpen) := goodIn_app (goodIn_of _ (by decide +kernel)) ggX8_isStruck_X8_isOpen
set_option maxRecDepth 20000 in
theorem ggX8_isStruck_X8_canBe : GoodIn wsX8_isStruck wsX8_canBe := goodIn_r _ [27, 28, 1, 2, 3, 4, 5, 21, 22, 23, 42, 43, 44, 45, 46, 47, 48, 49, 50, 51, 52, 53, 54, 55, 56, 57, 58, 59, 60] (by decide +kernel) (by decide +kernel)
set_option maxRecDepth 20000 in
theorem gX8_isStruck_X8_canBe : GoodIn wsX8_isStruck (wsV RX8 130 RX8 yX8_canBe wsX8_canBe) := goodIn_app (goodIn_of _ (by decide +kernel)) ggX8_isStruck_X8_canBe
set_option maxRecDepth 20000 in
theorem ggX8_isStruck_X8_hang : GoodIn wsX8_isStruck wsX8_hang := goodIn_r _ [32, 33, 34, 35, 36, 4, 37, 10, 11, 38, 39, 40, 41, 6, 7, 8, 9, 12, 13, 14, 15, 16, 17, 24, 25, 26, 27, 28, 1, 2, 3, 5, 21, 22, 23, 18, 19, 20, 42, 43, 44, 45, 46, 47, 48, 49, 50, 51, 52, 53, 54, 55, 56, 57, 58, 59, 60] (by decide +kernel) (by decide +kernel)
set_option maxRecDepth 20000 in
theorem gX8_isStruck_X8_hang : GoodIn wsX8_isStruck (wsV RX8 136 RX8 yX8_hang wsX8_hang) := goodIn_app (goodIn_of _ (by decide +kernel)) ggX8_isStruck_X8_hang
theorem dX8_isStruck_0 : decode cX8_isStruck 0 = .ok (.aload_n 0, 1) := by decide +kernel
theorem dX8_isStruck_1 : decode cX8_isStruck 1 = .ok (.getfield 16, 3) := by decide +kernel
theorem dX8_isStruck_4 : decode cX8_isStruck 4 = .ok (.iload_n 1, 1) := by decide +kernel
theorem dX8_isStruck_5 : decode cX8_isStruck 5 = .ok (.iaload, 1) := by decide +kernel
theorem dX8_isStruck_6 : decode cX8_isStruck 6 = .ok (.iload_n 2, 1) := by decide +kernel
theorem dX8_isStruck_7 : decode cX8_isStruck 7 = .ok (.invokestatic 98, 3) := by decide +kernel
theorem dX8_isStruck_10 : decode cX8_isStruck 10 = .ok (.istore_n 3, 1) := by decide +kernel
theorem dX8_isStruck_11 : decode cX8_isStruck 11 = .ok (.iconst 0, 1) := by decide +kernel
theorem dX8_isStruck_12 : decode cX8_isStruck 12 = .ok (.istore 4, 2) := by decide +kernel
theorem dX8_isStruck_14 : decode cX8_isStruck 14 = .ok (.iconst 0, 1) := by decide +kernel
theorem dX8_isStruck_15 : decode cX8_isStruck 15 = .ok (.istore 5, 2) := by decide +kernel
theorem dX8_isStruck_17 : decode cX8_isStruck 17 = .ok (.iload 5, 2) := by decide +kernel
theorem dX8_isStruck_19 : decode cX8_isStruck 19 = .ok (.iconst 4, 1) := by decide +kernel
theorem dX8_isStruck_20 : decode cX8_isStruck 20 = .ok (.if_icmp .ge 187, 3) := by decide +kernel
theorem dX8_isStruck_23 : decode cX8_isStruck 23 = .ok (.iload 4, 2) := by decide +kernel
theorem dX8_isStruck_25 : decode cX8_isStruck 25 = .ok (.ifCond .ne 182, 3) := by decide +kernel
theorem dX8_isStruck_28 : decode cX8_isStruck 28 = .ok (.aload_n 0, 1) := by decide +kernel
theorem dX8_isStruck_29 : decode cX8_isStruck 29 = .ok (.iload_n 1, 1) := by decide +kernel
theorem dX8_isStruck_30 : decode cX8_isStruck 30 = .ok (.iload 5, 2) := by decide +kernel
theorem dX8_isStruck_32 : decode cX8_isStruck 32 = .ok (.invokevirtual 81, 3) := by decide +kernel
theorem dX8_isStruck_35 : decode cX8_isStruck 35 = .ok (.istore 6, 2) := by decide +kernel
theorem dX8_isStruck_37 : decode cX8_isStruck 37 = .ok (.iload 6, 2) := by decide +kernel
theorem dX8_isStruck_39 : decode cX8_isStruck 39 = .ok (.iconst (-1), 1) := by decide +kernel
theorem dX8_isStruck_40 : decode cX8_isStruck 40 = .ok (.if_icmp .eq 17, 3) := by decide +kernel
theorem dX8_isStruck_43 : decode cX8_isStruck 43 = .ok (.aload_n 0, 1) := by decide +kernel
theorem dX8_isStruck_44 : decode cX8_isStruck 44 = .ok (.iload_n 1, 1) := by decide +kernel
theorem dX8_isStruck_45 : decode cX8_isStruck 45 = .ok (.iload 5, 2) := by decide +kernel
theorem dX8_isStruck_47 : decode cX8_isStruck 47 = .ok (.invokevirtual 110, 3) := by decide +kernel
theorem dX8_isStruck_50 : decode cX8_isStruck 50 = .ok (.ifCond .ne 7, 3) := by decide +kernel
theorem dX8_isStruck_53 : decode cX8_isStruck 53 = .ok (.iconst 1, 1) := by decide +kernel
theorem dX8_isStruck_54 : decode cX8_isStruck 54 = .ok (.goto 4, 3) := by decide +kernel
theorem dX8_isStruck_57 : decode cX8_isStruck 57 = .ok (.iconst 0, 1) := by decide +kernel
theorem dX8_isStruck_58 : decode cX8_isStruck 58 = .ok (.istore 7, 2) := by decide +kernel
theorem dX8_isStruck_60 : decode cX8_isStruck 60 = .ok (.iload 7, 2) := by decide +kernel
theorem dX8_isStruck_62 : decode cX8_isStruck 62 = .ok (.ifCond .eq 31, 3) := by decide +kernel
theorem dX8_isStruck_65 : decode cX8_isStruck 65 = .ok (.aload_n 0, 1) := by decide +kernel
theorem dX8_isStruck_66 : decode cX8_isStruck 66 = .ok (.iload 6, 2) := by decide +kernel
theorem dX8_isStruck_68 : decode cX8_isStruck 68 = .ok (.iload 5, 2) := by decide +kernel
theorem dX8_isStruck_70 : decode cX8_isStruck 70 = .ok (.invokestatic 92, 3) := by decide +kernel
theorem dX8_isStruck_73 : decode cX8_isStruck 73 = .ok (.iload_n 3, 1) := by decide +kernel
theorem dX8_isStruck_74 : decode cX8_isStruck 74 = .ok (.iload 5, 2) := by decide +kernel
theorem dX8_isStruck_76 : decode cX8_isStruck 76 = .ok (.invokestatic 114, 3) := by decide +kernel
theorem dX8_isStruck_79 : decode cX8_isStruck 79 = .ok (.invokevirtual 130, 3) := by decide +kernel
theorem dX8_isStruck_82 : decode cX8_isStruck 82 = .ok (.ifCond .ne 7, 3) := by decide +kernel
theorem dX8_isStruck_85 : decode cX8_isStruck 85 = .ok (.iconst 1, 1) := by decide +kernel
theorem dX8_isStruck_86 : decode cX8_isStruck 86 = .ok (.goto 13, 3) := by decide +kernel
theorem dX8_isStruck_89 : decode cX8_isStruck 89 = .ok (.iconst 0, 1) := by decide +kernel
theorem dX8_isStruck_90 : decode cX8_isStruck 90 = .ok (.goto 9, 3) := by decide +kernel
theorem dX8_isStruck_93 : decode cX8_isStruck 93 = .ok (.iload_n 3, 1) := by decide +kernel
theorem dX8_isStruck_94 : decode cX8_isStruck 94 = .ok (.iload 5, 2) := by decide +kernel
theorem dX8_isStruck_96 : decode cX8_isStruck 96 = .ok (.invokestatic 114, 3) := by decide +kernel
theorem dX8_isStruck_99 : decode cX8_isStruck 99 = .ok (.istore 4, 2) := by decide +kernel
theorem dX8_isStruck_101 : decode cX8_isStruck 101 = .ok (.iconst 0, 1) := by decide +kernel
theorem dX8_isStruck_102 : decode cX8_isStruck 102 = .ok (.istore 8, 2) := by decide +kernel
theorem dX8_isStruck_104 : decode cX8_isStruck 104 = .ok (.iload 8, 2) := by decide +kernel
theorem dX8_isStruck_106 : decode cX8_isStruck 106 = .ok (.iload 5, 2) := by decide +kernel
theorem dX8_isStruck_108 : decode cX8_isStruck 108 = .ok (.if_icmp .ge 93, 3) := by decide +kernel
theorem dX8_isStruck_111 : decode cX8_isStruck 111 = .ok (.iload 4, 2) := by decide +kernel
theorem dX8_isStruck_113 : decode cX8_isStruck 113 = .ok (.ifCond .ne 88, 3) := by decide +kernel
theorem dX8_isStruck_116 : decode cX8_isStruck 116 = .ok (.iload 7, 2) := by decide +kernel
theorem dX8_isStruck_118 : decode cX8_isStruck 118 = .ok (.ifCond .eq 83, 3) := by decide +kernel
theorem dX8_isStruck_121 : decode cX8_isStruck 121 = .ok (.aload_n 0, 1) := by decide +kernel
theorem dX8_isStruck_122 : decode cX8_isStruck 122 = .ok (.iload_n 1, 1) := by decide +kernel
theorem dX8_isStruck_123 : decode cX8_isStruck 123 = .ok (.iload 8, 2) := by decide +kernel
theorem dX8_isStruck_125 : decode cX8_isStruck 125 = .ok (.invokevirtual 81, 3) := by decide +kernel
theorem dX8_isStruck_128 : decode cX8_isStruck 128 = .ok (.istore 9, 2) := by decide +kernel
theorem dX8_isStruck_130 : decode cX8_isStruck 130 = .ok (.iload_n 3, 1) := by decide +kernel
theorem dX8_isStruck_131 : decode cX8_isStruck 131 = .ok (.iload 5, 2) := by decide +kernel
theorem dX8_isStruck_133 : decode cX8_isStruck 133 = .ok (.invokestatic 114, 3) := by decide +kernel
theorem dX8_isStruck_136 : decode cX8_isStruck 136 = .ok (.ifCond .eq 32, 3) := by decide +kernel
theorem dX8_isStruck_139 : decode cX8_isStruck 139 = .ok (.iload_n 3, 1) := by decide +kernel
theorem dX8_isStruck_140 : decode cX8_isStruck 140 = .ok (.iload 8, 2) := by decide +kernel
theorem dX8_isStruck_142 : decode cX8_isStruck 142 = .ok (.invokestatic 114, 3) := by decide +kernel
theorem dX8_isStruck_145 : decode cX8_isStruck 145 = .ok (.ifCond .eq 23, 3) := by decide +kernel
theorem dX8_isStruck_148 : decode cX8_isStruck 148 = .ok (.iload 9, 2) := by decide +kernel
theorem dX8_isStruck_150 : decode cX8_isStruck 150 = .ok (.iconst (-1), 1) := by decide +kernel
theorem dX8_isStruck_151 : decode cX8_isStruck 151 = .ok (.if_icmp .eq 17, 3) := by decide +kernel
theorem dX8_isStruck_154 : decode cX8_isStruck 154 = .ok (.aload_n 0, 1) := by decide +kernel
theorem dX8_isStruck_155 : decode cX8_isStruck 155 = .ok (.iload_n 1, 1) := by decide +kernel
theorem dX8_isStruck_156 : decode cX8_isStruck 156 = .ok (.iload 8, 2) := by decide +kernel
theorem dX8_isStruck_158 : decode cX8_isStruck 158 = .ok (.invokevirtual 110, 3) := by decide +kernel
theorem dX8_isStruck_161 : decode cX8_isStruck 161 = .ok (.ifCond .ne 7, 3) := by decide +kernel
theorem dX8_isStruck_164 : decode cX8_isStruck 164 = .ok (.iconst 1, 1) := by decide +kernel
theorem dX8_isStruck_165 : decode cX8_isStruck 165 = .ok (.goto 4, 3) := by decide +kernel
theorem dX8_isStruck_168 : decode cX8_isStruck 168 = .ok (.iconst 0, 1) := by decide +kernel
theorem dX8_isStruck_169 : decode cX8_isStruck 169 = .ok (.istore 10, 2) := by decide +kernel
theorem dX8_isStruck_171 : decode cX8_isStruck 171 = .ok (.iload 10, 2) := by decide +kernel
theorem dX8_isStruck_173 : decode cX8_isStruck 173 = .ok (.ifCond .eq 19, 3) := by decide +kernel
theorem dX8_isStruck_176 : decode cX8_isStruck 176 = .ok (.aload_n 0, 1) := by decide +kernel
theorem dX8_isStruck_177 : decode cX8_isStruck 177 = .ok (.iload 6, 2) := by decide +kernel
theorem dX8_isStruck_179 : decode cX8_isStruck 179 = .ok (.iload 9, 2) := by decide +kernel
theorem dX8_isStruck_181 : decode cX8_isStruck 181 = .ok (.iload_n 1, 1) := by decide +kernel
theorem dX8_isStruck_182 : decode cX8_isStruck 182 = .ok (.invokevirtual 136, 3) := by decide +kernel
theorem dX8_isStruck_185 : decode cX8_isStruck 185 = .ok (.ifCond .eq 7, 3) := by decide +kernel
theorem dX8_isStruck_188 : decode cX8_isStruck 188 = .ok (.iconst 1, 1) := by decide +kernel
theorem dX8_isStruck_189 : decode cX8_isStruck 189 = .ok (.goto 4, 3) := by decide +kernel
theorem dX8_isStruck_192 : decode cX8_isStruck 192 = .ok (.iconst 0, 1) := by decide +kernel
theorem dX8_isStruck_193 : decode cX8_isStruck 193 = .ok (.istore 4, 2) := by decide +kernel
theorem dX8_isStruck_195 : decode cX8_isStruck 195 = .ok (.iinc 8 1, 3) := by decide +kernel
theorem dX8_isStruck_198 : decode cX8_isStruck 198 = .ok (.goto (-94), 3) := by decide +kernel
theorem dX8_isStruck_201 : decode cX8_isStruck 201 = .ok (.iinc 5 1, 3) := by decide +kernel
theorem dX8_isStruck_204 : decode cX8_isStruck 204 = .ok (.goto (-187), 3) := by decide +kernel
theorem dX8_isStruck_207 : decode cX8_isStruck 207 = .ok (.iload 4, 2) := by decide +kernel
theorem dX8_isStruck_209 : decode cX8_isStruck 209 = .ok (.ireturn, 1) := by decide +kernel
set_option maxRecDepth 20000 in
theorem ggX8_strikes_X8_cells : GoodIn wsX8_strikes wsX8_cells := goodIn_r _ [6, 7, 8, 51, 52, 53, 54, 55, 56, 57, 58, 59, 60, 61, 62, 63, 64, 65, 66, 67, 68, 69] (by decide +kernel) (by decide +kernel)
set_option maxRecDepth 20000 in
theorem gX8_strikes_X8_cells : GoodIn wsX8_strikes (wsV RX8 48 RX8 yX8_cells wsX8_cells) := goodIn_app (goodIn_of _ (by decide +kernel)) ggX8_strikes_X8_cells
set_option maxRecDepth 20000 in
theorem ggX8_strikes_X8_laysOf : GoodIn wsX8_strikes wsX8_laysOf := goodIn_r _ [12, 13, 14, 51, 52, 53, 54, 55, 56, 57, 58, 59, 60, 61, 62, 63, 64, 65, 66, 67, 68, 69] (by decide +kernel) (by decide +kernel)
set_option maxRecDepth 20000 in
theorem gX8_strikes_X8_laysOf : GoodIn wsX8_strikes (wsV RX8 140 RX8 yX8_laysOf wsX8_laysOf) := goodIn_app (goodIn_of _ (by decide +kernel)) ggX8_strikes_X8_laysOf
set_option maxRecDepth 20000 in
theorem ggX8_strikes_X8_isStruck : GoodIn wsX8_strikes wsX8_isStruck := goodIn_r _ [18, 14, 19, 20, 5, 21, 22, 23, 24, 25, 7, 8, 26, 27, 28, 29, 30, 31, 32, 33, 34, 35, 36, 37, 38, 39, 40, 41, 1, 42, 43, 44, 45, 46, 2, 3, 4, 6, 47, 48, 49, 50, 51, 52, 53, 54, 55, 56, 57, 58, 59, 60, 61, 62, 63, 64, 65, 66, 67, 68, 69] (by decide +kernel) (by decide +kernel)
set_option maxRecDepth 20000 in
theorem gX8_strikes_X8_isStruck : GoodIn wsX8_strikes (wsV RX8 143 RX8 yX8_isStruck wsX8_isStruck) := goodIn_app (goodIn_of _ (by decide +kernel)) ggX8_strikes_X8_isStruck
theorem dX8_strikes_0 : decode cX8_strikes 0 = .ok (.iconst 0, 1) := by decide +kernel
theorem dX8_strikes_1 : decode cX8_strikes 1 = .ok (.istore_n 1, 1) := by decide +kernel
theorem dX8_strikes_2 : decode cX8_strikes 2 = .ok (.iload_n 1, 1) := by decide +kernel
theorem dX8_strikes_3 : decode cX8_strikes 3 = .ok (.aload_n 0, 1) := by decide +kernel
theorem dX8_strikes_4 : decode cX8_strikes 4 = .ok (.invokevirtual 48, 3) := by decide +kernel
theorem dX8_strikes_7 : decode cX8_strikes 7 = .ok (.if_icmp .ge 24, 3) := by decide +kernel
theorem dX8_strikes_10 : decode cX8_strikes 10 = .ok (.aload_n 0, 1) := by decide +kernel
theorem dX8_strikes_11 : decode cX8_strikes 11 = .ok (.getfield 33, 3) := by decide +kernel
theorem dX8_strikes_14 : decode cX8_strikes 14 = .ok (.iload_n 1, 1) := by decide +kernel
theorem dX8_strikes_15 : decode cX8_strikes 15 = .ok (.iconst 1, 1) := by decide +kernel
theorem dX8_strikes_16 : decode cX8_strikes 16 = .ok (.aload_n 0, 1) := by decide +kernel
theorem dX8_strikes_17 : decode cX8_strikes 17 = .ok (.iload_n 1, 1) := by decide +kernel
theorem dX8_strikes_18 : decode cX8_strikes 18 = .ok (.invokevirtual 140, 3) := by decide +kernel
theorem dX8_strikes_21 : decode cX8_strikes 21 = .ok (.ishl, 1) := by decide +kernel
theorem dX8_strikes_22 : decode cX8_strikes 22 = .ok (.iconst 1, 1) := by decide +kernel
theorem dX8_strikes_23 : decode cX8_strikes 23 = .ok (.isub, 1) := by decide +kernel
theorem dX8_strikes_24 : decode cX8_strikes 24 = .ok (.iastore, 1) := by decide +kernel
theorem dX8_strikes_25 : decode cX8_strikes 25 = .ok (.iinc 1 1, 3) := by decide +kernel
theorem dX8_strikes_28 : decode cX8_strikes 28 = .ok (.goto (-26), 3) := by decide +kernel
theorem dX8_strikes_31 : decode cX8_strikes 31 = .ok (.iconst 1, 1) := by decide +kernel
theorem dX8_strikes_32 : decode cX8_strikes 32 = .ok (.istore_n 1, 1) := by decide +kernel
theorem dX8_strikes_33 : decode cX8_strikes 33 = .ok (.iload_n 1, 1) := by decide +kernel
theorem dX8_strikes_34 : decode cX8_strikes 34 = .ok (.ifCond .eq 76, 3) := by decide +kernel
theorem dX8_strikes_37 : decode cX8_strikes 37 = .ok (.iconst 0, 1) := by decide +kernel
theorem dX8_strikes_38 : decode cX8_strikes 38 = .ok (.istore_n 1, 1) := by decide +kernel
theorem dX8_strikes_39 : decode cX8_strikes 39 = .ok (.iconst 0, 1) := by decide +kernel
theorem dX8_strikes_40 : decode cX8_strikes 40 = .ok (.istore_n 2, 1) := by decide +kernel
theorem dX8_strikes_41 : decode cX8_strikes 41 = .ok (.iload_n 2, 1) := by decide +kernel
theorem dX8_strikes_42 : decode cX8_strikes 42 = .ok (.aload_n 0, 1) := by decide +kernel
theorem dX8_strikes_43 : decode cX8_strikes 43 = .ok (.invokevirtual 48, 3) := by decide +kernel
theorem dX8_strikes_46 : decode cX8_strikes 46 = .ok (.if_icmp .ge 61, 3) := by decide +kernel
theorem dX8_strikes_49 : decode cX8_strikes 49 = .ok (.iconst 0, 1) := by decide +kernel
theorem dX8_strikes_50 : decode cX8_strikes 50 = .ok (.istore_n 3, 1) := by decide +kernel
theorem dX8_strikes_51 : decode cX8_strikes 51 = .ok (.iload_n 3, 1) := by decide +kernel
theorem dX8_strikes_52 : decode cX8_strikes 52 = .ok (.iconst 4, 1) := by decide +kernel
theorem dX8_strikes_53 : decode cX8_strikes 53 = .ok (.if_icmp .ge 48, 3) := by decide +kernel
theorem dX8_strikes_56 : decode cX8_strikes 56 = .ok (.aload_n 0, 1) := by decide +kernel
theorem dX8_strikes_57 : decode cX8_strikes 57 = .ok (.getfield 33, 3) := by decide +kernel
theorem dX8_strikes_60 : decode cX8_strikes 60 = .ok (.iload_n 2, 1) := by decide +kernel
theorem dX8_strikes_61 : decode cX8_strikes 61 = .ok (.iaload, 1) := by decide +kernel
theorem dX8_strikes_62 : decode cX8_strikes 62 = .ok (.iload_n 3, 1) := by decide +kernel
theorem dX8_strikes_63 : decode cX8_strikes 63 = .ok (.ishr, 1) := by decide +kernel
theorem dX8_strikes_64 : decode cX8_strikes 64 = .ok (.iconst 1, 1) := by decide +kernel
theorem dX8_strikes_65 : decode cX8_strikes 65 = .ok (.iand, 1) := by decide +kernel
theorem dX8_strikes_66 : decode cX8_strikes 66 = .ok (.iconst 1, 1) := by decide +kernel
theorem dX8_strikes_67 : decode cX8_strikes 67 = .ok (.if_icmp .ne 28, 3) := by decide +kernel
theorem dX8_strikes_70 : decode cX8_strikes 70 = .ok (.aload_n 0, 1) := by decide +kernel
theorem dX8_strikes_71 : decode cX8_strikes 71 = .ok (.iload_n 2, 1) := by decide +kernel
theorem dX8_strikes_72 : decode cX8_strikes 72 = .ok (.iload_n 3, 1) := by decide +kernel
theorem dX8_strikes_73 : decode cX8_strikes 73 = .ok (.invokevirtual 143, 3) := by decide +kernel
theorem dX8_strikes_76 : decode cX8_strikes 76 = .ok (.ifCond .eq 19, 3) := by decide +kernel
theorem dX8_strikes_79 : decode cX8_strikes 79 = .ok (.aload_n 0, 1) := by decide +kernel
theorem dX8_strikes_80 : decode cX8_strikes 80 = .ok (.getfield 33, 3) := by decide +kernel
theorem dX8_strikes_83 : decode cX8_strikes 83 = .ok (.iload_n 2, 1) := by decide +kernel
theorem dX8_strikes_84 : decode cX8_strikes 84 = .ok (.dup2, 1) := by decide +kernel
theorem dX8_strikes_85 : decode cX8_strikes 85 = .ok (.iaload, 1) := by decide +kernel
theorem dX8_strikes_86 : decode cX8_strikes 86 = .ok (.iconst 1, 1) := by decide +kernel
theorem dX8_strikes_87 : decode cX8_strikes 87 = .ok (.iload_n 3, 1) := by decide +kernel
theorem dX8_strikes_88 : decode cX8_strikes 88 = .ok (.ishl, 1) := by decide +kernel
theorem dX8_strikes_89 : decode cX8_strikes 89 = .ok (.iconst (-1), 1) := by decide +kernel
theorem dX8_strikes_90 : decode cX8_strikes 90 = .ok (.ixor, 1) := by decide +kernel
theorem dX8_strikes_91 : decode cX8_strikes 91 = .ok (.iand, 1) := by decide +kernel
theorem dX8_strikes_92 : decode cX8_strikes 92 = .ok (.iastore, 1) := by decide +kernel
theorem dX8_strikes_93 : decode cX8_strikes 93 = .ok (.iconst 1, 1) := by decide +kernel
theorem dX8_strikes_94 : decode cX8_strikes 94 = .ok (.istore_n 1, 1) := by decide +kernel
theorem dX8_strikes_95 : decode cX8_strikes 95 = .ok (.iinc 3 1, 3) := by decide +kernel
theorem dX8_strikes_98 : decode cX8_strikes 98 = .ok (.goto (-47), 3) := by decide +kernel
theorem dX8_strikes_101 : decode cX8_strikes 101 = .ok (.iinc 2 1, 3) := by decide +kernel
theorem dX8_strikes_104 : decode cX8_strikes 104 = .ok (.goto (-63), 3) := by decide +kernel
theorem dX8_strikes_107 : decode cX8_strikes 107 = .ok (.goto (-74), 3) := by decide +kernel
theorem dX8_strikes_110 : decode cX8_strikes 110 = .ok (.return_, 1) := by decide +kernel
set_option maxRecDepth 20000 in
theorem ggX8_lays_X8_isCell : GoodIn wsX8_lays wsX8_isCell := goodIn_r _ [6, 7, 8, 9, 5, 10, 11, 12, 64, 65, 66, 67, 68, 69, 70, 71, 72, 73, 74, 75, 76, 77, 78, 79, 80, 81, 82] (by decide +kernel) (by decide +kernel)
set_option maxRecDepth 20000 in
theorem gX8_lays_X8_isCell : GoodIn wsX8_lays (wsV RX8 104 RX8 yX8_isCell wsX8_isCell) := goodIn_app (goodIn_of _ (by decide +kernel)) ggX8_lays_X8_isCell
set_option maxRecDepth 20000 in
theorem ggX8_lays_X8_holds : GoodIn wsX8_lays wsX8_holds := goodIn_r _ [16, 17, 64, 65, 66, 67, 68, 69, 70, 71, 72, 73, 74, 75, 76, 77, 78, 79, 80, 81, 82] (by decide +kernel) (by decide +kernel)
set_option maxRecDepth 20000 in
theorem gX8_lays_X8_holds : GoodIn wsX8_lays (wsV RX8 69 RX8 yX8_holds wsX8_holds) := goodIn_app (goodIn_of _ (by decide +kernel)) ggX8_lays_X8_holds
set_option maxRecDepth 20000 in
theorem ggX8_lays_X8_strikes : GoodIn wsX8_lays wsX8_strikes := goodIn_r _ [21, 1, 7, 8, 9, 5, 10, 11, 12, 22, 23, 24, 25, 26, 27, 28, 29, 30, 31, 32, 33, 34, 35, 36, 37, 38, 39, 40, 41, 42, 43, 44, 45, 46, 47, 48, 49, 50, 51, 52, 53, 54, 55, 56, 57, 58, 59, 60, 61, 62, 63, 64, 65, 66, 67, 68, 69, 70, 71, 72, 73, 74, 75, 76, 77, 78, 79, 80, 81, 82] (by decide +kernel) (by decide +kernel)
set_option maxRecDepth 20000 in
theorem gX8_lays_X8_strikes : GoodIn wsX8_lays (wsV RX8 146 RX8 yX8_strikes wsX8_strikes) := goodIn_app (goodIn_of _ (by decide +kernel)) ggX8_lays_X8_strikes
theorem dX8_lays_0 : decode cX8_lays 0 = .ok (.aload_n 0, 1) := by decide +kernel
theorem dX8_lays_1 : decode cX8_lays 1 = .ok (.aload_n 0, 1) := by decide +kernel
theorem dX8_lays_2 : decode cX8_lays 2 = .ok (.iload_n 1, 1) := by decide +kernel
theorem dX8_lays_3 : decode cX8_lays 3 = .ok (.invokevirtual 104, 3) := by decide +kernel
theorem dX8_lays_6 : decode cX8_lays 6 = .ok (.ifCond .eq 7, 3) := by decide +kernel
theorem dX8_lays_9 : decode cX8_lays 9 = .ok (.iconst 0, 1) := by decide +kernel
theorem dX8_lays_10 : decode cX8_lays 10 = .ok (.goto 4, 3) := by decide +kernel
theorem dX8_lays_13 : decode cX8_lays 13 = .ok (.iconst 1, 1) := by decide +kernel
theorem dX8_lays_14 : decode cX8_lays 14 = .ok (.invokevirtual 69, 3) := by decide +kernel
theorem dX8_lays_17 : decode cX8_lays 17 = .ok (.ifCond .ne 5, 3) := by decide +kernel
theorem dX8_lays_20 : decode cX8_lays 20 = .ok (.iconst 0, 1) := by decide +kernel
theorem dX8_lays_21 : decode cX8_lays 21 = .ok (.ireturn, 1) := by decide +kernel
theorem dX8_lays_22 : decode cX8_lays 22 = .ok (.aload_n 0, 1) := by decide +kernel
theorem dX8_lays_23 : decode cX8_lays 23 = .ok (.invokevirtual 146, 3) := by decide +kernel
theorem dX8_lays_26 : decode cX8_lays 26 = .ok (.aload_n 0, 1) := by decide +kernel
theorem dX8_lays_27 : decode cX8_lays 27 = .ok (.getfield 33, 3) := by decide +kernel
theorem dX8_lays_30 : decode cX8_lays 30 = .ok (.iload_n 1, 1) := by decide +kernel
theorem dX8_lays_31 : decode cX8_lays 31 = .ok (.iaload, 1) := by decide +kernel
theorem dX8_lays_32 : decode cX8_lays 32 = .ok (.ireturn, 1) := by decide +kernel
set_option maxRecDepth 20000 in
theorem ggX8_fits_X8_turned : GoodIn wsX8_fits wsX8_turned := goodIn_r _ [6] (by decide +kernel) (by decide +kernel)
set_option maxRecDepth 20000 in
theorem gX8_fits_X8_turned : GoodIn wsX8_fits (va_wsS RX8 98 yX8_turned wsX8_turned) := goodIn_app (goodIn_of _ (by decide +kernel)) ggX8_fits_X8_turned
set_option maxRecDepth 20000 in
theorem ggX8_fits_X8_neighbourOf : GoodIn wsX8_fits wsX8_neighbourOf := goodIn_r _ [10, 11, 12, 13, 25, 26, 27, 28, 29, 30, 31, 32, 33, 34, 35, 36, 37, 38, 39, 40, 41, 42, 43] (by decide +kernel) (by decide +kernel)
set_option maxRecDepth 20000 in
theorem gX8_fits_X8_neighbourOf : GoodIn wsX8_fits (wsV RX8 81 RX8 yX8_neighbourOf wsX8_neighbourOf) := goodIn_app (goodIn_of _ (by decide +kernel)) ggX8_fits_X8_neighbourOf
set_option maxRecDepth 20000 in
theorem ggX8_fits_X8_hasWall : GoodIn wsX8_fits wsX8_hasWall := goodIn_r _ [17, 18, 25, 26, 27, 28, 29, 30, 31, 32, 33, 34, 35, 36, 37, 38, 39, 40, 41, 42, 43] (by decide +kernel) (by decide +kernel)
set_option maxRecDepth 20000 in
theorem gX8_fits_X8_hasWall : GoodIn wsX8_fits (wsV RX8 110 RX8 yX8_hasWall wsX8_hasWall) := goodIn_app (goodIn_of _ (by decide +kernel)) ggX8_fits_X8_hasWall
set_option maxRecDepth 20000 in
theorem ggX8_fits_X8_isOpen : GoodIn wsX8_fits wsX8_isOpen := goodIn_r _ [21] (by decide +kernel) (by decide +kernel)
set_option maxRecDepth 20000 in
theorem gX8_fits_X8_isOpen : GoodIn wsX8_fits (va_wsS RX8 114 yX8_isOpen wsX8_isOpen) := goodIn_app (goodIn_of _ (by decide +kernel)) ggX8_fits_X8_isOpen
set_option maxRecDepth 20000 in
theorem ggX8_fits_X8_opposite : GoodIn wsX8_fits wsX8_opposite := goodIn_r _ [24] (by decide +kernel) (by decide +kernel)
set_option maxRecDepth 20000 in
theorem gX8_fits_X8_opposite : GoodIn wsX8_fits (va_wsS RX8 92 yX8_opposite wsX8_opposite) := goodIn_app (goodIn_of _ (by decide +kernel)) ggX8_fits_X8_opposite
theorem dX8_fits_0 : decode cX8_fits 0 = .ok (.aload_n 0, 1) := by decide +kernel
theorem dX8_fits_1 : decode cX8_fits 1 = .ok (.getfield 16, 3) := by decide +kernel
theorem dX8_fits_4 : decode cX8_fits 4 = .ok (.iload_n 1, 1) := by decide +kernel
theorem dX8_fits_5 : decode cX8_fits 5 = .ok (.iaload, 1) := by decide +kernel
theorem dX8_fits_6 : decode cX8_fits 6 = .ok (.aload_n 0, 1) := by decide +kernel
theorem dX8_fits_7 : decode cX8_fits 7 = .ok (.getfield 39, 3) := by decide +kernel
theorem dX8_fits_10 : decode cX8_fits 10 = .ok (.iload_n 1, 1) := by decide +kernel
theorem dX8_fits_11 : decode cX8_fits 11 = .ok (.iaload, 1) := by decide +kernel
theorem dX8_fits_12 : decode cX8_fits 12 = .ok (.invokestatic 98, 3) := by decide +kernel
theorem dX8_fits_15 : decode cX8_fits 15 = .ok (.istore_n 2, 1) := by decide +kernel
theorem dX8_fits_16 : decode cX8_fits 16 = .ok (.iconst 1, 1) := by decide +kernel
theorem dX8_fits_17 : decode cX8_fits 17 = .ok (.istore_n 3, 1) := by decide +kernel
theorem dX8_fits_18 : decode cX8_fits 18 = .ok (.iconst 0, 1) := by decide +kernel
theorem dX8_fits_19 : decode cX8_fits 19 = .ok (.istore 4, 2) := by decide +kernel
theorem dX8_fits_21 : decode cX8_fits 21 = .ok (.iload 4, 2) := by decide +kernel
theorem dX8_fits_23 : decode cX8_fits 23 = .ok (.iconst 4, 1) := by decide +kernel
theorem dX8_fits_24 : decode cX8_fits 24 = .ok (.if_icmp .ge 130, 3) := by decide +kernel
theorem dX8_fits_27 : decode cX8_fits 27 = .ok (.iload_n 3, 1) := by decide +kernel
theorem dX8_fits_28 : decode cX8_fits 28 = .ok (.ifCond .eq 126, 3) := by decide +kernel
theorem dX8_fits_31 : decode cX8_fits 31 = .ok (.aload_n 0, 1) := by decide +kernel
theorem dX8_fits_32 : decode cX8_fits 32 = .ok (.iload_n 1, 1) := by decide +kernel
theorem dX8_fits_33 : decode cX8_fits 33 = .ok (.iload 4, 2) := by decide +kernel
theorem dX8_fits_35 : decode cX8_fits 35 = .ok (.invokevirtual 81, 3) := by decide +kernel
theorem dX8_fits_38 : decode cX8_fits 38 = .ok (.istore 5, 2) := by decide +kernel
theorem dX8_fits_40 : decode cX8_fits 40 = .ok (.iload 5, 2) := by decide +kernel
theorem dX8_fits_42 : decode cX8_fits 42 = .ok (.iconst (-1), 1) := by decide +kernel
theorem dX8_fits_43 : decode cX8_fits 43 = .ok (.if_icmp .eq 17, 3) := by decide +kernel
theorem dX8_fits_46 : decode cX8_fits 46 = .ok (.aload_n 0, 1) := by decide +kernel
theorem dX8_fits_47 : decode cX8_fits 47 = .ok (.iload_n 1, 1) := by decide +kernel
theorem dX8_fits_48 : decode cX8_fits 48 = .ok (.iload 4, 2) := by decide +kernel
theorem dX8_fits_50 : decode cX8_fits 50 = .ok (.invokevirtual 110, 3) := by decide +kernel
theorem dX8_fits_53 : decode cX8_fits 53 = .ok (.ifCond .ne 7, 3) := by decide +kernel
theorem dX8_fits_56 : decode cX8_fits 56 = .ok (.iconst 1, 1) := by decide +kernel
theorem dX8_fits_57 : decode cX8_fits 57 = .ok (.goto 4, 3) := by decide +kernel
theorem dX8_fits_60 : decode cX8_fits 60 = .ok (.iconst 0, 1) := by decide +kernel
theorem dX8_fits_61 : decode cX8_fits 61 = .ok (.istore 6, 2) := by decide +kernel
theorem dX8_fits_63 : decode cX8_fits 63 = .ok (.iload 6, 2) := by decide +kernel
theorem dX8_fits_65 : decode cX8_fits 65 = .ok (.ifCond .eq 13, 3) := by decide +kernel
theorem dX8_fits_68 : decode cX8_fits 68 = .ok (.iload 5, 2) := by decide +kernel
theorem dX8_fits_70 : decode cX8_fits 70 = .ok (.iload_n 1, 1) := by decide +kernel
theorem dX8_fits_71 : decode cX8_fits 71 = .ok (.if_icmp .ge 7, 3) := by decide +kernel
theorem dX8_fits_74 : decode cX8_fits 74 = .ok (.iconst 1, 1) := by decide +kernel
theorem dX8_fits_75 : decode cX8_fits 75 = .ok (.goto 4, 3) := by decide +kernel
theorem dX8_fits_78 : decode cX8_fits 78 = .ok (.iconst 0, 1) := by decide +kernel
theorem dX8_fits_79 : decode cX8_fits 79 = .ok (.istore 7, 2) := by decide +kernel
theorem dX8_fits_81 : decode cX8_fits 81 = .ok (.iload 6, 2) := by decide +kernel
theorem dX8_fits_83 : decode cX8_fits 83 = .ok (.ifCond .eq 50, 3) := by decide +kernel
theorem dX8_fits_86 : decode cX8_fits 86 = .ok (.iload 7, 2) := by decide +kernel
theorem dX8_fits_88 : decode cX8_fits 88 = .ok (.ifCond .eq 37, 3) := by decide +kernel
theorem dX8_fits_91 : decode cX8_fits 91 = .ok (.iload_n 2, 1) := by decide +kernel
theorem dX8_fits_92 : decode cX8_fits 92 = .ok (.iload 4, 2) := by decide +kernel
theorem dX8_fits_94 : decode cX8_fits 94 = .ok (.invokestatic 114, 3) := by decide +kernel
theorem dX8_fits_97 : decode cX8_fits 97 = .ok (.aload_n 0, 1) := by decide +kernel
theorem dX8_fits_98 : decode cX8_fits 98 = .ok (.getfield 16, 3) := by decide +kernel
theorem dX8_fits_101 : decode cX8_fits 101 = .ok (.iload 5, 2) := by decide +kernel
theorem dX8_fits_103 : decode cX8_fits 103 = .ok (.iaload, 1) := by decide +kernel
theorem dX8_fits_104 : decode cX8_fits 104 = .ok (.aload_n 0, 1) := by decide +kernel
theorem dX8_fits_105 : decode cX8_fits 105 = .ok (.getfield 39, 3) := by decide +kernel
theorem dX8_fits_108 : decode cX8_fits 108 = .ok (.iload 5, 2) := by decide +kernel
theorem dX8_fits_110 : decode cX8_fits 110 = .ok (.iaload, 1) := by decide +kernel
theorem dX8_fits_111 : decode cX8_fits 111 = .ok (.invokestatic 98, 3) := by decide +kernel
theorem dX8_fits_114 : decode cX8_fits 114 = .ok (.iload 4, 2) := by decide +kernel
theorem dX8_fits_116 : decode cX8_fits 116 = .ok (.invokestatic 92, 3) := by decide +kernel
theorem dX8_fits_119 : decode cX8_fits 119 = .ok (.invokestatic 114, 3) := by decide +kernel
theorem dX8_fits_122 : decode cX8_fits 122 = .ok (.if_icmp .ne 7, 3) := by decide +kernel
theorem dX8_fits_125 : decode cX8_fits 125 = .ok (.iconst 1, 1) := by decide +kernel
theorem dX8_fits_126 : decode cX8_fits 126 = .ok (.goto 21, 3) := by decide +kernel
theorem dX8_fits_129 : decode cX8_fits 129 = .ok (.iconst 0, 1) := by decide +kernel
theorem dX8_fits_130 : decode cX8_fits 130 = .ok (.goto 17, 3) := by decide +kernel
theorem dX8_fits_133 : decode cX8_fits 133 = .ok (.iload_n 2, 1) := by decide +kernel
theorem dX8_fits_134 : decode cX8_fits 134 = .ok (.iload 4, 2) := by decide +kernel
theorem dX8_fits_136 : decode cX8_fits 136 = .ok (.invokestatic 114, 3) := by decide +kernel
theorem dX8_fits_139 : decode cX8_fits 139 = .ok (.ifCond .ne 7, 3) := by decide +kernel
theorem dX8_fits_142 : decode cX8_fits 142 = .ok (.iconst 1, 1) := by decide +kernel
theorem dX8_fits_143 : decode cX8_fits 143 = .ok (.goto 4, 3) := by decide +kernel
theorem dX8_fits_146 : decode cX8_fits 146 = .ok (.iconst 0, 1) := by decide +kernel
theorem dX8_fits_147 : decode cX8_fits 147 = .ok (.istore_n 3, 1) := by decide +kernel
theorem dX8_fits_148 : decode cX8_fits 148 = .ok (.iinc 4 1, 3) := by decide +kernel
theorem dX8_fits_151 : decode cX8_fits 151 = .ok (.goto (-130), 3) := by decide +kernel
theorem dX8_fits_154 : decode cX8_fits 154 = .ok (.iload_n 3, 1) := by decide +kernel
theorem dX8_fits_155 : decode cX8_fits 155 = .ok (.ireturn, 1) := by decide +kernel
set_option maxRecDepth 20000 in
theorem ggX8_isTree_X8_cells : GoodIn wsX8_isTree wsX8_cells := goodIn_r _ [8, 9, 10, 22, 23, 24, 25, 26, 27, 28, 29, 30, 31, 32, 33, 34, 35, 36, 37, 38, 39, 40] (by decide +kernel) (by decide +kernel)
set_option maxRecDepth 20000 in
theorem gX8_isTree_X8_cells : GoodIn wsX8_isTree (wsV RX8 48 RX8 yX8_cells wsX8_cells) := goodIn_app (goodIn_of _ (by decide +kernel)) ggX8_isTree_X8_cells
set_option maxRecDepth 20000 in
theorem ggX8_isTree_X8_turned : GoodIn wsX8_isTree wsX8_turned := goodIn_r _ [13] (by decide +kernel) (by decide +kernel)
set_option maxRecDepth 20000 in
theorem gX8_isTree_X8_turned : GoodIn wsX8_isTree (va_wsS RX8 98 yX8_turned wsX8_turned) := goodIn_app (goodIn_of _ (by decide +kernel)) ggX8_isTree_X8_turned
set_option maxRecDepth 20000 in
theorem ggX8_isTree_X8_isOpen : GoodIn wsX8_isTree wsX8_isOpen := goodIn_r _ [16] (by decide +kernel) (by decide +kernel)
set_option maxRecDepth 20000 in
theorem gX8_isTree_X8_isOpen : GoodIn wsX8_isTree (va_wsS RX8 114 yX8_isOpen wsX8_isOpen) := goodIn_app (goodIn_of _ (by decide +kernel)) ggX8_isTree_X8_isOpen
set_option maxRecDepth 20000 in
theorem ggX8_isTree_X8_neighbourOf : GoodIn wsX8_isTree wsX8_neighbourOf := goodIn_r _ [20, 9, 10, 21, 22, 23, 24, 25, 26, 27, 28, 29, 30, 31, 32, 33, 34, 35, 36, 37, 38, 39, 40] (by decide +kernel) (by decide +kernel)
set_option maxRecDepth 20000 in
theorem gX8_isTree_X8_neighbourOf : GoodIn wsX8_isTree (wsV RX8 81 RX8 yX8_neighbourOf wsX8_neighbourOf) := goodIn_app (goodIn_of _ (by decide +kernel)) ggX8_isTree_X8_neighbourOf
theorem dX8_isTree_0 : decode cX8_isTree 0 = .ok (.iconst 0, 1) := by decide +kernel
theorem dX8_isTree_1 : decode cX8_isTree 1 = .ok (.istore_n 1, 1) := by decide +kernel
theorem dX8_isTree_2 : decode cX8_isTree 2 = .ok (.iload_n 1, 1) := by decide +kernel
theorem dX8_isTree_3 : decode cX8_isTree 3 = .ok (.bipush 16, 2) := by decide +kernel
theorem dX8_isTree_5 : decode cX8_isTree 5 = .ok (.if_icmp .ge 24, 3) := by decide +kernel
theorem dX8_isTree_8 : decode cX8_isTree 8 = .ok (.aload_n 0, 1) := by decide +kernel
theorem dX8_isTree_9 : decode cX8_isTree 9 = .ok (.getfield 30, 3) := by decide +kernel
theorem dX8_isTree_12 : decode cX8_isTree 12 = .ok (.iload_n 1, 1) := by decide +kernel
theorem dX8_isTree_13 : decode cX8_isTree 13 = .ok (.iload_n 1, 1) := by decide +kernel
theorem dX8_isTree_14 : decode cX8_isTree 14 = .ok (.ifCond .ne 7, 3) := by decide +kernel
theorem dX8_isTree_17 : decode cX8_isTree 17 = .ok (.iconst 1, 1) := by decide +kernel
theorem dX8_isTree_18 : decode cX8_isTree 18 = .ok (.goto 4, 3) := by decide +kernel
theorem dX8_isTree_21 : decode cX8_isTree 21 = .ok (.iconst 0, 1) := by decide +kernel
theorem dX8_isTree_22 : decode cX8_isTree 22 = .ok (.bastore, 1) := by decide +kernel
theorem dX8_isTree_23 : decode cX8_isTree 23 = .ok (.iinc 1 1, 3) := by decide +kernel
theorem dX8_isTree_26 : decode cX8_isTree 26 = .ok (.goto (-24), 3) := by decide +kernel
theorem dX8_isTree_29 : decode cX8_isTree 29 = .ok (.iconst 1, 1) := by decide +kernel
theorem dX8_isTree_30 : decode cX8_isTree 30 = .ok (.istore_n 1, 1) := by decide +kernel
theorem dX8_isTree_31 : decode cX8_isTree 31 = .ok (.iconst 0, 1) := by decide +kernel
theorem dX8_isTree_32 : decode cX8_isTree 32 = .ok (.istore_n 2, 1) := by decide +kernel
theorem dX8_isTree_33 : decode cX8_isTree 33 = .ok (.iload_n 1, 1) := by decide +kernel
theorem dX8_isTree_34 : decode cX8_isTree 34 = .ok (.iload_n 2, 1) := by decide +kernel
theorem dX8_isTree_35 : decode cX8_isTree 35 = .ok (.if_icmp .eq 118, 3) := by decide +kernel
theorem dX8_isTree_38 : decode cX8_isTree 38 = .ok (.iload_n 1, 1) := by decide +kernel
theorem dX8_isTree_39 : decode cX8_isTree 39 = .ok (.istore_n 2, 1) := by decide +kernel
theorem dX8_isTree_40 : decode cX8_isTree 40 = .ok (.iconst 1, 1) := by decide +kernel
theorem dX8_isTree_41 : decode cX8_isTree 41 = .ok (.istore_n 3, 1) := by decide +kernel
theorem dX8_isTree_42 : decode cX8_isTree 42 = .ok (.iload_n 3, 1) := by decide +kernel
theorem dX8_isTree_43 : decode cX8_isTree 43 = .ok (.aload_n 0, 1) := by decide +kernel
theorem dX8_isTree_44 : decode cX8_isTree 44 = .ok (.invokevirtual 48, 3) := by decide +kernel
theorem dX8_isTree_47 : decode cX8_isTree 47 = .ok (.if_icmp .ge 103, 3) := by decide +kernel
theorem dX8_isTree_50 : decode cX8_isTree 50 = .ok (.aload_n 0, 1) := by decide +kernel
theorem dX8_isTree_51 : decode cX8_isTree 51 = .ok (.getfield 16, 3) := by decide +kernel
theorem dX8_isTree_54 : decode cX8_isTree 54 = .ok (.iload_n 3, 1) := by decide +kernel
theorem dX8_isTree_55 : decode cX8_isTree 55 = .ok (.iaload, 1) := by decide +kernel
theorem dX8_isTree_56 : decode cX8_isTree 56 = .ok (.aload_n 0, 1) := by decide +kernel
theorem dX8_isTree_57 : decode cX8_isTree 57 = .ok (.getfield 39, 3) := by decide +kernel
theorem dX8_isTree_60 : decode cX8_isTree 60 = .ok (.iload_n 3, 1) := by decide +kernel
theorem dX8_isTree_61 : decode cX8_isTree 61 = .ok (.iaload, 1) := by decide +kernel
theorem dX8_isTree_62 : decode cX8_isTree 62 = .ok (.invokestatic 98, 3) := by decide +kernel
theorem dX8_isTree_65 : decode cX8_isTree 65 = .ok (.istore 4, 2) := by decide +kernel
theorem dX8_isTree_67 : decode cX8_isTree 67 = .ok (.iconst 0, 1) := by decide +kernel
theorem dX8_isTree_68 : decode cX8_isTree 68 = .ok (.istore 5, 2) := by decide +kernel
theorem dX8_isTree_70 : decode cX8_isTree 70 = .ok (.iload 5, 2) := by decide +kernel
theorem dX8_isTree_72 : decode cX8_isTree 72 = .ok (.iconst 4, 1) := by decide +kernel
theorem dX8_isTree_73 : decode cX8_isTree 73 = .ok (.if_icmp .ge 71, 3) := by decide +kernel
theorem dX8_isTree_76 : decode cX8_isTree 76 = .ok (.aload_n 0, 1) := by decide +kernel
theorem dX8_isTree_77 : decode cX8_isTree 77 = .ok (.getfield 30, 3) := by decide +kernel
theorem dX8_isTree_80 : decode cX8_isTree 80 = .ok (.iload_n 3, 1) := by decide +kernel
theorem dX8_isTree_81 : decode cX8_isTree 81 = .ok (.baload, 1) := by decide +kernel
theorem dX8_isTree_82 : decode cX8_isTree 82 = .ok (.ifCond .ne 62, 3) := by decide +kernel
theorem dX8_isTree_85 : decode cX8_isTree 85 = .ok (.aload_n 0, 1) := by decide +kernel
theorem dX8_isTree_86 : decode cX8_isTree 86 = .ok (.getfield 30, 3) := by decide +kernel
theorem dX8_isTree_89 : decode cX8_isTree 89 = .ok (.iload_n 3, 1) := by decide +kernel
theorem dX8_isTree_90 : decode cX8_isTree 90 = .ok (.iload 4, 2) := by decide +kernel
theorem dX8_isTree_92 : decode cX8_isTree 92 = .ok (.iload 5, 2) := by decide +kernel
theorem dX8_isTree_94 : decode cX8_isTree 94 = .ok (.invokestatic 114, 3) := by decide +kernel
theorem dX8_isTree_97 : decode cX8_isTree 97 = .ok (.ifCond .eq 22, 3) := by decide +kernel
theorem dX8_isTree_100 : decode cX8_isTree 100 = .ok (.aload_n 0, 1) := by decide +kernel
theorem dX8_isTree_101 : decode cX8_isTree 101 = .ok (.getfield 30, 3) := by decide +kernel
theorem dX8_isTree_104 : decode cX8_isTree 104 = .ok (.aload_n 0, 1) := by decide +kernel
theorem dX8_isTree_105 : decode cX8_isTree 105 = .ok (.iload_n 3, 1) := by decide +kernel
theorem dX8_isTree_106 : decode cX8_isTree 106 = .ok (.iload 5, 2) := by decide +kernel
theorem dX8_isTree_108 : decode cX8_isTree 108 = .ok (.invokevirtual 81, 3) := by decide +kernel
theorem dX8_isTree_111 : decode cX8_isTree 111 = .ok (.baload, 1) := by decide +kernel
theorem dX8_isTree_112 : decode cX8_isTree 112 = .ok (.ifCond .eq 7, 3) := by decide +kernel
theorem dX8_isTree_115 : decode cX8_isTree 115 = .ok (.iconst 1, 1) := by decide +kernel
theorem dX8_isTree_116 : decode cX8_isTree 116 = .ok (.goto 4, 3) := by decide +kernel
theorem dX8_isTree_119 : decode cX8_isTree 119 = .ok (.iconst 0, 1) := by decide +kernel
theorem dX8_isTree_120 : decode cX8_isTree 120 = .ok (.bastore, 1) := by decide +kernel
theorem dX8_isTree_121 : decode cX8_isTree 121 = .ok (.iload_n 1, 1) := by decide +kernel
theorem dX8_isTree_122 : decode cX8_isTree 122 = .ok (.aload_n 0, 1) := by decide +kernel
theorem dX8_isTree_123 : decode cX8_isTree 123 = .ok (.getfield 30, 3) := by decide +kernel
theorem dX8_isTree_126 : decode cX8_isTree 126 = .ok (.iload_n 3, 1) := by decide +kernel
theorem dX8_isTree_127 : decode cX8_isTree 127 = .ok (.baload, 1) := by decide +kernel
theorem dX8_isTree_128 : decode cX8_isTree 128 = .ok (.ifCond .eq 7, 3) := by decide +kernel
theorem dX8_isTree_131 : decode cX8_isTree 131 = .ok (.iconst 1, 1) := by decide +kernel
theorem dX8_isTree_132 : decode cX8_isTree 132 = .ok (.goto 4, 3) := by decide +kernel
theorem dX8_isTree_135 : decode cX8_isTree 135 = .ok (.iconst 0, 1) := by decide +kernel
theorem dX8_isTree_136 : decode cX8_isTree 136 = .ok (.iadd, 1) := by decide +kernel
theorem dX8_isTree_137 : decode cX8_isTree 137 = .ok (.istore_n 1, 1) := by decide +kernel
theorem dX8_isTree_138 : decode cX8_isTree 138 = .ok (.iinc 5 1, 3) := by decide +kernel
theorem dX8_isTree_141 : decode cX8_isTree 141 = .ok (.goto (-71), 3) := by decide +kernel
theorem dX8_isTree_144 : decode cX8_isTree 144 = .ok (.iinc 3 1, 3) := by decide +kernel
theorem dX8_isTree_147 : decode cX8_isTree 147 = .ok (.goto (-105), 3) := by decide +kernel
theorem dX8_isTree_150 : decode cX8_isTree 150 = .ok (.goto (-117), 3) := by decide +kernel
theorem dX8_isTree_153 : decode cX8_isTree 153 = .ok (.iload_n 1, 1) := by decide +kernel
theorem dX8_isTree_154 : decode cX8_isTree 154 = .ok (.aload_n 0, 1) := by decide +kernel
theorem dX8_isTree_155 : decode cX8_isTree 155 = .ok (.invokevirtual 48, 3) := by decide +kernel
theorem dX8_isTree_158 : decode cX8_isTree 158 = .ok (.if_icmp .ne 7, 3) := by decide +kernel
theorem dX8_isTree_161 : decode cX8_isTree 161 = .ok (.iconst 1, 1) := by decide +kernel
theorem dX8_isTree_162 : decode cX8_isTree 162 = .ok (.goto 4, 3) := by decide +kernel
theorem dX8_isTree_165 : decode cX8_isTree 165 = .ok (.iconst 0, 1) := by decide +kernel
theorem dX8_isTree_166 : decode cX8_isTree 166 = .ok (.ireturn, 1) := by decide +kernel
set_option maxRecDepth 20000 in
theorem ggX8_notes_X8_cells : GoodIn wsX8_notes wsX8_cells := goodIn_r _ [9, 10, 11, 12, 13, 14, 15, 16, 17, 18, 19, 20, 21, 22, 23, 24, 25, 26, 27, 28, 29, 30] (by decide +kernel) (by decide +kernel)
set_option maxRecDepth 20000 in
theorem gX8_notes_X8_cells : GoodIn wsX8_notes (wsV RX8 48 RX8 yX8_cells wsX8_cells) := goodIn_app (goodIn_of _ (by decide +kernel)) ggX8_notes_X8_cells
theorem dX8_notes_0 : decode cX8_notes 0 = .ok (.iconst 0, 1) := by decide +kernel
theorem dX8_notes_1 : decode cX8_notes 1 = .ok (.istore_n 1, 1) := by decide +kernel
theorem dX8_notes_2 : decode cX8_notes 2 = .ok (.iconst 0, 1) := by decide +kernel
theorem dX8_notes_3 : decode cX8_notes 3 = .ok (.istore_n 2, 1) := by decide +kernel
theorem dX8_notes_4 : decode cX8_notes 4 = .ok (.iload_n 2, 1) := by decide +kernel
theorem dX8_notes_5 : decode cX8_notes 5 = .ok (.aload_n 0, 1) := by decide +kernel
theorem dX8_notes_6 : decode cX8_notes 6 = .ok (.invokevirtual 48, 3) := by decide +kernel
theorem dX8_notes_9 : decode cX8_notes 9 = .ok (.if_icmp .ge 46, 3) := by decide +kernel
theorem dX8_notes_12 : decode cX8_notes 12 = .ok (.aload_n 0, 1) := by decide +kernel
theorem dX8_notes_13 : decode cX8_notes 13 = .ok (.getfield 42, 3) := by decide +kernel
theorem dX8_notes_16 : decode cX8_notes 16 = .ok (.iload_n 2, 1) := by decide +kernel
theorem dX8_notes_17 : decode cX8_notes 17 = .ok (.aload_n 0, 1) := by decide +kernel
theorem dX8_notes_18 : decode cX8_notes 18 = .ok (.getfield 149, 3) := by decide +kernel
theorem dX8_notes_21 : decode cX8_notes 21 = .ok (.ifCond .ne 12, 3) := by decide +kernel
theorem dX8_notes_24 : decode cX8_notes 24 = .ok (.aload_n 0, 1) := by decide +kernel
theorem dX8_notes_25 : decode cX8_notes 25 = .ok (.getfield 39, 3) := by decide +kernel
theorem dX8_notes_28 : decode cX8_notes 28 = .ok (.iload_n 2, 1) := by decide +kernel
theorem dX8_notes_29 : decode cX8_notes 29 = .ok (.iaload, 1) := by decide +kernel
theorem dX8_notes_30 : decode cX8_notes 30 = .ok (.goto 9, 3) := by decide +kernel
theorem dX8_notes_33 : decode cX8_notes 33 = .ok (.aload_n 0, 1) := by decide +kernel
theorem dX8_notes_34 : decode cX8_notes 34 = .ok (.getfield 42, 3) := by decide +kernel
theorem dX8_notes_37 : decode cX8_notes 37 = .ok (.iload_n 2, 1) := by decide +kernel
theorem dX8_notes_38 : decode cX8_notes 38 = .ok (.iaload, 1) := by decide +kernel
theorem dX8_notes_39 : decode cX8_notes 39 = .ok (.iastore, 1) := by decide +kernel
theorem dX8_notes_40 : decode cX8_notes 40 = .ok (.iload_n 1, 1) := by decide +kernel
theorem dX8_notes_41 : decode cX8_notes 41 = .ok (.aload_n 0, 1) := by decide +kernel
theorem dX8_notes_42 : decode cX8_notes 42 = .ok (.getfield 39, 3) := by decide +kernel
theorem dX8_notes_45 : decode cX8_notes 45 = .ok (.iload_n 2, 1) := by decide +kernel
theorem dX8_notes_46 : decode cX8_notes 46 = .ok (.iaload, 1) := by decide +kernel
theorem dX8_notes_47 : decode cX8_notes 47 = .ok (.iadd, 1) := by decide +kernel
theorem dX8_notes_48 : decode cX8_notes 48 = .ok (.istore_n 1, 1) := by decide +kernel
theorem dX8_notes_49 : decode cX8_notes 49 = .ok (.iinc 2 1, 3) := by decide +kernel
theorem dX8_notes_52 : decode cX8_notes 52 = .ok (.goto (-48), 3) := by decide +kernel
theorem dX8_notes_55 : decode cX8_notes 55 = .ok (.aload_n 0, 1) := by decide +kernel
theorem dX8_notes_56 : decode cX8_notes 56 = .ok (.aload_n 0, 1) := by decide +kernel
theorem dX8_notes_57 : decode cX8_notes 57 = .ok (.getfield 149, 3) := by decide +kernel
theorem dX8_notes_60 : decode cX8_notes 60 = .ok (.ifCond .eq 11, 3) := by decide +kernel
theorem dX8_notes_63 : decode cX8_notes 63 = .ok (.iload_n 1, 1) := by decide +kernel
theorem dX8_notes_64 : decode cX8_notes 64 = .ok (.aload_n 0, 1) := by decide +kernel
theorem dX8_notes_65 : decode cX8_notes 65 = .ok (.getfield 152, 3) := by decide +kernel
theorem dX8_notes_68 : decode cX8_notes 68 = .ok (.if_icmp .ge 7, 3) := by decide +kernel
theorem dX8_notes_71 : decode cX8_notes 71 = .ok (.iload_n 1, 1) := by decide +kernel
theorem dX8_notes_72 : decode cX8_notes 72 = .ok (.goto 7, 3) := by decide +kernel
theorem dX8_notes_75 : decode cX8_notes 75 = .ok (.aload_n 0, 1) := by decide +kernel
theorem dX8_notes_76 : decode cX8_notes 76 = .ok (.getfield 152, 3) := by decide +kernel
theorem dX8_notes_79 : decode cX8_notes 79 = .ok (.putfield 152, 3) := by decide +kernel
theorem dX8_notes_82 : decode cX8_notes 82 = .ok (.aload_n 0, 1) := by decide +kernel
theorem dX8_notes_83 : decode cX8_notes 83 = .ok (.dup, 1) := by decide +kernel
theorem dX8_notes_84 : decode cX8_notes 84 = .ok (.getfield 149, 3) := by decide +kernel
theorem dX8_notes_87 : decode cX8_notes 87 = .ok (.iconst 1, 1) := by decide +kernel
theorem dX8_notes_88 : decode cX8_notes 88 = .ok (.iadd, 1) := by decide +kernel
theorem dX8_notes_89 : decode cX8_notes 89 = .ok (.putfield 149, 3) := by decide +kernel
theorem dX8_notes_92 : decode cX8_notes 92 = .ok (.return_, 1) := by decide +kernel
set_option maxRecDepth 20000 in
theorem ggX8_searches_X8_open : GoodIn wsX8_searches wsX8_open := goodIn_r _ [7, 8, 9, 10, 11, 6, 12, 13, 14, 15, 16, 17, 57, 58, 59, 60, 61, 62, 63, 64, 65, 66, 67, 68, 69, 70, 71, 72, 73, 74, 75] (by decide +kernel) (by decide +kernel)
set_option maxRecDepth 20000 in
theorem gX8_searches_X8_open : GoodIn wsX8_searches (wsV RX8 120 RX8 yX8_open wsX8_open) := goodIn_app (goodIn_of _ (by decide +kernel)) ggX8_searches_X8_open
set_option maxRecDepth 20000 in
theorem ggX8_searches_X8_cells : GoodIn wsX8_searches wsX8_cells := goodIn_r _ [12, 13, 14, 57, 58, 59, 60, 61, 62, 63, 64, 65, 66, 67, 68, 69, 70, 71, 72, 73, 74, 75] (by decide +kernel) (by decide +kernel)
set_option maxRecDepth 20000 in
theorem gX8_searches_X8_cells : GoodIn wsX8_searches (wsV RX8 48 RX8 yX8_cells wsX8_cells) := goodIn_app (goodIn_of _ (by decide +kernel)) ggX8_searches_X8_cells
set_option maxRecDepth 20000 in
theorem ggX8_searches_X8_laysOf : GoodIn wsX8_searches wsX8_laysOf := goodIn_r _ [21, 22, 8, 57, 58, 59, 60, 61, 62, 63, 64, 65, 66, 67, 68, 69, 70, 71, 72, 73, 74, 75] (by decide +kernel) (by decide +kernel)
set_option maxRecDepth 20000 in
theorem gX8_searches_X8_laysOf : GoodIn wsX8_searches (wsV RX8 140 RX8 yX8_laysOf wsX8_laysOf) := goodIn_app (goodIn_of _ (by decide +kernel)) ggX8_searches_X8_laysOf
set_option maxRecDepth 20000 in
theorem ggX8_searches_X8_fits : GoodIn wsX8_searches wsX8_fits := goodIn_r _ [26, 8, 2, 27, 28, 6, 29, 30, 31, 32, 33, 13, 14, 34, 35, 36, 37, 38, 39, 40, 41, 42, 43, 44, 45, 57, 58, 59, 60, 61, 62, 63, 64, 65, 66, 67, 68, 69, 70, 71, 72, 73, 74, 75] (by decide +kernel) (by decide +kernel)
set_option maxRecDepth 20000 in
theorem gX8_searches_X8_fits : GoodIn wsX8_searches (wsV RX8 155 RX8 yX8_fits wsX8_fits) := goodIn_app (goodIn_of _ (by decide +kernel)) ggX8_searches_X8_fits
set_option maxRecDepth 20000 in
theorem ggX8_searches_X8_isTree : GoodIn wsX8_searches wsX8_isTree := goodIn_r _ [49, 50, 8, 2, 9, 10, 11, 6, 12, 13, 14, 27, 28, 29, 40, 41, 42, 30, 31, 32, 33, 34, 57, 58, 59, 60, 61, 62, 63, 64, 65, 66, 67, 68, 69, 70, 71, 72, 73, 74, 75] (by decide +kernel) (by decide +kernel)
set_option maxRecDepth 20000 in
theorem gX8_searches_X8_isTree : GoodIn wsX8_searches (wsV RX8 158 RX8 yX8_isTree wsX8_isTree) := goodIn_app (goodIn_of _ (by decide +kernel)) ggX8_searches_X8_isTree
set_option maxRecDepth 20000 in
theorem ggX8_searches_X8_notes : GoodIn wsX8_searches wsX8_notes := goodIn_r _ [54, 55, 1, 2, 56, 9, 10, 11, 6, 12, 13, 14, 57, 58, 59, 60, 61, 62, 63, 64, 65, 66, 67, 68, 69, 70, 71, 72, 73, 74, 75] (by decide +kernel) (by decide +kernel)
set_option maxRecDepth 20000 in
theorem gX8_searches_X8_notes : GoodIn wsX8_searches (wsV RX8 161 RX8 yX8_notes wsX8_notes) := goodIn_app (goodIn_of _ (by decide +kernel)) ggX8_searches_X8_notes
theorem dX8_searches_0 : decode cX8_searches 0 = .ok (.aload_n 0, 1) := by decide +kernel
theorem dX8_searches_1 : decode cX8_searches 1 = .ok (.invokevirtual 120, 3) := by decide +kernel
theorem dX8_searches_4 : decode cX8_searches 4 = .ok (.iconst 2, 1) := by decide +kernel
theorem dX8_searches_5 : decode cX8_searches 5 = .ok (.aload_n 0, 1) := by decide +kernel
theorem dX8_searches_6 : decode cX8_searches 6 = .ok (.invokevirtual 48, 3) := by decide +kernel
theorem dX8_searches_9 : decode cX8_searches 9 = .ok (.iconst 1, 1) := by decide +kernel
theorem dX8_searches_10 : decode cX8_searches 10 = .ok (.isub, 1) := by decide +kernel
theorem dX8_searches_11 : decode cX8_searches 11 = .ok (.imul, 1) := by decide +kernel
theorem dX8_searches_12 : decode cX8_searches 12 = .ok (.if_icmp .ne 7, 3) := by decide +kernel
theorem dX8_searches_15 : decode cX8_searches 15 = .ok (.iconst 1, 1) := by decide +kernel
theorem dX8_searches_16 : decode cX8_searches 16 = .ok (.goto 4, 3) := by decide +kernel
theorem dX8_searches_19 : decode cX8_searches 19 = .ok (.iconst 0, 1) := by decide +kernel
theorem dX8_searches_20 : decode cX8_searches 20 = .ok (.istore_n 1, 1) := by decide +kernel
theorem dX8_searches_21 : decode cX8_searches 21 = .ok (.aload_n 0, 1) := by decide +kernel
theorem dX8_searches_22 : decode cX8_searches 22 = .ok (.iconst 0, 1) := by decide +kernel
theorem dX8_searches_23 : decode cX8_searches 23 = .ok (.putfield 149, 3) := by decide +kernel
theorem dX8_searches_26 : decode cX8_searches 26 = .ok (.iconst 0, 1) := by decide +kernel
theorem dX8_searches_27 : decode cX8_searches 27 = .ok (.istore_n 2, 1) := by decide +kernel
theorem dX8_searches_28 : decode cX8_searches 28 = .ok (.aload_n 0, 1) := by decide +kernel
theorem dX8_searches_29 : decode cX8_searches 29 = .ok (.getfield 39, 3) := by decide +kernel
theorem dX8_searches_32 : decode cX8_searches 32 = .ok (.iconst 0, 1) := by decide +kernel
theorem dX8_searches_33 : decode cX8_searches 33 = .ok (.iconst (-1), 1) := by decide +kernel
theorem dX8_searches_34 : decode cX8_searches 34 = .ok (.iastore, 1) := by decide +kernel
theorem dX8_searches_35 : decode cX8_searches 35 = .ok (.iload_n 2, 1) := by decide +kernel
theorem dX8_searches_36 : decode cX8_searches 36 = .ok (.ifCond .lt 82, 3) := by decide +kernel
theorem dX8_searches_39 : decode cX8_searches 39 = .ok (.iload_n 1, 1) := by decide +kernel
theorem dX8_searches_40 : decode cX8_searches 40 = .ok (.ifCond .eq 78, 3) := by decide +kernel
theorem dX8_searches_43 : decode cX8_searches 43 = .ok (.aload_n 0, 1) := by decide +kernel
theorem dX8_searches_44 : decode cX8_searches 44 = .ok (.getfield 39, 3) := by decide +kernel
theorem dX8_searches_47 : decode cX8_searches 47 = .ok (.iload_n 2, 1) := by decide +kernel
theorem dX8_searches_48 : decode cX8_searches 48 = .ok (.dup2, 1) := by decide +kernel
theorem dX8_searches_49 : decode cX8_searches 49 = .ok (.iaload, 1) := by decide +kernel
theorem dX8_searches_50 : decode cX8_searches 50 = .ok (.iconst 1, 1) := by decide +kernel
theorem dX8_searches_51 : decode cX8_searches 51 = .ok (.iadd, 1) := by decide +kernel
theorem dX8_searches_52 : decode cX8_searches 52 = .ok (.iastore, 1) := by decide +kernel
theorem dX8_searches_53 : decode cX8_searches 53 = .ok (.aload_n 0, 1) := by decide +kernel
theorem dX8_searches_54 : decode cX8_searches 54 = .ok (.getfield 39, 3) := by decide +kernel
theorem dX8_searches_57 : decode cX8_searches 57 = .ok (.iload_n 2, 1) := by decide +kernel
theorem dX8_searches_58 : decode cX8_searches 58 = .ok (.iaload, 1) := by decide +kernel
theorem dX8_searches_59 : decode cX8_searches 59 = .ok (.aload_n 0, 1) := by decide +kernel
theorem dX8_searches_60 : decode cX8_searches 60 = .ok (.iload_n 2, 1) := by decide +kernel
theorem dX8_searches_61 : decode cX8_searches 61 = .ok (.invokevirtual 140, 3) := by decide +kernel
theorem dX8_searches_64 : decode cX8_searches 64 = .ok (.if_icmp .lt 9, 3) := by decide +kernel
theorem dX8_searches_67 : decode cX8_searches 67 = .ok (.iinc 2 (-1), 3) := by decide +kernel
theorem dX8_searches_70 : decode cX8_searches 70 = .ok (.goto (-35), 3) := by decide +kernel
theorem dX8_searches_73 : decode cX8_searches 73 = .ok (.aload_n 0, 1) := by decide +kernel
theorem dX8_searches_74 : decode cX8_searches 74 = .ok (.iload_n 2, 1) := by decide +kernel
theorem dX8_searches_75 : decode cX8_searches 75 = .ok (.invokevirtual 155, 3) := by decide +kernel
theorem dX8_searches_78 : decode cX8_searches 78 = .ok (.ifCond .eq (-43), 3) := by decide +kernel
theorem dX8_searches_81 : decode cX8_searches 81 = .ok (.iload_n 2, 1) := by decide +kernel
theorem dX8_searches_82 : decode cX8_searches 82 = .ok (.aload_n 0, 1) := by decide +kernel
theorem dX8_searches_83 : decode cX8_searches 83 = .ok (.invokevirtual 48, 3) := by decide +kernel
theorem dX8_searches_86 : decode cX8_searches 86 = .ok (.iconst 1, 1) := by decide +kernel
theorem dX8_searches_87 : decode cX8_searches 87 = .ok (.isub, 1) := by decide +kernel
theorem dX8_searches_88 : decode cX8_searches 88 = .ok (.if_icmp .ge 16, 3) := by decide +kernel
theorem dX8_searches_91 : decode cX8_searches 91 = .ok (.iinc 2 1, 3) := by decide +kernel
theorem dX8_searches_94 : decode cX8_searches 94 = .ok (.aload_n 0, 1) := by decide +kernel
theorem dX8_searches_95 : decode cX8_searches 95 = .ok (.getfield 39, 3) := by decide +kernel
theorem dX8_searches_98 : decode cX8_searches 98 = .ok (.iload_n 2, 1) := by decide +kernel
theorem dX8_searches_99 : decode cX8_searches 99 = .ok (.iconst (-1), 1) := by decide +kernel
theorem dX8_searches_100 : decode cX8_searches 100 = .ok (.iastore, 1) := by decide +kernel
theorem dX8_searches_101 : decode cX8_searches 101 = .ok (.goto (-66), 3) := by decide +kernel
theorem dX8_searches_104 : decode cX8_searches 104 = .ok (.aload_n 0, 1) := by decide +kernel
theorem dX8_searches_105 : decode cX8_searches 105 = .ok (.invokevirtual 158, 3) := by decide +kernel
theorem dX8_searches_108 : decode cX8_searches 108 = .ok (.ifCond .eq (-73), 3) := by decide +kernel
theorem dX8_searches_111 : decode cX8_searches 111 = .ok (.aload_n 0, 1) := by decide +kernel
theorem dX8_searches_112 : decode cX8_searches 112 = .ok (.invokevirtual 161, 3) := by decide +kernel
theorem dX8_searches_115 : decode cX8_searches 115 = .ok (.goto (-80), 3) := by decide +kernel
theorem dX8_searches_118 : decode cX8_searches 118 = .ok (.return_, 1) := by decide +kernel
set_option maxRecDepth 20000 in
theorem ggX8_solutions_X8_searches : GoodIn wsX8_solutions wsX8_searches := goodIn_r _ [7, 2, 8, 9, 10, 11, 6, 12, 13, 14, 15, 16, 17, 18, 19, 20, 21, 22, 23, 24, 25, 26, 27, 28, 29, 30, 31, 32, 33, 34, 35, 36, 37, 38, 39, 40, 41, 42, 43, 44, 45, 46, 47, 48, 49, 50, 51, 52, 53, 54, 55, 56, 57, 58, 59, 60, 61, 62, 63, 64, 65, 66, 67, 68, 69, 70, 71, 72, 73, 74, 75, 76, 77, 78, 79, 80] (by decide +kernel) (by decide +kernel)
set_option maxRecDepth 20000 in
theorem gX8_solutions_X8_searches : GoodIn wsX8_solutions (wsV RX8 164 RX8 yX8_searches wsX8_searches) := goodIn_app (goodIn_of _ (by decide +kernel)) ggX8_solutions_X8_searches
theorem dX8_solutions_0 : decode cX8_solutions 0 = .ok (.aload_n 0, 1) := by decide +kernel
theorem dX8_solutions_1 : decode cX8_solutions 1 = .ok (.iconst 0, 1) := by decide +kernel
theorem dX8_solutions_2 : decode cX8_solutions 2 = .ok (.putfield 45, 3) := by decide +kernel
theorem dX8_solutions_5 : decode cX8_solutions 5 = .ok (.aload_n 0, 1) := by decide +kernel
theorem dX8_solutions_6 : decode cX8_solutions 6 = .ok (.invokevirtual 164, 3) := by decide +kernel
theorem dX8_solutions_9 : decode cX8_solutions 9 = .ok (.aload_n 0, 1) := by decide +kernel
theorem dX8_solutions_10 : decode cX8_solutions 10 = .ok (.getfield 149, 3) := by decide +kernel
theorem dX8_solutions_13 : decode cX8_solutions 13 = .ok (.ireturn, 1) := by decide +kernel
set_option maxRecDepth 20000 in
theorem ggX8_solutionsBySweep_X8_searches : GoodIn wsX8_solutionsBySweep wsX8_searches := goodIn_r _ [7, 2, 8, 9, 10, 11, 6, 12, 13, 14, 15, 16, 17, 18, 19, 20, 21, 22, 23, 24, 25, 26, 27, 28, 29, 30, 31, 32, 33, 34, 35, 36, 37, 38, 39, 40, 41, 42, 43, 44, 45, 46, 47, 48, 49, 50, 51, 52, 53, 54, 55, 56, 57, 58, 59, 60, 61, 62, 63, 64, 65, 66, 67, 68, 69, 70, 71, 72, 73, 74, 75, 76, 77, 78, 79, 80] (by decide +kernel) (by decide +kernel)
set_option maxRecDepth 20000 in
theorem gX8_solutionsBySweep_X8_searches : GoodIn wsX8_solutionsBySweep (wsV RX8 164 RX8 yX8_searches wsX8_searches) := goodIn_app (goodIn_of _ (by decide +kernel)) ggX8_solutionsBySweep_X8_searches
theorem dX8_solutionsBySweep_0 : decode cX8_solutionsBySweep 0 = .ok (.aload_n 0, 1) := by decide +kernel
theorem dX8_solutionsBySweep_1 : decode cX8_solutionsBySweep 1 = .ok (.iconst 0, 1) := by decide +kernel
theorem dX8_solutionsBySweep_2 : decode cX8_solutionsBySweep 2 = .ok (.putfield 45, 3) := by decide +kernel
theorem dX8_solutionsBySweep_5 : decode cX8_solutionsBySweep 5 = .ok (.aload_n 0, 1) := by decide +kernel
theorem dX8_solutionsBySweep_6 : decode cX8_solutionsBySweep 6 = .ok (.invokevirtual 164, 3) := by decide +kernel
theorem dX8_solutionsBySweep_9 : decode cX8_solutionsBySweep 9 = .ok (.aload_n 0, 1) := by decide +kernel
theorem dX8_solutionsBySweep_10 : decode cX8_solutionsBySweep 10 = .ok (.getfield 149, 3) := by decide +kernel
theorem dX8_solutionsBySweep_13 : decode cX8_solutionsBySweep 13 = .ok (.ireturn, 1) := by decide +kernel
set_option maxRecDepth 20000 in
theorem ggX8_first_X8_isCell : GoodIn wsX8_first wsX8_isCell := goodIn_r _ [7, 8, 9, 10, 6, 11, 12, 13, 70, 71, 72, 73, 74, 75, 76, 77, 78, 79, 80, 81, 82, 83, 84, 85, 86, 87, 88] (by decide +kernel) (by decide +kernel)
set_option maxRecDepth 20000 in
theorem gX8_first_X8_isCell : GoodIn wsX8_first (wsV RX8 104 RX8 yX8_isCell wsX8_isCell) := goodIn_app (goodIn_of _ (by decide +kernel)) ggX8_first_X8_isCell
set_option maxRecDepth 20000 in
theorem ggX8_first_X8_searches : GoodIn wsX8_first wsX8_searches := goodIn_r _ [17, 1, 18, 19, 20, 21, 6, 22, 23, 8, 9, 10, 11, 12, 13, 24, 25, 26, 27, 28, 29, 30, 31, 32, 33, 34, 35, 36, 37, 38, 39, 40, 41, 42, 43, 44, 45, 46, 47, 48, 49, 50, 51, 52, 53, 54, 55, 56, 57, 58, 59, 60, 61, 62, 63, 2, 64, 70, 71, 72, 73, 74, 75, 76, 77, 78, 79, 80, 81, 82, 83, 84, 85, 86, 87, 88] (by decide +kernel) (by decide +kernel)
set_option maxRecDepth 20000 in
theorem gX8_first_X8_searches : GoodIn wsX8_first (wsV RX8 164 RX8 yX8_searches wsX8_searches) := goodIn_app (goodIn_of _ (by decide +kernel)) ggX8_first_X8_searches
set_option maxRecDepth 20000 in
theorem ggX8_first_X8_holds : GoodIn wsX8_first wsX8_holds := goodIn_r _ [68, 69, 70, 71, 72, 73, 74, 75, 76, 77, 78, 79, 80, 81, 82, 83, 84, 85, 86, 87, 88] (by decide +kernel) (by decide +kernel)
set_option maxRecDepth 20000 in
theorem gX8_first_X8_holds : GoodIn wsX8_first (wsV RX8 69 RX8 yX8_holds wsX8_holds) := goodIn_app (goodIn_of _ (by decide +kernel)) ggX8_first_X8_holds
theorem dX8_first_0 : decode cX8_first 0 = .ok (.aload_n 0, 1) := by decide +kernel
theorem dX8_first_1 : decode cX8_first 1 = .ok (.iload_n 1, 1) := by decide +kernel
theorem dX8_first_2 : decode cX8_first 2 = .ok (.invokevirtual 104, 3) := by decide +kernel
theorem dX8_first_5 : decode cX8_first 5 = .ok (.istore_n 2, 1) := by decide +kernel
theorem dX8_first_6 : decode cX8_first 6 = .ok (.aload_n 0, 1) := by decide +kernel
theorem dX8_first_7 : decode cX8_first 7 = .ok (.invokevirtual 164, 3) := by decide +kernel
theorem dX8_first_10 : decode cX8_first 10 = .ok (.aload_n 0, 1) := by decide +kernel
theorem dX8_first_11 : decode cX8_first 11 = .ok (.iload_n 2, 1) := by decide +kernel
theorem dX8_first_12 : decode cX8_first 12 = .ok (.ifCond .ne 7, 3) := by decide +kernel
theorem dX8_first_15 : decode cX8_first 15 = .ok (.iconst 1, 1) := by decide +kernel
theorem dX8_first_16 : decode cX8_first 16 = .ok (.goto 15, 3) := by decide +kernel
theorem dX8_first_19 : decode cX8_first 19 = .ok (.aload_n 0, 1) := by decide +kernel
theorem dX8_first_20 : decode cX8_first 20 = .ok (.getfield 149, 3) := by decide +kernel
theorem dX8_first_23 : decode cX8_first 23 = .ok (.ifCond .ne 7, 3) := by decide +kernel
theorem dX8_first_26 : decode cX8_first 26 = .ok (.iconst 2, 1) := by decide +kernel
theorem dX8_first_27 : decode cX8_first 27 = .ok (.goto 4, 3) := by decide +kernel
theorem dX8_first_30 : decode cX8_first 30 = .ok (.iconst 0, 1) := by decide +kernel
theorem dX8_first_31 : decode cX8_first 31 = .ok (.invokevirtual 69, 3) := by decide +kernel
theorem dX8_first_34 : decode cX8_first 34 = .ok (.ifCond .eq 12, 3) := by decide +kernel
theorem dX8_first_37 : decode cX8_first 37 = .ok (.aload_n 0, 1) := by decide +kernel
theorem dX8_first_38 : decode cX8_first 38 = .ok (.getfield 42, 3) := by decide +kernel
theorem dX8_first_41 : decode cX8_first 41 = .ok (.iload_n 1, 1) := by decide +kernel
theorem dX8_first_42 : decode cX8_first 42 = .ok (.iaload, 1) := by decide +kernel
theorem dX8_first_43 : decode cX8_first 43 = .ok (.goto 4, 3) := by decide +kernel
theorem dX8_first_46 : decode cX8_first 46 = .ok (.iconst 0, 1) := by decide +kernel
theorem dX8_first_47 : decode cX8_first 47 = .ok (.ireturn, 1) := by decide +kernel
set_option maxRecDepth 20000 in
theorem ggX8_fewestTurns_X8_searches : GoodIn wsX8_fewestTurns wsX8_searches := goodIn_r _ [7, 1, 8, 9, 10, 11, 6, 12, 13, 14, 15, 16, 17, 18, 19, 20, 21, 22, 23, 24, 25, 26, 27, 28, 29, 30, 31, 32, 33, 34, 35, 36, 37, 38, 39, 40, 41, 42, 43, 44, 45, 46, 47, 48, 49, 50, 51, 52, 53, 54, 55, 56, 57, 58, 59, 60, 2, 66, 67, 68, 69, 70, 71, 72, 73, 74, 75, 76, 77, 78, 79, 80, 81, 82, 83, 84] (by decide +kernel) (by decide +kernel)
set_option maxRecDepth 20000 in
theorem gX8_fewestTurns_X8_searches : GoodIn wsX8_fewestTurns (wsV RX8 164 RX8 yX8_searches wsX8_searches) := goodIn_app (goodIn_of _ (by decide +kernel)) ggX8_fewestTurns_X8_searches
set_option maxRecDepth 20000 in
theorem ggX8_fewestTurns_X8_holds : GoodIn wsX8_fewestTurns wsX8_holds := goodIn_r _ [64, 65, 66, 67, 68, 69, 70, 71, 72, 73, 74, 75, 76, 77, 78, 79, 80, 81, 82, 83, 84] (by decide +kernel) (by decide +kernel)
set_option maxRecDepth 20000 in
theorem gX8_fewestTurns_X8_holds : GoodIn wsX8_fewestTurns (wsV RX8 69 RX8 yX8_holds wsX8_holds) := goodIn_app (goodIn_of _ (by decide +kernel)) ggX8_fewestTurns_X8_holds
theorem dX8_fewestTurns_0 : decode cX8_fewestTurns 0 = .ok (.aload_n 0, 1) := by decide +kernel
theorem dX8_fewestTurns_1 : decode cX8_fewestTurns 1 = .ok (.invokevirtual 164, 3) := by decide +kernel
theorem dX8_fewestTurns_4 : decode cX8_fewestTurns 4 = .ok (.aload_n 0, 1) := by decide +kernel
theorem dX8_fewestTurns_5 : decode cX8_fewestTurns 5 = .ok (.aload_n 0, 1) := by decide +kernel
theorem dX8_fewestTurns_6 : decode cX8_fewestTurns 6 = .ok (.getfield 149, 3) := by decide +kernel
theorem dX8_fewestTurns_9 : decode cX8_fewestTurns 9 = .ok (.ifCond .ne 7, 3) := by decide +kernel
theorem dX8_fewestTurns_12 : decode cX8_fewestTurns 12 = .ok (.iconst 1, 1) := by decide +kernel
theorem dX8_fewestTurns_13 : decode cX8_fewestTurns 13 = .ok (.goto 4, 3) := by decide +kernel
theorem dX8_fewestTurns_16 : decode cX8_fewestTurns 16 = .ok (.iconst 0, 1) := by decide +kernel
theorem dX8_fewestTurns_17 : decode cX8_fewestTurns 17 = .ok (.invokevirtual 69, 3) := by decide +kernel
theorem dX8_fewestTurns_20 : decode cX8_fewestTurns 20 = .ok (.ifCond .eq 10, 3) := by decide +kernel
theorem dX8_fewestTurns_23 : decode cX8_fewestTurns 23 = .ok (.aload_n 0, 1) := by decide +kernel
theorem dX8_fewestTurns_24 : decode cX8_fewestTurns 24 = .ok (.getfield 152, 3) := by decide +kernel
theorem dX8_fewestTurns_27 : decode cX8_fewestTurns 27 = .ok (.goto 4, 3) := by decide +kernel
theorem dX8_fewestTurns_30 : decode cX8_fewestTurns 30 = .ok (.iconst 0, 1) := by decide +kernel
theorem dX8_fewestTurns_31 : decode cX8_fewestTurns 31 = .ok (.ireturn, 1) := by decide +kernel
theorem dJ6_bitCount_0f7a4_0 : decode cJ6_bitCount_0f7a4 0 = .ok (.iload_n 0, 1) := by decide +kernel
theorem dJ6_bitCount_0f7a4_1 : decode cJ6_bitCount_0f7a4 1 = .ok (.iload_n 0, 1) := by decide +kernel
theorem dJ6_bitCount_0f7a4_2 : decode cJ6_bitCount_0f7a4 2 = .ok (.iconst 1, 1) := by decide +kernel
theorem dJ6_bitCount_0f7a4_3 : decode cJ6_bitCount_0f7a4 3 = .ok (.iushr, 1) := by decide +kernel
theorem dJ6_bitCount_0f7a4_4 : decode cJ6_bitCount_0f7a4 4 = .ok (.ldc_w 265, 3) := by decide +kernel
theorem dJ6_bitCount_0f7a4_7 : decode cJ6_bitCount_0f7a4 7 = .ok (.iand, 1) := by decide +kernel
theorem dJ6_bitCount_0f7a4_8 : decode cJ6_bitCount_0f7a4 8 = .ok (.isub, 1) := by decide +kernel
theorem dJ6_bitCount_0f7a4_9 : decode cJ6_bitCount_0f7a4 9 = .ok (.istore_n 0, 1) := by decide +kernel
theorem dJ6_bitCount_0f7a4_10 : decode cJ6_bitCount_0f7a4 10 = .ok (.iload_n 0, 1) := by decide +kernel
theorem dJ6_bitCount_0f7a4_11 : decode cJ6_bitCount_0f7a4 11 = .ok (.ldc_w 266, 3) := by decide +kernel
theorem dJ6_bitCount_0f7a4_14 : decode cJ6_bitCount_0f7a4 14 = .ok (.iand, 1) := by decide +kernel
theorem dJ6_bitCount_0f7a4_15 : decode cJ6_bitCount_0f7a4 15 = .ok (.iload_n 0, 1) := by decide +kernel
theorem dJ6_bitCount_0f7a4_16 : decode cJ6_bitCount_0f7a4 16 = .ok (.iconst 2, 1) := by decide +kernel
theorem dJ6_bitCount_0f7a4_17 : decode cJ6_bitCount_0f7a4 17 = .ok (.iushr, 1) := by decide +kernel
theorem dJ6_bitCount_0f7a4_18 : decode cJ6_bitCount_0f7a4 18 = .ok (.ldc_w 266, 3) := by decide +kernel
theorem dJ6_bitCount_0f7a4_21 : decode cJ6_bitCount_0f7a4 21 = .ok (.iand, 1) := by decide +kernel
theorem dJ6_bitCount_0f7a4_22 : decode cJ6_bitCount_0f7a4 22 = .ok (.iadd, 1) := by decide +kernel
theorem dJ6_bitCount_0f7a4_23 : decode cJ6_bitCount_0f7a4 23 = .ok (.istore_n 0, 1) := by decide +kernel
theorem dJ6_bitCount_0f7a4_24 : decode cJ6_bitCount_0f7a4 24 = .ok (.iload_n 0, 1) := by decide +kernel
theorem dJ6_bitCount_0f7a4_25 : decode cJ6_bitCount_0f7a4 25 = .ok (.iload_n 0, 1) := by decide +kernel
theorem dJ6_bitCount_0f7a4_26 : decode cJ6_bitCount_0f7a4 26 = .ok (.iconst 4, 1) := by decide +kernel
theorem dJ6_bitCount_0f7a4_27 : decode cJ6_bitCount_0f7a4 27 = .ok (.iushr, 1) := by decide +kernel
theorem dJ6_bitCount_0f7a4_28 : decode cJ6_bitCount_0f7a4 28 = .ok (.iadd, 1) := by decide +kernel
theorem dJ6_bitCount_0f7a4_29 : decode cJ6_bitCount_0f7a4 29 = .ok (.ldc_w 267, 3) := by decide +kernel
theorem dJ6_bitCount_0f7a4_32 : decode cJ6_bitCount_0f7a4 32 = .ok (.iand, 1) := by decide +kernel
theorem dJ6_bitCount_0f7a4_33 : decode cJ6_bitCount_0f7a4 33 = .ok (.istore_n 0, 1) := by decide +kernel
theorem dJ6_bitCount_0f7a4_34 : decode cJ6_bitCount_0f7a4 34 = .ok (.iload_n 0, 1) := by decide +kernel
theorem dJ6_bitCount_0f7a4_35 : decode cJ6_bitCount_0f7a4 35 = .ok (.iload_n 0, 1) := by decide +kernel
theorem dJ6_bitCount_0f7a4_36 : decode cJ6_bitCount_0f7a4 36 = .ok (.bipush 8, 2) := by decide +kernel
theorem dJ6_bitCount_0f7a4_38 : decode cJ6_bitCount_0f7a4 38 = .ok (.iushr, 1) := by decide +kernel
theorem dJ6_bitCount_0f7a4_39 : decode cJ6_bitCount_0f7a4 39 = .ok (.iadd, 1) := by decide +kernel
theorem dJ6_bitCount_0f7a4_40 : decode cJ6_bitCount_0f7a4 40 = .ok (.istore_n 0, 1) := by decide +kernel
theorem dJ6_bitCount_0f7a4_41 : decode cJ6_bitCount_0f7a4 41 = .ok (.iload_n 0, 1) := by decide +kernel
theorem dJ6_bitCount_0f7a4_42 : decode cJ6_bitCount_0f7a4 42 = .ok (.iload_n 0, 1) := by decide +kernel
theorem dJ6_bitCount_0f7a4_43 : decode cJ6_bitCount_0f7a4 43 = .ok (.bipush 16, 2) := by decide +kernel
theorem dJ6_bitCount_0f7a4_45 : decode cJ6_bitCount_0f7a4 45 = .ok (.iushr, 1) := by decide +kernel
theorem dJ6_bitCount_0f7a4_46 : decode cJ6_bitCount_0f7a4 46 = .ok (.iadd, 1) := by decide +kernel
theorem dJ6_bitCount_0f7a4_47 : decode cJ6_bitCount_0f7a4 47 = .ok (.istore_n 0, 1) := by decide +kernel
theorem dJ6_bitCount_0f7a4_48 : decode cJ6_bitCount_0f7a4 48 = .ok (.iload_n 0, 1) := by decide +kernel
theorem dJ6_bitCount_0f7a4_49 : decode cJ6_bitCount_0f7a4 49 = .ok (.bipush 63, 2) := by decide +kernel
theorem dJ6_bitCount_0f7a4_51 : decode cJ6_bitCount_0f7a4 51 = .ok (.iand, 1) := by decide +kernel
theorem dJ6_bitCount_0f7a4_52 : decode cJ6_bitCount_0f7a4 52 = .ok (.ireturn, 1) := by decide +kernel
theorem dJ9_min_7cf53_0 : decode cJ9_min_7cf53 0 = .ok (.iload_n 0, 1) := by decide +kernel
theorem dJ9_min_7cf53_1 : decode cJ9_min_7cf53 1 = .ok (.iload_n 1, 1) := by decide +kernel
theorem dJ9_min_7cf53_2 : decode cJ9_min_7cf53 2 = .ok (.if_icmp .gt 7, 3) := by decide +kernel
theorem dJ9_min_7cf53_5 : decode cJ9_min_7cf53 5 = .ok (.iload_n 0, 1) := by decide +kernel
theorem dJ9_min_7cf53_6 : decode cJ9_min_7cf53 6 = .ok (.goto 4, 3) := by decide +kernel
theorem dJ9_min_7cf53_9 : decode cJ9_min_7cf53 9 = .ok (.iload_n 1, 1) := by decide +kernel
theorem dJ9_min_7cf53_10 : decode cJ9_min_7cf53 10 = .ok (.ireturn, 1) := by decide +kernel
theorem dJ7_fill_53178_0 : decode cJ7_fill_53178 0 = .ok (.iconst 0, 1) := by decide +kernel
theorem dJ7_fill_53178_1 : decode cJ7_fill_53178 1 = .ok (.istore_n 2, 1) := by decide +kernel
theorem dJ7_fill_53178_2 : decode cJ7_fill_53178 2 = .ok (.aload_n 0, 1) := by decide +kernel
theorem dJ7_fill_53178_3 : decode cJ7_fill_53178 3 = .ok (.arraylength, 1) := by decide +kernel
theorem dJ7_fill_53178_4 : decode cJ7_fill_53178 4 = .ok (.istore_n 3, 1) := by decide +kernel
theorem dJ7_fill_53178_5 : decode cJ7_fill_53178 5 = .ok (.iload_n 2, 1) := by decide +kernel
theorem dJ7_fill_53178_6 : decode cJ7_fill_53178 6 = .ok (.iload_n 3, 1) := by decide +kernel
theorem dJ7_fill_53178_7 : decode cJ7_fill_53178 7 = .ok (.if_icmp .ge 13, 3) := by decide +kernel
theorem dJ7_fill_53178_10 : decode cJ7_fill_53178 10 = .ok (.aload_n 0, 1) := by decide +kernel
theorem dJ7_fill_53178_11 : decode cJ7_fill_53178 11 = .ok (.iload_n 2, 1) := by decide +kernel
theorem dJ7_fill_53178_12 : decode cJ7_fill_53178 12 = .ok (.iload_n 1, 1) := by decide +kernel
theorem dJ7_fill_53178_13 : decode cJ7_fill_53178 13 = .ok (.iastore, 1) := by decide +kernel
theorem dJ7_fill_53178_14 : decode cJ7_fill_53178 14 = .ok (.iinc 2 1, 3) := by decide +kernel
theorem dJ7_fill_53178_17 : decode cJ7_fill_53178 17 = .ok (.goto (-12), 3) := by decide +kernel
theorem dJ7_fill_53178_20 : decode cJ7_fill_53178 20 = .ok (.return_, 1) := by decide +kernel
theorem dJ7_copyOf_59c91_0 : decode cJ7_copyOf_59c91 0 = .ok (.iload_n 1, 1) := by decide +kernel
theorem dJ7_copyOf_59c91_1 : decode cJ7_copyOf_59c91 1 = .ok (.aload_n 0, 1) := by decide +kernel
theorem dJ7_copyOf_59c91_2 : decode cJ7_copyOf_59c91 2 = .ok (.arraylength, 1) := by decide +kernel
theorem dJ7_copyOf_59c91_3 : decode cJ7_copyOf_59c91 3 = .ok (.if_icmp .ne 11, 3) := by decide +kernel
theorem dJ7_copyOf_59c91_6 : decode cJ7_copyOf_59c91 6 = .ok (.aload_n 0, 1) := by decide +kernel
theorem dJ7_copyOf_59c91_7 : decode cJ7_copyOf_59c91 7 = .ok (.invokevirtual 316, 3) := by decide +kernel
theorem dJ7_copyOf_59c91_10 : decode cJ7_copyOf_59c91 10 = .ok (.checkcast 317, 3) := by decide +kernel
theorem dJ7_copyOf_59c91_13 : decode cJ7_copyOf_59c91 13 = .ok (.areturn, 1) := by decide +kernel
theorem dJ7_copyOf_59c91_14 : decode cJ7_copyOf_59c91 14 = .ok (.iload_n 1, 1) := by decide +kernel
theorem dJ7_copyOf_59c91_15 : decode cJ7_copyOf_59c91 15 = .ok (.newarray .int, 2) := by decide +kernel
theorem dJ7_copyOf_59c91_17 : decode cJ7_copyOf_59c91 17 = .ok (.astore_n 2, 1) := by decide +kernel
theorem dJ7_copyOf_59c91_18 : decode cJ7_copyOf_59c91 18 = .ok (.aload_n 0, 1) := by decide +kernel
theorem dJ7_copyOf_59c91_19 : decode cJ7_copyOf_59c91 19 = .ok (.iconst 0, 1) := by decide +kernel
theorem dJ7_copyOf_59c91_20 : decode cJ7_copyOf_59c91 20 = .ok (.aload_n 2, 1) := by decide +kernel
theorem dJ7_copyOf_59c91_21 : decode cJ7_copyOf_59c91 21 = .ok (.iconst 0, 1) := by decide +kernel
theorem dJ7_copyOf_59c91_22 : decode cJ7_copyOf_59c91 22 = .ok (.aload_n 0, 1) := by decide +kernel
theorem dJ7_copyOf_59c91_23 : decode cJ7_copyOf_59c91 23 = .ok (.arraylength, 1) := by decide +kernel
theorem dJ7_copyOf_59c91_24 : decode cJ7_copyOf_59c91 24 = .ok (.iload_n 1, 1) := by decide +kernel
theorem dJ7_copyOf_59c91_25 : decode cJ7_copyOf_59c91 25 = .ok (.invokestatic 304, 3) := by decide +kernel
theorem dJ7_copyOf_59c91_28 : decode cJ7_copyOf_59c91 28 = .ok (.invokestatic 150, 3) := by decide +kernel
theorem dJ7_copyOf_59c91_31 : decode cJ7_copyOf_59c91 31 = .ok (.aload_n 2, 1) := by decide +kernel
theorem dJ7_copyOf_59c91_32 : decode cJ7_copyOf_59c91 32 = .ok (.areturn, 1) := by decide +kernel
theorem dJ7_copyOf_c38d5_0 : decode cJ7_copyOf_c38d5 0 = .ok (.iload_n 1, 1) := by decide +kernel
theorem dJ7_copyOf_c38d5_1 : decode cJ7_copyOf_c38d5 1 = .ok (.aload_n 0, 1) := by decide +kernel
theorem dJ7_copyOf_c38d5_2 : decode cJ7_copyOf_c38d5 2 = .ok (.arraylength, 1) := by decide +kernel
theorem dJ7_copyOf_c38d5_3 : decode cJ7_copyOf_c38d5 3 = .ok (.if_icmp .ne 11, 3) := by decide +kernel
theorem dJ7_copyOf_c38d5_6 : decode cJ7_copyOf_c38d5 6 = .ok (.aload_n 0, 1) := by decide +kernel
theorem dJ7_copyOf_c38d5_7 : decode cJ7_copyOf_c38d5 7 = .ok (.invokevirtual 319, 3) := by decide +kernel
theorem dJ7_copyOf_c38d5_10 : decode cJ7_copyOf_c38d5 10 = .ok (.checkcast 320, 3) := by decide +kernel
theorem dJ7_copyOf_c38d5_13 : decode cJ7_copyOf_c38d5 13 = .ok (.areturn, 1) := by decide +kernel
theorem dJ7_copyOf_c38d5_14 : decode cJ7_copyOf_c38d5 14 = .ok (.iload_n 1, 1) := by decide +kernel
theorem dJ7_copyOf_c38d5_15 : decode cJ7_copyOf_c38d5 15 = .ok (.newarray .long, 2) := by decide +kernel
theorem dJ7_copyOf_c38d5_17 : decode cJ7_copyOf_c38d5 17 = .ok (.astore_n 2, 1) := by decide +kernel
theorem dJ7_copyOf_c38d5_18 : decode cJ7_copyOf_c38d5 18 = .ok (.aload_n 0, 1) := by decide +kernel
theorem dJ7_copyOf_c38d5_19 : decode cJ7_copyOf_c38d5 19 = .ok (.iconst 0, 1) := by decide +kernel
theorem dJ7_copyOf_c38d5_20 : decode cJ7_copyOf_c38d5 20 = .ok (.aload_n 2, 1) := by decide +kernel
theorem dJ7_copyOf_c38d5_21 : decode cJ7_copyOf_c38d5 21 = .ok (.iconst 0, 1) := by decide +kernel
theorem dJ7_copyOf_c38d5_22 : decode cJ7_copyOf_c38d5 22 = .ok (.aload_n 0, 1) := by decide +kernel
theorem dJ7_copyOf_c38d5_23 : decode cJ7_copyOf_c38d5 23 = .ok (.arraylength, 1) := by decide +kernel
theorem dJ7_copyOf_c38d5_24 : decode cJ7_copyOf_c38d5 24 = .ok (.iload_n 1, 1) := by decide +kernel
theorem dJ7_copyOf_c38d5_25 : decode cJ7_copyOf_c38d5 25 = .ok (.invokestatic 304, 3) := by decide +kernel
theorem dJ7_copyOf_c38d5_28 : decode cJ7_copyOf_c38d5 28 = .ok (.invokestatic 150, 3) := by decide +kernel
theorem dJ7_copyOf_c38d5_31 : decode cJ7_copyOf_c38d5 31 = .ok (.aload_n 2, 1) := by decide +kernel
theorem dJ7_copyOf_c38d5_32 : decode cJ7_copyOf_c38d5 32 = .ok (.areturn, 1) := by decide +kernel
