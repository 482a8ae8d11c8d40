theorem dX0_init_0 : decode cX0_init 0 = .ok (.aload_n 0, 1) := by decide +kernel
theorem dX0_init_1 : decode cX0_init 1 = .ok (.invokespecial 3, 3) := by decide +kernel
theorem dX0_init_4 : decode cX0_init 4 = .ok (.aload_n 0, 1) := by decide +kernel
theorem dX0_init_5 : decode cX0_init 5 = .ok (.bipush 16, 2) := by decide +kernel
theorem dX0_init_7 : decode cX0_init 7 = .ok (.newarray .int, 2) := by decide +kernel
theorem dX0_init_9 : decode cX0_init 9 = .ok (.putfield 9, 3) := by decide +kernel
theorem dX0_init_12 : decode cX0_init 12 = .ok (.aload_n 0, 1) := by decide +kernel
theorem dX0_init_13 : decode cX0_init 13 = .ok (.bipush 16, 2) := by decide +kernel
theorem dX0_init_15 : decode cX0_init 15 = .ok (.newarray .int, 2) := by decide +kernel
theorem dX0_init_17 : decode cX0_init 17 = .ok (.putfield 15, 3) := by decide +kernel
theorem dX0_init_20 : decode cX0_init 20 = .ok (.aload_n 0, 1) := by decide +kernel
theorem dX0_init_21 : decode cX0_init 21 = .ok (.bipush 64, 2) := by decide +kernel
theorem dX0_init_23 : decode cX0_init 23 = .ok (.newarray .int, 2) := by decide +kernel
theorem dX0_init_25 : decode cX0_init 25 = .ok (.putfield 18, 3) := by decide +kernel
theorem dX0_init_28 : decode cX0_init 28 = .ok (.aload_n 0, 1) := by decide +kernel
theorem dX0_init_29 : decode cX0_init 29 = .ok (.bipush 64, 2) := by decide +kernel
theorem dX0_init_31 : decode cX0_init 31 = .ok (.newarray .int, 2) := by decide +kernel
theorem dX0_init_33 : decode cX0_init 33 = .ok (.putfield 21, 3) := by decide +kernel
theorem dX0_init_36 : decode cX0_init 36 = .ok (.aload_n 0, 1) := by decide +kernel
theorem dX0_init_37 : decode cX0_init 37 = .ok (.bipush 16, 2) := by decide +kernel
theorem dX0_init_39 : decode cX0_init 39 = .ok (.newarray .int, 2) := by decide +kernel
theorem dX0_init_41 : decode cX0_init 41 = .ok (.putfield 24, 3) := by decide +kernel
theorem dX0_init_44 : decode cX0_init 44 = .ok (.return_, 1) := by decide +kernel
theorem dX0_allows_0 : decode cX0_allows 0 = .ok (.iload_n 0, 1) := by decide +kernel
theorem dX0_allows_1 : decode cX0_allows 1 = .ok (.iconst 2, 1) := by decide +kernel
theorem dX0_allows_2 : decode cX0_allows 2 = .ok (.if_icmp .lt 18, 3) := by decide +kernel
theorem dX0_allows_5 : decode cX0_allows 5 = .ok (.iload_n 0, 1) := by decide +kernel
theorem dX0_allows_6 : decode cX0_allows 6 = .ok (.iconst 5, 1) := by decide +kernel
theorem dX0_allows_7 : decode cX0_allows 7 = .ok (.if_icmp .gt 13, 3) := by decide +kernel
theorem dX0_allows_10 : decode cX0_allows 10 = .ok (.iload_n 1, 1) := by decide +kernel
theorem dX0_allows_11 : decode cX0_allows 11 = .ok (.iconst 2, 1) := by decide +kernel
theorem dX0_allows_12 : decode cX0_allows 12 = .ok (.if_icmp .lt 8, 3) := by decide +kernel
theorem dX0_allows_15 : decode cX0_allows 15 = .ok (.iload_n 1, 1) := by decide +kernel
theorem dX0_allows_16 : decode cX0_allows 16 = .ok (.iconst 5, 1) := by decide +kernel
theorem dX0_allows_17 : decode cX0_allows 17 = .ok (.if_icmp .le 5, 3) := by decide +kernel
theorem dX0_allows_20 : decode cX0_allows 20 = .ok (.iconst 0, 1) := by decide +kernel
theorem dX0_allows_21 : decode cX0_allows 21 = .ok (.ireturn, 1) := by decide +kernel
theorem dX0_allows_22 : decode cX0_allows 22 = .ok (.iload_n 2, 1) := by decide +kernel
theorem dX0_allows_23 : decode cX0_allows 23 = .ok (.ifCond .eq 27, 3) := by decide +kernel
theorem dX0_allows_26 : decode cX0_allows 26 = .ok (.iload_n 0, 1) := by decide +kernel
theorem dX0_allows_27 : decode cX0_allows 27 = .ok (.iconst 2, 1) := by decide +kernel
theorem dX0_allows_28 : decode cX0_allows 28 = .ok (.if_icmp .le 20, 3) := by decide +kernel
theorem dX0_allows_31 : decode cX0_allows 31 = .ok (.iload_n 1, 1) := by decide +kernel
theorem dX0_allows_32 : decode cX0_allows 32 = .ok (.iconst 2, 1) := by decide +kernel
theorem dX0_allows_33 : decode cX0_allows 33 = .ok (.if_icmp .le 15, 3) := by decide +kernel
theorem dX0_allows_36 : decode cX0_allows 36 = .ok (.iload_n 0, 1) := by decide +kernel
theorem dX0_allows_37 : decode cX0_allows 37 = .ok (.iload_n 1, 1) := by decide +kernel
theorem dX0_allows_38 : decode cX0_allows 38 = .ok (.imul, 1) := by decide +kernel
theorem dX0_allows_39 : decode cX0_allows 39 = .ok (.bipush 12, 2) := by decide +kernel
theorem dX0_allows_41 : decode cX0_allows 41 = .ok (.if_icmp .gt 7, 3) := by decide +kernel
theorem dX0_allows_44 : decode cX0_allows 44 = .ok (.iconst 1, 1) := by decide +kernel
theorem dX0_allows_45 : decode cX0_allows 45 = .ok (.goto 4, 3) := by decide +kernel
theorem dX0_allows_48 : decode cX0_allows 48 = .ok (.iconst 0, 1) := by decide +kernel
theorem dX0_allows_49 : decode cX0_allows 49 = .ok (.ireturn, 1) := by decide +kernel
theorem dX0_allows_50 : decode cX0_allows 50 = .ok (.iload_n 0, 1) := by decide +kernel
theorem dX0_allows_51 : decode cX0_allows 51 = .ok (.iload_n 1, 1) := by decide +kernel
theorem dX0_allows_52 : decode cX0_allows 52 = .ok (.imul, 1) := by decide +kernel
theorem dX0_allows_53 : decode cX0_allows 53 = .ok (.bipush 16, 2) := by decide +kernel
theorem dX0_allows_55 : decode cX0_allows 55 = .ok (.if_icmp .gt 7, 3) := by decide +kernel
theorem dX0_allows_58 : decode cX0_allows 58 = .ok (.iconst 1, 1) := by decide +kernel
theorem dX0_allows_59 : decode cX0_allows 59 = .ok (.goto 4, 3) := by decide +kernel
theorem dX0_allows_62 : decode cX0_allows 62 = .ok (.iconst 0, 1) := by decide +kernel
theorem dX0_allows_63 : decode cX0_allows 63 = .ok (.ireturn, 1) := by decide +kernel
set_option maxRecDepth 20000 in
theorem ggX0_clear_J7_fill_53178 : GoodIn wsX0_clear wsJ7_fill_53178 := goodIn_r _ [15] (by decide +kernel) (by decide +kernel)
set_option maxRecDepth 20000 in
theorem gX0_clear_J7_fill_53178 : GoodIn wsX0_clear (va_wsS RX0 27 yJ7_fill_53178 wsJ7_fill_53178) := goodIn_app (goodIn_of _ (by decide +kernel)) ggX0_clear_J7_fill_53178
set_option maxRecDepth 20000 in
theorem ggX0_clear_X0_link : GoodIn wsX0_clear wsX0_link := goodIn_r _ [20, 2, 21, 22, 23, 19, 24, 3, 25, 26, 27, 28, 29, 30, 31, 32, 33, 34, 35] (by decide +kernel) (by decide +kernel)
set_option maxRecDepth 20000 in
theorem gX0_clear_X0_link : GoodIn wsX0_clear (wsV RX0 43 RX0 yX0_link wsX0_link) := goodIn_app (goodIn_of _ (by decide +kernel)) ggX0_clear_X0_link
theorem dX0_clear_0 : decode cX0_clear 0 = .ok (.aload_n 0, 1) := by decide +kernel
theorem dX0_clear_1 : decode cX0_clear 1 = .ok (.getfield 9, 3) := by decide +kernel
theorem dX0_clear_4 : decode cX0_clear 4 = .ok (.iconst 0, 1) := by decide +kernel
theorem dX0_clear_5 : decode cX0_clear 5 = .ok (.invokestatic 27, 3) := by decide +kernel
theorem dX0_clear_8 : decode cX0_clear 8 = .ok (.aload_n 0, 1) := by decide +kernel
theorem dX0_clear_9 : decode cX0_clear 9 = .ok (.getfield 18, 3) := by decide +kernel
theorem dX0_clear_12 : decode cX0_clear 12 = .ok (.iconst (-1), 1) := by decide +kernel
theorem dX0_clear_13 : decode cX0_clear 13 = .ok (.invokestatic 27, 3) := by decide +kernel
theorem dX0_clear_16 : decode cX0_clear 16 = .ok (.aload_n 0, 1) := by decide +kernel
theorem dX0_clear_17 : decode cX0_clear 17 = .ok (.iload_n 1, 1) := by decide +kernel
theorem dX0_clear_18 : decode cX0_clear 18 = .ok (.iload_n 2, 1) := by decide +kernel
theorem dX0_clear_19 : decode cX0_clear 19 = .ok (.imul, 1) := by decide +kernel
theorem dX0_clear_20 : decode cX0_clear 20 = .ok (.putfield 33, 3) := by decide +kernel
theorem dX0_clear_23 : decode cX0_clear 23 = .ok (.aload_n 0, 1) := by decide +kernel
theorem dX0_clear_24 : decode cX0_clear 24 = .ok (.iconst 0, 1) := by decide +kernel
theorem dX0_clear_25 : decode cX0_clear 25 = .ok (.putfield 37, 3) := by decide +kernel
theorem dX0_clear_28 : decode cX0_clear 28 = .ok (.aload_n 0, 1) := by decide +kernel
theorem dX0_clear_29 : decode cX0_clear 29 = .ok (.iconst 0, 1) := by decide +kernel
theorem dX0_clear_30 : decode cX0_clear 30 = .ok (.putfield 40, 3) := by decide +kernel
theorem dX0_clear_33 : decode cX0_clear 33 = .ok (.iconst 0, 1) := by decide +kernel
theorem dX0_clear_34 : decode cX0_clear 34 = .ok (.istore 4, 2) := by decide +kernel
theorem dX0_clear_36 : decode cX0_clear 36 = .ok (.iconst 0, 1) := by decide +kernel
theorem dX0_clear_37 : decode cX0_clear 37 = .ok (.istore 5, 2) := by decide +kernel
theorem dX0_clear_39 : decode cX0_clear 39 = .ok (.iload 5, 2) := by decide +kernel
theorem dX0_clear_41 : decode cX0_clear 41 = .ok (.iload_n 2, 1) := by decide +kernel
theorem dX0_clear_42 : decode cX0_clear 42 = .ok (.if_icmp .ge 118, 3) := by decide +kernel
theorem dX0_clear_45 : decode cX0_clear 45 = .ok (.iconst 0, 1) := by decide +kernel
theorem dX0_clear_46 : decode cX0_clear 46 = .ok (.istore 6, 2) := by decide +kernel
theorem dX0_clear_48 : decode cX0_clear 48 = .ok (.iload 6, 2) := by decide +kernel
theorem dX0_clear_50 : decode cX0_clear 50 = .ok (.iload_n 1, 1) := by decide +kernel
theorem dX0_clear_51 : decode cX0_clear 51 = .ok (.if_icmp .ge 103, 3) := by decide +kernel
theorem dX0_clear_54 : decode cX0_clear 54 = .ok (.iload 4, 2) := by decide +kernel
theorem dX0_clear_56 : decode cX0_clear 56 = .ok (.bipush 16, 2) := by decide +kernel
theorem dX0_clear_58 : decode cX0_clear 58 = .ok (.if_icmp .ge 96, 3) := by decide +kernel
theorem dX0_clear_61 : decode cX0_clear 61 = .ok (.aload_n 0, 1) := by decide +kernel
theorem dX0_clear_62 : decode cX0_clear 62 = .ok (.getfield 15, 3) := by decide +kernel
theorem dX0_clear_65 : decode cX0_clear 65 = .ok (.iload 4, 2) := by decide +kernel
theorem dX0_clear_67 : decode cX0_clear 67 = .ok (.iload 6, 2) := by decide +kernel
theorem dX0_clear_69 : decode cX0_clear 69 = .ok (.iastore, 1) := by decide +kernel
theorem dX0_clear_70 : decode cX0_clear 70 = .ok (.iload_n 3, 1) := by decide +kernel
theorem dX0_clear_71 : decode cX0_clear 71 = .ok (.ifCond .ne 11, 3) := by decide +kernel
theorem dX0_clear_74 : decode cX0_clear 74 = .ok (.iload 6, 2) := by decide +kernel
theorem dX0_clear_76 : decode cX0_clear 76 = .ok (.iload_n 1, 1) := by decide +kernel
theorem dX0_clear_77 : decode cX0_clear 77 = .ok (.iconst 1, 1) := by decide +kernel
theorem dX0_clear_78 : decode cX0_clear 78 = .ok (.isub, 1) := by decide +kernel
theorem dX0_clear_79 : decode cX0_clear 79 = .ok (.if_icmp .ge 30, 3) := by decide +kernel
theorem dX0_clear_82 : decode cX0_clear 82 = .ok (.aload_n 0, 1) := by decide +kernel
theorem dX0_clear_83 : decode cX0_clear 83 = .ok (.iload 4, 2) := by decide +kernel
theorem dX0_clear_85 : decode cX0_clear 85 = .ok (.iconst 1, 1) := by decide +kernel
theorem dX0_clear_86 : decode cX0_clear 86 = .ok (.iload 6, 2) := by decide +kernel
theorem dX0_clear_88 : decode cX0_clear 88 = .ok (.iload_n 1, 1) := by decide +kernel
theorem dX0_clear_89 : decode cX0_clear 89 = .ok (.iconst 1, 1) := by decide +kernel
theorem dX0_clear_90 : decode cX0_clear 90 = .ok (.isub, 1) := by decide +kernel
theorem dX0_clear_91 : decode cX0_clear 91 = .ok (.if_icmp .ge 10, 3) := by decide +kernel
theorem dX0_clear_94 : decode cX0_clear 94 = .ok (.iload 4, 2) := by decide +kernel
theorem dX0_clear_96 : decode cX0_clear 96 = .ok (.iconst 1, 1) := by decide +kernel
theorem dX0_clear_97 : decode cX0_clear 97 = .ok (.iadd, 1) := by decide +kernel
theorem dX0_clear_98 : decode cX0_clear 98 = .ok (.goto 8, 3) := by decide +kernel
theorem dX0_clear_101 : decode cX0_clear 101 = .ok (.iload 4, 2) := by decide +kernel
theorem dX0_clear_103 : decode cX0_clear 103 = .ok (.iload 6, 2) := by decide +kernel
theorem dX0_clear_105 : decode cX0_clear 105 = .ok (.isub, 1) := by decide +kernel
theorem dX0_clear_106 : decode cX0_clear 106 = .ok (.invokevirtual 43, 3) := by decide +kernel
theorem dX0_clear_109 : decode cX0_clear 109 = .ok (.iload_n 3, 1) := by decide +kernel
theorem dX0_clear_110 : decode cX0_clear 110 = .ok (.ifCond .ne 11, 3) := by decide +kernel
theorem dX0_clear_113 : decode cX0_clear 113 = .ok (.iload 5, 2) := by decide +kernel
theorem dX0_clear_115 : decode cX0_clear 115 = .ok (.iload_n 2, 1) := by decide +kernel
theorem dX0_clear_116 : decode cX0_clear 116 = .ok (.iconst 1, 1) := by decide +kernel
theorem dX0_clear_117 : decode cX0_clear 117 = .ok (.isub, 1) := by decide +kernel
theorem dX0_clear_118 : decode cX0_clear 118 = .ok (.if_icmp .ge 27, 3) := by decide +kernel
theorem dX0_clear_121 : decode cX0_clear 121 = .ok (.aload_n 0, 1) := by decide +kernel
theorem dX0_clear_122 : decode cX0_clear 122 = .ok (.iload 4, 2) := by decide +kernel
theorem dX0_clear_124 : decode cX0_clear 124 = .ok (.iconst 2, 1) := by decide +kernel
theorem dX0_clear_125 : decode cX0_clear 125 = .ok (.iload 5, 2) := by decide +kernel
theorem dX0_clear_127 : decode cX0_clear 127 = .ok (.iload_n 2, 1) := by decide +kernel
theorem dX0_clear_128 : decode cX0_clear 128 = .ok (.iconst 1, 1) := by decide +kernel
theorem dX0_clear_129 : decode cX0_clear 129 = .ok (.isub, 1) := by decide +kernel
theorem dX0_clear_130 : decode cX0_clear 130 = .ok (.if_icmp .ge 10, 3) := by decide +kernel
theorem dX0_clear_133 : decode cX0_clear 133 = .ok (.iload 4, 2) := by decide +kernel
theorem dX0_clear_135 : decode cX0_clear 135 = .ok (.iload_n 1, 1) := by decide +kernel
theorem dX0_clear_136 : decode cX0_clear 136 = .ok (.iadd, 1) := by decide +kernel
theorem dX0_clear_137 : decode cX0_clear 137 = .ok (.goto 5, 3) := by decide +kernel
theorem dX0_clear_140 : decode cX0_clear 140 = .ok (.iload 6, 2) := by decide +kernel
theorem dX0_clear_142 : decode cX0_clear 142 = .ok (.invokevirtual 43, 3) := by decide +kernel
theorem dX0_clear_145 : decode cX0_clear 145 = .ok (.iinc 4 1, 3) := by decide +kernel
theorem dX0_clear_148 : decode cX0_clear 148 = .ok (.iinc 6 1, 3) := by decide +kernel
theorem dX0_clear_151 : decode cX0_clear 151 = .ok (.goto (-103), 3) := by decide +kernel
theorem dX0_clear_154 : decode cX0_clear 154 = .ok (.iinc 5 1, 3) := by decide +kernel
theorem dX0_clear_157 : decode cX0_clear 157 = .ok (.goto (-118), 3) := by decide +kernel
theorem dX0_clear_160 : decode cX0_clear 160 = .ok (.aload_n 0, 1) := by decide +kernel
theorem dX0_clear_161 : decode cX0_clear 161 = .ok (.getfield 18, 3) := by decide +kernel
theorem dX0_clear_164 : decode cX0_clear 164 = .ok (.iconst 0, 1) := by decide +kernel
theorem dX0_clear_165 : decode cX0_clear 165 = .ok (.aload_n 0, 1) := by decide +kernel
theorem dX0_clear_166 : decode cX0_clear 166 = .ok (.getfield 21, 3) := by decide +kernel
theorem dX0_clear_169 : decode cX0_clear 169 = .ok (.iconst 0, 1) := by decide +kernel
theorem dX0_clear_170 : decode cX0_clear 170 = .ok (.bipush 64, 2) := by decide +kernel
theorem dX0_clear_172 : decode cX0_clear 172 = .ok (.invokestatic 47, 3) := by decide +kernel
theorem dX0_clear_175 : decode cX0_clear 175 = .ok (.return_, 1) := by decide +kernel
set_option maxRecDepth 20000 in
theorem ggX0_link_X0_has : GoodIn wsX0_link wsX0_has := goodIn_r _ [6, 7, 11, 12, 13, 14, 15, 16, 17, 18] (by decide +kernel) (by decide +kernel)
set_option maxRecDepth 20000 in
theorem gX0_link_X0_has : GoodIn wsX0_link (wsV RX0 53 RX0 yX0_has wsX0_has) := goodIn_app (goodIn_of _ (by decide +kernel)) ggX0_link_X0_has
set_option maxRecDepth 20000 in
theorem ggX0_link_X7_opposite : GoodIn wsX0_link wsX7_opposite := goodIn_r _ [10] (by decide +kernel) (by decide +kernel)
set_option maxRecDepth 20000 in
theorem gX0_link_X7_opposite_n57 : GoodIn wsX0_link (wsX7_opposite) := ggX0_link_X7_opposite
theorem dX0_link_0 : decode cX0_link 0 = .ok (.aload_n 0, 1) := by decide +kernel
theorem dX0_link_1 : decode cX0_link 1 = .ok (.iload_n 1, 1) := by decide +kernel
theorem dX0_link_2 : decode cX0_link 2 = .ok (.invokevirtual 53, 3) := by decide +kernel
theorem dX0_link_5 : decode cX0_link 5 = .ok (.ifCond .eq 36, 3) := by decide +kernel
theorem dX0_link_8 : decode cX0_link 8 = .ok (.aload_n 0, 1) := by decide +kernel
theorem dX0_link_9 : decode cX0_link 9 = .ok (.iload_n 3, 1) := by decide +kernel
theorem dX0_link_10 : decode cX0_link 10 = .ok (.invokevirtual 53, 3) := by decide +kernel
theorem dX0_link_13 : decode cX0_link 13 = .ok (.ifCond .eq 28, 3) := by decide +kernel
theorem dX0_link_16 : decode cX0_link 16 = .ok (.aload_n 0, 1) := by decide +kernel
theorem dX0_link_17 : decode cX0_link 17 = .ok (.getfield 18, 3) := by decide +kernel
theorem dX0_link_20 : decode cX0_link 20 = .ok (.iload_n 1, 1) := by decide +kernel
theorem dX0_link_21 : decode cX0_link 21 = .ok (.iconst 4, 1) := by decide +kernel
theorem dX0_link_22 : decode cX0_link 22 = .ok (.imul, 1) := by decide +kernel
theorem dX0_link_23 : decode cX0_link 23 = .ok (.iload_n 2, 1) := by decide +kernel
theorem dX0_link_24 : decode cX0_link 24 = .ok (.iadd, 1) := by decide +kernel
theorem dX0_link_25 : decode cX0_link 25 = .ok (.iload_n 3, 1) := by decide +kernel
theorem dX0_link_26 : decode cX0_link 26 = .ok (.iastore, 1) := by decide +kernel
theorem dX0_link_27 : decode cX0_link 27 = .ok (.aload_n 0, 1) := by decide +kernel
theorem dX0_link_28 : decode cX0_link 28 = .ok (.getfield 18, 3) := by decide +kernel
theorem dX0_link_31 : decode cX0_link 31 = .ok (.iload_n 3, 1) := by decide +kernel
theorem dX0_link_32 : decode cX0_link 32 = .ok (.iconst 4, 1) := by decide +kernel
theorem dX0_link_33 : decode cX0_link 33 = .ok (.imul, 1) := by decide +kernel
theorem dX0_link_34 : decode cX0_link 34 = .ok (.iload_n 2, 1) := by decide +kernel
theorem dX0_link_35 : decode cX0_link 35 = .ok (.invokestatic 57, 3) := by decide +kernel
theorem dX0_link_38 : decode cX0_link 38 = .ok (.iadd, 1) := by decide +kernel
theorem dX0_link_39 : decode cX0_link 39 = .ok (.iload_n 1, 1) := by decide +kernel
theorem dX0_link_40 : decode cX0_link 40 = .ok (.iastore, 1) := by decide +kernel
theorem dX0_link_41 : decode cX0_link 41 = .ok (.return_, 1) := by decide +kernel
theorem dX0_has_0 : decode cX0_has 0 = .ok (.iload_n 1, 1) := by decide +kernel
theorem dX0_has_1 : decode cX0_has 1 = .ok (.ifCond .lt 21, 3) := by decide +kernel
theorem dX0_has_4 : decode cX0_has 4 = .ok (.iload_n 1, 1) := by decide +kernel
theorem dX0_has_5 : decode cX0_has 5 = .ok (.aload_n 0, 1) := by decide +kernel
theorem dX0_has_6 : decode cX0_has 6 = .ok (.getfield 33, 3) := by decide +kernel
theorem dX0_has_9 : decode cX0_has 9 = .ok (.if_icmp .ge 13, 3) := by decide +kernel
theorem dX0_has_12 : decode cX0_has 12 = .ok (.iload_n 1, 1) := by decide +kernel
theorem dX0_has_13 : decode cX0_has 13 = .ok (.bipush 16, 2) := by decide +kernel
theorem dX0_has_15 : decode cX0_has 15 = .ok (.if_icmp .ge 7, 3) := by decide +kernel
theorem dX0_has_18 : decode cX0_has 18 = .ok (.iconst 1, 1) := by decide +kernel
theorem dX0_has_19 : decode cX0_has 19 = .ok (.goto 4, 3) := by decide +kernel
theorem dX0_has_22 : decode cX0_has 22 = .ok (.iconst 0, 1) := by decide +kernel
theorem dX0_has_23 : decode cX0_has 23 = .ok (.ireturn, 1) := by decide +kernel
theorem dX0_count_0 : decode cX0_count 0 = .ok (.aload_n 0, 1) := by decide +kernel
theorem dX0_count_1 : decode cX0_count 1 = .ok (.getfield 33, 3) := by decide +kernel
theorem dX0_count_4 : decode cX0_count 4 = .ok (.ireturn, 1) := by decide +kernel
theorem dX0_allCells_0 : decode cX0_allCells 0 = .ok (.iconst 1, 1) := by decide +kernel
theorem dX0_allCells_1 : decode cX0_allCells 1 = .ok (.aload_n 0, 1) := by decide +kernel
theorem dX0_allCells_2 : decode cX0_allCells 2 = .ok (.getfield 33, 3) := by decide +kernel
theorem dX0_allCells_5 : decode cX0_allCells 5 = .ok (.ishl, 1) := by decide +kernel
theorem dX0_allCells_6 : decode cX0_allCells 6 = .ok (.iconst 1, 1) := by decide +kernel
theorem dX0_allCells_7 : decode cX0_allCells 7 = .ok (.isub, 1) := by decide +kernel
theorem dX0_allCells_8 : decode cX0_allCells 8 = .ok (.ireturn, 1) := by decide +kernel
theorem dX0_source_0 : decode cX0_source 0 = .ok (.aload_n 0, 1) := by decide +kernel
theorem dX0_source_1 : decode cX0_source 1 = .ok (.getfield 40, 3) := by decide +kernel
theorem dX0_source_4 : decode cX0_source 4 = .ok (.ireturn, 1) := by decide +kernel
theorem dX0_putSource_0 : decode cX0_putSource 0 = .ok (.aload_n 0, 1) := by decide +kernel
theorem dX0_putSource_1 : decode cX0_putSource 1 = .ok (.iload_n 1, 1) := by decide +kernel
theorem dX0_putSource_2 : decode cX0_putSource 2 = .ok (.putfield 40, 3) := by decide +kernel
theorem dX0_putSource_5 : decode cX0_putSource 5 = .ok (.return_, 1) := by decide +kernel
set_option maxRecDepth 20000 in
theorem ggX0_columnOf_X7_at : GoodIn wsX0_columnOf wsX7_at := goodIn_r _ [4] (by decide +kernel) (by decide +kernel)
set_option maxRecDepth 20000 in
theorem gX0_columnOf_X7_at_n61 : GoodIn wsX0_columnOf (wsX7_at) := ggX0_columnOf_X7_at
theorem dX0_columnOf_0 : decode cX0_columnOf 0 = .ok (.aload_n 0, 1) := by decide +kernel
theorem dX0_columnOf_1 : decode cX0_columnOf 1 = .ok (.getfield 15, 3) := by decide +kernel
theorem dX0_columnOf_4 : decode cX0_columnOf 4 = .ok (.iload_n 1, 1) := by decide +kernel
theorem dX0_columnOf_5 : decode cX0_columnOf 5 = .ok (.invokestatic 61, 3) := by decide +kernel
theorem dX0_columnOf_8 : decode cX0_columnOf 8 = .ok (.ireturn, 1) := by decide +kernel
set_option maxRecDepth 20000 in
theorem ggX0_sidesOf_X7_at : GoodIn wsX0_sidesOf wsX7_at := goodIn_r _ [4] (by decide +kernel) (by decide +kernel)
set_option maxRecDepth 20000 in
theorem gX0_sidesOf_X7_at_n61 : GoodIn wsX0_sidesOf (wsX7_at) := ggX0_sidesOf_X7_at
theorem dX0_sidesOf_0 : decode cX0_sidesOf 0 = .ok (.aload_n 0, 1) := by decide +kernel
theorem dX0_sidesOf_1 : decode cX0_sidesOf 1 = .ok (.getfield 9, 3) := by decide +kernel
theorem dX0_sidesOf_4 : decode cX0_sidesOf 4 = .ok (.iload_n 1, 1) := by decide +kernel
theorem dX0_sidesOf_5 : decode cX0_sidesOf 5 = .ok (.invokestatic 61, 3) := by decide +kernel
theorem dX0_sidesOf_8 : decode cX0_sidesOf 8 = .ok (.ireturn, 1) := by decide +kernel
set_option maxRecDepth 20000 in
theorem ggX0_lay_X0_has : GoodIn wsX0_lay wsX0_has := goodIn_r _ [6, 7, 8, 9, 10, 11, 12, 13, 14, 15] (by decide +kernel) (by decide +kernel)
set_option maxRecDepth 20000 in
theorem gX0_lay_X0_has : GoodIn wsX0_lay (wsV RX0 53 RX0 yX0_has wsX0_has) := goodIn_app (goodIn_of _ (by decide +kernel)) ggX0_lay_X0_has
theorem dX0_lay_0 : decode cX0_lay 0 = .ok (.aload_n 0, 1) := by decide +kernel
theorem dX0_lay_1 : decode cX0_lay 1 = .ok (.iload_n 1, 1) := by decide +kernel
theorem dX0_lay_2 : decode cX0_lay 2 = .ok (.invokevirtual 53, 3) := by decide +kernel
theorem dX0_lay_5 : decode cX0_lay 5 = .ok (.ifCond .eq 10, 3) := by decide +kernel
theorem dX0_lay_8 : decode cX0_lay 8 = .ok (.aload_n 0, 1) := by decide +kernel
theorem dX0_lay_9 : decode cX0_lay 9 = .ok (.getfield 9, 3) := by decide +kernel
theorem dX0_lay_12 : decode cX0_lay 12 = .ok (.iload_n 1, 1) := by decide +kernel
theorem dX0_lay_13 : decode cX0_lay 13 = .ok (.iload_n 2, 1) := by decide +kernel
theorem dX0_lay_14 : decode cX0_lay 14 = .ok (.iastore, 1) := by decide +kernel
theorem dX0_lay_15 : decode cX0_lay 15 = .ok (.return_, 1) := by decide +kernel
set_option maxRecDepth 20000 in
theorem ggX0_spin_X0_sidesOf : GoodIn wsX0_spin wsX0_sidesOf := goodIn_r _ [5, 6, 7, 8, 9, 21, 22, 23, 24, 25, 26, 27, 28] (by decide +kernel) (by decide +kernel)
set_option maxRecDepth 20000 in
theorem gX0_spin_X0_sidesOf : GoodIn wsX0_spin (wsV RX0 65 RX0 yX0_sidesOf wsX0_sidesOf) := goodIn_app (goodIn_of _ (by decide +kernel)) ggX0_spin_X0_sidesOf
set_option maxRecDepth 20000 in
theorem ggX0_spin_X7_turned : GoodIn wsX0_spin wsX7_turned := goodIn_r _ [11] (by decide +kernel) (by decide +kernel)
set_option maxRecDepth 20000 in
theorem gX0_spin_X7_turned_n68 : GoodIn wsX0_spin (wsX7_turned) := ggX0_spin_X7_turned
set_option maxRecDepth 20000 in
theorem ggX0_spin_X0_lay : GoodIn wsX0_spin wsX0_lay := goodIn_r _ [15, 6, 16, 17, 18, 4, 19, 20, 21, 22, 23, 24, 25, 26, 27, 28] (by decide +kernel) (by decide +kernel)
set_option maxRecDepth 20000 in
theorem gX0_spin_X0_lay : GoodIn wsX0_spin (wsV RX0 72 RX0 yX0_lay wsX0_lay) := goodIn_app (goodIn_of _ (by decide +kernel)) ggX0_spin_X0_lay
theorem dX0_spin_0 : decode cX0_spin 0 = .ok (.aload_n 0, 1) := by decide +kernel
theorem dX0_spin_1 : decode cX0_spin 1 = .ok (.iload_n 1, 1) := by decide +kernel
theorem dX0_spin_2 : decode cX0_spin 2 = .ok (.aload_n 0, 1) := by decide +kernel
theorem dX0_spin_3 : decode cX0_spin 3 = .ok (.iload_n 1, 1) := by decide +kernel
theorem dX0_spin_4 : decode cX0_spin 4 = .ok (.invokevirtual 65, 3) := by decide +kernel
theorem dX0_spin_7 : decode cX0_spin 7 = .ok (.iload_n 2, 1) := by decide +kernel
theorem dX0_spin_8 : decode cX0_spin 8 = .ok (.invokestatic 68, 3) := by decide +kernel
theorem dX0_spin_11 : decode cX0_spin 11 = .ok (.invokevirtual 72, 3) := by decide +kernel
theorem dX0_spin_14 : decode cX0_spin 14 = .ok (.return_, 1) := by decide +kernel
set_option maxRecDepth 20000 in
theorem ggX0_hasLock_X7_holds : GoodIn wsX0_hasLock wsX7_holds := goodIn_r _ [4] (by decide +kernel) (by decide +kernel)
set_option maxRecDepth 20000 in
theorem gX0_hasLock_X7_holds_n76 : GoodIn wsX0_hasLock (wsX7_holds) := ggX0_hasLock_X7_holds
theorem dX0_hasLock_0 : decode cX0_hasLock 0 = .ok (.aload_n 0, 1) := by decide +kernel
theorem dX0_hasLock_1 : decode cX0_hasLock 1 = .ok (.getfield 37, 3) := by decide +kernel
theorem dX0_hasLock_4 : decode cX0_hasLock 4 = .ok (.iload_n 1, 1) := by decide +kernel
theorem dX0_hasLock_5 : decode cX0_hasLock 5 = .ok (.invokestatic 76, 3) := by decide +kernel
theorem dX0_hasLock_8 : decode cX0_hasLock 8 = .ok (.ireturn, 1) := by decide +kernel
theorem dX0_putLock_0 : decode cX0_putLock 0 = .ok (.aload_n 0, 1) := by decide +kernel
theorem dX0_putLock_1 : decode cX0_putLock 1 = .ok (.iload_n 2, 1) := by decide +kernel
theorem dX0_putLock_2 : decode cX0_putLock 2 = .ok (.ifCond .eq 14, 3) := by decide +kernel
theorem dX0_putLock_5 : decode cX0_putLock 5 = .ok (.aload_n 0, 1) := by decide +kernel
theorem dX0_putLock_6 : decode cX0_putLock 6 = .ok (.getfield 37, 3) := by decide +kernel
theorem dX0_putLock_9 : decode cX0_putLock 9 = .ok (.iconst 1, 1) := by decide +kernel
theorem dX0_putLock_10 : decode cX0_putLock 10 = .ok (.iload_n 1, 1) := by decide +kernel
theorem dX0_putLock_11 : decode cX0_putLock 11 = .ok (.ishl, 1) := by decide +kernel
theorem dX0_putLock_12 : decode cX0_putLock 12 = .ok (.ior, 1) := by decide +kernel
theorem dX0_putLock_13 : decode cX0_putLock 13 = .ok (.goto 13, 3) := by decide +kernel
theorem dX0_putLock_16 : decode cX0_putLock 16 = .ok (.aload_n 0, 1) := by decide +kernel
theorem dX0_putLock_17 : decode cX0_putLock 17 = .ok (.getfield 37, 3) := by decide +kernel
theorem dX0_putLock_20 : decode cX0_putLock 20 = .ok (.iconst 1, 1) := by decide +kernel
theorem dX0_putLock_21 : decode cX0_putLock 21 = .ok (.iload_n 1, 1) := by decide +kernel
theorem dX0_putLock_22 : decode cX0_putLock 22 = .ok (.ishl, 1) := by decide +kernel
theorem dX0_putLock_23 : decode cX0_putLock 23 = .ok (.iconst (-1), 1) := by decide +kernel
theorem dX0_putLock_24 : decode cX0_putLock 24 = .ok (.ixor, 1) := by decide +kernel
theorem dX0_putLock_25 : decode cX0_putLock 25 = .ok (.iand, 1) := by decide +kernel
theorem dX0_putLock_26 : decode cX0_putLock 26 = .ok (.putfield 37, 3) := by decide +kernel
theorem dX0_putLock_29 : decode cX0_putLock 29 = .ok (.return_, 1) := by decide +kernel
theorem dX0_beside_0 : decode cX0_beside 0 = .ok (.iload_n 1, 1) := by decide +kernel
theorem dX0_beside_1 : decode cX0_beside 1 = .ok (.iconst 4, 1) := by decide +kernel
theorem dX0_beside_2 : decode cX0_beside 2 = .ok (.imul, 1) := by decide +kernel
theorem dX0_beside_3 : decode cX0_beside 3 = .ok (.iload_n 2, 1) := by decide +kernel
theorem dX0_beside_4 : decode cX0_beside 4 = .ok (.iadd, 1) := by decide +kernel
theorem dX0_beside_5 : decode cX0_beside 5 = .ok (.istore_n 3, 1) := by decide +kernel
theorem dX0_beside_6 : decode cX0_beside 6 = .ok (.iload_n 3, 1) := by decide +kernel
theorem dX0_beside_7 : decode cX0_beside 7 = .ok (.ifCond .lt 21, 3) := by decide +kernel
theorem dX0_beside_10 : decode cX0_beside 10 = .ok (.iload_n 3, 1) := by decide +kernel
theorem dX0_beside_11 : decode cX0_beside 11 = .ok (.aload_n 0, 1) := by decide +kernel
theorem dX0_beside_12 : decode cX0_beside 12 = .ok (.getfield 18, 3) := by decide +kernel
theorem dX0_beside_15 : decode cX0_beside 15 = .ok (.arraylength, 1) := by decide +kernel
theorem dX0_beside_16 : decode cX0_beside 16 = .ok (.if_icmp .ge 12, 3) := by decide +kernel
theorem dX0_beside_19 : decode cX0_beside 19 = .ok (.aload_n 0, 1) := by decide +kernel
theorem dX0_beside_20 : decode cX0_beside 20 = .ok (.getfield 18, 3) := by decide +kernel
theorem dX0_beside_23 : decode cX0_beside 23 = .ok (.iload_n 3, 1) := by decide +kernel
theorem dX0_beside_24 : decode cX0_beside 24 = .ok (.iaload, 1) := by decide +kernel
theorem dX0_beside_25 : decode cX0_beside 25 = .ok (.goto 4, 3) := by decide +kernel
theorem dX0_beside_28 : decode cX0_beside 28 = .ok (.iconst (-1), 1) := by decide +kernel
theorem dX0_beside_29 : decode cX0_beside 29 = .ok (.ireturn, 1) := by decide +kernel
theorem dX0_across_0 : decode cX0_across 0 = .ok (.iload_n 1, 1) := by decide +kernel
theorem dX0_across_1 : decode cX0_across 1 = .ok (.iconst 4, 1) := by decide +kernel
theorem dX0_across_2 : decode cX0_across 2 = .ok (.imul, 1) := by decide +kernel
theorem dX0_across_3 : decode cX0_across 3 = .ok (.iload_n 2, 1) := by decide +kernel
theorem dX0_across_4 : decode cX0_across 4 = .ok (.iadd, 1) := by decide +kernel
theorem dX0_across_5 : decode cX0_across 5 = .ok (.istore_n 3, 1) := by decide +kernel
theorem dX0_across_6 : decode cX0_across 6 = .ok (.iload_n 3, 1) := by decide +kernel
theorem dX0_across_7 : decode cX0_across 7 = .ok (.ifCond .lt 21, 3) := by decide +kernel
theorem dX0_across_10 : decode cX0_across 10 = .ok (.iload_n 3, 1) := by decide +kernel
theorem dX0_across_11 : decode cX0_across 11 = .ok (.aload_n 0, 1) := by decide +kernel
theorem dX0_across_12 : decode cX0_across 12 = .ok (.getfield 21, 3) := by decide +kernel
theorem dX0_across_15 : decode cX0_across 15 = .ok (.arraylength, 1) := by decide +kernel
theorem dX0_across_16 : decode cX0_across 16 = .ok (.if_icmp .ge 12, 3) := by decide +kernel
theorem dX0_across_19 : decode cX0_across 19 = .ok (.aload_n 0, 1) := by decide +kernel
theorem dX0_across_20 : decode cX0_across 20 = .ok (.getfield 21, 3) := by decide +kernel
theorem dX0_across_23 : decode cX0_across 23 = .ok (.iload_n 3, 1) := by decide +kernel
theorem dX0_across_24 : decode cX0_across 24 = .ok (.iaload, 1) := by decide +kernel
theorem dX0_across_25 : decode cX0_across 25 = .ok (.goto 4, 3) := by decide +kernel
theorem dX0_across_28 : decode cX0_across 28 = .ok (.iconst (-1), 1) := by decide +kernel
theorem dX0_across_29 : decode cX0_across 29 = .ok (.ireturn, 1) := by decide +kernel
set_option maxRecDepth 20000 in
theorem ggX0_putWall_X0_beside : GoodIn wsX0_putWall wsX0_beside := goodIn_r _ [6, 7, 16, 17, 18, 19, 20, 21, 22, 23] (by decide +kernel) (by decide +kernel)
set_option maxRecDepth 20000 in
theorem gX0_putWall_X0_beside : GoodIn wsX0_putWall (wsV RX0 80 RX0 yX0_beside wsX0_beside) := goodIn_app (goodIn_of _ (by decide +kernel)) ggX0_putWall_X0_beside
set_option maxRecDepth 20000 in
theorem ggX0_putWall_X0_has : GoodIn wsX0_putWall wsX0_has := goodIn_r _ [11, 12, 16, 17, 18, 19, 20, 21, 22, 23] (by decide +kernel) (by decide +kernel)
set_option maxRecDepth 20000 in
theorem gX0_putWall_X0_has : GoodIn wsX0_putWall (wsV RX0 53 RX0 yX0_has wsX0_has) := goodIn_app (goodIn_of _ (by decide +kernel)) ggX0_putWall_X0_has
set_option maxRecDepth 20000 in
theorem ggX0_putWall_X7_opposite : GoodIn wsX0_putWall wsX7_opposite := goodIn_r _ [15] (by decide +kernel) (by decide +kernel)
set_option maxRecDepth 20000 in
theorem gX0_putWall_X7_opposite_n57 : GoodIn wsX0_putWall (wsX7_opposite) := ggX0_putWall_X7_opposite
theorem dX0_putWall_0 : decode cX0_putWall 0 = .ok (.aload_n 0, 1) := by decide +kernel
theorem dX0_putWall_1 : decode cX0_putWall 1 = .ok (.iload_n 1, 1) := by decide +kernel
theorem dX0_putWall_2 : decode cX0_putWall 2 = .ok (.iload_n 2, 1) := by decide +kernel
theorem dX0_putWall_3 : decode cX0_putWall 3 = .ok (.invokevirtual 80, 3) := by decide +kernel
theorem dX0_putWall_6 : decode cX0_putWall 6 = .ok (.istore 4, 2) := by decide +kernel
theorem dX0_putWall_8 : decode cX0_putWall 8 = .ok (.aload_n 0, 1) := by decide +kernel
theorem dX0_putWall_9 : decode cX0_putWall 9 = .ok (.iload_n 1, 1) := by decide +kernel
theorem dX0_putWall_10 : decode cX0_putWall 10 = .ok (.invokevirtual 53, 3) := by decide +kernel
theorem dX0_putWall_13 : decode cX0_putWall 13 = .ok (.ifCond .eq 55, 3) := by decide +kernel
theorem dX0_putWall_16 : decode cX0_putWall 16 = .ok (.aload_n 0, 1) := by decide +kernel
theorem dX0_putWall_17 : decode cX0_putWall 17 = .ok (.iload 4, 2) := by decide +kernel
theorem dX0_putWall_19 : decode cX0_putWall 19 = .ok (.invokevirtual 53, 3) := by decide +kernel
theorem dX0_putWall_22 : decode cX0_putWall 22 = .ok (.ifCond .eq 46, 3) := by decide +kernel
theorem dX0_putWall_25 : decode cX0_putWall 25 = .ok (.aload_n 0, 1) := by decide +kernel
theorem dX0_putWall_26 : decode cX0_putWall 26 = .ok (.getfield 21, 3) := by decide +kernel
theorem dX0_putWall_29 : decode cX0_putWall 29 = .ok (.iload_n 1, 1) := by decide +kernel
theorem dX0_putWall_30 : decode cX0_putWall 30 = .ok (.iconst 4, 1) := by decide +kernel
theorem dX0_putWall_31 : decode cX0_putWall 31 = .ok (.imul, 1) := by decide +kernel
theorem dX0_putWall_32 : decode cX0_putWall 32 = .ok (.iload_n 2, 1) := by decide +kernel
theorem dX0_putWall_33 : decode cX0_putWall 33 = .ok (.iadd, 1) := by decide +kernel
theorem dX0_putWall_34 : decode cX0_putWall 34 = .ok (.iload_n 3, 1) := by decide +kernel
theorem dX0_putWall_35 : decode cX0_putWall 35 = .ok (.ifCond .eq 7, 3) := by decide +kernel
theorem dX0_putWall_38 : decode cX0_putWall 38 = .ok (.iconst (-1), 1) := by decide +kernel
theorem dX0_putWall_39 : decode cX0_putWall 39 = .ok (.goto 5, 3) := by decide +kernel
theorem dX0_putWall_42 : decode cX0_putWall 42 = .ok (.iload 4, 2) := by decide +kernel
theorem dX0_putWall_44 : decode cX0_putWall 44 = .ok (.iastore, 1) := by decide +kernel
theorem dX0_putWall_45 : decode cX0_putWall 45 = .ok (.aload_n 0, 1) := by decide +kernel
theorem dX0_putWall_46 : decode cX0_putWall 46 = .ok (.getfield 21, 3) := by decide +kernel
theorem dX0_putWall_49 : decode cX0_putWall 49 = .ok (.iload 4, 2) := by decide +kernel
theorem dX0_putWall_51 : decode cX0_putWall 51 = .ok (.iconst 4, 1) := by decide +kernel
theorem dX0_putWall_52 : decode cX0_putWall 52 = .ok (.imul, 1) := by decide +kernel
theorem dX0_putWall_53 : decode cX0_putWall 53 = .ok (.iload_n 2, 1) := by decide +kernel
theorem dX0_putWall_54 : decode cX0_putWall 54 = .ok (.invokestatic 57, 3) := by decide +kernel
theorem dX0_putWall_57 : decode cX0_putWall 57 = .ok (.iadd, 1) := by decide +kernel
theorem dX0_putWall_58 : decode cX0_putWall 58 = .ok (.iload_n 3, 1) := by decide +kernel
theorem dX0_putWall_59 : decode cX0_putWall 59 = .ok (.ifCond .eq 7, 3) := by decide +kernel
theorem dX0_putWall_62 : decode cX0_putWall 62 = .ok (.iconst (-1), 1) := by decide +kernel
theorem dX0_putWall_63 : decode cX0_putWall 63 = .ok (.goto 4, 3) := by decide +kernel
theorem dX0_putWall_66 : decode cX0_putWall 66 = .ok (.iload_n 1, 1) := by decide +kernel
theorem dX0_putWall_67 : decode cX0_putWall 67 = .ok (.iastore, 1) := by decide +kernel
theorem dX0_putWall_68 : decode cX0_putWall 68 = .ok (.return_, 1) := by decide +kernel
set_option maxRecDepth 20000 in
theorem ggX0_joins_X0_across : GoodIn wsX0_joins wsX0_across := goodIn_r _ [6, 7, 15, 16, 17, 18, 19, 20, 21, 22] (by decide +kernel) (by decide +kernel)
set_option maxRecDepth 20000 in
theorem gX0_joins_X0_across : GoodIn wsX0_joins (wsV RX0 83 RX0 yX0_across wsX0_across) := goodIn_app (goodIn_of _ (by decide +kernel)) ggX0_joins_X0_across
set_option maxRecDepth 20000 in
theorem ggX0_joins_X7_at : GoodIn wsX0_joins wsX7_at := goodIn_r _ [10] (by decide +kernel) (by decide +kernel)
set_option maxRecDepth 20000 in
theorem gX0_joins_X7_at_n61 : GoodIn wsX0_joins (wsX7_at) := ggX0_joins_X7_at
set_option maxRecDepth 20000 in
theorem ggX0_joins_X7_holds : GoodIn wsX0_joins wsX7_holds := goodIn_r _ [12] (by decide +kernel) (by decide +kernel)
set_option maxRecDepth 20000 in
theorem gX0_joins_X7_holds_n76 : GoodIn wsX0_joins (wsX7_holds) := ggX0_joins_X7_holds
set_option maxRecDepth 20000 in
theorem ggX0_joins_X7_opposite : GoodIn wsX0_joins wsX7_opposite := goodIn_r _ [14] (by decide +kernel) (by decide +kernel)
set_option maxRecDepth 20000 in
theorem gX0_joins_X7_opposite_n57 : GoodIn wsX0_joins (wsX7_opposite) := ggX0_joins_X7_opposite
theorem dX0_joins_0 : decode cX0_joins 0 = .ok (.aload_n 0, 1) := by decide +kernel
theorem dX0_joins_1 : decode cX0_joins 1 = .ok (.iload_n 1, 1) := by decide +kernel
theorem dX0_joins_2 : decode cX0_joins 2 = .ok (.iload_n 2, 1) := by decide +kernel
theorem dX0_joins_3 : decode cX0_joins 3 = .ok (.invokevirtual 83, 3) := by decide +kernel
theorem dX0_joins_6 : decode cX0_joins 6 = .ok (.istore_n 3, 1) := by decide +kernel
theorem dX0_joins_7 : decode cX0_joins 7 = .ok (.iload_n 3, 1) := by decide +kernel
theorem dX0_joins_8 : decode cX0_joins 8 = .ok (.iconst (-1), 1) := by decide +kernel
theorem dX0_joins_9 : decode cX0_joins 9 = .ok (.if_icmp .eq 40, 3) := by decide +kernel
theorem dX0_joins_12 : decode cX0_joins 12 = .ok (.aload_n 0, 1) := by decide +kernel
theorem dX0_joins_13 : decode cX0_joins 13 = .ok (.getfield 9, 3) := by decide +kernel
theorem dX0_joins_16 : decode cX0_joins 16 = .ok (.iload_n 1, 1) := by decide +kernel
theorem dX0_joins_17 : decode cX0_joins 17 = .ok (.invokestatic 61, 3) := by decide +kernel
theorem dX0_joins_20 : decode cX0_joins 20 = .ok (.iload_n 2, 1) := by decide +kernel
theorem dX0_joins_21 : decode cX0_joins 21 = .ok (.invokestatic 76, 3) := by decide +kernel
theorem dX0_joins_24 : decode cX0_joins 24 = .ok (.ifCond .eq 25, 3) := by decide +kernel
theorem dX0_joins_27 : decode cX0_joins 27 = .ok (.aload_n 0, 1) := by decide +kernel
theorem dX0_joins_28 : decode cX0_joins 28 = .ok (.getfield 9, 3) := by decide +kernel
theorem dX0_joins_31 : decode cX0_joins 31 = .ok (.iload_n 3, 1) := by decide +kernel
theorem dX0_joins_32 : decode cX0_joins 32 = .ok (.invokestatic 61, 3) := by decide +kernel
theorem dX0_joins_35 : decode cX0_joins 35 = .ok (.iload_n 2, 1) := by decide +kernel
theorem dX0_joins_36 : decode cX0_joins 36 = .ok (.invokestatic 57, 3) := by decide +kernel
theorem dX0_joins_39 : decode cX0_joins 39 = .ok (.invokestatic 76, 3) := by decide +kernel
theorem dX0_joins_42 : decode cX0_joins 42 = .ok (.ifCond .eq 7, 3) := by decide +kernel
theorem dX0_joins_45 : decode cX0_joins 45 = .ok (.iconst 1, 1) := by decide +kernel
theorem dX0_joins_46 : decode cX0_joins 46 = .ok (.goto 4, 3) := by decide +kernel
theorem dX0_joins_49 : decode cX0_joins 49 = .ok (.iconst 0, 1) := by decide +kernel
theorem dX0_joins_50 : decode cX0_joins 50 = .ok (.ireturn, 1) := by decide +kernel
set_option maxRecDepth 20000 in
theorem ggX0_countOpen_X0_sidesOf : GoodIn wsX0_countOpen wsX0_sidesOf := goodIn_r _ [6, 7, 8, 9, 10, 18, 19, 20, 21, 22, 23, 24, 25] (by decide +kernel) (by decide +kernel)
set_option maxRecDepth 20000 in
theorem gX0_countOpen_X0_sidesOf : GoodIn wsX0_countOpen (wsV RX0 65 RX0 yX0_sidesOf wsX0_sidesOf) := goodIn_app (goodIn_of _ (by decide +kernel)) ggX0_countOpen_X0_sidesOf
set_option maxRecDepth 20000 in
theorem ggX0_countOpen_J6_bitCount_0f7a4 : GoodIn wsX0_countOpen wsJ6_bitCount_0f7a4 := goodIn_r _ [14, 15, 16, 17] (by decide +kernel) (by decide +kernel)
set_option maxRecDepth 20000 in
theorem gX0_countOpen_J6_bitCount_0f7a4 : GoodIn wsX0_countOpen (va_wsS RX0 86 yJ6_bitCount_0f7a4 wsJ6_bitCount_0f7a4) := goodIn_app (goodIn_of _ (by decide +kernel)) ggX0_countOpen_J6_bitCount_0f7a4
theorem dX0_countOpen_0 : decode cX0_countOpen 0 = .ok (.iconst 0, 1) := by decide +kernel
theorem dX0_countOpen_1 : decode cX0_countOpen 1 = .ok (.istore_n 1, 1) := by decide +kernel
theorem dX0_countOpen_2 : decode cX0_countOpen 2 = .ok (.iconst 0, 1) := by decide +kernel
theorem dX0_countOpen_3 : decode cX0_countOpen 3 = .ok (.istore_n 2, 1) := by decide +kernel
theorem dX0_countOpen_4 : decode cX0_countOpen 4 = .ok (.iload_n 2, 1) := by decide +kernel
theorem dX0_countOpen_5 : decode cX0_countOpen 5 = .ok (.aload_n 0, 1) := by decide +kernel
theorem dX0_countOpen_6 : decode cX0_countOpen 6 = .ok (.getfield 33, 3) := by decide +kernel
theorem dX0_countOpen_9 : decode cX0_countOpen 9 = .ok (.if_icmp .ge 20, 3) := by decide +kernel
theorem dX0_countOpen_12 : decode cX0_countOpen 12 = .ok (.iload_n 1, 1) := by decide +kernel
theorem dX0_countOpen_13 : decode cX0_countOpen 13 = .ok (.aload_n 0, 1) := by decide +kernel
theorem dX0_countOpen_14 : decode cX0_countOpen 14 = .ok (.iload_n 2, 1) := by decide +kernel
theorem dX0_countOpen_15 : decode cX0_countOpen 15 = .ok (.invokevirtual 65, 3) := by decide +kernel
theorem dX0_countOpen_18 : decode cX0_countOpen 18 = .ok (.invokestatic 86, 3) := by decide +kernel
theorem dX0_countOpen_21 : decode cX0_countOpen 21 = .ok (.iadd, 1) := by decide +kernel
theorem dX0_countOpen_22 : decode cX0_countOpen 22 = .ok (.istore_n 1, 1) := by decide +kernel
theorem dX0_countOpen_23 : decode cX0_countOpen 23 = .ok (.iinc 2 1, 3) := by decide +kernel
theorem dX0_countOpen_26 : decode cX0_countOpen 26 = .ok (.goto (-22), 3) := by decide +kernel
theorem dX0_countOpen_29 : decode cX0_countOpen 29 = .ok (.iload_n 1, 1) := by decide +kernel
theorem dX0_countOpen_30 : decode cX0_countOpen 30 = .ok (.ireturn, 1) := by decide +kernel
set_option maxRecDepth 20000 in
theorem ggX0_countJoined_X0_joinedTo : GoodIn wsX0_countJoined wsX0_joinedTo := goodIn_r _ [6, 7, 8, 9, 5, 10, 11, 12, 13, 14, 15, 16, 17, 18, 19, 20, 21, 22, 23, 31, 32, 33, 34, 35, 36, 37, 38] (by decide +kernel) (by decide +kernel)
set_option maxRecDepth 20000 in
theorem gX0_countJoined_X0_joinedTo : GoodIn wsX0_countJoined (wsV RX0 91 RX0 yX0_joinedTo wsX0_joinedTo) := goodIn_app (goodIn_of _ (by decide +kernel)) ggX0_countJoined_X0_joinedTo
set_option maxRecDepth 20000 in
theorem ggX0_countJoined_J6_bitCount_0f7a4 : GoodIn wsX0_countJoined wsJ6_bitCount_0f7a4 := goodIn_r _ [27, 28, 29, 30] (by decide +kernel) (by decide +kernel)
set_option maxRecDepth 20000 in
theorem gX0_countJoined_J6_bitCount_0f7a4 : GoodIn wsX0_countJoined (va_wsS RX0 86 yJ6_bitCount_0f7a4 wsJ6_bitCount_0f7a4) := goodIn_app (goodIn_of _ (by decide +kernel)) ggX0_countJoined_J6_bitCount_0f7a4
theorem dX0_countJoined_0 : decode cX0_countJoined 0 = .ok (.iconst 0, 1) := by decide +kernel
theorem dX0_countJoined_1 : decode cX0_countJoined 1 = .ok (.istore_n 1, 1) := by decide +kernel
theorem dX0_countJoined_2 : decode cX0_countJoined 2 = .ok (.iconst 0, 1) := by decide +kernel
theorem dX0_countJoined_3 : decode cX0_countJoined 3 = .ok (.istore_n 2, 1) := by decide +kernel
theorem dX0_countJoined_4 : decode cX0_countJoined 4 = .ok (.iload_n 2, 1) := by decide +kernel
theorem dX0_countJoined_5 : decode cX0_countJoined 5 = .ok (.aload_n 0, 1) := by decide +kernel
theorem dX0_countJoined_6 : decode cX0_countJoined 6 = .ok (.getfield 33, 3) := by decide +kernel
theorem dX0_countJoined_9 : decode cX0_countJoined 9 = .ok (.if_icmp .ge 20, 3) := by decide +kernel
theorem dX0_countJoined_12 : decode cX0_countJoined 12 = .ok (.iload_n 1, 1) := by decide +kernel
theorem dX0_countJoined_13 : decode cX0_countJoined 13 = .ok (.aload_n 0, 1) := by decide +kernel
theorem dX0_countJoined_14 : decode cX0_countJoined 14 = .ok (.iload_n 2, 1) := by decide +kernel
theorem dX0_countJoined_15 : decode cX0_countJoined 15 = .ok (.invokevirtual 91, 3) := by decide +kernel
theorem dX0_countJoined_18 : decode cX0_countJoined 18 = .ok (.invokestatic 86, 3) := by decide +kernel
theorem dX0_countJoined_21 : decode cX0_countJoined 21 = .ok (.iadd, 1) := by decide +kernel
theorem dX0_countJoined_22 : decode cX0_countJoined 22 = .ok (.istore_n 1, 1) := by decide +kernel
theorem dX0_countJoined_23 : decode cX0_countJoined 23 = .ok (.iinc 2 1, 3) := by decide +kernel
theorem dX0_countJoined_26 : decode cX0_countJoined 26 = .ok (.goto (-22), 3) := by decide +kernel
theorem dX0_countJoined_29 : decode cX0_countJoined 29 = .ok (.iload_n 1, 1) := by decide +kernel
theorem dX0_countJoined_30 : decode cX0_countJoined 30 = .ok (.ireturn, 1) := by decide +kernel
set_option maxRecDepth 20000 in
theorem ggX0_countEnds_X0_sidesOf : GoodIn wsX0_countEnds wsX0_sidesOf := goodIn_r _ [6, 7, 8, 9, 10, 18, 19, 20, 21, 22, 23, 24, 25] (by decide +kernel) (by decide +kernel)
set_option maxRecDepth 20000 in
theorem gX0_countEnds_X0_sidesOf : GoodIn wsX0_countEnds (wsV RX0 65 RX0 yX0_sidesOf wsX0_sidesOf) := goodIn_app (goodIn_of _ (by decide +kernel)) ggX0_countEnds_X0_sidesOf
set_option maxRecDepth 20000 in
theorem ggX0_countEnds_J6_bitCount_0f7a4 : GoodIn wsX0_countEnds wsJ6_bitCount_0f7a4 := goodIn_r _ [14, 15, 16, 17] (by decide +kernel) (by decide +kernel)
set_option maxRecDepth 20000 in
theorem gX0_countEnds_J6_bitCount_0f7a4 : GoodIn wsX0_countEnds (va_wsS RX0 86 yJ6_bitCount_0f7a4 wsJ6_bitCount_0f7a4) := goodIn_app (goodIn_of _ (by decide +kernel)) ggX0_countEnds_J6_bitCount_0f7a4
theorem dX0_countEnds_0 : decode cX0_countEnds 0 = .ok (.iconst 0, 1) := by decide +kernel
theorem dX0_countEnds_1 : decode cX0_countEnds 1 = .ok (.istore_n 1, 1) := by decide +kernel
theorem dX0_countEnds_2 : decode cX0_countEnds 2 = .ok (.iconst 0, 1) := by decide +kernel
theorem dX0_countEnds_3 : decode cX0_countEnds 3 = .ok (.istore_n 2, 1) := by decide +kernel
theorem dX0_countEnds_4 : decode cX0_countEnds 4 = .ok (.iload_n 2, 1) := by decide +kernel
theorem dX0_countEnds_5 : decode cX0_countEnds 5 = .ok (.aload_n 0, 1) := by decide +kernel
theorem dX0_countEnds_6 : decode cX0_countEnds 6 = .ok (.getfield 33, 3) := by decide +kernel
theorem dX0_countEnds_9 : decode cX0_countEnds 9 = .ok (.if_icmp .ge 24, 3) := by decide +kernel
theorem dX0_countEnds_12 : decode cX0_countEnds 12 = .ok (.aload_n 0, 1) := by decide +kernel
theorem dX0_countEnds_13 : decode cX0_countEnds 13 = .ok (.iload_n 2, 1) := by decide +kernel
theorem dX0_countEnds_14 : decode cX0_countEnds 14 = .ok (.invokevirtual 65, 3) := by decide +kernel
theorem dX0_countEnds_17 : decode cX0_countEnds 17 = .ok (.invokestatic 86, 3) := by decide +kernel
theorem dX0_countEnds_20 : decode cX0_countEnds 20 = .ok (.iconst 1, 1) := by decide +kernel
theorem dX0_countEnds_21 : decode cX0_countEnds 21 = .ok (.if_icmp .ne 6, 3) := by decide +kernel
theorem dX0_countEnds_24 : decode cX0_countEnds 24 = .ok (.iinc 1 1, 3) := by decide +kernel
theorem dX0_countEnds_27 : decode cX0_countEnds 27 = .ok (.iinc 2 1, 3) := by decide +kernel
theorem dX0_countEnds_30 : decode cX0_countEnds 30 = .ok (.goto (-26), 3) := by decide +kernel
theorem dX0_countEnds_33 : decode cX0_countEnds 33 = .ok (.iload_n 1, 1) := by decide +kernel
theorem dX0_countEnds_34 : decode cX0_countEnds 34 = .ok (.ireturn, 1) := by decide +kernel
set_option maxRecDepth 20000 in
theorem ggX0_reachedFrom_X0_joinedTo : GoodIn wsX0_reachedFrom wsX0_joinedTo := goodIn_r _ [6, 7, 8, 9, 5, 10, 11, 12, 13, 14, 15, 16, 17, 18, 19, 20, 21, 22, 23, 27, 28, 29, 30, 31, 32, 33, 34] (by decide +kernel) (by decide +kernel)
set_option maxRecDepth 20000 in
theorem gX0_reachedFrom_X0_joinedTo : GoodIn wsX0_reachedFrom (wsV RX0 91 RX0 yX0_joinedTo wsX0_joinedTo) := goodIn_app (goodIn_of _ (by decide +kernel)) ggX0_reachedFrom_X0_joinedTo
set_option maxRecDepth 20000 in
theorem ggX0_reachedFrom_X7_spread : GoodIn wsX0_reachedFrom wsX7_spread := goodIn_r _ [25, 26, 20, 18, 21] (by decide +kernel) (by decide +kernel)
set_option maxRecDepth 20000 in
theorem gX0_reachedFrom_X7_spread_n94 : GoodIn wsX0_reachedFrom (wsX7_spread) := ggX0_reachedFrom_X7_spread
theorem dX0_reachedFrom_0 : decode cX0_reachedFrom 0 = .ok (.iconst 0, 1) := by decide +kernel
theorem dX0_reachedFrom_1 : decode cX0_reachedFrom 1 = .ok (.istore_n 2, 1) := by decide +kernel
theorem dX0_reachedFrom_2 : decode cX0_reachedFrom 2 = .ok (.iload_n 2, 1) := by decide +kernel
theorem dX0_reachedFrom_3 : decode cX0_reachedFrom 3 = .ok (.bipush 16, 2) := by decide +kernel
theorem dX0_reachedFrom_5 : decode cX0_reachedFrom 5 = .ok (.if_icmp .ge 20, 3) := by decide +kernel
theorem dX0_reachedFrom_8 : decode cX0_reachedFrom 8 = .ok (.aload_n 0, 1) := by decide +kernel
theorem dX0_reachedFrom_9 : decode cX0_reachedFrom 9 = .ok (.getfield 24, 3) := by decide +kernel
theorem dX0_reachedFrom_12 : decode cX0_reachedFrom 12 = .ok (.iload_n 2, 1) := by decide +kernel
theorem dX0_reachedFrom_13 : decode cX0_reachedFrom 13 = .ok (.aload_n 0, 1) := by decide +kernel
theorem dX0_reachedFrom_14 : decode cX0_reachedFrom 14 = .ok (.iload_n 2, 1) := by decide +kernel
theorem dX0_reachedFrom_15 : decode cX0_reachedFrom 15 = .ok (.invokevirtual 91, 3) := by decide +kernel
theorem dX0_reachedFrom_18 : decode cX0_reachedFrom 18 = .ok (.iastore, 1) := by decide +kernel
theorem dX0_reachedFrom_19 : decode cX0_reachedFrom 19 = .ok (.iinc 2 1, 3) := by decide +kernel
theorem dX0_reachedFrom_22 : decode cX0_reachedFrom 22 = .ok (.goto (-20), 3) := by decide +kernel
theorem dX0_reachedFrom_25 : decode cX0_reachedFrom 25 = .ok (.aload_n 0, 1) := by decide +kernel
theorem dX0_reachedFrom_26 : decode cX0_reachedFrom 26 = .ok (.getfield 24, 3) := by decide +kernel
theorem dX0_reachedFrom_29 : decode cX0_reachedFrom 29 = .ok (.iload_n 1, 1) := by decide +kernel
theorem dX0_reachedFrom_30 : decode cX0_reachedFrom 30 = .ok (.iconst (-1), 1) := by decide +kernel
theorem dX0_reachedFrom_31 : decode cX0_reachedFrom 31 = .ok (.invokestatic 94, 3) := by decide +kernel
theorem dX0_reachedFrom_34 : decode cX0_reachedFrom 34 = .ok (.ireturn, 1) := by decide +kernel
set_option maxRecDepth 20000 in
theorem ggX0_joinedTo_X0_joins : GoodIn wsX0_joinedTo wsX0_joins := goodIn_r _ [5, 6, 7, 8, 9, 4, 10, 11, 12, 13, 14, 15, 16, 17, 18, 19, 20, 21, 22, 23, 24, 25, 26] (by decide +kernel) (by decide +kernel)
set_option maxRecDepth 20000 in
theorem gX0_joinedTo_X0_joins : GoodIn wsX0_joinedTo (wsV RX0 98 RX0 yX0_joins wsX0_joins) := goodIn_app (goodIn_of _ (by decide +kernel)) ggX0_joinedTo_X0_joins
set_option maxRecDepth 20000 in
theorem ggX0_joinedTo_X0_across : GoodIn wsX0_joinedTo wsX0_across := goodIn_r _ [10, 11, 19, 20, 21, 22, 23, 24, 25, 26] (by decide +kernel) (by decide +kernel)
set_option maxRecDepth 20000 in
theorem gX0_joinedTo_X0_across : GoodIn wsX0_joinedTo (wsV RX0 83 RX0 yX0_across wsX0_across) := goodIn_app (goodIn_of _ (by decide +kernel)) ggX0_joinedTo_X0_across
theorem dX0_joinedTo_0 : decode cX0_joinedTo 0 = .ok (.iconst 0, 1) := by decide +kernel
theorem dX0_joinedTo_1 : decode cX0_joinedTo 1 = .ok (.istore_n 2, 1) := by decide +kernel
theorem dX0_joinedTo_2 : decode cX0_joinedTo 2 = .ok (.iconst 0, 1) := by decide +kernel
theorem dX0_joinedTo_3 : decode cX0_joinedTo 3 = .ok (.istore_n 3, 1) := by decide +kernel
theorem dX0_joinedTo_4 : decode cX0_joinedTo 4 = .ok (.iload_n 3, 1) := by decide +kernel
theorem dX0_joinedTo_5 : decode cX0_joinedTo 5 = .ok (.iconst 3, 1) := by decide +kernel
theorem dX0_joinedTo_6 : decode cX0_joinedTo 6 = .ok (.if_icmp .gt 29, 3) := by decide +kernel
theorem dX0_joinedTo_9 : decode cX0_joinedTo 9 = .ok (.aload_n 0, 1) := by decide +kernel
theorem dX0_joinedTo_10 : decode cX0_joinedTo 10 = .ok (.iload_n 1, 1) := by decide +kernel
theorem dX0_joinedTo_11 : decode cX0_joinedTo 11 = .ok (.iload_n 3, 1) := by decide +kernel
theorem dX0_joinedTo_12 : decode cX0_joinedTo 12 = .ok (.invokevirtual 98, 3) := by decide +kernel
theorem dX0_joinedTo_15 : decode cX0_joinedTo 15 = .ok (.ifCond .eq 14, 3) := by decide +kernel
theorem dX0_joinedTo_18 : decode cX0_joinedTo 18 = .ok (.iload_n 2, 1) := by decide +kernel
theorem dX0_joinedTo_19 : decode cX0_joinedTo 19 = .ok (.iconst 1, 1) := by decide +kernel
theorem dX0_joinedTo_20 : decode cX0_joinedTo 20 = .ok (.aload_n 0, 1) := by decide +kernel
theorem dX0_joinedTo_21 : decode cX0_joinedTo 21 = .ok (.iload_n 1, 1) := by decide +kernel
theorem dX0_joinedTo_22 : decode cX0_joinedTo 22 = .ok (.iload_n 3, 1) := by decide +kernel
theorem dX0_joinedTo_23 : decode cX0_joinedTo 23 = .ok (.invokevirtual 83, 3) := by decide +kernel
theorem dX0_joinedTo_26 : decode cX0_joinedTo 26 = .ok (.ishl, 1) := by decide +kernel
theorem dX0_joinedTo_27 : decode cX0_joinedTo 27 = .ok (.ior, 1) := by decide +kernel
theorem dX0_joinedTo_28 : decode cX0_joinedTo 28 = .ok (.istore_n 2, 1) := by decide +kernel
theorem dX0_joinedTo_29 : decode cX0_joinedTo 29 = .ok (.iinc 3 1, 3) := by decide +kernel
theorem dX0_joinedTo_32 : decode cX0_joinedTo 32 = .ok (.goto (-28), 3) := by decide +kernel
theorem dX0_joinedTo_35 : decode cX0_joinedTo 35 = .ok (.iload_n 2, 1) := by decide +kernel
theorem dX0_joinedTo_36 : decode cX0_joinedTo 36 = .ok (.ireturn, 1) := by decide +kernel
set_option maxRecDepth 20000 in
theorem ggX0_ownLays_X0_sidesOf : GoodIn wsX0_ownLays wsX0_sidesOf := goodIn_r _ [5, 6, 7, 8, 9, 19, 20, 21, 22, 23, 24, 25, 26] (by decide +kernel) (by decide +kernel)
set_option maxRecDepth 20000 in
theorem gX0_ownLays_X0_sidesOf : GoodIn wsX0_ownLays (wsV RX0 65 RX0 yX0_sidesOf wsX0_sidesOf) := goodIn_app (goodIn_of _ (by decide +kernel)) ggX0_ownLays_X0_sidesOf
set_option maxRecDepth 20000 in
theorem ggX0_ownLays_X0_hasLock : GoodIn wsX0_ownLays wsX0_hasLock := goodIn_r _ [13, 14, 15, 8, 16, 19, 20, 21, 22, 23, 24, 25, 26] (by decide +kernel) (by decide +kernel)
set_option maxRecDepth 20000 in
theorem gX0_ownLays_X0_hasLock : GoodIn wsX0_ownLays (wsV RX0 101 RX0 yX0_hasLock wsX0_hasLock) := goodIn_app (goodIn_of _ (by decide +kernel)) ggX0_ownLays_X0_hasLock
set_option maxRecDepth 20000 in
theorem ggX0_ownLays_X7_turned : GoodIn wsX0_ownLays wsX7_turned := goodIn_r _ [18] (by decide +kernel) (by decide +kernel)
set_option maxRecDepth 20000 in
theorem gX0_ownLays_X7_turned_n68 : GoodIn wsX0_ownLays (wsX7_turned) := ggX0_ownLays_X7_turned
theorem dX0_ownLays_0 : decode cX0_ownLays 0 = .ok (.aload_n 0, 1) := by decide +kernel
theorem dX0_ownLays_1 : decode cX0_ownLays 1 = .ok (.iload_n 1, 1) := by decide +kernel
theorem dX0_ownLays_2 : decode cX0_ownLays 2 = .ok (.invokevirtual 65, 3) := by decide +kernel
theorem dX0_ownLays_5 : decode cX0_ownLays 5 = .ok (.istore_n 2, 1) := by decide +kernel
theorem dX0_ownLays_6 : decode cX0_ownLays 6 = .ok (.aload_n 0, 1) := by decide +kernel
theorem dX0_ownLays_7 : decode cX0_ownLays 7 = .ok (.iload_n 1, 1) := by decide +kernel
theorem dX0_ownLays_8 : decode cX0_ownLays 8 = .ok (.invokevirtual 101, 3) := by decide +kernel
theorem dX0_ownLays_11 : decode cX0_ownLays 11 = .ok (.ifCond .ne 12, 3) := by decide +kernel
theorem dX0_ownLays_14 : decode cX0_ownLays 14 = .ok (.iload_n 2, 1) := by decide +kernel
theorem dX0_ownLays_15 : decode cX0_ownLays 15 = .ok (.iconst 1, 1) := by decide +kernel
theorem dX0_ownLays_16 : decode cX0_ownLays 16 = .ok (.invokestatic 68, 3) := by decide +kernel
theorem dX0_ownLays_19 : decode cX0_ownLays 19 = .ok (.iload_n 2, 1) := by decide +kernel
theorem dX0_ownLays_20 : decode cX0_ownLays 20 = .ok (.if_icmp .ne 5, 3) := by decide +kernel
theorem dX0_ownLays_23 : decode cX0_ownLays 23 = .ok (.iconst 1, 1) := by decide +kernel
theorem dX0_ownLays_24 : decode cX0_ownLays 24 = .ok (.ireturn, 1) := by decide +kernel
theorem dX0_ownLays_25 : decode cX0_ownLays 25 = .ok (.iload_n 2, 1) := by decide +kernel
theorem dX0_ownLays_26 : decode cX0_ownLays 26 = .ok (.iconst 2, 1) := by decide +kernel
theorem dX0_ownLays_27 : decode cX0_ownLays 27 = .ok (.invokestatic 68, 3) := by decide +kernel
theorem dX0_ownLays_30 : decode cX0_ownLays 30 = .ok (.iload_n 2, 1) := by decide +kernel
theorem dX0_ownLays_31 : decode cX0_ownLays 31 = .ok (.if_icmp .ne 7, 3) := by decide +kernel
theorem dX0_ownLays_34 : decode cX0_ownLays 34 = .ok (.iconst 3, 1) := by decide +kernel
theorem dX0_ownLays_35 : decode cX0_ownLays 35 = .ok (.goto 5, 3) := by decide +kernel
theorem dX0_ownLays_38 : decode cX0_ownLays 38 = .ok (.bipush 15, 2) := by decide +kernel
theorem dX0_ownLays_40 : decode cX0_ownLays 40 = .ok (.ireturn, 1) := by decide +kernel
theorem dX1_init_0 : decode cX1_init 0 = .ok (.aload_n 0, 1) := by decide +kernel
theorem dX1_init_1 : decode cX1_init 1 = .ok (.invokespecial 1, 3) := by decide +kernel
theorem dX1_init_4 : decode cX1_init 4 = .ok (.aload_n 0, 1) := by decide +kernel
theorem dX1_init_5 : decode cX1_init 5 = .ok (.bipush 16, 2) := by decide +kernel
theorem dX1_init_7 : decode cX1_init 7 = .ok (.newarray .long, 2) := by decide +kernel
theorem dX1_init_9 : decode cX1_init 9 = .ok (.putfield 7, 3) := by decide +kernel
theorem dX1_init_12 : decode cX1_init 12 = .ok (.aload_n 0, 1) := by decide +kernel
theorem dX1_init_13 : decode cX1_init 13 = .ok (.bipush 16, 2) := by decide +kernel
theorem dX1_init_15 : decode cX1_init 15 = .ok (.newarray .int, 2) := by decide +kernel
theorem dX1_init_17 : decode cX1_init 17 = .ok (.putfield 13, 3) := by decide +kernel
theorem dX1_init_20 : decode cX1_init 20 = .ok (.return_, 1) := by decide +kernel
theorem dX1_clear_0 : decode cX1_clear 0 = .ok (.aload_n 0, 1) := by decide +kernel
theorem dX1_clear_1 : decode cX1_clear 1 = .ok (.iconst 0, 1) := by decide +kernel
theorem dX1_clear_2 : decode cX1_clear 2 = .ok (.putfield 17, 3) := by decide +kernel
theorem dX1_clear_5 : decode cX1_clear 5 = .ok (.return_, 1) := by decide +kernel
theorem dX1_count_0 : decode cX1_count 0 = .ok (.aload_n 0, 1) := by decide +kernel
theorem dX1_count_1 : decode cX1_count 1 = .ok (.getfield 17, 3) := by decide +kernel
theorem dX1_count_4 : decode cX1_count 4 = .ok (.ireturn, 1) := by decide +kernel
theorem dX1_borderAt_0 : decode cX1_borderAt 0 = .ok (.iload_n 1, 1) := by decide +kernel
theorem dX1_borderAt_1 : decode cX1_borderAt 1 = .ok (.ifCond .lt 29, 3) := by decide +kernel
theorem dX1_borderAt_4 : decode cX1_borderAt 4 = .ok (.iload_n 1, 1) := by decide +kernel
theorem dX1_borderAt_5 : decode cX1_borderAt 5 = .ok (.aload_n 0, 1) := by decide +kernel
theorem dX1_borderAt_6 : decode cX1_borderAt 6 = .ok (.getfield 17, 3) := by decide +kernel
theorem dX1_borderAt_9 : decode cX1_borderAt 9 = .ok (.if_icmp .ge 21, 3) := by decide +kernel
theorem dX1_borderAt_12 : decode cX1_borderAt 12 = .ok (.iload_n 1, 1) := by decide +kernel
theorem dX1_borderAt_13 : decode cX1_borderAt 13 = .ok (.aload_n 0, 1) := by decide +kernel
theorem dX1_borderAt_14 : decode cX1_borderAt 14 = .ok (.getfield 7, 3) := by decide +kernel
theorem dX1_borderAt_17 : decode cX1_borderAt 17 = .ok (.arraylength, 1) := by decide +kernel
theorem dX1_borderAt_18 : decode cX1_borderAt 18 = .ok (.if_icmp .ge 12, 3) := by decide +kernel
theorem dX1_borderAt_21 : decode cX1_borderAt 21 = .ok (.aload_n 0, 1) := by decide +kernel
theorem dX1_borderAt_22 : decode cX1_borderAt 22 = .ok (.getfield 7, 3) := by decide +kernel
theorem dX1_borderAt_25 : decode cX1_borderAt 25 = .ok (.iload_n 1, 1) := by decide +kernel
theorem dX1_borderAt_26 : decode cX1_borderAt 26 = .ok (.laload, 1) := by decide +kernel
theorem dX1_borderAt_27 : decode cX1_borderAt 27 = .ok (.goto 4, 3) := by decide +kernel
theorem dX1_borderAt_30 : decode cX1_borderAt 30 = .ok (.lconst 0, 1) := by decide +kernel
theorem dX1_borderAt_31 : decode cX1_borderAt 31 = .ok (.lreturn, 1) := by decide +kernel
theorem dX1_waysAt_0 : decode cX1_waysAt 0 = .ok (.iload_n 1, 1) := by decide +kernel
theorem dX1_waysAt_1 : decode cX1_waysAt 1 = .ok (.ifCond .lt 29, 3) := by decide +kernel
theorem dX1_waysAt_4 : decode cX1_waysAt 4 = .ok (.iload_n 1, 1) := by decide +kernel
theorem dX1_waysAt_5 : decode cX1_waysAt 5 = .ok (.aload_n 0, 1) := by decide +kernel
theorem dX1_waysAt_6 : decode cX1_waysAt 6 = .ok (.getfield 17, 3) := by decide +kernel
theorem dX1_waysAt_9 : decode cX1_waysAt 9 = .ok (.if_icmp .ge 21, 3) := by decide +kernel
theorem dX1_waysAt_12 : decode cX1_waysAt 12 = .ok (.iload_n 1, 1) := by decide +kernel
theorem dX1_waysAt_13 : decode cX1_waysAt 13 = .ok (.aload_n 0, 1) := by decide +kernel
theorem dX1_waysAt_14 : decode cX1_waysAt 14 = .ok (.getfield 13, 3) := by decide +kernel
theorem dX1_waysAt_17 : decode cX1_waysAt 17 = .ok (.arraylength, 1) := by decide +kernel
theorem dX1_waysAt_18 : decode cX1_waysAt 18 = .ok (.if_icmp .ge 12, 3) := by decide +kernel
theorem dX1_waysAt_21 : decode cX1_waysAt 21 = .ok (.aload_n 0, 1) := by decide +kernel
theorem dX1_waysAt_22 : decode cX1_waysAt 22 = .ok (.getfield 13, 3) := by decide +kernel
theorem dX1_waysAt_25 : decode cX1_waysAt 25 = .ok (.iload_n 1, 1) := by decide +kernel
theorem dX1_waysAt_26 : decode cX1_waysAt 26 = .ok (.iaload, 1) := by decide +kernel
theorem dX1_waysAt_27 : decode cX1_waysAt 27 = .ok (.goto 4, 3) := by decide +kernel
theorem dX1_waysAt_30 : decode cX1_waysAt 30 = .ok (.iconst 0, 1) := by decide +kernel
theorem dX1_waysAt_31 : decode cX1_waysAt 31 = .ok (.ireturn, 1) := by decide +kernel
set_option maxRecDepth 20000 in
theorem ggX1_add_X1_makeRoom : GoodIn wsX1_add wsX1_makeRoom := goodIn_r _ [8, 2, 1, 3, 9, 10, 11, 12, 13, 14, 15, 16, 17, 18, 19, 20, 21, 22, 23, 24, 25, 26, 27, 28, 29, 30, 31, 32, 33, 34, 35, 36, 37, 38] (by decide +kernel) (by decide +kernel)
set_option maxRecDepth 20000 in
theorem gX1_add_X1_makeRoom : GoodIn wsX1_add (wsV RX1 21 RX1 yX1_makeRoom wsX1_makeRoom) := goodIn_app (goodIn_of _ (by decide +kernel)) ggX1_add_X1_makeRoom
theorem dX1_add_0 : decode cX1_add 0 = .ok (.iconst 0, 1) := by decide +kernel
theorem dX1_add_1 : decode cX1_add 1 = .ok (.istore 4, 2) := by decide +kernel
theorem dX1_add_3 : decode cX1_add 3 = .ok (.iload 4, 2) := by decide +kernel
theorem dX1_add_5 : decode cX1_add 5 = .ok (.aload_n 0, 1) := by decide +kernel
theorem dX1_add_6 : decode cX1_add 6 = .ok (.getfield 17, 3) := by decide +kernel
theorem dX1_add_9 : decode cX1_add 9 = .ok (.if_icmp .ge 53, 3) := by decide +kernel
theorem dX1_add_12 : decode cX1_add 12 = .ok (.iload 4, 2) := by decide +kernel
theorem dX1_add_14 : decode cX1_add 14 = .ok (.aload_n 0, 1) := by decide +kernel
theorem dX1_add_15 : decode cX1_add 15 = .ok (.getfield 7, 3) := by decide +kernel
theorem dX1_add_18 : decode cX1_add 18 = .ok (.arraylength, 1) := by decide +kernel
theorem dX1_add_19 : decode cX1_add 19 = .ok (.if_icmp .ge 43, 3) := by decide +kernel
theorem dX1_add_22 : decode cX1_add 22 = .ok (.iload 4, 2) := by decide +kernel
theorem dX1_add_24 : decode cX1_add 24 = .ok (.aload_n 0, 1) := by decide +kernel
theorem dX1_add_25 : decode cX1_add 25 = .ok (.getfield 13, 3) := by decide +kernel
theorem dX1_add_28 : decode cX1_add 28 = .ok (.arraylength, 1) := by decide +kernel
theorem dX1_add_29 : decode cX1_add 29 = .ok (.if_icmp .ge 33, 3) := by decide +kernel
theorem dX1_add_32 : decode cX1_add 32 = .ok (.aload_n 0, 1) := by decide +kernel
theorem dX1_add_33 : decode cX1_add 33 = .ok (.getfield 7, 3) := by decide +kernel
theorem dX1_add_36 : decode cX1_add 36 = .ok (.iload 4, 2) := by decide +kernel
theorem dX1_add_38 : decode cX1_add 38 = .ok (.laload, 1) := by decide +kernel
theorem dX1_add_39 : decode cX1_add 39 = .ok (.lload_n 1, 1) := by decide +kernel
theorem dX1_add_40 : decode cX1_add 40 = .ok (.lcmp, 1) := by decide +kernel
theorem dX1_add_41 : decode cX1_add 41 = .ok (.ifCond .ne 15, 3) := by decide +kernel
theorem dX1_add_44 : decode cX1_add 44 = .ok (.aload_n 0, 1) := by decide +kernel
theorem dX1_add_45 : decode cX1_add 45 = .ok (.getfield 13, 3) := by decide +kernel
theorem dX1_add_48 : decode cX1_add 48 = .ok (.iload 4, 2) := by decide +kernel
theorem dX1_add_50 : decode cX1_add 50 = .ok (.dup2, 1) := by decide +kernel
theorem dX1_add_51 : decode cX1_add 51 = .ok (.iaload, 1) := by decide +kernel
theorem dX1_add_52 : decode cX1_add 52 = .ok (.iload_n 3, 1) := by decide +kernel
theorem dX1_add_53 : decode cX1_add 53 = .ok (.iadd, 1) := by decide +kernel
theorem dX1_add_54 : decode cX1_add 54 = .ok (.iastore, 1) := by decide +kernel
theorem dX1_add_55 : decode cX1_add 55 = .ok (.return_, 1) := by decide +kernel
theorem dX1_add_56 : decode cX1_add 56 = .ok (.iinc 4 1, 3) := by decide +kernel
theorem dX1_add_59 : decode cX1_add 59 = .ok (.goto (-56), 3) := by decide +kernel
theorem dX1_add_62 : decode cX1_add 62 = .ok (.aload_n 0, 1) := by decide +kernel
theorem dX1_add_63 : decode cX1_add 63 = .ok (.invokevirtual 21, 3) := by decide +kernel
theorem dX1_add_66 : decode cX1_add 66 = .ok (.aload_n 0, 1) := by decide +kernel
theorem dX1_add_67 : decode cX1_add 67 = .ok (.getfield 17, 3) := by decide +kernel
theorem dX1_add_70 : decode cX1_add 70 = .ok (.ifCond .lt 57, 3) := by decide +kernel
theorem dX1_add_73 : decode cX1_add 73 = .ok (.aload_n 0, 1) := by decide +kernel
theorem dX1_add_74 : decode cX1_add 74 = .ok (.getfield 17, 3) := by decide +kernel
theorem dX1_add_77 : decode cX1_add 77 = .ok (.aload_n 0, 1) := by decide +kernel
theorem dX1_add_78 : decode cX1_add 78 = .ok (.getfield 7, 3) := by decide +kernel
theorem dX1_add_81 : decode cX1_add 81 = .ok (.arraylength, 1) := by decide +kernel
theorem dX1_add_82 : decode cX1_add 82 = .ok (.if_icmp .ge 45, 3) := by decide +kernel
theorem dX1_add_85 : decode cX1_add 85 = .ok (.aload_n 0, 1) := by decide +kernel
theorem dX1_add_86 : decode cX1_add 86 = .ok (.getfield 17, 3) := by decide +kernel
theorem dX1_add_89 : decode cX1_add 89 = .ok (.aload_n 0, 1) := by decide +kernel
theorem dX1_add_90 : decode cX1_add 90 = .ok (.getfield 13, 3) := by decide +kernel
theorem dX1_add_93 : decode cX1_add 93 = .ok (.arraylength, 1) := by decide +kernel
theorem dX1_add_94 : decode cX1_add 94 = .ok (.if_icmp .ge 33, 3) := by decide +kernel
theorem dX1_add_97 : decode cX1_add 97 = .ok (.aload_n 0, 1) := by decide +kernel
theorem dX1_add_98 : decode cX1_add 98 = .ok (.getfield 7, 3) := by decide +kernel
theorem dX1_add_101 : decode cX1_add 101 = .ok (.aload_n 0, 1) := by decide +kernel
theorem dX1_add_102 : decode cX1_add 102 = .ok (.getfield 17, 3) := by decide +kernel
theorem dX1_add_105 : decode cX1_add 105 = .ok (.lload_n 1, 1) := by decide +kernel
theorem dX1_add_106 : decode cX1_add 106 = .ok (.lastore, 1) := by decide +kernel
theorem dX1_add_107 : decode cX1_add 107 = .ok (.aload_n 0, 1) := by decide +kernel
theorem dX1_add_108 : decode cX1_add 108 = .ok (.getfield 13, 3) := by decide +kernel
theorem dX1_add_111 : decode cX1_add 111 = .ok (.aload_n 0, 1) := by decide +kernel
theorem dX1_add_112 : decode cX1_add 112 = .ok (.getfield 17, 3) := by decide +kernel
theorem dX1_add_115 : decode cX1_add 115 = .ok (.iload_n 3, 1) := by decide +kernel
theorem dX1_add_116 : decode cX1_add 116 = .ok (.iastore, 1) := by decide +kernel
theorem dX1_add_117 : decode cX1_add 117 = .ok (.aload_n 0, 1) := by decide +kernel
theorem dX1_add_118 : decode cX1_add 118 = .ok (.dup, 1) := by decide +kernel
theorem dX1_add_119 : decode cX1_add 119 = .ok (.getfield 17, 3) := by decide +kernel
theorem dX1_add_122 : decode cX1_add 122 = .ok (.iconst 1, 1) := by decide +kernel
theorem dX1_add_123 : decode cX1_add 123 = .ok (.iadd, 1) := by decide +kernel
theorem dX1_add_124 : decode cX1_add 124 = .ok (.putfield 17, 3) := by decide +kernel
theorem dX1_add_127 : decode cX1_add 127 = .ok (.return_, 1) := by decide +kernel
set_option maxRecDepth 20000 in
theorem ggX1_makeRoom_J7_copyOf_c38d5 : GoodIn wsX1_makeRoom wsJ7_copyOf_c38d5 := goodIn_r _ [7, 8, 9, 10, 11, 12, 13, 14, 15, 16, 17, 18, 19, 20, 21, 22] (by decide +kernel) (by decide +kernel)
set_option maxRecDepth 20000 in
theorem gX1_makeRoom_J7_copyOf_c38d5 : GoodIn wsX1_makeRoom (va_wsS RX1 24 yJ7_copyOf_c38d5 wsJ7_copyOf_c38d5) := goodIn_app (goodIn_of _ (by decide +kernel)) ggX1_makeRoom_J7_copyOf_c38d5
set_option maxRecDepth 20000 in
theorem ggX1_makeRoom_J7_copyOf_59c91 : GoodIn wsX1_makeRoom wsJ7_copyOf_59c91 := goodIn_r _ [25, 26, 27, 10, 11, 28, 29, 30, 15, 16, 17, 18, 19, 20, 21, 22] (by decide +kernel) (by decide +kernel)
set_option maxRecDepth 20000 in
theorem gX1_makeRoom_J7_copyOf_59c91 : GoodIn wsX1_makeRoom (va_wsS RX1 30 yJ7_copyOf_59c91 wsJ7_copyOf_59c91) := goodIn_app (goodIn_of _ (by decide +kernel)) ggX1_makeRoom_J7_copyOf_59c91
theorem dX1_makeRoom_0 : decode cX1_makeRoom 0 = .ok (.iconst 2, 1) := by decide +kernel
theorem dX1_makeRoom_1 : decode cX1_makeRoom 1 = .ok (.aload_n 0, 1) := by decide +kernel
theorem dX1_makeRoom_2 : decode cX1_makeRoom 2 = .ok (.getfield 7, 3) := by decide +kernel
theorem dX1_makeRoom_5 : decode cX1_makeRoom 5 = .ok (.arraylength, 1) := by decide +kernel
theorem dX1_makeRoom_6 : decode cX1_makeRoom 6 = .ok (.imul, 1) := by decide +kernel
theorem dX1_makeRoom_7 : decode cX1_makeRoom 7 = .ok (.istore_n 1, 1) := by decide +kernel
theorem dX1_makeRoom_8 : decode cX1_makeRoom 8 = .ok (.aload_n 0, 1) := by decide +kernel
theorem dX1_makeRoom_9 : decode cX1_makeRoom 9 = .ok (.getfield 17, 3) := by decide +kernel
theorem dX1_makeRoom_12 : decode cX1_makeRoom 12 = .ok (.aload_n 0, 1) := by decide +kernel
theorem dX1_makeRoom_13 : decode cX1_makeRoom 13 = .ok (.getfield 7, 3) := by decide +kernel
theorem dX1_makeRoom_16 : decode cX1_makeRoom 16 = .ok (.arraylength, 1) := by decide +kernel
theorem dX1_makeRoom_17 : decode cX1_makeRoom 17 = .ok (.if_icmp .lt 31, 3) := by decide +kernel
theorem dX1_makeRoom_20 : decode cX1_makeRoom 20 = .ok (.iload_n 1, 1) := by decide +kernel
theorem dX1_makeRoom_21 : decode cX1_makeRoom 21 = .ok (.ifCond .le 27, 3) := by decide +kernel
theorem dX1_makeRoom_24 : decode cX1_makeRoom 24 = .ok (.aload_n 0, 1) := by decide +kernel
theorem dX1_makeRoom_25 : decode cX1_makeRoom 25 = .ok (.aload_n 0, 1) := by decide +kernel
theorem dX1_makeRoom_26 : decode cX1_makeRoom 26 = .ok (.getfield 7, 3) := by decide +kernel
theorem dX1_makeRoom_29 : decode cX1_makeRoom 29 = .ok (.iload_n 1, 1) := by decide +kernel
theorem dX1_makeRoom_30 : decode cX1_makeRoom 30 = .ok (.invokestatic 24, 3) := by decide +kernel
theorem dX1_makeRoom_33 : decode cX1_makeRoom 33 = .ok (.putfield 7, 3) := by decide +kernel
theorem dX1_makeRoom_36 : decode cX1_makeRoom 36 = .ok (.aload_n 0, 1) := by decide +kernel
theorem dX1_makeRoom_37 : decode cX1_makeRoom 37 = .ok (.aload_n 0, 1) := by decide +kernel
theorem dX1_makeRoom_38 : decode cX1_makeRoom 38 = .ok (.getfield 13, 3) := by decide +kernel
theorem dX1_makeRoom_41 : decode cX1_makeRoom 41 = .ok (.iload_n 1, 1) := by decide +kernel
theorem dX1_makeRoom_42 : decode cX1_makeRoom 42 = .ok (.invokestatic 30, 3) := by decide +kernel
theorem dX1_makeRoom_45 : decode cX1_makeRoom 45 = .ok (.putfield 13, 3) := by decide +kernel
theorem dX1_makeRoom_48 : decode cX1_makeRoom 48 = .ok (.return_, 1) := by decide +kernel
theorem dX2_init_0 : decode cX2_init 0 = .ok (.aload_n 0, 1) := by decide +kernel
theorem dX2_init_1 : decode cX2_init 1 = .ok (.invokespecial 3, 3) := by decide +kernel
theorem dX2_init_4 : decode cX2_init 4 = .ok (.aload_n 0, 1) := by decide +kernel
theorem dX2_init_5 : decode cX2_init 5 = .ok (.sipush 512, 3) := by decide +kernel
theorem dX2_init_8 : decode cX2_init 8 = .ok (.newarray .int, 2) := by decide +kernel
theorem dX2_init_10 : decode cX2_init 10 = .ok (.putfield 11, 3) := by decide +kernel
theorem dX2_init_13 : decode cX2_init 13 = .ok (.return_, 1) := by decide +kernel
theorem dX2_forget_0 : decode cX2_forget 0 = .ok (.aload_n 0, 1) := by decide +kernel
theorem dX2_forget_1 : decode cX2_forget 1 = .ok (.iconst 0, 1) := by decide +kernel
theorem dX2_forget_2 : decode cX2_forget 2 = .ok (.putfield 15, 3) := by decide +kernel
theorem dX2_forget_5 : decode cX2_forget 5 = .ok (.aload_n 0, 1) := by decide +kernel
theorem dX2_forget_6 : decode cX2_forget 6 = .ok (.iconst 0, 1) := by decide +kernel
theorem dX2_forget_7 : decode cX2_forget 7 = .ok (.putfield 19, 3) := by decide +kernel
theorem dX2_forget_10 : decode cX2_forget 10 = .ok (.return_, 1) := by decide +kernel
theorem dX2_done_0 : decode cX2_done 0 = .ok (.aload_n 0, 1) := by decide +kernel
theorem dX2_done_1 : decode cX2_done 1 = .ok (.getfield 15, 3) := by decide +kernel
theorem dX2_done_4 : decode cX2_done 4 = .ok (.ireturn, 1) := by decide +kernel
theorem dX2_isFull_0 : decode cX2_isFull 0 = .ok (.aload_n 0, 1) := by decide +kernel
theorem dX2_isFull_1 : decode cX2_isFull 1 = .ok (.getfield 15, 3) := by decide +kernel
theorem dX2_isFull_4 : decode cX2_isFull 4 = .ok (.sipush 512, 3) := by decide +kernel
theorem dX2_isFull_7 : decode cX2_isFull 7 = .ok (.if_icmp .lt 7, 3) := by decide +kernel
theorem dX2_isFull_10 : decode cX2_isFull 10 = .ok (.iconst 1, 1) := by decide +kernel
theorem dX2_isFull_11 : decode cX2_isFull 11 = .ok (.goto 4, 3) := by decide +kernel
theorem dX2_isFull_14 : decode cX2_isFull 14 = .ok (.iconst 0, 1) := by decide +kernel
theorem dX2_isFull_15 : decode cX2_isFull 15 = .ok (.ireturn, 1) := by decide +kernel
theorem dX2_note_0 : decode cX2_note 0 = .ok (.aload_n 0, 1) := by decide +kernel
theorem dX2_note_1 : decode cX2_note 1 = .ok (.getfield 15, 3) := by decide +kernel
theorem dX2_note_4 : decode cX2_note 4 = .ok (.ifCond .lt 41, 3) := by decide +kernel
theorem dX2_note_7 : decode cX2_note 7 = .ok (.aload_n 0, 1) := by decide +kernel
theorem dX2_note_8 : decode cX2_note 8 = .ok (.getfield 15, 3) := by decide +kernel
theorem dX2_note_11 : decode cX2_note 11 = .ok (.sipush 512, 3) := by decide +kernel
theorem dX2_note_14 : decode cX2_note 14 = .ok (.if_icmp .ge 31, 3) := by decide +kernel
theorem dX2_note_17 : decode cX2_note 17 = .ok (.aload_n 0, 1) := by decide +kernel
theorem dX2_note_18 : decode cX2_note 18 = .ok (.getfield 11, 3) := by decide +kernel
theorem dX2_note_21 : decode cX2_note 21 = .ok (.aload_n 0, 1) := by decide +kernel
theorem dX2_note_22 : decode cX2_note 22 = .ok (.getfield 15, 3) := by decide +kernel
theorem dX2_note_25 : decode cX2_note 25 = .ok (.iload_n 1, 1) := by decide +kernel
theorem dX2_note_26 : decode cX2_note 26 = .ok (.iastore, 1) := by decide +kernel
theorem dX2_note_27 : decode cX2_note 27 = .ok (.aload_n 0, 1) := by decide +kernel
theorem dX2_note_28 : decode cX2_note 28 = .ok (.dup, 1) := by decide +kernel
theorem dX2_note_29 : decode cX2_note 29 = .ok (.getfield 15, 3) := by decide +kernel
theorem dX2_note_32 : decode cX2_note 32 = .ok (.iconst 1, 1) := by decide +kernel
theorem dX2_note_33 : decode cX2_note 33 = .ok (.iadd, 1) := by decide +kernel
theorem dX2_note_34 : decode cX2_note 34 = .ok (.putfield 15, 3) := by decide +kernel
theorem dX2_note_37 : decode cX2_note 37 = .ok (.aload_n 0, 1) := by decide +kernel
theorem dX2_note_38 : decode cX2_note 38 = .ok (.aload_n 0, 1) := by decide +kernel
theorem dX2_note_39 : decode cX2_note 39 = .ok (.getfield 15, 3) := by decide +kernel
theorem dX2_note_42 : decode cX2_note 42 = .ok (.putfield 19, 3) := by decide +kernel
theorem dX2_note_45 : decode cX2_note 45 = .ok (.return_, 1) := by decide +kernel
theorem dX2_stepBack_0 : decode cX2_stepBack 0 = .ok (.aload_n 0, 1) := by decide +kernel
theorem dX2_stepBack_1 : decode cX2_stepBack 1 = .ok (.getfield 15, 3) := by decide +kernel
theorem dX2_stepBack_4 : decode cX2_stepBack 4 = .ok (.ifCond .le 13, 3) := by decide +kernel
theorem dX2_stepBack_7 : decode cX2_stepBack 7 = .ok (.aload_n 0, 1) := by decide +kernel
theorem dX2_stepBack_8 : decode cX2_stepBack 8 = .ok (.getfield 15, 3) := by decide +kernel
theorem dX2_stepBack_11 : decode cX2_stepBack 11 = .ok (.sipush 512, 3) := by decide +kernel
theorem dX2_stepBack_14 : decode cX2_stepBack 14 = .ok (.if_icmp .le 5, 3) := by decide +kernel
theorem dX2_stepBack_17 : decode cX2_stepBack 17 = .ok (.iconst (-1), 1) := by decide +kernel
theorem dX2_stepBack_18 : decode cX2_stepBack 18 = .ok (.ireturn, 1) := by decide +kernel
theorem dX2_stepBack_19 : decode cX2_stepBack 19 = .ok (.aload_n 0, 1) := by decide +kernel
theorem dX2_stepBack_20 : decode cX2_stepBack 20 = .ok (.dup, 1) := by decide +kernel
theorem dX2_stepBack_21 : decode cX2_stepBack 21 = .ok (.getfield 15, 3) := by decide +kernel
theorem dX2_stepBack_24 : decode cX2_stepBack 24 = .ok (.iconst 1, 1) := by decide +kernel
theorem dX2_stepBack_25 : decode cX2_stepBack 25 = .ok (.isub, 1) := by decide +kernel
theorem dX2_stepBack_26 : decode cX2_stepBack 26 = .ok (.putfield 15, 3) := by decide +kernel
theorem dX2_stepBack_29 : decode cX2_stepBack 29 = .ok (.aload_n 0, 1) := by decide +kernel
theorem dX2_stepBack_30 : decode cX2_stepBack 30 = .ok (.getfield 11, 3) := by decide +kernel
theorem dX2_stepBack_33 : decode cX2_stepBack 33 = .ok (.aload_n 0, 1) := by decide +kernel
theorem dX2_stepBack_34 : decode cX2_stepBack 34 = .ok (.getfield 15, 3) := by decide +kernel
theorem dX2_stepBack_37 : decode cX2_stepBack 37 = .ok (.iaload, 1) := by decide +kernel
theorem dX2_stepBack_38 : decode cX2_stepBack 38 = .ok (.ireturn, 1) := by decide +kernel
theorem dX2_stepOn_0 : decode cX2_stepOn 0 = .ok (.aload_n 0, 1) := by decide +kernel
theorem dX2_stepOn_1 : decode cX2_stepOn 1 = .ok (.getfield 15, 3) := by decide +kernel
theorem dX2_stepOn_4 : decode cX2_stepOn 4 = .ok (.ifCond .lt 24, 3) := by decide +kernel
theorem dX2_stepOn_7 : decode cX2_stepOn 7 = .ok (.aload_n 0, 1) := by decide +kernel
theorem dX2_stepOn_8 : decode cX2_stepOn 8 = .ok (.getfield 15, 3) := by decide +kernel
theorem dX2_stepOn_11 : decode cX2_stepOn 11 = .ok (.aload_n 0, 1) := by decide +kernel
theorem dX2_stepOn_12 : decode cX2_stepOn 12 = .ok (.getfield 19, 3) := by decide +kernel
theorem dX2_stepOn_15 : decode cX2_stepOn 15 = .ok (.if_icmp .ge 13, 3) := by decide +kernel
theorem dX2_stepOn_18 : decode cX2_stepOn 18 = .ok (.aload_n 0, 1) := by decide +kernel
theorem dX2_stepOn_19 : decode cX2_stepOn 19 = .ok (.getfield 15, 3) := by decide +kernel
theorem dX2_stepOn_22 : decode cX2_stepOn 22 = .ok (.sipush 512, 3) := by decide +kernel
theorem dX2_stepOn_25 : decode cX2_stepOn 25 = .ok (.if_icmp .lt 5, 3) := by decide +kernel
theorem dX2_stepOn_28 : decode cX2_stepOn 28 = .ok (.iconst (-1), 1) := by decide +kernel
theorem dX2_stepOn_29 : decode cX2_stepOn 29 = .ok (.ireturn, 1) := by decide +kernel
theorem dX2_stepOn_30 : decode cX2_stepOn 30 = .ok (.aload_n 0, 1) := by decide +kernel
theorem dX2_stepOn_31 : decode cX2_stepOn 31 = .ok (.dup, 1) := by decide +kernel
theorem dX2_stepOn_32 : decode cX2_stepOn 32 = .ok (.getfield 15, 3) := by decide +kernel
theorem dX2_stepOn_35 : decode cX2_stepOn 35 = .ok (.iconst 1, 1) := by decide +kernel
theorem dX2_stepOn_36 : decode cX2_stepOn 36 = .ok (.iadd, 1) := by decide +kernel
theorem dX2_stepOn_37 : decode cX2_stepOn 37 = .ok (.putfield 15, 3) := by decide +kernel
theorem dX2_stepOn_40 : decode cX2_stepOn 40 = .ok (.aload_n 0, 1) := by decide +kernel
theorem dX2_stepOn_41 : decode cX2_stepOn 41 = .ok (.getfield 11, 3) := by decide +kernel
theorem dX2_stepOn_44 : decode cX2_stepOn 44 = .ok (.aload_n 0, 1) := by decide +kernel
theorem dX2_stepOn_45 : decode cX2_stepOn 45 = .ok (.getfield 15, 3) := by decide +kernel
theorem dX2_stepOn_48 : decode cX2_stepOn 48 = .ok (.iconst 1, 1) := by decide +kernel
theorem dX2_stepOn_49 : decode cX2_stepOn 49 = .ok (.isub, 1) := by decide +kernel
theorem dX2_stepOn_50 : decode cX2_stepOn 50 = .ok (.iaload, 1) := by decide +kernel
theorem dX2_stepOn_51 : decode cX2_stepOn 51 = .ok (.ireturn, 1) := by decide +kernel
theorem dX3_init_0 : decode cX3_init 0 = .ok (.aload_n 0, 1) := by decide +kernel
theorem dX3_init_1 : decode cX3_init 1 = .ok (.invokespecial 3, 3) := by decide +kernel
theorem dX3_init_4 : decode cX3_init 4 = .ok (.aload_n 0, 1) := by decide +kernel
theorem dX3_init_5 : decode cX3_init 5 = .ok (.bipush 32, 2) := by decide +kernel
theorem dX3_init_7 : decode cX3_init 7 = .ok (.newarray .int, 2) := by decide +kernel
theorem dX3_init_9 : decode cX3_init 9 = .ok (.putfield 11, 3) := by decide +kernel
theorem dX3_init_12 : decode cX3_init 12 = .ok (.aload_n 0, 1) := by decide +kernel
theorem dX3_init_13 : decode cX3_init 13 = .ok (.bipush 32, 2) := by decide +kernel
theorem dX3_init_15 : decode cX3_init 15 = .ok (.newarray .int, 2) := by decide +kernel
theorem dX3_init_17 : decode cX3_init 17 = .ok (.putfield 15, 3) := by decide +kernel
theorem dX3_init_20 : decode cX3_init 20 = .ok (.aload_n 0, 1) := by decide +kernel
theorem dX3_init_21 : decode cX3_init 21 = .ok (.aload_n 1, 1) := by decide +kernel
theorem dX3_init_22 : decode cX3_init 22 = .ok (.putfield 18, 3) := by decide +kernel
theorem dX3_init_25 : decode cX3_init 25 = .ok (.return_, 1) := by decide +kernel
set_option maxRecDepth 20000 in
theorem ggX3_fillBoard_X3_listPairs : GoodIn wsX3_fillBoard wsX3_listPairs := goodIn_r _ [10, 2, 5, 3, 4, 11, 12, 13, 14, 15, 16, 17, 18, 19, 20, 21, 87, 88, 89, 90, 91, 92, 93, 94, 95, 96, 97, 98, 99] (by decide +kernel) (by decide +kernel)
set_option maxRecDepth 20000 in
theorem gX3_fillBoard_X3_listPairs : GoodIn wsX3_fillBoard (wsV RX3 26 RX3 yX3_listPairs wsX3_listPairs) := goodIn_app (goodIn_of _ (by decide +kernel)) ggX3_fillBoard_X3_listPairs
set_option maxRecDepth 20000 in
theorem ggX3_fillBoard_X3_mixPairs : GoodIn wsX3_fillBoard wsX3_mixPairs := goodIn_r _ [25, 2, 3, 4, 26, 27, 28, 9, 29, 1, 30, 31, 32, 33, 87, 88, 89, 90, 91] (by decide +kernel) (by decide +kernel)
set_option maxRecDepth 20000 in
theorem gX3_fillBoard_X3_mixPairs : GoodIn wsX3_fillBoard (wsV RX3 29 RX3 yX3_mixPairs wsX3_mixPairs) := goodIn_app (goodIn_of _ (by decide +kernel)) ggX3_fillBoard_X3_mixPairs
set_option maxRecDepth 20000 in
theorem ggX3_fillBoard_X7_at : GoodIn wsX3_fillBoard wsX7_at := goodIn_r _ [36] (by decide +kernel) (by decide +kernel)
set_option maxRecDepth 20000 in
theorem gX3_fillBoard_X7_at_n35 : GoodIn wsX3_fillBoard (wsX7_at) := ggX3_fillBoard_X7_at
set_option maxRecDepth 20000 in
theorem ggX3_fillBoard_X3_joinPair : GoodIn wsX3_fillBoard wsX3_joinPair := goodIn_r _ [40, 5, 17, 18, 19, 14, 20, 21, 41, 42, 43, 44, 45, 46, 47, 48, 49, 50, 51, 52, 53, 54, 55, 56, 57, 58, 59, 34, 35, 36, 60, 61, 62, 63, 64, 65, 66, 67, 68, 69, 70, 71, 72, 73, 74, 75, 76, 77, 78, 16, 87, 88, 89, 90, 91, 92, 93, 94, 95, 96, 97, 98, 99] (by decide +kernel) (by decide +kernel)
set_option maxRecDepth 20000 in
theorem gX3_fillBoard_X3_joinPair : GoodIn wsX3_fillBoard (wsV RX3 39 RX3 yX3_joinPair wsX3_joinPair) := goodIn_app (goodIn_of _ (by decide +kernel)) ggX3_fillBoard_X3_joinPair
set_option maxRecDepth 20000 in
theorem ggX3_fillBoard_X0_count : GoodIn wsX3_fillBoard wsX0_count := goodIn_r _ [15, 16, 92, 93, 94, 95, 96, 97, 98, 99] (by decide +kernel) (by decide +kernel)
set_option maxRecDepth 20000 in
theorem gX3_fillBoard_X0_count : GoodIn wsX3_fillBoard (wsV RX3 43 RX0 yX0_count wsX0_count) := goodIn_app (goodIn_of _ (by decide +kernel)) ggX3_fillBoard_X0_count
set_option maxRecDepth 20000 in
theorem ggX3_fillBoard_X3_draw : GoodIn wsX3_fillBoard wsX3_draw := goodIn_r _ [29, 1, 30, 87, 88, 89, 90, 91] (by decide +kernel) (by decide +kernel)
set_option maxRecDepth 20000 in
theorem gX3_fillBoard_X3_draw : GoodIn wsX3_fillBoard (wsV RX3 49 RX3 yX3_draw wsX3_draw) := goodIn_app (goodIn_of _ (by decide +kernel)) ggX3_fillBoard_X3_draw
set_option maxRecDepth 20000 in
theorem ggX3_fillBoard_X0_spin : GoodIn wsX3_fillBoard wsX0_spin := goodIn_r _ [82, 83, 68, 69, 14, 70, 54, 34, 35, 36, 84, 85, 86, 72, 73, 74, 75, 76, 77, 78, 16, 92, 93, 94, 95, 96, 97, 98, 99] (by decide +kernel) (by decide +kernel)
set_option maxRecDepth 20000 in
theorem gX3_fillBoard_X0_spin : GoodIn wsX3_fillBoard (wsV RX3 52 RX0 yX0_spin wsX0_spin) := goodIn_app (goodIn_of _ (by decide +kernel)) ggX3_fillBoard_X0_spin
theorem dX3_fillBoard_0 : decode cX3_fillBoard 0 = .ok (.aload_n 0, 1) := by decide +kernel
theorem dX3_fillBoard_1 : decode cX3_fillBoard 1 = .ok (.iload_n 1, 1) := by decide +kernel
theorem dX3_fillBoard_2 : decode cX3_fillBoard 2 = .ok (.putfield 22, 3) := by decide +kernel
theorem dX3_fillBoard_5 : decode cX3_fillBoard 5 = .ok (.aload_n 0, 1) := by decide +kernel
theorem dX3_fillBoard_6 : decode cX3_fillBoard 6 = .ok (.invokevirtual 26, 3) := by decide +kernel
theorem dX3_fillBoard_9 : decode cX3_fillBoard 9 = .ok (.aload_n 0, 1) := by decide +kernel
theorem dX3_fillBoard_10 : decode cX3_fillBoard 10 = .ok (.invokevirtual 29, 3) := by decide +kernel
theorem dX3_fillBoard_13 : decode cX3_fillBoard 13 = .ok (.iconst 0, 1) := by decide +kernel
theorem dX3_fillBoard_14 : decode cX3_fillBoard 14 = .ok (.istore_n 2, 1) := by decide +kernel
theorem dX3_fillBoard_15 : decode cX3_fillBoard 15 = .ok (.iload_n 2, 1) := by decide +kernel
theorem dX3_fillBoard_16 : decode cX3_fillBoard 16 = .ok (.aload_n 0, 1) := by decide +kernel
theorem dX3_fillBoard_17 : decode cX3_fillBoard 17 = .ok (.getfield 32, 3) := by decide +kernel
theorem dX3_fillBoard_20 : decode cX3_fillBoard 20 = .ok (.if_icmp .ge 29, 3) := by decide +kernel
theorem dX3_fillBoard_23 : decode cX3_fillBoard 23 = .ok (.aload_n 0, 1) := by decide +kernel
theorem dX3_fillBoard_24 : decode cX3_fillBoard 24 = .ok (.aload_n 0, 1) := by decide +kernel
theorem dX3_fillBoard_25 : decode cX3_fillBoard 25 = .ok (.getfield 11, 3) := by decide +kernel
theorem dX3_fillBoard_28 : decode cX3_fillBoard 28 = .ok (.iload_n 2, 1) := by decide +kernel
theorem dX3_fillBoard_29 : decode cX3_fillBoard 29 = .ok (.invokestatic 35, 3) := by decide +kernel
theorem dX3_fillBoard_32 : decode cX3_fillBoard 32 = .ok (.aload_n 0, 1) := by decide +kernel
theorem dX3_fillBoard_33 : decode cX3_fillBoard 33 = .ok (.getfield 15, 3) := by decide +kernel
theorem dX3_fillBoard_36 : decode cX3_fillBoard 36 = .ok (.iload_n 2, 1) := by decide +kernel
theorem dX3_fillBoard_37 : decode cX3_fillBoard 37 = .ok (.invokestatic 35, 3) := by decide +kernel
theorem dX3_fillBoard_40 : decode cX3_fillBoard 40 = .ok (.invokevirtual 39, 3) := by decide +kernel
theorem dX3_fillBoard_43 : decode cX3_fillBoard 43 = .ok (.iinc 2 1, 3) := by decide +kernel
theorem dX3_fillBoard_46 : decode cX3_fillBoard 46 = .ok (.goto (-31), 3) := by decide +kernel
theorem dX3_fillBoard_49 : decode cX3_fillBoard 49 = .ok (.iconst 0, 1) := by decide +kernel
theorem dX3_fillBoard_50 : decode cX3_fillBoard 50 = .ok (.istore_n 2, 1) := by decide +kernel
theorem dX3_fillBoard_51 : decode cX3_fillBoard 51 = .ok (.iload_n 2, 1) := by decide +kernel
theorem dX3_fillBoard_52 : decode cX3_fillBoard 52 = .ok (.aload_n 0, 1) := by decide +kernel
theorem dX3_fillBoard_53 : decode cX3_fillBoard 53 = .ok (.getfield 18, 3) := by decide +kernel
theorem dX3_fillBoard_56 : decode cX3_fillBoard 56 = .ok (.invokevirtual 43, 3) := by decide +kernel
theorem dX3_fillBoard_59 : decode cX3_fillBoard 59 = .ok (.if_icmp .ge 23, 3) := by decide +kernel
theorem dX3_fillBoard_62 : decode cX3_fillBoard 62 = .ok (.aload_n 0, 1) := by decide +kernel
theorem dX3_fillBoard_63 : decode cX3_fillBoard 63 = .ok (.getfield 18, 3) := by decide +kernel
theorem dX3_fillBoard_66 : decode cX3_fillBoard 66 = .ok (.iload_n 2, 1) := by decide +kernel
theorem dX3_fillBoard_67 : decode cX3_fillBoard 67 = .ok (.aload_n 0, 1) := by decide +kernel
theorem dX3_fillBoard_68 : decode cX3_fillBoard 68 = .ok (.invokevirtual 49, 3) := by decide +kernel
theorem dX3_fillBoard_71 : decode cX3_fillBoard 71 = .ok (.iconst 4, 1) := by decide +kernel
theorem dX3_fillBoard_72 : decode cX3_fillBoard 72 = .ok (.irem, 1) := by decide +kernel
theorem dX3_fillBoard_73 : decode cX3_fillBoard 73 = .ok (.invokevirtual 52, 3) := by decide +kernel
theorem dX3_fillBoard_76 : decode cX3_fillBoard 76 = .ok (.iinc 2 1, 3) := by decide +kernel
theorem dX3_fillBoard_79 : decode cX3_fillBoard 79 = .ok (.goto (-28), 3) := by decide +kernel
theorem dX3_fillBoard_82 : decode cX3_fillBoard 82 = .ok (.return_, 1) := by decide +kernel
theorem dX3_draw_0 : decode cX3_draw 0 = .ok (.aload_n 0, 1) := by decide +kernel
theorem dX3_draw_1 : decode cX3_draw 1 = .ok (.sipush 24693, 3) := by decide +kernel
theorem dX3_draw_4 : decode cX3_draw 4 = .ok (.aload_n 0, 1) := by decide +kernel
theorem dX3_draw_5 : decode cX3_draw 5 = .ok (.getfield 22, 3) := by decide +kernel
theorem dX3_draw_8 : decode cX3_draw 8 = .ok (.imul, 1) := by decide +kernel
theorem dX3_draw_9 : decode cX3_draw 9 = .ok (.sipush 3517, 3) := by decide +kernel
theorem dX3_draw_12 : decode cX3_draw 12 = .ok (.iadd, 1) := by decide +kernel
theorem dX3_draw_13 : decode cX3_draw 13 = .ok (.ldc 55, 2) := by decide +kernel
theorem dX3_draw_15 : decode cX3_draw 15 = .ok (.irem, 1) := by decide +kernel
theorem dX3_draw_16 : decode cX3_draw 16 = .ok (.putfield 22, 3) := by decide +kernel
theorem dX3_draw_19 : decode cX3_draw 19 = .ok (.aload_n 0, 1) := by decide +kernel
theorem dX3_draw_20 : decode cX3_draw 20 = .ok (.getfield 22, 3) := by decide +kernel
theorem dX3_draw_23 : decode cX3_draw 23 = .ok (.ireturn, 1) := by decide +kernel
set_option maxRecDepth 20000 in
theorem ggX3_listPairs_X0_count : GoodIn wsX3_listPairs wsX0_count := goodIn_r _ [9, 10, 21, 22, 23, 24, 25, 26, 27, 28] (by decide +kernel) (by decide +kernel)
set_option maxRecDepth 20000 in
theorem gX3_listPairs_X0_count : GoodIn wsX3_listPairs (wsV RX3 43 RX0 yX0_count wsX0_count) := goodIn_app (goodIn_of _ (by decide +kernel)) ggX3_listPairs_X0_count
set_option maxRecDepth 20000 in
theorem ggX3_listPairs_X0_beside : GoodIn wsX3_listPairs wsX0_beside := goodIn_r _ [14, 15, 21, 22, 23, 24, 25, 26, 27, 28] (by decide +kernel) (by decide +kernel)
set_option maxRecDepth 20000 in
theorem gX3_listPairs_X0_beside : GoodIn wsX3_listPairs (wsV RX3 56 RX0 yX0_beside wsX0_beside) := goodIn_app (goodIn_of _ (by decide +kernel)) ggX3_listPairs_X0_beside
theorem dX3_listPairs_0 : decode cX3_listPairs 0 = .ok (.aload_n 0, 1) := by decide +kernel
theorem dX3_listPairs_1 : decode cX3_listPairs 1 = .ok (.iconst 0, 1) := by decide +kernel
theorem dX3_listPairs_2 : decode cX3_listPairs 2 = .ok (.putfield 32, 3) := by decide +kernel
theorem dX3_listPairs_5 : decode cX3_listPairs 5 = .ok (.iconst 0, 1) := by decide +kernel
theorem dX3_listPairs_6 : decode cX3_listPairs 6 = .ok (.istore_n 1, 1) := by decide +kernel
theorem dX3_listPairs_7 : decode cX3_listPairs 7 = .ok (.iload_n 1, 1) := by decide +kernel
theorem dX3_listPairs_8 : decode cX3_listPairs 8 = .ok (.aload_n 0, 1) := by decide +kernel
theorem dX3_listPairs_9 : decode cX3_listPairs 9 = .ok (.getfield 18, 3) := by decide +kernel
theorem dX3_listPairs_12 : decode cX3_listPairs 12 = .ok (.invokevirtual 43, 3) := by decide +kernel
theorem dX3_listPairs_15 : decode cX3_listPairs 15 = .ok (.if_icmp .ge 81, 3) := by decide +kernel
theorem dX3_listPairs_18 : decode cX3_listPairs 18 = .ok (.iconst 1, 1) := by decide +kernel
theorem dX3_listPairs_19 : decode cX3_listPairs 19 = .ok (.istore_n 2, 1) := by decide +kernel
theorem dX3_listPairs_20 : decode cX3_listPairs 20 = .ok (.iload_n 2, 1) := by decide +kernel
theorem dX3_listPairs_21 : decode cX3_listPairs 21 = .ok (.iconst 2, 1) := by decide +kernel
theorem dX3_listPairs_22 : decode cX3_listPairs 22 = .ok (.if_icmp .gt 68, 3) := by decide +kernel
theorem dX3_listPairs_25 : decode cX3_listPairs 25 = .ok (.aload_n 0, 1) := by decide +kernel
theorem dX3_listPairs_26 : decode cX3_listPairs 26 = .ok (.getfield 18, 3) := by decide +kernel
theorem dX3_listPairs_29 : decode cX3_listPairs 29 = .ok (.iload_n 1, 1) := by decide +kernel
theorem dX3_listPairs_30 : decode cX3_listPairs 30 = .ok (.iload_n 2, 1) := by decide +kernel
theorem dX3_listPairs_31 : decode cX3_listPairs 31 = .ok (.invokevirtual 56, 3) := by decide +kernel
theorem dX3_listPairs_34 : decode cX3_listPairs 34 = .ok (.iconst (-1), 1) := by decide +kernel
theorem dX3_listPairs_35 : decode cX3_listPairs 35 = .ok (.if_icmp .eq 49, 3) := by decide +kernel
theorem dX3_listPairs_38 : decode cX3_listPairs 38 = .ok (.aload_n 0, 1) := by decide +kernel
theorem dX3_listPairs_39 : decode cX3_listPairs 39 = .ok (.getfield 32, 3) := by decide +kernel
theorem dX3_listPairs_42 : decode cX3_listPairs 42 = .ok (.ifCond .lt 42, 3) := by decide +kernel
theorem dX3_listPairs_45 : decode cX3_listPairs 45 = .ok (.aload_n 0, 1) := by decide +kernel
theorem dX3_listPairs_46 : decode cX3_listPairs 46 = .ok (.getfield 32, 3) := by decide +kernel
theorem dX3_listPairs_49 : decode cX3_listPairs 49 = .ok (.bipush 32, 2) := by decide +kernel
theorem dX3_listPairs_51 : decode cX3_listPairs 51 = .ok (.if_icmp .ge 33, 3) := by decide +kernel
theorem dX3_listPairs_54 : decode cX3_listPairs 54 = .ok (.aload_n 0, 1) := by decide +kernel
theorem dX3_listPairs_55 : decode cX3_listPairs 55 = .ok (.getfield 11, 3) := by decide +kernel
theorem dX3_listPairs_58 : decode cX3_listPairs 58 = .ok (.aload_n 0, 1) := by decide +kernel
theorem dX3_listPairs_59 : decode cX3_listPairs 59 = .ok (.getfield 32, 3) := by decide +kernel
theorem dX3_listPairs_62 : decode cX3_listPairs 62 = .ok (.iload_n 1, 1) := by decide +kernel
theorem dX3_listPairs_63 : decode cX3_listPairs 63 = .ok (.iastore, 1) := by decide +kernel
theorem dX3_listPairs_64 : decode cX3_listPairs 64 = .ok (.aload_n 0, 1) := by decide +kernel
theorem dX3_listPairs_65 : decode cX3_listPairs 65 = .ok (.getfield 15, 3) := by decide +kernel
theorem dX3_listPairs_68 : decode cX3_listPairs 68 = .ok (.aload_n 0, 1) := by decide +kernel
theorem dX3_listPairs_69 : decode cX3_listPairs 69 = .ok (.getfield 32, 3) := by decide +kernel
theorem dX3_listPairs_72 : decode cX3_listPairs 72 = .ok (.iload_n 2, 1) := by decide +kernel
theorem dX3_listPairs_73 : decode cX3_listPairs 73 = .ok (.iastore, 1) := by decide +kernel
theorem dX3_listPairs_74 : decode cX3_listPairs 74 = .ok (.aload_n 0, 1) := by decide +kernel
theorem dX3_listPairs_75 : decode cX3_listPairs 75 = .ok (.dup, 1) := by decide +kernel
theorem dX3_listPairs_76 : decode cX3_listPairs 76 = .ok (.getfield 32, 3) := by decide +kernel
theorem dX3_listPairs_79 : decode cX3_listPairs 79 = .ok (.iconst 1, 1) := by decide +kernel
theorem dX3_listPairs_80 : decode cX3_listPairs 80 = .ok (.iadd, 1) := by decide +kernel
theorem dX3_listPairs_81 : decode cX3_listPairs 81 = .ok (.putfield 32, 3) := by decide +kernel
theorem dX3_listPairs_84 : decode cX3_listPairs 84 = .ok (.iinc 2 1, 3) := by decide +kernel
theorem dX3_listPairs_87 : decode cX3_listPairs 87 = .ok (.goto (-67), 3) := by decide +kernel
theorem dX3_listPairs_90 : decode cX3_listPairs 90 = .ok (.iinc 1 1, 3) := by decide +kernel
theorem dX3_listPairs_93 : decode cX3_listPairs 93 = .ok (.goto (-86), 3) := by decide +kernel
theorem dX3_listPairs_96 : decode cX3_listPairs 96 = .ok (.return_, 1) := by decide +kernel
set_option maxRecDepth 20000 in
theorem ggX3_mixPairs_X3_draw : GoodIn wsX3_mixPairs wsX3_draw := goodIn_r _ [8, 9, 10, 14, 15, 16, 17, 18] (by decide +kernel) (by decide +kernel)
set_option maxRecDepth 20000 in
theorem gX3_mixPairs_X3_draw : GoodIn wsX3_mixPairs (wsV RX3 49 RX3 yX3_draw wsX3_draw) := goodIn_app (goodIn_of _ (by decide +kernel)) ggX3_mixPairs_X3_draw
set_option maxRecDepth 20000 in
theorem ggX3_mixPairs_X3_exchange : GoodIn wsX3_mixPairs wsX3_exchange := goodIn_r _ [13] (by decide +kernel) (by decide +kernel)
set_option maxRecDepth 20000 in
theorem gX3_mixPairs_X3_exchange : GoodIn wsX3_mixPairs (va_wsS RX3 60 yX3_exchange wsX3_exchange) := goodIn_app (goodIn_of _ (by decide +kernel)) ggX3_mixPairs_X3_exchange
theorem dX3_mixPairs_0 : decode cX3_mixPairs 0 = .ok (.aload_n 0, 1) := by decide +kernel
theorem dX3_mixPairs_1 : decode cX3_mixPairs 1 = .ok (.getfield 32, 3) := by decide +kernel
theorem dX3_mixPairs_4 : decode cX3_mixPairs 4 = .ok (.iconst 1, 1) := by decide +kernel
theorem dX3_mixPairs_5 : decode cX3_mixPairs 5 = .ok (.isub, 1) := by decide +kernel
theorem dX3_mixPairs_6 : decode cX3_mixPairs 6 = .ok (.istore_n 1, 1) := by decide +kernel
theorem dX3_mixPairs_7 : decode cX3_mixPairs 7 = .ok (.iload_n 1, 1) := by decide +kernel
theorem dX3_mixPairs_8 : decode cX3_mixPairs 8 = .ok (.ifCond .le 36, 3) := by decide +kernel
theorem dX3_mixPairs_11 : decode cX3_mixPairs 11 = .ok (.aload_n 0, 1) := by decide +kernel
theorem dX3_mixPairs_12 : decode cX3_mixPairs 12 = .ok (.invokevirtual 49, 3) := by decide +kernel
theorem dX3_mixPairs_15 : decode cX3_mixPairs 15 = .ok (.iload_n 1, 1) := by decide +kernel
theorem dX3_mixPairs_16 : decode cX3_mixPairs 16 = .ok (.iconst 1, 1) := by decide +kernel
theorem dX3_mixPairs_17 : decode cX3_mixPairs 17 = .ok (.iadd, 1) := by decide +kernel
theorem dX3_mixPairs_18 : decode cX3_mixPairs 18 = .ok (.irem, 1) := by decide +kernel
theorem dX3_mixPairs_19 : decode cX3_mixPairs 19 = .ok (.istore_n 2, 1) := by decide +kernel
theorem dX3_mixPairs_20 : decode cX3_mixPairs 20 = .ok (.aload_n 0, 1) := by decide +kernel
theorem dX3_mixPairs_21 : decode cX3_mixPairs 21 = .ok (.getfield 11, 3) := by decide +kernel
theorem dX3_mixPairs_24 : decode cX3_mixPairs 24 = .ok (.iload_n 1, 1) := by decide +kernel
theorem dX3_mixPairs_25 : decode cX3_mixPairs 25 = .ok (.iload_n 2, 1) := by decide +kernel
theorem dX3_mixPairs_26 : decode cX3_mixPairs 26 = .ok (.invokestatic 60, 3) := by decide +kernel
theorem dX3_mixPairs_29 : decode cX3_mixPairs 29 = .ok (.aload_n 0, 1) := by decide +kernel
theorem dX3_mixPairs_30 : decode cX3_mixPairs 30 = .ok (.getfield 15, 3) := by decide +kernel
theorem dX3_mixPairs_33 : decode cX3_mixPairs 33 = .ok (.iload_n 1, 1) := by decide +kernel
theorem dX3_mixPairs_34 : decode cX3_mixPairs 34 = .ok (.iload_n 2, 1) := by decide +kernel
theorem dX3_mixPairs_35 : decode cX3_mixPairs 35 = .ok (.invokestatic 60, 3) := by decide +kernel
theorem dX3_mixPairs_38 : decode cX3_mixPairs 38 = .ok (.iinc 1 (-1), 3) := by decide +kernel
theorem dX3_mixPairs_41 : decode cX3_mixPairs 41 = .ok (.goto (-34), 3) := by decide +kernel
theorem dX3_mixPairs_44 : decode cX3_mixPairs 44 = .ok (.return_, 1) := by decide +kernel
theorem dX3_exchange_0 : decode cX3_exchange 0 = .ok (.iload_n 1, 1) := by decide +kernel
theorem dX3_exchange_1 : decode cX3_exchange 1 = .ok (.ifCond .lt 33, 3) := by decide +kernel
theorem dX3_exchange_4 : decode cX3_exchange 4 = .ok (.iload_n 1, 1) := by decide +kernel
theorem dX3_exchange_5 : decode cX3_exchange 5 = .ok (.aload_n 0, 1) := by decide +kernel
theorem dX3_exchange_6 : decode cX3_exchange 6 = .ok (.arraylength, 1) := by decide +kernel
theorem dX3_exchange_7 : decode cX3_exchange 7 = .ok (.if_icmp .ge 27, 3) := by decide +kernel
theorem dX3_exchange_10 : decode cX3_exchange 10 = .ok (.iload_n 2, 1) := by decide +kernel
theorem dX3_exchange_11 : decode cX3_exchange 11 = .ok (.ifCond .lt 23, 3) := by decide +kernel
theorem dX3_exchange_14 : decode cX3_exchange 14 = .ok (.iload_n 2, 1) := by decide +kernel
theorem dX3_exchange_15 : decode cX3_exchange 15 = .ok (.aload_n 0, 1) := by decide +kernel
theorem dX3_exchange_16 : decode cX3_exchange 16 = .ok (.arraylength, 1) := by decide +kernel
theorem dX3_exchange_17 : decode cX3_exchange 17 = .ok (.if_icmp .ge 17, 3) := by decide +kernel
theorem dX3_exchange_20 : decode cX3_exchange 20 = .ok (.aload_n 0, 1) := by decide +kernel
theorem dX3_exchange_21 : decode cX3_exchange 21 = .ok (.iload_n 1, 1) := by decide +kernel
theorem dX3_exchange_22 : decode cX3_exchange 22 = .ok (.iaload, 1) := by decide +kernel
theorem dX3_exchange_23 : decode cX3_exchange 23 = .ok (.istore_n 3, 1) := by decide +kernel
theorem dX3_exchange_24 : decode cX3_exchange 24 = .ok (.aload_n 0, 1) := by decide +kernel
theorem dX3_exchange_25 : decode cX3_exchange 25 = .ok (.iload_n 1, 1) := by decide +kernel
theorem dX3_exchange_26 : decode cX3_exchange 26 = .ok (.aload_n 0, 1) := by decide +kernel
theorem dX3_exchange_27 : decode cX3_exchange 27 = .ok (.iload_n 2, 1) := by decide +kernel
theorem dX3_exchange_28 : decode cX3_exchange 28 = .ok (.iaload, 1) := by decide +kernel
theorem dX3_exchange_29 : decode cX3_exchange 29 = .ok (.iastore, 1) := by decide +kernel
theorem dX3_exchange_30 : decode cX3_exchange 30 = .ok (.aload_n 0, 1) := by decide +kernel
theorem dX3_exchange_31 : decode cX3_exchange 31 = .ok (.iload_n 2, 1) := by decide +kernel
theorem dX3_exchange_32 : decode cX3_exchange 32 = .ok (.iload_n 3, 1) := by decide +kernel
theorem dX3_exchange_33 : decode cX3_exchange 33 = .ok (.iastore, 1) := by decide +kernel
theorem dX3_exchange_34 : decode cX3_exchange 34 = .ok (.return_, 1) := by decide +kernel
set_option maxRecDepth 20000 in
theorem ggX3_joinPair_X0_beside : GoodIn wsX3_joinPair wsX0_beside := goodIn_r _ [6, 7, 55, 56, 57, 58, 59, 60, 61, 62] (by decide +kernel) (by decide +kernel)
set_option maxRecDepth 20000 in
theorem gX3_joinPair_X0_beside : GoodIn wsX3_joinPair (wsV RX3 56 RX0 yX0_beside wsX0_beside) := goodIn_app (goodIn_of _ (by decide +kernel)) ggX3_joinPair_X0_beside
set_option maxRecDepth 20000 in
theorem ggX3_joinPair_X0_reachedFrom : GoodIn wsX3_joinPair wsX0_reachedFrom := goodIn_r _ [11, 12, 13, 14, 15, 5, 16, 17, 18, 19, 20, 21, 22, 23, 24, 25, 26, 27, 28, 29, 30, 31, 32, 33, 34, 35, 36, 55, 56, 57, 58, 59, 60, 61, 62] (by decide +kernel) (by decide +kernel)
set_option maxRecDepth 20000 in
theorem gX3_joinPair_X0_reachedFrom : GoodIn wsX3_joinPair (wsV RX3 64 RX0 yX0_reachedFrom wsX0_reachedFrom) := goodIn_app (goodIn_of _ (by decide +kernel)) ggX3_joinPair_X0_reachedFrom
set_option maxRecDepth 20000 in
theorem ggX3_joinPair_X7_holds : GoodIn wsX3_joinPair wsX7_holds := goodIn_r _ [31] (by decide +kernel) (by decide +kernel)
set_option maxRecDepth 20000 in
theorem gX3_joinPair_X7_holds_n68 : GoodIn wsX3_joinPair (wsX7_holds) := ggX3_joinPair_X7_holds
set_option maxRecDepth 20000 in
theorem ggX3_joinPair_X0_sidesOf : GoodIn wsX3_joinPair wsX0_sidesOf := goodIn_r _ [40, 21, 27, 28, 29, 55, 56, 57, 58, 59, 60, 61, 62] (by decide +kernel) (by decide +kernel)
set_option maxRecDepth 20000 in
theorem gX3_joinPair_X0_sidesOf : GoodIn wsX3_joinPair (wsV RX3 72 RX0 yX0_sidesOf wsX0_sidesOf) := goodIn_app (goodIn_of _ (by decide +kernel)) ggX3_joinPair_X0_sidesOf
set_option maxRecDepth 20000 in
theorem ggX3_joinPair_X0_lay : GoodIn wsX3_joinPair wsX0_lay := goodIn_r _ [44, 21, 45, 46, 47, 5, 48, 49, 55, 56, 57, 58, 59, 60, 61, 62] (by decide +kernel) (by decide +kernel)
set_option maxRecDepth 20000 in
theorem gX3_joinPair_X0_lay : GoodIn wsX3_joinPair (wsV RX3 75 RX0 yX0_lay wsX0_lay) := goodIn_app (goodIn_of _ (by decide +kernel)) ggX3_joinPair_X0_lay
set_option maxRecDepth 20000 in
theorem ggX3_joinPair_X7_opposite : GoodIn wsX3_joinPair wsX7_opposite := goodIn_r _ [33] (by decide +kernel) (by decide +kernel)
set_option maxRecDepth 20000 in
theorem gX3_joinPair_X7_opposite_n78 : GoodIn wsX3_joinPair (wsX7_opposite) := ggX3_joinPair_X7_opposite
theorem dX3_joinPair_0 : decode cX3_joinPair 0 = .ok (.aload_n 0, 1) := by decide +kernel
theorem dX3_joinPair_1 : decode cX3_joinPair 1 = .ok (.getfield 18, 3) := by decide +kernel
theorem dX3_joinPair_4 : decode cX3_joinPair 4 = .ok (.iload_n 1, 1) := by decide +kernel
theorem dX3_joinPair_5 : decode cX3_joinPair 5 = .ok (.iload_n 2, 1) := by decide +kernel
theorem dX3_joinPair_6 : decode cX3_joinPair 6 = .ok (.invokevirtual 56, 3) := by decide +kernel
theorem dX3_joinPair_9 : decode cX3_joinPair 9 = .ok (.istore_n 3, 1) := by decide +kernel
theorem dX3_joinPair_10 : decode cX3_joinPair 10 = .ok (.iload_n 3, 1) := by decide +kernel
theorem dX3_joinPair_11 : decode cX3_joinPair 11 = .ok (.iconst (-1), 1) := by decide +kernel
theorem dX3_joinPair_12 : decode cX3_joinPair 12 = .ok (.if_icmp .eq 61, 3) := by decide +kernel
theorem dX3_joinPair_15 : decode cX3_joinPair 15 = .ok (.aload_n 0, 1) := by decide +kernel
theorem dX3_joinPair_16 : decode cX3_joinPair 16 = .ok (.getfield 18, 3) := by decide +kernel
theorem dX3_joinPair_19 : decode cX3_joinPair 19 = .ok (.iload_n 1, 1) := by decide +kernel
theorem dX3_joinPair_20 : decode cX3_joinPair 20 = .ok (.invokevirtual 64, 3) := by decide +kernel
theorem dX3_joinPair_23 : decode cX3_joinPair 23 = .ok (.iload_n 3, 1) := by decide +kernel
theorem dX3_joinPair_24 : decode cX3_joinPair 24 = .ok (.invokestatic 68, 3) := by decide +kernel
theorem dX3_joinPair_27 : decode cX3_joinPair 27 = .ok (.ifCond .ne 46, 3) := by decide +kernel
theorem dX3_joinPair_30 : decode cX3_joinPair 30 = .ok (.aload_n 0, 1) := by decide +kernel
theorem dX3_joinPair_31 : decode cX3_joinPair 31 = .ok (.getfield 18, 3) := by decide +kernel
theorem dX3_joinPair_34 : decode cX3_joinPair 34 = .ok (.iload_n 1, 1) := by decide +kernel
theorem dX3_joinPair_35 : decode cX3_joinPair 35 = .ok (.aload_n 0, 1) := by decide +kernel
theorem dX3_joinPair_36 : decode cX3_joinPair 36 = .ok (.getfield 18, 3) := by decide +kernel
theorem dX3_joinPair_39 : decode cX3_joinPair 39 = .ok (.iload_n 1, 1) := by decide +kernel
theorem dX3_joinPair_40 : decode cX3_joinPair 40 = .ok (.invokevirtual 72, 3) := by decide +kernel
theorem dX3_joinPair_43 : decode cX3_joinPair 43 = .ok (.iconst 1, 1) := by decide +kernel
theorem dX3_joinPair_44 : decode cX3_joinPair 44 = .ok (.iload_n 2, 1) := by decide +kernel
theorem dX3_joinPair_45 : decode cX3_joinPair 45 = .ok (.ishl, 1) := by decide +kernel
theorem dX3_joinPair_46 : decode cX3_joinPair 46 = .ok (.ior, 1) := by decide +kernel
theorem dX3_joinPair_47 : decode cX3_joinPair 47 = .ok (.invokevirtual 75, 3) := by decide +kernel
theorem dX3_joinPair_50 : decode cX3_joinPair 50 = .ok (.aload_n 0, 1) := by decide +kernel
theorem dX3_joinPair_51 : decode cX3_joinPair 51 = .ok (.getfield 18, 3) := by decide +kernel
theorem dX3_joinPair_54 : decode cX3_joinPair 54 = .ok (.iload_n 3, 1) := by decide +kernel
theorem dX3_joinPair_55 : decode cX3_joinPair 55 = .ok (.aload_n 0, 1) := by decide +kernel
theorem dX3_joinPair_56 : decode cX3_joinPair 56 = .ok (.getfield 18, 3) := by decide +kernel
theorem dX3_joinPair_59 : decode cX3_joinPair 59 = .ok (.iload_n 3, 1) := by decide +kernel
theorem dX3_joinPair_60 : decode cX3_joinPair 60 = .ok (.invokevirtual 72, 3) := by decide +kernel
theorem dX3_joinPair_63 : decode cX3_joinPair 63 = .ok (.iconst 1, 1) := by decide +kernel
theorem dX3_joinPair_64 : decode cX3_joinPair 64 = .ok (.iload_n 2, 1) := by decide +kernel
theorem dX3_joinPair_65 : decode cX3_joinPair 65 = .ok (.invokestatic 78, 3) := by decide +kernel
theorem dX3_joinPair_68 : decode cX3_joinPair 68 = .ok (.ishl, 1) := by decide +kernel
theorem dX3_joinPair_69 : decode cX3_joinPair 69 = .ok (.ior, 1) := by decide +kernel
theorem dX3_joinPair_70 : decode cX3_joinPair 70 = .ok (.invokevirtual 75, 3) := by decide +kernel
theorem dX3_joinPair_73 : decode cX3_joinPair 73 = .ok (.return_, 1) := by decide +kernel
theorem dX4_init_0 : decode cX4_init 0 = .ok (.aload_n 0, 1) := by decide +kernel
theorem dX4_init_1 : decode cX4_init 1 = .ok (.invokespecial 3, 3) := by decide +kernel
theorem dX4_init_4 : decode cX4_init 4 = .ok (.aload_n 0, 1) := by decide +kernel
theorem dX4_init_5 : decode cX4_init 5 = .ok (.bipush 16, 2) := by decide +kernel
theorem dX4_init_7 : decode cX4_init 7 = .ok (.newarray .int, 2) := by decide +kernel
theorem dX4_init_9 : decode cX4_init 9 = .ok (.putfield 9, 3) := by decide +kernel
theorem dX4_init_12 : decode cX4_init 12 = .ok (.aload_n 0, 1) := by decide +kernel
theorem dX4_init_13 : decode cX4_init 13 = .ok (.bipush 16, 2) := by decide +kernel
theorem dX4_init_15 : decode cX4_init 15 = .ok (.newarray .int, 2) := by decide +kernel
theorem dX4_init_17 : decode cX4_init 17 = .ok (.putfield 15, 3) := by decide +kernel
theorem dX4_init_20 : decode cX4_init 20 = .ok (.aload_n 0, 1) := by decide +kernel
theorem dX4_init_21 : decode cX4_init 21 = .ok (.bipush 17, 2) := by decide +kernel
theorem dX4_init_23 : decode cX4_init 23 = .ok (.bipush 16, 2) := by decide +kernel
theorem dX4_init_25 : decode cX4_init 25 = .ok (.multianewarray 18 2, 4) := by decide +kernel
theorem dX4_init_29 : decode cX4_init 29 = .ok (.putfield 20, 3) := by decide +kernel
theorem dX4_init_32 : decode cX4_init 32 = .ok (.aload_n 0, 1) := by decide +kernel
theorem dX4_init_33 : decode cX4_init 33 = .ok (.bipush 16, 2) := by decide +kernel
theorem dX4_init_35 : decode cX4_init 35 = .ok (.newarray .int, 2) := by decide +kernel
theorem dX4_init_37 : decode cX4_init 37 = .ok (.putfield 23, 3) := by decide +kernel
theorem dX4_init_40 : decode cX4_init 40 = .ok (.aload_n 0, 1) := by decide +kernel
theorem dX4_init_41 : decode cX4_init 41 = .ok (.aload_n 1, 1) := by decide +kernel
theorem dX4_init_42 : decode cX4_init 42 = .ok (.putfield 26, 3) := by decide +kernel
theorem dX4_init_45 : decode cX4_init 45 = .ok (.aload_n 0, 1) := by decide +kernel
theorem dX4_init_46 : decode cX4_init 46 = .ok (.aload_n 2, 1) := by decide +kernel
theorem dX4_init_47 : decode cX4_init 47 = .ok (.putfield 30, 3) := by decide +kernel
theorem dX4_init_50 : decode cX4_init 50 = .ok (.return_, 1) := by decide +kernel
set_option maxRecDepth 20000 in
theorem ggX4_countAll_X4_tryCell : GoodIn wsX4_countAll wsX4_tryCell := goodIn_r _ [7, 8, 9, 10, 11, 12, 13, 14, 15, 16, 17, 18, 6, 19, 20, 1, 21, 22, 23, 24, 25, 26, 2, 27, 28, 29, 30, 31, 32, 33, 34, 35, 36, 37, 38, 39, 40, 41, 42, 43, 44, 45, 46, 47, 48, 49, 50, 51, 52, 53, 54, 55, 56, 57, 58, 59, 60, 61, 62, 63, 64, 65, 66, 67, 68, 69, 70, 71, 72, 73, 74, 75, 3, 4, 5, 76, 77, 78, 79, 80, 81, 82, 83, 84, 85, 86, 87, 88, 89, 90, 91, 92, 93, 94, 95, 96] (by decide +kernel) (by decide +kernel)
set_option maxRecDepth 20000 in
theorem gX4_countAll_X4_tryCell : GoodIn wsX4_countAll (wsV RX4 41 RX4 yX4_tryCell wsX4_tryCell) := goodIn_app (goodIn_of _ (by decide +kernel)) ggX4_countAll_X4_tryCell
theorem dX4_countAll_0 : decode cX4_countAll 0 = .ok (.aload_n 0, 1) := by decide +kernel
theorem dX4_countAll_1 : decode cX4_countAll 1 = .ok (.iconst 0, 1) := by decide +kernel
theorem dX4_countAll_2 : decode cX4_countAll 2 = .ok (.putfield 34, 3) := by decide +kernel
theorem dX4_countAll_5 : decode cX4_countAll 5 = .ok (.aload_n 0, 1) := by decide +kernel
theorem dX4_countAll_6 : decode cX4_countAll 6 = .ok (.iconst 0, 1) := by decide +kernel
theorem dX4_countAll_7 : decode cX4_countAll 7 = .ok (.putfield 38, 3) := by decide +kernel
theorem dX4_countAll_10 : decode cX4_countAll 10 = .ok (.aload_n 0, 1) := by decide +kernel
theorem dX4_countAll_11 : decode cX4_countAll 11 = .ok (.iconst 0, 1) := by decide +kernel
theorem dX4_countAll_12 : decode cX4_countAll 12 = .ok (.iconst 0, 1) := by decide +kernel
theorem dX4_countAll_13 : decode cX4_countAll 13 = .ok (.invokevirtual 41, 3) := by decide +kernel
theorem dX4_countAll_16 : decode cX4_countAll 16 = .ok (.aload_n 0, 1) := by decide +kernel
theorem dX4_countAll_17 : decode cX4_countAll 17 = .ok (.getfield 34, 3) := by decide +kernel
theorem dX4_countAll_20 : decode cX4_countAll 20 = .ok (.ireturn, 1) := by decide +kernel
theorem dX4_fewest_0 : decode cX4_fewest 0 = .ok (.aload_n 0, 1) := by decide +kernel
theorem dX4_fewest_1 : decode cX4_fewest 1 = .ok (.getfield 38, 3) := by decide +kernel
theorem dX4_fewest_4 : decode cX4_fewest 4 = .ok (.ireturn, 1) := by decide +kernel
set_option maxRecDepth 20000 in
theorem ggX4_firstAt_X7_at : GoodIn wsX4_firstAt wsX7_at := goodIn_r _ [4] (by decide +kernel) (by decide +kernel)
set_option maxRecDepth 20000 in
theorem gX4_firstAt_X7_at_n45 : GoodIn wsX4_firstAt (wsX7_at) := ggX4_firstAt_X7_at
theorem dX4_firstAt_0 : decode cX4_firstAt 0 = .ok (.aload_n 0, 1) := by decide +kernel
theorem dX4_firstAt_1 : decode cX4_firstAt 1 = .ok (.getfield 23, 3) := by decide +kernel
theorem dX4_firstAt_4 : decode cX4_firstAt 4 = .ok (.iload_n 1, 1) := by decide +kernel
theorem dX4_firstAt_5 : decode cX4_firstAt 5 = .ok (.invokestatic 45, 3) := by decide +kernel
theorem dX4_firstAt_8 : decode cX4_firstAt 8 = .ok (.ireturn, 1) := by decide +kernel
set_option maxRecDepth 20000 in
theorem ggX4_tryCell_X0_has : GoodIn wsX4_tryCell wsX0_has := goodIn_r _ [7, 8, 83, 84, 85, 86, 87, 88, 89, 90] (by decide +kernel) (by decide +kernel)
set_option maxRecDepth 20000 in
theorem gX4_tryCell_X0_has : GoodIn wsX4_tryCell (wsV RX4 49 RX0 yX0_has wsX0_has) := goodIn_app (goodIn_of _ (by decide +kernel)) ggX4_tryCell_X0_has
set_option maxRecDepth 20000 in
theorem ggX4_tryCell_X4_noteSolution : GoodIn wsX4_tryCell wsX4_noteSolution := goodIn_r _ [13, 14, 1, 15, 16, 17, 18, 19, 20, 21, 22, 23, 24, 25, 26, 27, 28, 29, 6, 30, 8, 75, 76, 77, 78, 79, 80, 81, 82, 83, 84, 85, 86, 87, 88, 89, 90] (by decide +kernel) (by decide +kernel)
set_option maxRecDepth 20000 in
theorem gX4_tryCell_X4_noteSolution : GoodIn wsX4_tryCell (wsV RX4 55 RX4 yX4_noteSolution wsX4_noteSolution) := goodIn_app (goodIn_of _ (by decide +kernel)) ggX4_tryCell_X4_noteSolution
set_option maxRecDepth 20000 in
theorem ggX4_tryCell_X5_leftAt : GoodIn wsX4_tryCell wsX5_leftAt := goodIn_r _ [35, 36, 37, 38, 39, 91, 92, 93, 94, 95] (by decide +kernel) (by decide +kernel)
set_option maxRecDepth 20000 in
theorem gX4_tryCell_X5_leftAt : GoodIn wsX4_tryCell (wsV RX4 58 RX5 yX5_leftAt wsX5_leftAt) := goodIn_app (goodIn_of _ (by decide +kernel)) ggX4_tryCell_X5_leftAt
set_option maxRecDepth 20000 in
theorem ggX4_tryCell_X7_holds : GoodIn wsX4_tryCell wsX7_holds := goodIn_r _ [41] (by decide +kernel) (by decide +kernel)
set_option maxRecDepth 20000 in
theorem gX4_tryCell_X7_holds_n64 : GoodIn wsX4_tryCell (wsX7_holds) := ggX4_tryCell_X7_holds
set_option maxRecDepth 20000 in
theorem ggX4_tryCell_X4_tryLay : GoodIn wsX4_tryCell wsX4_tryLay := goodIn_r _ [45, 1, 16, 46, 3, 4, 5, 6, 7, 8, 47, 48, 49, 50, 51, 37, 38, 39, 52, 53, 54, 55, 56, 12, 57, 58, 59, 60, 61, 62, 40, 41, 63, 64, 65, 66, 67, 68, 14, 18, 19, 20, 21, 69, 70, 71, 72, 73, 74, 0, 2, 9, 10, 11, 13, 15, 17, 22, 23, 24, 25, 26, 27, 28, 29, 30, 31, 32, 33, 34, 35, 36, 42, 43, 44, 75, 76, 77, 78, 79, 80, 81, 82, 83, 84, 85, 86, 87, 88, 89, 90, 91, 92, 93, 94, 95] (by decide +kernel) (by decide +kernel)
set_option maxRecDepth 20000 in
theorem gX4_tryCell_X4_tryLay : GoodIn wsX4_tryCell (wsV RX4 68 RX4 yX4_tryLay wsX4_tryLay) := goodIn_app (goodIn_of _ (by decide +kernel)) ggX4_tryCell_X4_tryLay
theorem dX4_tryCell_0 : decode cX4_tryCell 0 = .ok (.aload_n 0, 1) := by decide +kernel
theorem dX4_tryCell_1 : decode cX4_tryCell 1 = .ok (.getfield 26, 3) := by decide +kernel
theorem dX4_tryCell_4 : decode cX4_tryCell 4 = .ok (.iload_n 1, 1) := by decide +kernel
theorem dX4_tryCell_5 : decode cX4_tryCell 5 = .ok (.invokevirtual 49, 3) := by decide +kernel
theorem dX4_tryCell_8 : decode cX4_tryCell 8 = .ok (.ifCond .ne 10, 3) := by decide +kernel
theorem dX4_tryCell_11 : decode cX4_tryCell 11 = .ok (.aload_n 0, 1) := by decide +kernel
theorem dX4_tryCell_12 : decode cX4_tryCell 12 = .ok (.iload_n 1, 1) := by decide +kernel
theorem dX4_tryCell_13 : decode cX4_tryCell 13 = .ok (.iload_n 2, 1) := by decide +kernel
theorem dX4_tryCell_14 : decode cX4_tryCell 14 = .ok (.invokevirtual 55, 3) := by decide +kernel
theorem dX4_tryCell_17 : decode cX4_tryCell 17 = .ok (.return_, 1) := by decide +kernel
theorem dX4_tryCell_18 : decode cX4_tryCell 18 = .ok (.iconst 0, 1) := by decide +kernel
theorem dX4_tryCell_19 : decode cX4_tryCell 19 = .ok (.istore_n 3, 1) := by decide +kernel
theorem dX4_tryCell_20 : decode cX4_tryCell 20 = .ok (.iload_n 3, 1) := by decide +kernel
theorem dX4_tryCell_21 : decode cX4_tryCell 21 = .ok (.iconst 4, 1) := by decide +kernel
theorem dX4_tryCell_22 : decode cX4_tryCell 22 = .ok (.if_icmp .ge 33, 3) := by decide +kernel
theorem dX4_tryCell_25 : decode cX4_tryCell 25 = .ok (.aload_n 0, 1) := by decide +kernel
theorem dX4_tryCell_26 : decode cX4_tryCell 26 = .ok (.getfield 30, 3) := by decide +kernel
theorem dX4_tryCell_29 : decode cX4_tryCell 29 = .ok (.iload_n 1, 1) := by decide +kernel
theorem dX4_tryCell_30 : decode cX4_tryCell 30 = .ok (.invokevirtual 58, 3) := by decide +kernel
theorem dX4_tryCell_33 : decode cX4_tryCell 33 = .ok (.iload_n 3, 1) := by decide +kernel
theorem dX4_tryCell_34 : decode cX4_tryCell 34 = .ok (.invokestatic 64, 3) := by decide +kernel
theorem dX4_tryCell_37 : decode cX4_tryCell 37 = .ok (.ifCond .eq 12, 3) := by decide +kernel
theorem dX4_tryCell_40 : decode cX4_tryCell 40 = .ok (.aload_n 0, 1) := by decide +kernel
theorem dX4_tryCell_41 : decode cX4_tryCell 41 = .ok (.iload_n 1, 1) := by decide +kernel
theorem dX4_tryCell_42 : decode cX4_tryCell 42 = .ok (.iload_n 3, 1) := by decide +kernel
theorem dX4_tryCell_43 : decode cX4_tryCell 43 = .ok (.iload_n 2, 1) := by decide +kernel
theorem dX4_tryCell_44 : decode cX4_tryCell 44 = .ok (.iload_n 3, 1) := by decide +kernel
theorem dX4_tryCell_45 : decode cX4_tryCell 45 = .ok (.iadd, 1) := by decide +kernel
theorem dX4_tryCell_46 : decode cX4_tryCell 46 = .ok (.invokevirtual 68, 3) := by decide +kernel
theorem dX4_tryCell_49 : decode cX4_tryCell 49 = .ok (.iinc 3 1, 3) := by decide +kernel
theorem dX4_tryCell_52 : decode cX4_tryCell 52 = .ok (.goto (-32), 3) := by decide +kernel
theorem dX4_tryCell_55 : decode cX4_tryCell 55 = .ok (.return_, 1) := by decide +kernel
set_option maxRecDepth 20000 in
theorem ggX4_tryLay_X0_has : GoodIn wsX4_tryLay wsX0_has := goodIn_r _ [8, 9, 83, 84, 85, 86, 87, 88, 89, 90] (by decide +kernel) (by decide +kernel)
set_option maxRecDepth 20000 in
theorem gX4_tryLay_X0_has : GoodIn wsX4_tryLay (wsV RX4 49 RX0 yX0_has wsX0_has) := goodIn_app (goodIn_of _ (by decide +kernel)) ggX4_tryLay_X0_has
set_option maxRecDepth 20000 in
theorem ggX4_tryLay_X0_sidesOf : GoodIn wsX4_tryLay wsX0_sidesOf := goodIn_r _ [13, 14, 15, 16, 17, 83, 84, 85, 86, 87, 88, 89, 90] (by decide +kernel) (by decide +kernel)
set_option maxRecDepth 20000 in
theorem gX4_tryLay_X0_sidesOf : GoodIn wsX4_tryLay (wsV RX4 72 RX0 yX0_sidesOf wsX0_sidesOf) := goodIn_app (goodIn_of _ (by decide +kernel)) ggX4_tryLay_X0_sidesOf
set_option maxRecDepth 20000 in
theorem ggX4_tryLay_X7_turned : GoodIn wsX4_tryLay wsX7_turned := goodIn_r _ [19] (by decide +kernel) (by decide +kernel)
set_option maxRecDepth 20000 in
theorem gX4_tryLay_X7_turned_n75 : GoodIn wsX4_tryLay (wsX7_turned) := ggX4_tryLay_X7_turned
set_option maxRecDepth 20000 in
theorem ggX4_tryLay_X4_fits : GoodIn wsX4_tryLay wsX4_fits := goodIn_r _ [24, 1, 3, 25, 26, 27, 7, 28, 29, 15, 16, 17, 30, 31, 32, 33, 75, 76, 77, 78, 79, 80, 81, 82, 83, 84, 85, 86, 87, 88, 89, 90] (by decide +kernel) (by decide +kernel)
set_option maxRecDepth 20000 in
theorem gX4_tryLay_X4_fits : GoodIn wsX4_tryLay (wsV RX4 79 RX4 yX4_fits wsX4_fits) := goodIn_app (goodIn_of _ (by decide +kernel)) ggX4_tryLay_X4_fits
set_option maxRecDepth 20000 in
theorem ggX4_tryLay_X4_connect : GoodIn wsX4_tryLay wsX4_connect := goodIn_r _ [37, 1, 38, 39, 40, 41, 42, 3, 4, 5, 6, 7, 8, 9, 25, 26, 27, 28, 29, 15, 16, 17, 30, 31, 43, 44, 23, 45, 75, 76, 77, 78, 79, 80, 81, 82, 83, 84, 85, 86, 87, 88, 89, 90] (by decide +kernel) (by decide +kernel)
set_option maxRecDepth 20000 in
theorem gX4_tryLay_X4_connect : GoodIn wsX4_tryLay (wsV RX4 82 RX4 yX4_connect wsX4_connect) := goodIn_app (goodIn_of _ (by decide +kernel)) ggX4_tryLay_X4_connect
set_option maxRecDepth 20000 in
theorem ggX4_tryLay_X4_tryCell : GoodIn wsX4_tryLay wsX4_tryCell := goodIn_r _ [49, 1, 50, 4, 5, 6, 7, 8, 9, 51, 52, 53, 23, 54, 38, 55, 2, 56, 39, 40, 41, 42, 57, 58, 59, 60, 61, 62, 63, 64, 65, 66, 67, 68, 69, 70, 71, 15, 16, 17, 30, 31, 72, 73, 74, 0, 3, 10, 11, 12, 13, 14, 18, 19, 20, 21, 22, 24, 25, 26, 27, 28, 29, 32, 33, 34, 35, 36, 37, 43, 44, 45, 46, 47, 48, 75, 76, 77, 78, 79, 80, 81, 82, 83, 84, 85, 86, 87, 88, 89, 90, 91, 92, 93, 94, 95] (by decide +kernel) (by decide +kernel)
set_option maxRecDepth 20000 in
theorem gX4_tryLay_X4_tryCell : GoodIn wsX4_tryLay (wsV RX4 41 RX4 yX4_tryCell wsX4_tryCell) := goodIn_app (goodIn_of _ (by decide +kernel)) ggX4_tryLay_X4_tryCell
theorem dX4_tryLay_0 : decode cX4_tryLay 0 = .ok (.aload_n 0, 1) := by decide +kernel
theorem dX4_tryLay_1 : decode cX4_tryLay 1 = .ok (.getfield 26, 3) := by decide +kernel
theorem dX4_tryLay_4 : decode cX4_tryLay 4 = .ok (.iload_n 1, 1) := by decide +kernel
theorem dX4_tryLay_5 : decode cX4_tryLay 5 = .ok (.invokevirtual 49, 3) := by decide +kernel
theorem dX4_tryLay_8 : decode cX4_tryLay 8 = .ok (.ifCond .ne 4, 3) := by decide +kernel
theorem dX4_tryLay_11 : decode cX4_tryLay 11 = .ok (.return_, 1) := by decide +kernel
theorem dX4_tryLay_12 : decode cX4_tryLay 12 = .ok (.aload_n 0, 1) := by decide +kernel
theorem dX4_tryLay_13 : decode cX4_tryLay 13 = .ok (.getfield 9, 3) := by decide +kernel
theorem dX4_tryLay_16 : decode cX4_tryLay 16 = .ok (.iload_n 1, 1) := by decide +kernel
theorem dX4_tryLay_17 : decode cX4_tryLay 17 = .ok (.iload_n 2, 1) := by decide +kernel
theorem dX4_tryLay_18 : decode cX4_tryLay 18 = .ok (.iastore, 1) := by decide +kernel
theorem dX4_tryLay_19 : decode cX4_tryLay 19 = .ok (.aload_n 0, 1) := by decide +kernel
theorem dX4_tryLay_20 : decode cX4_tryLay 20 = .ok (.getfield 15, 3) := by decide +kernel
theorem dX4_tryLay_23 : decode cX4_tryLay 23 = .ok (.iload_n 1, 1) := by decide +kernel
theorem dX4_tryLay_24 : decode cX4_tryLay 24 = .ok (.aload_n 0, 1) := by decide +kernel
theorem dX4_tryLay_25 : decode cX4_tryLay 25 = .ok (.getfield 26, 3) := by decide +kernel
theorem dX4_tryLay_28 : decode cX4_tryLay 28 = .ok (.iload_n 1, 1) := by decide +kernel
theorem dX4_tryLay_29 : decode cX4_tryLay 29 = .ok (.invokevirtual 72, 3) := by decide +kernel
theorem dX4_tryLay_32 : decode cX4_tryLay 32 = .ok (.iload_n 2, 1) := by decide +kernel
theorem dX4_tryLay_33 : decode cX4_tryLay 33 = .ok (.invokestatic 75, 3) := by decide +kernel
theorem dX4_tryLay_36 : decode cX4_tryLay 36 = .ok (.iastore, 1) := by decide +kernel
theorem dX4_tryLay_37 : decode cX4_tryLay 37 = .ok (.aload_n 0, 1) := by decide +kernel
theorem dX4_tryLay_38 : decode cX4_tryLay 38 = .ok (.iload_n 1, 1) := by decide +kernel
theorem dX4_tryLay_39 : decode cX4_tryLay 39 = .ok (.invokevirtual 79, 3) := by decide +kernel
theorem dX4_tryLay_42 : decode cX4_tryLay 42 = .ok (.ifCond .eq 19, 3) := by decide +kernel
theorem dX4_tryLay_45 : decode cX4_tryLay 45 = .ok (.aload_n 0, 1) := by decide +kernel
theorem dX4_tryLay_46 : decode cX4_tryLay 46 = .ok (.iload_n 1, 1) := by decide +kernel
theorem dX4_tryLay_47 : decode cX4_tryLay 47 = .ok (.invokevirtual 82, 3) := by decide +kernel
theorem dX4_tryLay_50 : decode cX4_tryLay 50 = .ok (.ifCond .eq 11, 3) := by decide +kernel
theorem dX4_tryLay_53 : decode cX4_tryLay 53 = .ok (.aload_n 0, 1) := by decide +kernel
theorem dX4_tryLay_54 : decode cX4_tryLay 54 = .ok (.iload_n 1, 1) := by decide +kernel
theorem dX4_tryLay_55 : decode cX4_tryLay 55 = .ok (.iconst 1, 1) := by decide +kernel
theorem dX4_tryLay_56 : decode cX4_tryLay 56 = .ok (.iadd, 1) := by decide +kernel
theorem dX4_tryLay_57 : decode cX4_tryLay 57 = .ok (.iload_n 3, 1) := by decide +kernel
theorem dX4_tryLay_58 : decode cX4_tryLay 58 = .ok (.invokevirtual 41, 3) := by decide +kernel
theorem dX4_tryLay_61 : decode cX4_tryLay 61 = .ok (.return_, 1) := by decide +kernel
set_option maxRecDepth 20000 in
theorem ggX4_fits_X0_across : GoodIn wsX4_fits wsX0_across := goodIn_r _ [7, 8, 24, 25, 26, 27, 28, 29, 30, 31] (by decide +kernel) (by decide +kernel)
set_option maxRecDepth 20000 in
theorem gX4_fits_X0_across : GoodIn wsX4_fits (wsV RX4 85 RX0 yX0_across wsX0_across) := goodIn_app (goodIn_of _ (by decide +kernel)) ggX4_fits_X0_across
set_option maxRecDepth 20000 in
theorem ggX4_fits_X7_at : GoodIn wsX4_fits wsX7_at := goodIn_r _ [11] (by decide +kernel) (by decide +kernel)
set_option maxRecDepth 20000 in
theorem gX4_fits_X7_at_n45 : GoodIn wsX4_fits (wsX7_at) := ggX4_fits_X7_at
set_option maxRecDepth 20000 in
theorem ggX4_fits_X7_holds : GoodIn wsX4_fits wsX7_holds := goodIn_r _ [13] (by decide +kernel) (by decide +kernel)
set_option maxRecDepth 20000 in
theorem gX4_fits_X7_holds_n64 : GoodIn wsX4_fits (wsX7_holds) := ggX4_fits_X7_holds
set_option maxRecDepth 20000 in
theorem ggX4_fits_X7_opposite : GoodIn wsX4_fits wsX7_opposite := goodIn_r _ [15] (by decide +kernel) (by decide +kernel)
set_option maxRecDepth 20000 in
theorem gX4_fits_X7_opposite_n88 : GoodIn wsX4_fits (wsX7_opposite) := ggX4_fits_X7_opposite
theorem dX4_fits_0 : decode cX4_fits 0 = .ok (.iconst 0, 1) := by decide +kernel
theorem dX4_fits_1 : decode cX4_fits 1 = .ok (.istore_n 2, 1) := by decide +kernel
theorem dX4_fits_2 : decode cX4_fits 2 = .ok (.iload_n 2, 1) := by decide +kernel
theorem dX4_fits_3 : decode cX4_fits 3 = .ok (.iconst 3, 1) := by decide +kernel
theorem dX4_fits_4 : decode cX4_fits 4 = .ok (.if_icmp .gt 65, 3) := by decide +kernel
theorem dX4_fits_7 : decode cX4_fits 7 = .ok (.aload_n 0, 1) := by decide +kernel
theorem dX4_fits_8 : decode cX4_fits 8 = .ok (.getfield 26, 3) := by decide +kernel
theorem dX4_fits_11 : decode cX4_fits 11 = .ok (.iload_n 1, 1) := by decide +kernel
theorem dX4_fits_12 : decode cX4_fits 12 = .ok (.iload_n 2, 1) := by decide +kernel
theorem dX4_fits_13 : decode cX4_fits 13 = .ok (.invokevirtual 85, 3) := by decide +kernel
theorem dX4_fits_16 : decode cX4_fits 16 = .ok (.istore_n 3, 1) := by decide +kernel
theorem dX4_fits_17 : decode cX4_fits 17 = .ok (.aload_n 0, 1) := by decide +kernel
theorem dX4_fits_18 : decode cX4_fits 18 = .ok (.getfield 15, 3) := by decide +kernel
theorem dX4_fits_21 : decode cX4_fits 21 = .ok (.iload_n 1, 1) := by decide +kernel
theorem dX4_fits_22 : decode cX4_fits 22 = .ok (.invokestatic 45, 3) := by decide +kernel
theorem dX4_fits_25 : decode cX4_fits 25 = .ok (.iload_n 2, 1) := by decide +kernel
theorem dX4_fits_26 : decode cX4_fits 26 = .ok (.invokestatic 64, 3) := by decide +kernel
theorem dX4_fits_29 : decode cX4_fits 29 = .ok (.istore 4, 2) := by decide +kernel
theorem dX4_fits_31 : decode cX4_fits 31 = .ok (.iload_n 3, 1) := by decide +kernel
theorem dX4_fits_32 : decode cX4_fits 32 = .ok (.iconst (-1), 1) := by decide +kernel
theorem dX4_fits_33 : decode cX4_fits 33 = .ok (.if_icmp .eq 30, 3) := by decide +kernel
theorem dX4_fits_36 : decode cX4_fits 36 = .ok (.iload_n 3, 1) := by decide +kernel
theorem dX4_fits_37 : decode cX4_fits 37 = .ok (.iload_n 1, 1) := by decide +kernel
theorem dX4_fits_38 : decode cX4_fits 38 = .ok (.if_icmp .ge 25, 3) := by decide +kernel
theorem dX4_fits_41 : decode cX4_fits 41 = .ok (.iload 4, 2) := by decide +kernel
theorem dX4_fits_43 : decode cX4_fits 43 = .ok (.aload_n 0, 1) := by decide +kernel
theorem dX4_fits_44 : decode cX4_fits 44 = .ok (.getfield 15, 3) := by decide +kernel
theorem dX4_fits_47 : decode cX4_fits 47 = .ok (.iload_n 3, 1) := by decide +kernel
theorem dX4_fits_48 : decode cX4_fits 48 = .ok (.invokestatic 45, 3) := by decide +kernel
theorem dX4_fits_51 : decode cX4_fits 51 = .ok (.iload_n 2, 1) := by decide +kernel
theorem dX4_fits_52 : decode cX4_fits 52 = .ok (.invokestatic 88, 3) := by decide +kernel
theorem dX4_fits_55 : decode cX4_fits 55 = .ok (.invokestatic 64, 3) := by decide +kernel
theorem dX4_fits_58 : decode cX4_fits 58 = .ok (.if_icmp .eq 5, 3) := by decide +kernel
theorem dX4_fits_61 : decode cX4_fits 61 = .ok (.iconst 0, 1) := by decide +kernel
theorem dX4_fits_62 : decode cX4_fits 62 = .ok (.ireturn, 1) := by decide +kernel
theorem dX4_fits_63 : decode cX4_fits 63 = .ok (.iinc 2 1, 3) := by decide +kernel
theorem dX4_fits_66 : decode cX4_fits 66 = .ok (.goto (-64), 3) := by decide +kernel
theorem dX4_fits_69 : decode cX4_fits 69 = .ok (.iconst 1, 1) := by decide +kernel
theorem dX4_fits_70 : decode cX4_fits 70 = .ok (.ireturn, 1) := by decide +kernel
set_option maxRecDepth 20000 in
theorem ggX4_connect_X0_has : GoodIn wsX4_connect wsX0_has := goodIn_r _ [12, 13, 36, 37, 38, 39, 40, 41, 42, 43] (by decide +kernel) (by decide +kernel)
set_option maxRecDepth 20000 in
theorem gX4_connect_X0_has : GoodIn wsX4_connect (wsV RX4 49 RX0 yX0_has wsX0_has) := goodIn_app (goodIn_of _ (by decide +kernel)) ggX4_connect_X0_has
set_option maxRecDepth 20000 in
theorem ggX4_connect_X0_across : GoodIn wsX4_connect wsX0_across := goodIn_r _ [17, 18, 36, 37, 38, 39, 40, 41, 42, 43] (by decide +kernel) (by decide +kernel)
set_option maxRecDepth 20000 in
theorem gX4_connect_X0_across : GoodIn wsX4_connect (wsV RX4 85 RX0 yX0_across wsX0_across) := goodIn_app (goodIn_of _ (by decide +kernel)) ggX4_connect_X0_across
set_option maxRecDepth 20000 in
theorem ggX4_connect_X7_at : GoodIn wsX4_connect wsX7_at := goodIn_r _ [21] (by decide +kernel) (by decide +kernel)
set_option maxRecDepth 20000 in
theorem gX4_connect_X7_at_n45 : GoodIn wsX4_connect (wsX7_at) := ggX4_connect_X7_at
set_option maxRecDepth 20000 in
theorem ggX4_connect_X7_holds : GoodIn wsX4_connect wsX7_holds := goodIn_r _ [23] (by decide +kernel) (by decide +kernel)
set_option maxRecDepth 20000 in
theorem gX4_connect_X7_holds_n64 : GoodIn wsX4_connect (wsX7_holds) := ggX4_connect_X7_holds
set_option maxRecDepth 20000 in
theorem ggX4_connect_X4_merge : GoodIn wsX4_connect wsX4_merge := goodIn_r _ [27, 22, 20, 23] (by decide +kernel) (by decide +kernel)
set_option maxRecDepth 20000 in
theorem gX4_connect_X4_merge : GoodIn wsX4_connect (va_wsS RX4 97 yX4_merge wsX4_merge) := goodIn_app (goodIn_of _ (by decide +kernel)) ggX4_connect_X4_merge
theorem dX4_connect_0 : decode cX4_connect 0 = .ok (.aload_n 0, 1) := by decide +kernel
theorem dX4_connect_1 : decode cX4_connect 1 = .ok (.getfield 26, 3) := by decide +kernel
theorem dX4_connect_4 : decode cX4_connect 4 = .ok (.iload_n 1, 1) := by decide +kernel
theorem dX4_connect_5 : decode cX4_connect 5 = .ok (.invokevirtual 49, 3) := by decide +kernel
theorem dX4_connect_8 : decode cX4_connect 8 = .ok (.ifCond .ne 5, 3) := by decide +kernel
theorem dX4_connect_11 : decode cX4_connect 11 = .ok (.iconst 0, 1) := by decide +kernel
theorem dX4_connect_12 : decode cX4_connect 12 = .ok (.ireturn, 1) := by decide +kernel
theorem dX4_connect_13 : decode cX4_connect 13 = .ok (.aload_n 0, 1) := by decide +kernel
theorem dX4_connect_14 : decode cX4_connect 14 = .ok (.getfield 20, 3) := by decide +kernel
theorem dX4_connect_17 : decode cX4_connect 17 = .ok (.iload_n 1, 1) := by decide +kernel
theorem dX4_connect_18 : decode cX4_connect 18 = .ok (.iconst 1, 1) := by decide +kernel
theorem dX4_connect_19 : decode cX4_connect 19 = .ok (.iadd, 1) := by decide +kernel
theorem dX4_connect_20 : decode cX4_connect 20 = .ok (.aaload, 1) := by decide +kernel
theorem dX4_connect_21 : decode cX4_connect 21 = .ok (.astore_n 2, 1) := by decide +kernel
theorem dX4_connect_22 : decode cX4_connect 22 = .ok (.aload_n 0, 1) := by decide +kernel
theorem dX4_connect_23 : decode cX4_connect 23 = .ok (.getfield 20, 3) := by decide +kernel
theorem dX4_connect_26 : decode cX4_connect 26 = .ok (.iload_n 1, 1) := by decide +kernel
theorem dX4_connect_27 : decode cX4_connect 27 = .ok (.aaload, 1) := by decide +kernel
theorem dX4_connect_28 : decode cX4_connect 28 = .ok (.iconst 0, 1) := by decide +kernel
theorem dX4_connect_29 : decode cX4_connect 29 = .ok (.aload_n 2, 1) := by decide +kernel
theorem dX4_connect_30 : decode cX4_connect 30 = .ok (.iconst 0, 1) := by decide +kernel
theorem dX4_connect_31 : decode cX4_connect 31 = .ok (.bipush 16, 2) := by decide +kernel
theorem dX4_connect_33 : decode cX4_connect 33 = .ok (.invokestatic 91, 3) := by decide +kernel
theorem dX4_connect_36 : decode cX4_connect 36 = .ok (.aload_n 2, 1) := by decide +kernel
theorem dX4_connect_37 : decode cX4_connect 37 = .ok (.iload_n 1, 1) := by decide +kernel
theorem dX4_connect_38 : decode cX4_connect 38 = .ok (.iconst 1, 1) := by decide +kernel
theorem dX4_connect_39 : decode cX4_connect 39 = .ok (.iload_n 1, 1) := by decide +kernel
theorem dX4_connect_40 : decode cX4_connect 40 = .ok (.ishl, 1) := by decide +kernel
theorem dX4_connect_41 : decode cX4_connect 41 = .ok (.iastore, 1) := by decide +kernel
theorem dX4_connect_42 : decode cX4_connect 42 = .ok (.iconst 0, 1) := by decide +kernel
theorem dX4_connect_43 : decode cX4_connect 43 = .ok (.istore_n 3, 1) := by decide +kernel
theorem dX4_connect_44 : decode cX4_connect 44 = .ok (.iload_n 3, 1) := by decide +kernel
theorem dX4_connect_45 : decode cX4_connect 45 = .ok (.iconst 3, 1) := by decide +kernel
theorem dX4_connect_46 : decode cX4_connect 46 = .ok (.if_icmp .gt 74, 3) := by decide +kernel
theorem dX4_connect_49 : decode cX4_connect 49 = .ok (.aload_n 0, 1) := by decide +kernel
theorem dX4_connect_50 : decode cX4_connect 50 = .ok (.getfield 26, 3) := by decide +kernel
theorem dX4_connect_53 : decode cX4_connect 53 = .ok (.iload_n 1, 1) := by decide +kernel
theorem dX4_connect_54 : decode cX4_connect 54 = .ok (.iload_n 3, 1) := by decide +kernel
theorem dX4_connect_55 : decode cX4_connect 55 = .ok (.invokevirtual 85, 3) := by decide +kernel
theorem dX4_connect_58 : decode cX4_connect 58 = .ok (.istore 4, 2) := by decide +kernel
theorem dX4_connect_60 : decode cX4_connect 60 = .ok (.iload 4, 2) := by decide +kernel
theorem dX4_connect_62 : decode cX4_connect 62 = .ok (.iconst (-1), 1) := by decide +kernel
theorem dX4_connect_63 : decode cX4_connect 63 = .ok (.if_icmp .eq 51, 3) := by decide +kernel
theorem dX4_connect_66 : decode cX4_connect 66 = .ok (.iload 4, 2) := by decide +kernel
theorem dX4_connect_68 : decode cX4_connect 68 = .ok (.iload_n 1, 1) := by decide +kernel
theorem dX4_connect_69 : decode cX4_connect 69 = .ok (.if_icmp .ge 45, 3) := by decide +kernel
theorem dX4_connect_72 : decode cX4_connect 72 = .ok (.aload_n 0, 1) := by decide +kernel
theorem dX4_connect_73 : decode cX4_connect 73 = .ok (.getfield 15, 3) := by decide +kernel
theorem dX4_connect_76 : decode cX4_connect 76 = .ok (.iload_n 1, 1) := by decide +kernel
theorem dX4_connect_77 : decode cX4_connect 77 = .ok (.invokestatic 45, 3) := by decide +kernel
theorem dX4_connect_80 : decode cX4_connect 80 = .ok (.iload_n 3, 1) := by decide +kernel
theorem dX4_connect_81 : decode cX4_connect 81 = .ok (.invokestatic 64, 3) := by decide +kernel
theorem dX4_connect_84 : decode cX4_connect 84 = .ok (.ifCond .eq 30, 3) := by decide +kernel
theorem dX4_connect_87 : decode cX4_connect 87 = .ok (.aload_n 2, 1) := by decide +kernel
theorem dX4_connect_88 : decode cX4_connect 88 = .ok (.iload_n 1, 1) := by decide +kernel
theorem dX4_connect_89 : decode cX4_connect 89 = .ok (.iaload, 1) := by decide +kernel
theorem dX4_connect_90 : decode cX4_connect 90 = .ok (.iload 4, 2) := by decide +kernel
theorem dX4_connect_92 : decode cX4_connect 92 = .ok (.invokestatic 64, 3) := by decide +kernel
theorem dX4_connect_95 : decode cX4_connect 95 = .ok (.ifCond .eq 5, 3) := by decide +kernel
theorem dX4_connect_98 : decode cX4_connect 98 = .ok (.iconst 0, 1) := by decide +kernel
theorem dX4_connect_99 : decode cX4_connect 99 = .ok (.ireturn, 1) := by decide +kernel
theorem dX4_connect_100 : decode cX4_connect 100 = .ok (.aload_n 2, 1) := by decide +kernel
theorem dX4_connect_101 : decode cX4_connect 101 = .ok (.aload_n 2, 1) := by decide +kernel
theorem dX4_connect_102 : decode cX4_connect 102 = .ok (.iload_n 1, 1) := by decide +kernel
theorem dX4_connect_103 : decode cX4_connect 103 = .ok (.iaload, 1) := by decide +kernel
theorem dX4_connect_104 : decode cX4_connect 104 = .ok (.aload_n 2, 1) := by decide +kernel
theorem dX4_connect_105 : decode cX4_connect 105 = .ok (.iload 4, 2) := by decide +kernel
theorem dX4_connect_107 : decode cX4_connect 107 = .ok (.invokestatic 45, 3) := by decide +kernel
theorem dX4_connect_110 : decode cX4_connect 110 = .ok (.ior, 1) := by decide +kernel
theorem dX4_connect_111 : decode cX4_connect 111 = .ok (.invokestatic 97, 3) := by decide +kernel
theorem dX4_connect_114 : decode cX4_connect 114 = .ok (.iinc 3 1, 3) := by decide +kernel
theorem dX4_connect_117 : decode cX4_connect 117 = .ok (.goto (-73), 3) := by decide +kernel
