theorem dX4_connect_120 : decode cX4_connect 120 = .ok (.iconst 1, 1) := by decide +kernel
theorem dX4_connect_121 : decode cX4_connect 121 = .ok (.ireturn, 1) := by decide +kernel
set_option maxRecDepth 20000 in
theorem ggX4_merge_X7_holds : GoodIn wsX4_merge wsX7_holds := goodIn_r _ [3] (by decide +kernel) (by decide +kernel)
set_option maxRecDepth 20000 in
theorem gX4_merge_X7_holds_n64 : GoodIn wsX4_merge (wsX7_holds) := ggX4_merge_X7_holds
theorem dX4_merge_0 : decode cX4_merge 0 = .ok (.iconst 0, 1) := by decide +kernel
theorem dX4_merge_1 : decode cX4_merge 1 = .ok (.istore_n 2, 1) := by decide +kernel
theorem dX4_merge_2 : decode cX4_merge 2 = .ok (.iload_n 2, 1) := by decide +kernel
theorem dX4_merge_3 : decode cX4_merge 3 = .ok (.aload_n 0, 1) := by decide +kernel
theorem dX4_merge_4 : decode cX4_merge 4 = .ok (.arraylength, 1) := by decide +kernel
theorem dX4_merge_5 : decode cX4_merge 5 = .ok (.if_icmp .ge 21, 3) := by decide +kernel
theorem dX4_merge_8 : decode cX4_merge 8 = .ok (.iload_n 1, 1) := by decide +kernel
theorem dX4_merge_9 : decode cX4_merge 9 = .ok (.iload_n 2, 1) := by decide +kernel
theorem dX4_merge_10 : decode cX4_merge 10 = .ok (.invokestatic 64, 3) := by decide +kernel
theorem dX4_merge_13 : decode cX4_merge 13 = .ok (.ifCond .eq 7, 3) := by decide +kernel
theorem dX4_merge_16 : decode cX4_merge 16 = .ok (.aload_n 0, 1) := by decide +kernel
theorem dX4_merge_17 : decode cX4_merge 17 = .ok (.iload_n 2, 1) := by decide +kernel
theorem dX4_merge_18 : decode cX4_merge 18 = .ok (.iload_n 1, 1) := by decide +kernel
theorem dX4_merge_19 : decode cX4_merge 19 = .ok (.iastore, 1) := by decide +kernel
theorem dX4_merge_20 : decode cX4_merge 20 = .ok (.iinc 2 1, 3) := by decide +kernel
theorem dX4_merge_23 : decode cX4_merge 23 = .ok (.goto (-21), 3) := by decide +kernel
theorem dX4_merge_26 : decode cX4_merge 26 = .ok (.return_, 1) := by decide +kernel
set_option maxRecDepth 20000 in
theorem ggX4_noteSolution_X0_allCells : GoodIn wsX4_noteSolution wsX0_allCells := goodIn_r _ [19, 20, 29, 30, 31, 32, 33, 34, 35, 36] (by decide +kernel) (by decide +kernel)
set_option maxRecDepth 20000 in
theorem gX4_noteSolution_X0_allCells : GoodIn wsX4_noteSolution (wsV RX4 101 RX0 yX0_allCells wsX0_allCells) := goodIn_app (goodIn_of _ (by decide +kernel)) ggX4_noteSolution_X0_allCells
theorem dX4_noteSolution_0 : decode cX4_noteSolution 0 = .ok (.iload_n 1, 1) := by decide +kernel
theorem dX4_noteSolution_1 : decode cX4_noteSolution 1 = .ok (.ifCond .lt 27, 3) := by decide +kernel
theorem dX4_noteSolution_4 : decode cX4_noteSolution 4 = .ok (.iload_n 1, 1) := by decide +kernel
theorem dX4_noteSolution_5 : decode cX4_noteSolution 5 = .ok (.bipush 16, 2) := by decide +kernel
theorem dX4_noteSolution_7 : decode cX4_noteSolution 7 = .ok (.if_icmp .gt 21, 3) := by decide +kernel
theorem dX4_noteSolution_10 : decode cX4_noteSolution 10 = .ok (.aload_n 0, 1) := by decide +kernel
theorem dX4_noteSolution_11 : decode cX4_noteSolution 11 = .ok (.getfield 20, 3) := by decide +kernel
theorem dX4_noteSolution_14 : decode cX4_noteSolution 14 = .ok (.iload_n 1, 1) := by decide +kernel
theorem dX4_noteSolution_15 : decode cX4_noteSolution 15 = .ok (.aaload, 1) := by decide +kernel
theorem dX4_noteSolution_16 : decode cX4_noteSolution 16 = .ok (.iconst 0, 1) := by decide +kernel
theorem dX4_noteSolution_17 : decode cX4_noteSolution 17 = .ok (.iaload, 1) := by decide +kernel
theorem dX4_noteSolution_18 : decode cX4_noteSolution 18 = .ok (.aload_n 0, 1) := by decide +kernel
theorem dX4_noteSolution_19 : decode cX4_noteSolution 19 = .ok (.getfield 26, 3) := by decide +kernel
theorem dX4_noteSolution_22 : decode cX4_noteSolution 22 = .ok (.invokevirtual 101, 3) := by decide +kernel
theorem dX4_noteSolution_25 : decode cX4_noteSolution 25 = .ok (.if_icmp .eq 4, 3) := by decide +kernel
theorem dX4_noteSolution_28 : decode cX4_noteSolution 28 = .ok (.return_, 1) := by decide +kernel
theorem dX4_noteSolution_29 : decode cX4_noteSolution 29 = .ok (.aload_n 0, 1) := by decide +kernel
theorem dX4_noteSolution_30 : decode cX4_noteSolution 30 = .ok (.getfield 34, 3) := by decide +kernel
theorem dX4_noteSolution_33 : decode cX4_noteSolution 33 = .ok (.ifCond .ne 23, 3) := by decide +kernel
theorem dX4_noteSolution_36 : decode cX4_noteSolution 36 = .ok (.aload_n 0, 1) := by decide +kernel
theorem dX4_noteSolution_37 : decode cX4_noteSolution 37 = .ok (.getfield 9, 3) := by decide +kernel
theorem dX4_noteSolution_40 : decode cX4_noteSolution 40 = .ok (.iconst 0, 1) := by decide +kernel
theorem dX4_noteSolution_41 : decode cX4_noteSolution 41 = .ok (.aload_n 0, 1) := by decide +kernel
theorem dX4_noteSolution_42 : decode cX4_noteSolution 42 = .ok (.getfield 23, 3) := by decide +kernel
theorem dX4_noteSolution_45 : decode cX4_noteSolution 45 = .ok (.iconst 0, 1) := by decide +kernel
theorem dX4_noteSolution_46 : decode cX4_noteSolution 46 = .ok (.bipush 16, 2) := by decide +kernel
theorem dX4_noteSolution_48 : decode cX4_noteSolution 48 = .ok (.invokestatic 91, 3) := by decide +kernel
theorem dX4_noteSolution_51 : decode cX4_noteSolution 51 = .ok (.aload_n 0, 1) := by decide +kernel
theorem dX4_noteSolution_52 : decode cX4_noteSolution 52 = .ok (.iload_n 2, 1) := by decide +kernel
theorem dX4_noteSolution_53 : decode cX4_noteSolution 53 = .ok (.putfield 38, 3) := by decide +kernel
theorem dX4_noteSolution_56 : decode cX4_noteSolution 56 = .ok (.aload_n 0, 1) := by decide +kernel
theorem dX4_noteSolution_57 : decode cX4_noteSolution 57 = .ok (.aload_n 0, 1) := by decide +kernel
theorem dX4_noteSolution_58 : decode cX4_noteSolution 58 = .ok (.getfield 38, 3) := by decide +kernel
theorem dX4_noteSolution_61 : decode cX4_noteSolution 61 = .ok (.iload_n 2, 1) := by decide +kernel
theorem dX4_noteSolution_62 : decode cX4_noteSolution 62 = .ok (.invokestatic 105, 3) := by decide +kernel
theorem dX4_noteSolution_65 : decode cX4_noteSolution 65 = .ok (.putfield 38, 3) := by decide +kernel
theorem dX4_noteSolution_68 : decode cX4_noteSolution 68 = .ok (.aload_n 0, 1) := by decide +kernel
theorem dX4_noteSolution_69 : decode cX4_noteSolution 69 = .ok (.dup, 1) := by decide +kernel
theorem dX4_noteSolution_70 : decode cX4_noteSolution 70 = .ok (.getfield 34, 3) := by decide +kernel
theorem dX4_noteSolution_73 : decode cX4_noteSolution 73 = .ok (.iconst 1, 1) := by decide +kernel
theorem dX4_noteSolution_74 : decode cX4_noteSolution 74 = .ok (.iadd, 1) := by decide +kernel
theorem dX4_noteSolution_75 : decode cX4_noteSolution 75 = .ok (.putfield 34, 3) := by decide +kernel
theorem dX4_noteSolution_78 : decode cX4_noteSolution 78 = .ok (.return_, 1) := by decide +kernel
theorem dX5_init_0 : decode cX5_init 0 = .ok (.aload_n 0, 1) := by decide +kernel
theorem dX5_init_1 : decode cX5_init 1 = .ok (.invokespecial 3, 3) := by decide +kernel
theorem dX5_init_4 : decode cX5_init 4 = .ok (.aload_n 0, 1) := by decide +kernel
theorem dX5_init_5 : decode cX5_init 5 = .ok (.bipush 16, 2) := by decide +kernel
theorem dX5_init_7 : decode cX5_init 7 = .ok (.newarray .int, 2) := by decide +kernel
theorem dX5_init_9 : decode cX5_init 9 = .ok (.putfield 9, 3) := by decide +kernel
theorem dX5_init_12 : decode cX5_init 12 = .ok (.aload_n 0, 1) := by decide +kernel
theorem dX5_init_13 : decode cX5_init 13 = .ok (.bipush 16, 2) := by decide +kernel
theorem dX5_init_15 : decode cX5_init 15 = .ok (.newarray .int, 2) := by decide +kernel
theorem dX5_init_17 : decode cX5_init 17 = .ok (.putfield 15, 3) := by decide +kernel
theorem dX5_init_20 : decode cX5_init 20 = .ok (.aload_n 0, 1) := by decide +kernel
theorem dX5_init_21 : decode cX5_init 21 = .ok (.bipush 16, 2) := by decide +kernel
theorem dX5_init_23 : decode cX5_init 23 = .ok (.newarray .int, 2) := by decide +kernel
theorem dX5_init_25 : decode cX5_init 25 = .ok (.putfield 18, 3) := by decide +kernel
theorem dX5_init_28 : decode cX5_init 28 = .ok (.aload_n 0, 1) := by decide +kernel
theorem dX5_init_29 : decode cX5_init 29 = .ok (.bipush 16, 2) := by decide +kernel
theorem dX5_init_31 : decode cX5_init 31 = .ok (.newarray .int, 2) := by decide +kernel
theorem dX5_init_33 : decode cX5_init 33 = .ok (.putfield 21, 3) := by decide +kernel
theorem dX5_init_36 : decode cX5_init 36 = .ok (.aload_n 0, 1) := by decide +kernel
theorem dX5_init_37 : decode cX5_init 37 = .ok (.aload_n 1, 1) := by decide +kernel
theorem dX5_init_38 : decode cX5_init 38 = .ok (.putfield 24, 3) := by decide +kernel
theorem dX5_init_41 : decode cX5_init 41 = .ok (.return_, 1) := by decide +kernel
set_option maxRecDepth 20000 in
theorem ggX5_sift_X0_has : GoodIn wsX5_sift wsX0_has := goodIn_r _ [7, 8, 78, 79, 80, 81, 82, 83, 84, 85] (by decide +kernel) (by decide +kernel)
set_option maxRecDepth 20000 in
theorem gX5_sift_X0_has : GoodIn wsX5_sift (wsV RX5 28 RX0 yX0_has wsX0_has) := goodIn_app (goodIn_of _ (by decide +kernel)) ggX5_sift_X0_has
set_option maxRecDepth 20000 in
theorem ggX5_sift_X0_ownLays : GoodIn wsX5_sift wsX0_ownLays := goodIn_r _ [12, 13, 14, 15, 6, 16, 17, 18, 19, 20, 21, 22, 23, 24, 25, 26, 27, 28, 29, 78, 79, 80, 81, 82, 83, 84, 85] (by decide +kernel) (by decide +kernel)
set_option maxRecDepth 20000 in
theorem gX5_sift_X0_ownLays : GoodIn wsX5_sift (wsV RX5 34 RX0 yX0_ownLays wsX0_ownLays) := goodIn_app (goodIn_of _ (by decide +kernel)) ggX5_sift_X0_ownLays
set_option maxRecDepth 20000 in
theorem ggX5_sift_X5_strikeOnce : GoodIn wsX5_sift wsX5_strikeOnce := goodIn_r _ [34, 35, 36, 37, 1, 38, 39, 40, 33, 41, 2, 42, 43, 44, 45, 18, 19, 20, 26, 27, 46, 14, 15, 6, 16, 17, 28, 29, 47, 48, 49, 50, 51, 52, 53, 54, 55, 56, 57, 58, 59, 60, 61, 62, 63, 64, 65, 66, 67, 68, 69, 70, 71, 72, 73, 74, 75, 76, 77, 78, 79, 80, 81, 82, 83, 84, 85] (by decide +kernel) (by decide +kernel)
set_option maxRecDepth 20000 in
theorem gX5_sift_X5_strikeOnce : GoodIn wsX5_sift (wsV RX5 38 RX5 yX5_strikeOnce wsX5_strikeOnce) := goodIn_app (goodIn_of _ (by decide +kernel)) ggX5_sift_X5_strikeOnce
theorem dX5_sift_0 : decode cX5_sift 0 = .ok (.iconst 0, 1) := by decide +kernel
theorem dX5_sift_1 : decode cX5_sift 1 = .ok (.istore_n 1, 1) := by decide +kernel
theorem dX5_sift_2 : decode cX5_sift 2 = .ok (.iload_n 1, 1) := by decide +kernel
theorem dX5_sift_3 : decode cX5_sift 3 = .ok (.bipush 16, 2) := by decide +kernel
theorem dX5_sift_5 : decode cX5_sift 5 = .ok (.if_icmp .ge 38, 3) := by decide +kernel
theorem dX5_sift_8 : decode cX5_sift 8 = .ok (.aload_n 0, 1) := by decide +kernel
theorem dX5_sift_9 : decode cX5_sift 9 = .ok (.getfield 9, 3) := by decide +kernel
theorem dX5_sift_12 : decode cX5_sift 12 = .ok (.iload_n 1, 1) := by decide +kernel
theorem dX5_sift_13 : decode cX5_sift 13 = .ok (.aload_n 0, 1) := by decide +kernel
theorem dX5_sift_14 : decode cX5_sift 14 = .ok (.getfield 24, 3) := by decide +kernel
theorem dX5_sift_17 : decode cX5_sift 17 = .ok (.iload_n 1, 1) := by decide +kernel
theorem dX5_sift_18 : decode cX5_sift 18 = .ok (.invokevirtual 28, 3) := by decide +kernel
theorem dX5_sift_21 : decode cX5_sift 21 = .ok (.ifCond .eq 14, 3) := by decide +kernel
theorem dX5_sift_24 : decode cX5_sift 24 = .ok (.aload_n 0, 1) := by decide +kernel
theorem dX5_sift_25 : decode cX5_sift 25 = .ok (.getfield 24, 3) := by decide +kernel
theorem dX5_sift_28 : decode cX5_sift 28 = .ok (.iload_n 1, 1) := by decide +kernel
theorem dX5_sift_29 : decode cX5_sift 29 = .ok (.invokevirtual 34, 3) := by decide +kernel
theorem dX5_sift_32 : decode cX5_sift 32 = .ok (.goto 4, 3) := by decide +kernel
theorem dX5_sift_35 : decode cX5_sift 35 = .ok (.iconst 0, 1) := by decide +kernel
theorem dX5_sift_36 : decode cX5_sift 36 = .ok (.iastore, 1) := by decide +kernel
theorem dX5_sift_37 : decode cX5_sift 37 = .ok (.iinc 1 1, 3) := by decide +kernel
theorem dX5_sift_40 : decode cX5_sift 40 = .ok (.goto (-38), 3) := by decide +kernel
theorem dX5_sift_43 : decode cX5_sift 43 = .ok (.iconst 1, 1) := by decide +kernel
theorem dX5_sift_44 : decode cX5_sift 44 = .ok (.istore_n 1, 1) := by decide +kernel
theorem dX5_sift_45 : decode cX5_sift 45 = .ok (.iconst 0, 1) := by decide +kernel
theorem dX5_sift_46 : decode cX5_sift 46 = .ok (.istore_n 2, 1) := by decide +kernel
theorem dX5_sift_47 : decode cX5_sift 47 = .ok (.iload_n 1, 1) := by decide +kernel
theorem dX5_sift_48 : decode cX5_sift 48 = .ok (.ifCond .eq 20, 3) := by decide +kernel
theorem dX5_sift_51 : decode cX5_sift 51 = .ok (.iload_n 2, 1) := by decide +kernel
theorem dX5_sift_52 : decode cX5_sift 52 = .ok (.bipush 64, 2) := by decide +kernel
theorem dX5_sift_54 : decode cX5_sift 54 = .ok (.if_icmp .gt 14, 3) := by decide +kernel
theorem dX5_sift_57 : decode cX5_sift 57 = .ok (.aload_n 0, 1) := by decide +kernel
theorem dX5_sift_58 : decode cX5_sift 58 = .ok (.invokevirtual 38, 3) := by decide +kernel
theorem dX5_sift_61 : decode cX5_sift 61 = .ok (.istore_n 1, 1) := by decide +kernel
theorem dX5_sift_62 : decode cX5_sift 62 = .ok (.iinc 2 1, 3) := by decide +kernel
theorem dX5_sift_65 : decode cX5_sift 65 = .ok (.goto (-18), 3) := by decide +kernel
theorem dX5_sift_68 : decode cX5_sift 68 = .ok (.return_, 1) := by decide +kernel
set_option maxRecDepth 20000 in
theorem ggX5_leftAt_X7_at : GoodIn wsX5_leftAt wsX7_at := goodIn_r _ [4] (by decide +kernel) (by decide +kernel)
set_option maxRecDepth 20000 in
theorem gX5_leftAt_X7_at_n42 : GoodIn wsX5_leftAt (wsX7_at) := ggX5_leftAt_X7_at
theorem dX5_leftAt_0 : decode cX5_leftAt 0 = .ok (.aload_n 0, 1) := by decide +kernel
theorem dX5_leftAt_1 : decode cX5_leftAt 1 = .ok (.getfield 9, 3) := by decide +kernel
theorem dX5_leftAt_4 : decode cX5_leftAt 4 = .ok (.iload_n 1, 1) := by decide +kernel
theorem dX5_leftAt_5 : decode cX5_leftAt 5 = .ok (.invokestatic 42, 3) := by decide +kernel
theorem dX5_leftAt_8 : decode cX5_leftAt 8 = .ok (.ireturn, 1) := by decide +kernel
set_option maxRecDepth 20000 in
theorem ggX5_strikeOnce_X5_openAtSome : GoodIn wsX5_strikeOnce wsX5_openAtSome := goodIn_r _ [9, 10, 11, 12, 13, 8, 14, 4, 15, 16, 17, 18, 19, 20, 21, 22, 23, 24, 25, 26, 27, 54, 55, 56, 57, 58, 59, 60, 61, 62, 63, 64, 65, 66] (by decide +kernel) (by decide +kernel)
set_option maxRecDepth 20000 in
theorem gX5_strikeOnce_X5_openAtSome : GoodIn wsX5_strikeOnce (wsV RX5 46 RX5 yX5_openAtSome wsX5_openAtSome) := goodIn_app (goodIn_of _ (by decide +kernel)) ggX5_strikeOnce_X5_openAtSome
set_option maxRecDepth 20000 in
theorem ggX5_strikeOnce_X5_openAtAll : GoodIn wsX5_strikeOnce wsX5_openAtAll := goodIn_r _ [31, 10, 11, 12, 13, 8, 14, 4, 15, 16, 17, 18, 19, 20, 21, 22, 23, 24, 25, 26, 27, 54, 55, 56, 57, 58, 59, 60, 61, 62, 63, 64, 65, 66] (by decide +kernel) (by decide +kernel)
set_option maxRecDepth 20000 in
theorem gX5_strikeOnce_X5_openAtAll : GoodIn wsX5_strikeOnce (wsV RX5 49 RX5 yX5_openAtAll wsX5_openAtAll) := goodIn_app (goodIn_of _ (by decide +kernel)) ggX5_strikeOnce_X5_openAtAll
set_option maxRecDepth 20000 in
theorem ggX5_strikeOnce_X5_settledWith : GoodIn wsX5_strikeOnce wsX5_settledWith := goodIn_r _ [35, 10, 2, 36, 37, 38, 23, 39, 40, 15, 16, 17, 18, 19, 41, 42, 54, 55, 56, 57, 58, 59, 60, 61, 62, 63, 64, 65, 66] (by decide +kernel) (by decide +kernel)
set_option maxRecDepth 20000 in
theorem gX5_strikeOnce_X5_settledWith : GoodIn wsX5_strikeOnce (wsV RX5 52 RX5 yX5_settledWith wsX5_settledWith) := goodIn_app (goodIn_of _ (by decide +kernel)) ggX5_strikeOnce_X5_settledWith
set_option maxRecDepth 20000 in
theorem ggX5_strikeOnce_X5_keptLays : GoodIn wsX5_strikeOnce wsX5_keptLays := goodIn_r _ [46, 10, 1, 2, 36, 37, 38, 23, 39, 40, 15, 16, 17, 41, 42, 18, 19, 20, 21, 22, 24, 25, 26, 27, 11, 12, 13, 8, 14, 4, 47, 48, 49, 50, 3, 51, 52, 53, 54, 55, 56, 57, 58, 59, 60, 61, 62, 63, 64, 65, 66] (by decide +kernel) (by decide +kernel)
set_option maxRecDepth 20000 in
theorem gX5_strikeOnce_X5_keptLays : GoodIn wsX5_strikeOnce (wsV RX5 55 RX5 yX5_keptLays wsX5_keptLays) := goodIn_app (goodIn_of _ (by decide +kernel)) ggX5_strikeOnce_X5_keptLays
theorem dX5_strikeOnce_0 : decode cX5_strikeOnce 0 = .ok (.iconst 0, 1) := by decide +kernel
theorem dX5_strikeOnce_1 : decode cX5_strikeOnce 1 = .ok (.istore_n 1, 1) := by decide +kernel
theorem dX5_strikeOnce_2 : decode cX5_strikeOnce 2 = .ok (.iload_n 1, 1) := by decide +kernel
theorem dX5_strikeOnce_3 : decode cX5_strikeOnce 3 = .ok (.bipush 16, 2) := by decide +kernel
theorem dX5_strikeOnce_5 : decode cX5_strikeOnce 5 = .ok (.if_icmp .ge 31, 3) := by decide +kernel
theorem dX5_strikeOnce_8 : decode cX5_strikeOnce 8 = .ok (.aload_n 0, 1) := by decide +kernel
theorem dX5_strikeOnce_9 : decode cX5_strikeOnce 9 = .ok (.getfield 15, 3) := by decide +kernel
theorem dX5_strikeOnce_12 : decode cX5_strikeOnce 12 = .ok (.iload_n 1, 1) := by decide +kernel
theorem dX5_strikeOnce_13 : decode cX5_strikeOnce 13 = .ok (.aload_n 0, 1) := by decide +kernel
theorem dX5_strikeOnce_14 : decode cX5_strikeOnce 14 = .ok (.iload_n 1, 1) := by decide +kernel
theorem dX5_strikeOnce_15 : decode cX5_strikeOnce 15 = .ok (.invokevirtual 46, 3) := by decide +kernel
theorem dX5_strikeOnce_18 : decode cX5_strikeOnce 18 = .ok (.iastore, 1) := by decide +kernel
theorem dX5_strikeOnce_19 : decode cX5_strikeOnce 19 = .ok (.aload_n 0, 1) := by decide +kernel
theorem dX5_strikeOnce_20 : decode cX5_strikeOnce 20 = .ok (.getfield 18, 3) := by decide +kernel
theorem dX5_strikeOnce_23 : decode cX5_strikeOnce 23 = .ok (.iload_n 1, 1) := by decide +kernel
theorem dX5_strikeOnce_24 : decode cX5_strikeOnce 24 = .ok (.aload_n 0, 1) := by decide +kernel
theorem dX5_strikeOnce_25 : decode cX5_strikeOnce 25 = .ok (.iload_n 1, 1) := by decide +kernel
theorem dX5_strikeOnce_26 : decode cX5_strikeOnce 26 = .ok (.invokevirtual 49, 3) := by decide +kernel
theorem dX5_strikeOnce_29 : decode cX5_strikeOnce 29 = .ok (.iastore, 1) := by decide +kernel
theorem dX5_strikeOnce_30 : decode cX5_strikeOnce 30 = .ok (.iinc 1 1, 3) := by decide +kernel
theorem dX5_strikeOnce_33 : decode cX5_strikeOnce 33 = .ok (.goto (-31), 3) := by decide +kernel
theorem dX5_strikeOnce_36 : decode cX5_strikeOnce 36 = .ok (.iconst 0, 1) := by decide +kernel
theorem dX5_strikeOnce_37 : decode cX5_strikeOnce 37 = .ok (.istore_n 1, 1) := by decide +kernel
theorem dX5_strikeOnce_38 : decode cX5_strikeOnce 38 = .ok (.iload_n 1, 1) := by decide +kernel
theorem dX5_strikeOnce_39 : decode cX5_strikeOnce 39 = .ok (.bipush 16, 2) := by decide +kernel
theorem dX5_strikeOnce_41 : decode cX5_strikeOnce 41 = .ok (.if_icmp .ge 20, 3) := by decide +kernel
theorem dX5_strikeOnce_44 : decode cX5_strikeOnce 44 = .ok (.aload_n 0, 1) := by decide +kernel
theorem dX5_strikeOnce_45 : decode cX5_strikeOnce 45 = .ok (.getfield 21, 3) := by decide +kernel
theorem dX5_strikeOnce_48 : decode cX5_strikeOnce 48 = .ok (.iload_n 1, 1) := by decide +kernel
theorem dX5_strikeOnce_49 : decode cX5_strikeOnce 49 = .ok (.aload_n 0, 1) := by decide +kernel
theorem dX5_strikeOnce_50 : decode cX5_strikeOnce 50 = .ok (.iload_n 1, 1) := by decide +kernel
theorem dX5_strikeOnce_51 : decode cX5_strikeOnce 51 = .ok (.invokevirtual 52, 3) := by decide +kernel
theorem dX5_strikeOnce_54 : decode cX5_strikeOnce 54 = .ok (.iastore, 1) := by decide +kernel
theorem dX5_strikeOnce_55 : decode cX5_strikeOnce 55 = .ok (.iinc 1 1, 3) := by decide +kernel
theorem dX5_strikeOnce_58 : decode cX5_strikeOnce 58 = .ok (.goto (-20), 3) := by decide +kernel
theorem dX5_strikeOnce_61 : decode cX5_strikeOnce 61 = .ok (.iconst 0, 1) := by decide +kernel
theorem dX5_strikeOnce_62 : decode cX5_strikeOnce 62 = .ok (.istore_n 1, 1) := by decide +kernel
theorem dX5_strikeOnce_63 : decode cX5_strikeOnce 63 = .ok (.iconst 0, 1) := by decide +kernel
theorem dX5_strikeOnce_64 : decode cX5_strikeOnce 64 = .ok (.istore_n 2, 1) := by decide +kernel
theorem dX5_strikeOnce_65 : decode cX5_strikeOnce 65 = .ok (.iload_n 2, 1) := by decide +kernel
theorem dX5_strikeOnce_66 : decode cX5_strikeOnce 66 = .ok (.bipush 16, 2) := by decide +kernel
theorem dX5_strikeOnce_68 : decode cX5_strikeOnce 68 = .ok (.if_icmp .ge 40, 3) := by decide +kernel
theorem dX5_strikeOnce_71 : decode cX5_strikeOnce 71 = .ok (.aload_n 0, 1) := by decide +kernel
theorem dX5_strikeOnce_72 : decode cX5_strikeOnce 72 = .ok (.iload_n 2, 1) := by decide +kernel
theorem dX5_strikeOnce_73 : decode cX5_strikeOnce 73 = .ok (.invokevirtual 55, 3) := by decide +kernel
theorem dX5_strikeOnce_76 : decode cX5_strikeOnce 76 = .ok (.istore_n 3, 1) := by decide +kernel
theorem dX5_strikeOnce_77 : decode cX5_strikeOnce 77 = .ok (.iload_n 1, 1) := by decide +kernel
theorem dX5_strikeOnce_78 : decode cX5_strikeOnce 78 = .ok (.iload_n 3, 1) := by decide +kernel
theorem dX5_strikeOnce_79 : decode cX5_strikeOnce 79 = .ok (.aload_n 0, 1) := by decide +kernel
theorem dX5_strikeOnce_80 : decode cX5_strikeOnce 80 = .ok (.getfield 9, 3) := by decide +kernel
theorem dX5_strikeOnce_83 : decode cX5_strikeOnce 83 = .ok (.iload_n 2, 1) := by decide +kernel
theorem dX5_strikeOnce_84 : decode cX5_strikeOnce 84 = .ok (.iaload, 1) := by decide +kernel
theorem dX5_strikeOnce_85 : decode cX5_strikeOnce 85 = .ok (.if_icmp .eq 7, 3) := by decide +kernel
theorem dX5_strikeOnce_88 : decode cX5_strikeOnce 88 = .ok (.iconst 1, 1) := by decide +kernel
theorem dX5_strikeOnce_89 : decode cX5_strikeOnce 89 = .ok (.goto 4, 3) := by decide +kernel
theorem dX5_strikeOnce_92 : decode cX5_strikeOnce 92 = .ok (.iconst 0, 1) := by decide +kernel
theorem dX5_strikeOnce_93 : decode cX5_strikeOnce 93 = .ok (.ior, 1) := by decide +kernel
theorem dX5_strikeOnce_94 : decode cX5_strikeOnce 94 = .ok (.istore_n 1, 1) := by decide +kernel
theorem dX5_strikeOnce_95 : decode cX5_strikeOnce 95 = .ok (.aload_n 0, 1) := by decide +kernel
theorem dX5_strikeOnce_96 : decode cX5_strikeOnce 96 = .ok (.getfield 9, 3) := by decide +kernel
theorem dX5_strikeOnce_99 : decode cX5_strikeOnce 99 = .ok (.iload_n 2, 1) := by decide +kernel
theorem dX5_strikeOnce_100 : decode cX5_strikeOnce 100 = .ok (.iload_n 3, 1) := by decide +kernel
theorem dX5_strikeOnce_101 : decode cX5_strikeOnce 101 = .ok (.iastore, 1) := by decide +kernel
theorem dX5_strikeOnce_102 : decode cX5_strikeOnce 102 = .ok (.iinc 2 1, 3) := by decide +kernel
theorem dX5_strikeOnce_105 : decode cX5_strikeOnce 105 = .ok (.goto (-40), 3) := by decide +kernel
theorem dX5_strikeOnce_108 : decode cX5_strikeOnce 108 = .ok (.iload_n 1, 1) := by decide +kernel
theorem dX5_strikeOnce_109 : decode cX5_strikeOnce 109 = .ok (.ireturn, 1) := by decide +kernel
set_option maxRecDepth 20000 in
theorem ggX5_openAtSome_X5_leftAt : GoodIn wsX5_openAtSome wsX5_leftAt := goodIn_r _ [6, 7, 8, 9, 10, 21, 22, 23, 24, 25] (by decide +kernel) (by decide +kernel)
set_option maxRecDepth 20000 in
theorem gX5_openAtSome_X5_leftAt : GoodIn wsX5_openAtSome (wsV RX5 58 RX5 yX5_leftAt wsX5_leftAt) := goodIn_app (goodIn_of _ (by decide +kernel)) ggX5_openAtSome_X5_leftAt
set_option maxRecDepth 20000 in
theorem ggX5_openAtSome_X7_holds : GoodIn wsX5_openAtSome wsX7_holds := goodIn_r _ [12] (by decide +kernel) (by decide +kernel)
set_option maxRecDepth 20000 in
theorem gX5_openAtSome_X7_holds_n61 : GoodIn wsX5_openAtSome (wsX7_holds) := ggX5_openAtSome_X7_holds
set_option maxRecDepth 20000 in
theorem ggX5_openAtSome_X0_sidesOf : GoodIn wsX5_openAtSome wsX0_sidesOf := goodIn_r _ [17, 18, 8, 9, 10, 26, 27, 28, 29, 30, 31, 32, 33] (by decide +kernel) (by decide +kernel)
set_option maxRecDepth 20000 in
theorem gX5_openAtSome_X0_sidesOf : GoodIn wsX5_openAtSome (wsV RX5 65 RX0 yX0_sidesOf wsX0_sidesOf) := goodIn_app (goodIn_of _ (by decide +kernel)) ggX5_openAtSome_X0_sidesOf
set_option maxRecDepth 20000 in
theorem ggX5_openAtSome_X7_turned : GoodIn wsX5_openAtSome wsX7_turned := goodIn_r _ [20] (by decide +kernel) (by decide +kernel)
set_option maxRecDepth 20000 in
theorem gX5_openAtSome_X7_turned_n68 : GoodIn wsX5_openAtSome (wsX7_turned) := ggX5_openAtSome_X7_turned
theorem dX5_openAtSome_0 : decode cX5_openAtSome 0 = .ok (.iconst 0, 1) := by decide +kernel
theorem dX5_openAtSome_1 : decode cX5_openAtSome 1 = .ok (.istore_n 2, 1) := by decide +kernel
theorem dX5_openAtSome_2 : decode cX5_openAtSome 2 = .ok (.iconst 0, 1) := by decide +kernel
theorem dX5_openAtSome_3 : decode cX5_openAtSome 3 = .ok (.istore_n 3, 1) := by decide +kernel
theorem dX5_openAtSome_4 : decode cX5_openAtSome 4 = .ok (.iload_n 3, 1) := by decide +kernel
theorem dX5_openAtSome_5 : decode cX5_openAtSome 5 = .ok (.iconst 4, 1) := by decide +kernel
theorem dX5_openAtSome_6 : decode cX5_openAtSome 6 = .ok (.if_icmp .ge 36, 3) := by decide +kernel
theorem dX5_openAtSome_9 : decode cX5_openAtSome 9 = .ok (.aload_n 0, 1) := by decide +kernel
theorem dX5_openAtSome_10 : decode cX5_openAtSome 10 = .ok (.iload_n 1, 1) := by decide +kernel
theorem dX5_openAtSome_11 : decode cX5_openAtSome 11 = .ok (.invokevirtual 58, 3) := by decide +kernel
theorem dX5_openAtSome_14 : decode cX5_openAtSome 14 = .ok (.iload_n 3, 1) := by decide +kernel
theorem dX5_openAtSome_15 : decode cX5_openAtSome 15 = .ok (.invokestatic 61, 3) := by decide +kernel
theorem dX5_openAtSome_18 : decode cX5_openAtSome 18 = .ok (.ifCond .eq 18, 3) := by decide +kernel
theorem dX5_openAtSome_21 : decode cX5_openAtSome 21 = .ok (.iload_n 2, 1) := by decide +kernel
theorem dX5_openAtSome_22 : decode cX5_openAtSome 22 = .ok (.aload_n 0, 1) := by decide +kernel
theorem dX5_openAtSome_23 : decode cX5_openAtSome 23 = .ok (.getfield 24, 3) := by decide +kernel
theorem dX5_openAtSome_26 : decode cX5_openAtSome 26 = .ok (.iload_n 1, 1) := by decide +kernel
theorem dX5_openAtSome_27 : decode cX5_openAtSome 27 = .ok (.invokevirtual 65, 3) := by decide +kernel
theorem dX5_openAtSome_30 : decode cX5_openAtSome 30 = .ok (.iload_n 3, 1) := by decide +kernel
theorem dX5_openAtSome_31 : decode cX5_openAtSome 31 = .ok (.invokestatic 68, 3) := by decide +kernel
theorem dX5_openAtSome_34 : decode cX5_openAtSome 34 = .ok (.ior, 1) := by decide +kernel
theorem dX5_openAtSome_35 : decode cX5_openAtSome 35 = .ok (.istore_n 2, 1) := by decide +kernel
theorem dX5_openAtSome_36 : decode cX5_openAtSome 36 = .ok (.iinc 3 1, 3) := by decide +kernel
theorem dX5_openAtSome_39 : decode cX5_openAtSome 39 = .ok (.goto (-35), 3) := by decide +kernel
theorem dX5_openAtSome_42 : decode cX5_openAtSome 42 = .ok (.iload_n 2, 1) := by decide +kernel
theorem dX5_openAtSome_43 : decode cX5_openAtSome 43 = .ok (.ireturn, 1) := by decide +kernel
set_option maxRecDepth 20000 in
theorem ggX5_openAtAll_X5_leftAt : GoodIn wsX5_openAtAll wsX5_leftAt := goodIn_r _ [6, 7, 8, 9, 10, 21, 22, 23, 24, 25] (by decide +kernel) (by decide +kernel)
set_option maxRecDepth 20000 in
theorem gX5_openAtAll_X5_leftAt : GoodIn wsX5_openAtAll (wsV RX5 58 RX5 yX5_leftAt wsX5_leftAt) := goodIn_app (goodIn_of _ (by decide +kernel)) ggX5_openAtAll_X5_leftAt
set_option maxRecDepth 20000 in
theorem ggX5_openAtAll_X7_holds : GoodIn wsX5_openAtAll wsX7_holds := goodIn_r _ [12] (by decide +kernel) (by decide +kernel)
set_option maxRecDepth 20000 in
theorem gX5_openAtAll_X7_holds_n61 : GoodIn wsX5_openAtAll (wsX7_holds) := ggX5_openAtAll_X7_holds
set_option maxRecDepth 20000 in
theorem ggX5_openAtAll_X0_sidesOf : GoodIn wsX5_openAtAll wsX0_sidesOf := goodIn_r _ [17, 18, 8, 9, 10, 26, 27, 28, 29, 30, 31, 32, 33] (by decide +kernel) (by decide +kernel)
set_option maxRecDepth 20000 in
theorem gX5_openAtAll_X0_sidesOf : GoodIn wsX5_openAtAll (wsV RX5 65 RX0 yX0_sidesOf wsX0_sidesOf) := goodIn_app (goodIn_of _ (by decide +kernel)) ggX5_openAtAll_X0_sidesOf
set_option maxRecDepth 20000 in
theorem ggX5_openAtAll_X7_turned : GoodIn wsX5_openAtAll wsX7_turned := goodIn_r _ [20] (by decide +kernel) (by decide +kernel)
set_option maxRecDepth 20000 in
theorem gX5_openAtAll_X7_turned_n68 : GoodIn wsX5_openAtAll (wsX7_turned) := ggX5_openAtAll_X7_turned
theorem dX5_openAtAll_0 : decode cX5_openAtAll 0 = .ok (.bipush 15, 2) := by decide +kernel
theorem dX5_openAtAll_2 : decode cX5_openAtAll 2 = .ok (.istore_n 2, 1) := by decide +kernel
theorem dX5_openAtAll_3 : decode cX5_openAtAll 3 = .ok (.iconst 0, 1) := by decide +kernel
theorem dX5_openAtAll_4 : decode cX5_openAtAll 4 = .ok (.istore_n 3, 1) := by decide +kernel
theorem dX5_openAtAll_5 : decode cX5_openAtAll 5 = .ok (.iload_n 3, 1) := by decide +kernel
theorem dX5_openAtAll_6 : decode cX5_openAtAll 6 = .ok (.iconst 4, 1) := by decide +kernel
theorem dX5_openAtAll_7 : decode cX5_openAtAll 7 = .ok (.if_icmp .ge 36, 3) := by decide +kernel
theorem dX5_openAtAll_10 : decode cX5_openAtAll 10 = .ok (.aload_n 0, 1) := by decide +kernel
theorem dX5_openAtAll_11 : decode cX5_openAtAll 11 = .ok (.iload_n 1, 1) := by decide +kernel
theorem dX5_openAtAll_12 : decode cX5_openAtAll 12 = .ok (.invokevirtual 58, 3) := by decide +kernel
theorem dX5_openAtAll_15 : decode cX5_openAtAll 15 = .ok (.iload_n 3, 1) := by decide +kernel
theorem dX5_openAtAll_16 : decode cX5_openAtAll 16 = .ok (.invokestatic 61, 3) := by decide +kernel
theorem dX5_openAtAll_19 : decode cX5_openAtAll 19 = .ok (.ifCond .eq 18, 3) := by decide +kernel
theorem dX5_openAtAll_22 : decode cX5_openAtAll 22 = .ok (.iload_n 2, 1) := by decide +kernel
theorem dX5_openAtAll_23 : decode cX5_openAtAll 23 = .ok (.aload_n 0, 1) := by decide +kernel
theorem dX5_openAtAll_24 : decode cX5_openAtAll 24 = .ok (.getfield 24, 3) := by decide +kernel
theorem dX5_openAtAll_27 : decode cX5_openAtAll 27 = .ok (.iload_n 1, 1) := by decide +kernel
theorem dX5_openAtAll_28 : decode cX5_openAtAll 28 = .ok (.invokevirtual 65, 3) := by decide +kernel
theorem dX5_openAtAll_31 : decode cX5_openAtAll 31 = .ok (.iload_n 3, 1) := by decide +kernel
theorem dX5_openAtAll_32 : decode cX5_openAtAll 32 = .ok (.invokestatic 68, 3) := by decide +kernel
theorem dX5_openAtAll_35 : decode cX5_openAtAll 35 = .ok (.iand, 1) := by decide +kernel
theorem dX5_openAtAll_36 : decode cX5_openAtAll 36 = .ok (.istore_n 2, 1) := by decide +kernel
theorem dX5_openAtAll_37 : decode cX5_openAtAll 37 = .ok (.iinc 3 1, 3) := by decide +kernel
theorem dX5_openAtAll_40 : decode cX5_openAtAll 40 = .ok (.goto (-35), 3) := by decide +kernel
theorem dX5_openAtAll_43 : decode cX5_openAtAll 43 = .ok (.iload_n 2, 1) := by decide +kernel
theorem dX5_openAtAll_44 : decode cX5_openAtAll 44 = .ok (.ireturn, 1) := by decide +kernel
set_option maxRecDepth 20000 in
theorem ggX5_settledWith_X0_across : GoodIn wsX5_settledWith wsX0_across := goodIn_r _ [7, 8, 21, 22, 23, 24, 25, 26, 27, 28] (by decide +kernel) (by decide +kernel)
set_option maxRecDepth 20000 in
theorem gX5_settledWith_X0_across : GoodIn wsX5_settledWith (wsV RX5 72 RX0 yX0_across wsX0_across) := goodIn_app (goodIn_of _ (by decide +kernel)) ggX5_settledWith_X0_across
set_option maxRecDepth 20000 in
theorem ggX5_settledWith_X7_at : GoodIn wsX5_settledWith wsX7_at := goodIn_r _ [11] (by decide +kernel) (by decide +kernel)
set_option maxRecDepth 20000 in
theorem gX5_settledWith_X7_at_n42 : GoodIn wsX5_settledWith (wsX7_at) := ggX5_settledWith_X7_at
set_option maxRecDepth 20000 in
theorem ggX5_settledWith_X7_holds : GoodIn wsX5_settledWith wsX7_holds := goodIn_r _ [13] (by decide +kernel) (by decide +kernel)
set_option maxRecDepth 20000 in
theorem gX5_settledWith_X7_holds_n61 : GoodIn wsX5_settledWith (wsX7_holds) := ggX5_settledWith_X7_holds
set_option maxRecDepth 20000 in
theorem ggX5_settledWith_X7_opposite : GoodIn wsX5_settledWith wsX7_opposite := goodIn_r _ [15] (by decide +kernel) (by decide +kernel)
set_option maxRecDepth 20000 in
theorem gX5_settledWith_X7_opposite_n75 : GoodIn wsX5_settledWith (wsX7_opposite) := ggX5_settledWith_X7_opposite
theorem dX5_settledWith_0 : decode cX5_settledWith 0 = .ok (.iconst 0, 1) := by decide +kernel
theorem dX5_settledWith_1 : decode cX5_settledWith 1 = .ok (.istore_n 2, 1) := by decide +kernel
theorem dX5_settledWith_2 : decode cX5_settledWith 2 = .ok (.iconst 0, 1) := by decide +kernel
theorem dX5_settledWith_3 : decode cX5_settledWith 3 = .ok (.istore_n 3, 1) := by decide +kernel
theorem dX5_settledWith_4 : decode cX5_settledWith 4 = .ok (.iload_n 3, 1) := by decide +kernel
theorem dX5_settledWith_5 : decode cX5_settledWith 5 = .ok (.iconst 3, 1) := by decide +kernel
theorem dX5_settledWith_6 : decode cX5_settledWith 6 = .ok (.if_icmp .gt 67, 3) := by decide +kernel
theorem dX5_settledWith_9 : decode cX5_settledWith 9 = .ok (.aload_n 0, 1) := by decide +kernel
theorem dX5_settledWith_10 : decode cX5_settledWith 10 = .ok (.getfield 24, 3) := by decide +kernel
theorem dX5_settledWith_13 : decode cX5_settledWith 13 = .ok (.iload_n 1, 1) := by decide +kernel
theorem dX5_settledWith_14 : decode cX5_settledWith 14 = .ok (.iload_n 3, 1) := by decide +kernel
theorem dX5_settledWith_15 : decode cX5_settledWith 15 = .ok (.invokevirtual 72, 3) := by decide +kernel
theorem dX5_settledWith_18 : decode cX5_settledWith 18 = .ok (.istore 4, 2) := by decide +kernel
theorem dX5_settledWith_20 : decode cX5_settledWith 20 = .ok (.iload 4, 2) := by decide +kernel
theorem dX5_settledWith_22 : decode cX5_settledWith 22 = .ok (.iconst (-1), 1) := by decide +kernel
theorem dX5_settledWith_23 : decode cX5_settledWith 23 = .ok (.if_icmp .eq 44, 3) := by decide +kernel
theorem dX5_settledWith_26 : decode cX5_settledWith 26 = .ok (.aload_n 0, 1) := by decide +kernel
theorem dX5_settledWith_27 : decode cX5_settledWith 27 = .ok (.getfield 18, 3) := by decide +kernel
theorem dX5_settledWith_30 : decode cX5_settledWith 30 = .ok (.iload_n 1, 1) := by decide +kernel
theorem dX5_settledWith_31 : decode cX5_settledWith 31 = .ok (.invokestatic 42, 3) := by decide +kernel
theorem dX5_settledWith_34 : decode cX5_settledWith 34 = .ok (.iload_n 3, 1) := by decide +kernel
theorem dX5_settledWith_35 : decode cX5_settledWith 35 = .ok (.invokestatic 61, 3) := by decide +kernel
theorem dX5_settledWith_38 : decode cX5_settledWith 38 = .ok (.ifCond .eq 29, 3) := by decide +kernel
theorem dX5_settledWith_41 : decode cX5_settledWith 41 = .ok (.aload_n 0, 1) := by decide +kernel
theorem dX5_settledWith_42 : decode cX5_settledWith 42 = .ok (.getfield 18, 3) := by decide +kernel
theorem dX5_settledWith_45 : decode cX5_settledWith 45 = .ok (.iload 4, 2) := by decide +kernel
theorem dX5_settledWith_47 : decode cX5_settledWith 47 = .ok (.invokestatic 42, 3) := by decide +kernel
theorem dX5_settledWith_50 : decode cX5_settledWith 50 = .ok (.iload_n 3, 1) := by decide +kernel
theorem dX5_settledWith_51 : decode cX5_settledWith 51 = .ok (.invokestatic 75, 3) := by decide +kernel
theorem dX5_settledWith_54 : decode cX5_settledWith 54 = .ok (.invokestatic 61, 3) := by decide +kernel
theorem dX5_settledWith_57 : decode cX5_settledWith 57 = .ok (.ifCond .eq 10, 3) := by decide +kernel
theorem dX5_settledWith_60 : decode cX5_settledWith 60 = .ok (.iload_n 2, 1) := by decide +kernel
theorem dX5_settledWith_61 : decode cX5_settledWith 61 = .ok (.iconst 1, 1) := by decide +kernel
theorem dX5_settledWith_62 : decode cX5_settledWith 62 = .ok (.iload 4, 2) := by decide +kernel
theorem dX5_settledWith_64 : decode cX5_settledWith 64 = .ok (.ishl, 1) := by decide +kernel
theorem dX5_settledWith_65 : decode cX5_settledWith 65 = .ok (.ior, 1) := by decide +kernel
theorem dX5_settledWith_66 : decode cX5_settledWith 66 = .ok (.istore_n 2, 1) := by decide +kernel
theorem dX5_settledWith_67 : decode cX5_settledWith 67 = .ok (.iinc 3 1, 3) := by decide +kernel
theorem dX5_settledWith_70 : decode cX5_settledWith 70 = .ok (.goto (-66), 3) := by decide +kernel
theorem dX5_settledWith_73 : decode cX5_settledWith 73 = .ok (.iload_n 2, 1) := by decide +kernel
theorem dX5_settledWith_74 : decode cX5_settledWith 74 = .ok (.ireturn, 1) := by decide +kernel
set_option maxRecDepth 20000 in
theorem ggX5_keptLays_X0_across : GoodIn wsX5_keptLays wsX0_across := goodIn_r _ [8, 9, 43, 44, 45, 46, 47, 48, 49, 50] (by decide +kernel) (by decide +kernel)
set_option maxRecDepth 20000 in
theorem gX5_keptLays_X0_across : GoodIn wsX5_keptLays (wsV RX5 72 RX0 yX0_across wsX0_across) := goodIn_app (goodIn_of _ (by decide +kernel)) ggX5_keptLays_X0_across
set_option maxRecDepth 20000 in
theorem ggX5_keptLays_X7_at : GoodIn wsX5_keptLays wsX7_at := goodIn_r _ [12] (by decide +kernel) (by decide +kernel)
set_option maxRecDepth 20000 in
theorem gX5_keptLays_X7_at_n42 : GoodIn wsX5_keptLays (wsX7_at) := ggX5_keptLays_X7_at
set_option maxRecDepth 20000 in
theorem ggX5_keptLays_X7_opposite : GoodIn wsX5_keptLays wsX7_opposite := goodIn_r _ [14] (by decide +kernel) (by decide +kernel)
set_option maxRecDepth 20000 in
theorem gX5_keptLays_X7_opposite_n75 : GoodIn wsX5_keptLays (wsX7_opposite) := ggX5_keptLays_X7_opposite
set_option maxRecDepth 20000 in
theorem ggX5_keptLays_X7_holds : GoodIn wsX5_keptLays wsX7_holds := goodIn_r _ [16] (by decide +kernel) (by decide +kernel)
set_option maxRecDepth 20000 in
theorem gX5_keptLays_X7_holds_n61 : GoodIn wsX5_keptLays (wsX7_holds) := ggX5_keptLays_X7_holds
set_option maxRecDepth 20000 in
theorem ggX5_keptLays_X0_sidesOf : GoodIn wsX5_keptLays wsX0_sidesOf := goodIn_r _ [20, 21, 10, 11, 12, 43, 44, 45, 46, 47, 48, 49, 50] (by decide +kernel) (by decide +kernel)
set_option maxRecDepth 20000 in
theorem gX5_keptLays_X0_sidesOf : GoodIn wsX5_keptLays (wsV RX5 65 RX0 yX0_sidesOf wsX0_sidesOf) := goodIn_app (goodIn_of _ (by decide +kernel)) ggX5_keptLays_X0_sidesOf
set_option maxRecDepth 20000 in
theorem ggX5_keptLays_X7_turned : GoodIn wsX5_keptLays wsX7_turned := goodIn_r _ [23] (by decide +kernel) (by decide +kernel)
set_option maxRecDepth 20000 in
theorem gX5_keptLays_X7_turned_n68 : GoodIn wsX5_keptLays (wsX7_turned) := ggX5_keptLays_X7_turned
set_option maxRecDepth 20000 in
theorem ggX5_keptLays_X5_leftAt : GoodIn wsX5_keptLays wsX5_leftAt := goodIn_r _ [28, 29, 10, 11, 12, 38, 39, 40, 41, 42] (by decide +kernel) (by decide +kernel)
set_option maxRecDepth 20000 in
theorem gX5_keptLays_X5_leftAt : GoodIn wsX5_keptLays (wsV RX5 58 RX5 yX5_leftAt wsX5_leftAt) := goodIn_app (goodIn_of _ (by decide +kernel)) ggX5_keptLays_X5_leftAt
set_option maxRecDepth 20000 in
theorem ggX5_keptLays_X5_closesCircle : GoodIn wsX5_keptLays wsX5_closesCircle := goodIn_r _ [33, 1, 34, 4, 5, 6, 7, 8, 9, 15, 11, 16, 35, 36, 37, 38, 39, 40, 41, 42, 43, 44, 45, 46, 47, 48, 49, 50] (by decide +kernel) (by decide +kernel)
set_option maxRecDepth 20000 in
theorem gX5_keptLays_X5_closesCircle : GoodIn wsX5_keptLays (wsV RX5 78 RX5 yX5_closesCircle wsX5_closesCircle) := goodIn_app (goodIn_of _ (by decide +kernel)) ggX5_keptLays_X5_closesCircle
theorem dX5_keptLays_0 : decode cX5_keptLays 0 = .ok (.iconst 0, 1) := by decide +kernel
theorem dX5_keptLays_1 : decode cX5_keptLays 1 = .ok (.istore_n 2, 1) := by decide +kernel
theorem dX5_keptLays_2 : decode cX5_keptLays 2 = .ok (.iconst 0, 1) := by decide +kernel
theorem dX5_keptLays_3 : decode cX5_keptLays 3 = .ok (.istore_n 3, 1) := by decide +kernel
theorem dX5_keptLays_4 : decode cX5_keptLays 4 = .ok (.iconst 0, 1) := by decide +kernel
theorem dX5_keptLays_5 : decode cX5_keptLays 5 = .ok (.istore 4, 2) := by decide +kernel
theorem dX5_keptLays_7 : decode cX5_keptLays 7 = .ok (.iload 4, 2) := by decide +kernel
theorem dX5_keptLays_9 : decode cX5_keptLays 9 = .ok (.iconst 3, 1) := by decide +kernel
theorem dX5_keptLays_10 : decode cX5_keptLays 10 = .ok (.if_icmp .gt 89, 3) := by decide +kernel
theorem dX5_keptLays_13 : decode cX5_keptLays 13 = .ok (.aload_n 0, 1) := by decide +kernel
theorem dX5_keptLays_14 : decode cX5_keptLays 14 = .ok (.getfield 24, 3) := by decide +kernel
theorem dX5_keptLays_17 : decode cX5_keptLays 17 = .ok (.iload_n 1, 1) := by decide +kernel
theorem dX5_keptLays_18 : decode cX5_keptLays 18 = .ok (.iload 4, 2) := by decide +kernel
theorem dX5_keptLays_20 : decode cX5_keptLays 20 = .ok (.invokevirtual 72, 3) := by decide +kernel
theorem dX5_keptLays_23 : decode cX5_keptLays 23 = .ok (.istore 5, 2) := by decide +kernel
theorem dX5_keptLays_25 : decode cX5_keptLays 25 = .ok (.iload 5, 2) := by decide +kernel
theorem dX5_keptLays_27 : decode cX5_keptLays 27 = .ok (.iconst (-1), 1) := by decide +kernel
theorem dX5_keptLays_28 : decode cX5_keptLays 28 = .ok (.if_icmp .eq 65, 3) := by decide +kernel
theorem dX5_keptLays_31 : decode cX5_keptLays 31 = .ok (.iload_n 2, 1) := by decide +kernel
theorem dX5_keptLays_32 : decode cX5_keptLays 32 = .ok (.aload_n 0, 1) := by decide +kernel
theorem dX5_keptLays_33 : decode cX5_keptLays 33 = .ok (.getfield 15, 3) := by decide +kernel
theorem dX5_keptLays_36 : decode cX5_keptLays 36 = .ok (.iload 5, 2) := by decide +kernel
theorem dX5_keptLays_38 : decode cX5_keptLays 38 = .ok (.invokestatic 42, 3) := by decide +kernel
theorem dX5_keptLays_41 : decode cX5_keptLays 41 = .ok (.iload 4, 2) := by decide +kernel
theorem dX5_keptLays_43 : decode cX5_keptLays 43 = .ok (.invokestatic 75, 3) := by decide +kernel
theorem dX5_keptLays_46 : decode cX5_keptLays 46 = .ok (.invokestatic 61, 3) := by decide +kernel
theorem dX5_keptLays_49 : decode cX5_keptLays 49 = .ok (.ifCond .eq 10, 3) := by decide +kernel
theorem dX5_keptLays_52 : decode cX5_keptLays 52 = .ok (.iconst 1, 1) := by decide +kernel
theorem dX5_keptLays_53 : decode cX5_keptLays 53 = .ok (.iload 4, 2) := by decide +kernel
theorem dX5_keptLays_55 : decode cX5_keptLays 55 = .ok (.ishl, 1) := by decide +kernel
theorem dX5_keptLays_56 : decode cX5_keptLays 56 = .ok (.goto 4, 3) := by decide +kernel
theorem dX5_keptLays_59 : decode cX5_keptLays 59 = .ok (.iconst 0, 1) := by decide +kernel
theorem dX5_keptLays_60 : decode cX5_keptLays 60 = .ok (.ior, 1) := by decide +kernel
theorem dX5_keptLays_61 : decode cX5_keptLays 61 = .ok (.istore_n 2, 1) := by decide +kernel
theorem dX5_keptLays_62 : decode cX5_keptLays 62 = .ok (.iload_n 3, 1) := by decide +kernel
theorem dX5_keptLays_63 : decode cX5_keptLays 63 = .ok (.aload_n 0, 1) := by decide +kernel
theorem dX5_keptLays_64 : decode cX5_keptLays 64 = .ok (.getfield 18, 3) := by decide +kernel
theorem dX5_keptLays_67 : decode cX5_keptLays 67 = .ok (.iload 5, 2) := by decide +kernel
theorem dX5_keptLays_69 : decode cX5_keptLays 69 = .ok (.invokestatic 42, 3) := by decide +kernel
theorem dX5_keptLays_72 : decode cX5_keptLays 72 = .ok (.iload 4, 2) := by decide +kernel
theorem dX5_keptLays_74 : decode cX5_keptLays 74 = .ok (.invokestatic 75, 3) := by decide +kernel
theorem dX5_keptLays_77 : decode cX5_keptLays 77 = .ok (.invokestatic 61, 3) := by decide +kernel
theorem dX5_keptLays_80 : decode cX5_keptLays 80 = .ok (.ifCond .eq 10, 3) := by decide +kernel
theorem dX5_keptLays_83 : decode cX5_keptLays 83 = .ok (.iconst 1, 1) := by decide +kernel
theorem dX5_keptLays_84 : decode cX5_keptLays 84 = .ok (.iload 4, 2) := by decide +kernel
theorem dX5_keptLays_86 : decode cX5_keptLays 86 = .ok (.ishl, 1) := by decide +kernel
theorem dX5_keptLays_87 : decode cX5_keptLays 87 = .ok (.goto 4, 3) := by decide +kernel
theorem dX5_keptLays_90 : decode cX5_keptLays 90 = .ok (.iconst 0, 1) := by decide +kernel
theorem dX5_keptLays_91 : decode cX5_keptLays 91 = .ok (.ior, 1) := by decide +kernel
theorem dX5_keptLays_92 : decode cX5_keptLays 92 = .ok (.istore_n 3, 1) := by decide +kernel
theorem dX5_keptLays_93 : decode cX5_keptLays 93 = .ok (.iinc 4 1, 3) := by decide +kernel
theorem dX5_keptLays_96 : decode cX5_keptLays 96 = .ok (.goto (-89), 3) := by decide +kernel
theorem dX5_keptLays_99 : decode cX5_keptLays 99 = .ok (.iconst 0, 1) := by decide +kernel
theorem dX5_keptLays_100 : decode cX5_keptLays 100 = .ok (.istore 4, 2) := by decide +kernel
theorem dX5_keptLays_102 : decode cX5_keptLays 102 = .ok (.iconst 0, 1) := by decide +kernel
theorem dX5_keptLays_103 : decode cX5_keptLays 103 = .ok (.istore 5, 2) := by decide +kernel
theorem dX5_keptLays_105 : decode cX5_keptLays 105 = .ok (.iload 5, 2) := by decide +kernel
theorem dX5_keptLays_107 : decode cX5_keptLays 107 = .ok (.iconst 4, 1) := by decide +kernel
theorem dX5_keptLays_108 : decode cX5_keptLays 108 = .ok (.if_icmp .ge 86, 3) := by decide +kernel
theorem dX5_keptLays_111 : decode cX5_keptLays 111 = .ok (.aload_n 0, 1) := by decide +kernel
theorem dX5_keptLays_112 : decode cX5_keptLays 112 = .ok (.getfield 24, 3) := by decide +kernel
theorem dX5_keptLays_115 : decode cX5_keptLays 115 = .ok (.iload_n 1, 1) := by decide +kernel
theorem dX5_keptLays_116 : decode cX5_keptLays 116 = .ok (.invokevirtual 65, 3) := by decide +kernel
theorem dX5_keptLays_119 : decode cX5_keptLays 119 = .ok (.iload 5, 2) := by decide +kernel
theorem dX5_keptLays_121 : decode cX5_keptLays 121 = .ok (.invokestatic 68, 3) := by decide +kernel
theorem dX5_keptLays_124 : decode cX5_keptLays 124 = .ok (.istore 6, 2) := by decide +kernel
theorem dX5_keptLays_126 : decode cX5_keptLays 126 = .ok (.iload 6, 2) := by decide +kernel
theorem dX5_keptLays_128 : decode cX5_keptLays 128 = .ok (.iload_n 2, 1) := by decide +kernel
theorem dX5_keptLays_129 : decode cX5_keptLays 129 = .ok (.iconst (-1), 1) := by decide +kernel
theorem dX5_keptLays_130 : decode cX5_keptLays 130 = .ok (.ixor, 1) := by decide +kernel
theorem dX5_keptLays_131 : decode cX5_keptLays 131 = .ok (.iand, 1) := by decide +kernel
theorem dX5_keptLays_132 : decode cX5_keptLays 132 = .ok (.ifCond .ne 16, 3) := by decide +kernel
theorem dX5_keptLays_135 : decode cX5_keptLays 135 = .ok (.iload_n 3, 1) := by decide +kernel
theorem dX5_keptLays_136 : decode cX5_keptLays 136 = .ok (.iload 6, 2) := by decide +kernel
theorem dX5_keptLays_138 : decode cX5_keptLays 138 = .ok (.iconst (-1), 1) := by decide +kernel
theorem dX5_keptLays_139 : decode cX5_keptLays 139 = .ok (.ixor, 1) := by decide +kernel
theorem dX5_keptLays_140 : decode cX5_keptLays 140 = .ok (.iand, 1) := by decide +kernel
theorem dX5_keptLays_141 : decode cX5_keptLays 141 = .ok (.ifCond .ne 7, 3) := by decide +kernel
theorem dX5_keptLays_144 : decode cX5_keptLays 144 = .ok (.iconst 1, 1) := by decide +kernel
theorem dX5_keptLays_145 : decode cX5_keptLays 145 = .ok (.goto 4, 3) := by decide +kernel
theorem dX5_keptLays_148 : decode cX5_keptLays 148 = .ok (.iconst 0, 1) := by decide +kernel
theorem dX5_keptLays_149 : decode cX5_keptLays 149 = .ok (.istore 7, 2) := by decide +kernel
theorem dX5_keptLays_151 : decode cX5_keptLays 151 = .ok (.aload_n 0, 1) := by decide +kernel
theorem dX5_keptLays_152 : decode cX5_keptLays 152 = .ok (.iload_n 1, 1) := by decide +kernel
theorem dX5_keptLays_153 : decode cX5_keptLays 153 = .ok (.invokevirtual 58, 3) := by decide +kernel
theorem dX5_keptLays_156 : decode cX5_keptLays 156 = .ok (.iload 5, 2) := by decide +kernel
theorem dX5_keptLays_158 : decode cX5_keptLays 158 = .ok (.invokestatic 61, 3) := by decide +kernel
theorem dX5_keptLays_161 : decode cX5_keptLays 161 = .ok (.ifCond .eq 27, 3) := by decide +kernel
theorem dX5_keptLays_164 : decode cX5_keptLays 164 = .ok (.iload 7, 2) := by decide +kernel
theorem dX5_keptLays_166 : decode cX5_keptLays 166 = .ok (.ifCond .eq 22, 3) := by decide +kernel
theorem dX5_keptLays_169 : decode cX5_keptLays 169 = .ok (.aload_n 0, 1) := by decide +kernel
theorem dX5_keptLays_170 : decode cX5_keptLays 170 = .ok (.iload_n 1, 1) := by decide +kernel
theorem dX5_keptLays_171 : decode cX5_keptLays 171 = .ok (.iload 6, 2) := by decide +kernel
theorem dX5_keptLays_173 : decode cX5_keptLays 173 = .ok (.invokevirtual 78, 3) := by decide +kernel
theorem dX5_keptLays_176 : decode cX5_keptLays 176 = .ok (.ifCond .ne 12, 3) := by decide +kernel
theorem dX5_keptLays_179 : decode cX5_keptLays 179 = .ok (.iload 4, 2) := by decide +kernel
theorem dX5_keptLays_181 : decode cX5_keptLays 181 = .ok (.iconst 1, 1) := by decide +kernel
theorem dX5_keptLays_182 : decode cX5_keptLays 182 = .ok (.iload 5, 2) := by decide +kernel
theorem dX5_keptLays_184 : decode cX5_keptLays 184 = .ok (.ishl, 1) := by decide +kernel
theorem dX5_keptLays_185 : decode cX5_keptLays 185 = .ok (.ior, 1) := by decide +kernel
theorem dX5_keptLays_186 : decode cX5_keptLays 186 = .ok (.istore 4, 2) := by decide +kernel
theorem dX5_keptLays_188 : decode cX5_keptLays 188 = .ok (.iinc 5 1, 3) := by decide +kernel
theorem dX5_keptLays_191 : decode cX5_keptLays 191 = .ok (.goto (-86), 3) := by decide +kernel
theorem dX5_keptLays_194 : decode cX5_keptLays 194 = .ok (.iload 4, 2) := by decide +kernel
theorem dX5_keptLays_196 : decode cX5_keptLays 196 = .ok (.ireturn, 1) := by decide +kernel
set_option maxRecDepth 20000 in
theorem ggX5_closesCircle_X0_across : GoodIn wsX5_closesCircle wsX0_across := goodIn_r _ [7, 8, 20, 21, 22, 23, 24, 25, 26, 27] (by decide +kernel) (by decide +kernel)
set_option maxRecDepth 20000 in
theorem gX5_closesCircle_X0_across : GoodIn wsX5_closesCircle (wsV RX5 72 RX0 yX0_across wsX0_across) := goodIn_app (goodIn_of _ (by decide +kernel)) ggX5_closesCircle_X0_across
set_option maxRecDepth 20000 in
theorem ggX5_closesCircle_X7_holds : GoodIn wsX5_closesCircle wsX7_holds := goodIn_r _ [11] (by decide +kernel) (by decide +kernel)
set_option maxRecDepth 20000 in
theorem gX5_closesCircle_X7_holds_n61 : GoodIn wsX5_closesCircle (wsX7_holds) := ggX5_closesCircle_X7_holds
set_option maxRecDepth 20000 in
theorem ggX5_closesCircle_X7_spread : GoodIn wsX5_closesCircle wsX7_spread := goodIn_r _ [13, 14, 9, 10, 11] (by decide +kernel) (by decide +kernel)
set_option maxRecDepth 20000 in
theorem gX5_closesCircle_X7_spread_n81 : GoodIn wsX5_closesCircle (wsX7_spread) := ggX5_closesCircle_X7_spread
theorem dX5_closesCircle_0 : decode cX5_closesCircle 0 = .ok (.iconst 0, 1) := by decide +kernel
theorem dX5_closesCircle_1 : decode cX5_closesCircle 1 = .ok (.istore_n 3, 1) := by decide +kernel
theorem dX5_closesCircle_2 : decode cX5_closesCircle 2 = .ok (.iconst 0, 1) := by decide +kernel
theorem dX5_closesCircle_3 : decode cX5_closesCircle 3 = .ok (.istore 4, 2) := by decide +kernel
theorem dX5_closesCircle_5 : decode cX5_closesCircle 5 = .ok (.iload 4, 2) := by decide +kernel
theorem dX5_closesCircle_7 : decode cX5_closesCircle 7 = .ok (.iconst 3, 1) := by decide +kernel
theorem dX5_closesCircle_8 : decode cX5_closesCircle 8 = .ok (.if_icmp .gt 60, 3) := by decide +kernel
theorem dX5_closesCircle_11 : decode cX5_closesCircle 11 = .ok (.aload_n 0, 1) := by decide +kernel
theorem dX5_closesCircle_12 : decode cX5_closesCircle 12 = .ok (.getfield 24, 3) := by decide +kernel
theorem dX5_closesCircle_15 : decode cX5_closesCircle 15 = .ok (.iload_n 1, 1) := by decide +kernel
theorem dX5_closesCircle_16 : decode cX5_closesCircle 16 = .ok (.iload 4, 2) := by decide +kernel
theorem dX5_closesCircle_18 : decode cX5_closesCircle 18 = .ok (.invokevirtual 72, 3) := by decide +kernel
theorem dX5_closesCircle_21 : decode cX5_closesCircle 21 = .ok (.istore 5, 2) := by decide +kernel
theorem dX5_closesCircle_23 : decode cX5_closesCircle 23 = .ok (.iload 5, 2) := by decide +kernel
theorem dX5_closesCircle_25 : decode cX5_closesCircle 25 = .ok (.iconst (-1), 1) := by decide +kernel
theorem dX5_closesCircle_26 : decode cX5_closesCircle 26 = .ok (.if_icmp .eq 36, 3) := by decide +kernel
theorem dX5_closesCircle_29 : decode cX5_closesCircle 29 = .ok (.iload_n 2, 1) := by decide +kernel
theorem dX5_closesCircle_30 : decode cX5_closesCircle 30 = .ok (.iload 4, 2) := by decide +kernel
theorem dX5_closesCircle_32 : decode cX5_closesCircle 32 = .ok (.invokestatic 61, 3) := by decide +kernel
theorem dX5_closesCircle_35 : decode cX5_closesCircle 35 = .ok (.ifCond .eq 27, 3) := by decide +kernel
theorem dX5_closesCircle_38 : decode cX5_closesCircle 38 = .ok (.iload_n 3, 1) := by decide +kernel
theorem dX5_closesCircle_39 : decode cX5_closesCircle 39 = .ok (.iload 5, 2) := by decide +kernel
theorem dX5_closesCircle_41 : decode cX5_closesCircle 41 = .ok (.invokestatic 61, 3) := by decide +kernel
theorem dX5_closesCircle_44 : decode cX5_closesCircle 44 = .ok (.ifCond .eq 5, 3) := by decide +kernel
theorem dX5_closesCircle_47 : decode cX5_closesCircle 47 = .ok (.iconst 1, 1) := by decide +kernel
theorem dX5_closesCircle_48 : decode cX5_closesCircle 48 = .ok (.ireturn, 1) := by decide +kernel
theorem dX5_closesCircle_49 : decode cX5_closesCircle 49 = .ok (.iload_n 3, 1) := by decide +kernel
theorem dX5_closesCircle_50 : decode cX5_closesCircle 50 = .ok (.aload_n 0, 1) := by decide +kernel
theorem dX5_closesCircle_51 : decode cX5_closesCircle 51 = .ok (.getfield 21, 3) := by decide +kernel
theorem dX5_closesCircle_54 : decode cX5_closesCircle 54 = .ok (.iload 5, 2) := by decide +kernel
theorem dX5_closesCircle_56 : decode cX5_closesCircle 56 = .ok (.iload_n 1, 1) := by decide +kernel
theorem dX5_closesCircle_57 : decode cX5_closesCircle 57 = .ok (.invokestatic 81, 3) := by decide +kernel
theorem dX5_closesCircle_60 : decode cX5_closesCircle 60 = .ok (.ior, 1) := by decide +kernel
theorem dX5_closesCircle_61 : decode cX5_closesCircle 61 = .ok (.istore_n 3, 1) := by decide +kernel
theorem dX5_closesCircle_62 : decode cX5_closesCircle 62 = .ok (.iinc 4 1, 3) := by decide +kernel
theorem dX5_closesCircle_65 : decode cX5_closesCircle 65 = .ok (.goto (-60), 3) := by decide +kernel
theorem dX5_closesCircle_68 : decode cX5_closesCircle 68 = .ok (.iconst 0, 1) := by decide +kernel
theorem dX5_closesCircle_69 : decode cX5_closesCircle 69 = .ok (.ireturn, 1) := by decide +kernel
set_option maxRecDepth 20000 in
theorem ggX6_init_X1_init : GoodIn wsX6_init wsX1_init := goodIn_r _ [14, 15, 2, 3, 16, 17, 4, 18, 24, 25, 26] (by decide +kernel) (by decide +kernel)
set_option maxRecDepth 20000 in
theorem gX6_init_X1_init_n20 : GoodIn wsX6_init (wsX1_init) := ggX6_init_X1_init
theorem dX6_init_0 : decode cX6_init 0 = .ok (.aload_n 0, 1) := by decide +kernel
theorem dX6_init_1 : decode cX6_init 1 = .ok (.invokespecial 5, 3) := by decide +kernel
theorem dX6_init_4 : decode cX6_init 4 = .ok (.aload_n 0, 1) := by decide +kernel
theorem dX6_init_5 : decode cX6_init 5 = .ok (.bipush 12, 2) := by decide +kernel
theorem dX6_init_7 : decode cX6_init 7 = .ok (.newarray .int, 2) := by decide +kernel
theorem dX6_init_9 : decode cX6_init 9 = .ok (.putfield 11, 3) := by decide +kernel
theorem dX6_init_12 : decode cX6_init 12 = .ok (.aload_n 0, 1) := by decide +kernel
theorem dX6_init_13 : decode cX6_init 13 = .ok (.bipush 16, 2) := by decide +kernel
theorem dX6_init_15 : decode cX6_init 15 = .ok (.newarray .int, 2) := by decide +kernel
theorem dX6_init_17 : decode cX6_init 17 = .ok (.putfield 15, 3) := by decide +kernel
theorem dX6_init_20 : decode cX6_init 20 = .ok (.aload_n 0, 1) := by decide +kernel
theorem dX6_init_21 : decode cX6_init 21 = .ok (.new 18, 3) := by decide +kernel
theorem dX6_init_24 : decode cX6_init 24 = .ok (.dup, 1) := by decide +kernel
theorem dX6_init_25 : decode cX6_init 25 = .ok (.invokespecial 20, 3) := by decide +kernel
theorem dX6_init_28 : decode cX6_init 28 = .ok (.putfield 21, 3) := by decide +kernel
theorem dX6_init_31 : decode cX6_init 31 = .ok (.aload_n 0, 1) := by decide +kernel
theorem dX6_init_32 : decode cX6_init 32 = .ok (.new 18, 3) := by decide +kernel
theorem dX6_init_35 : decode cX6_init 35 = .ok (.dup, 1) := by decide +kernel
theorem dX6_init_36 : decode cX6_init 36 = .ok (.invokespecial 20, 3) := by decide +kernel
theorem dX6_init_39 : decode cX6_init 39 = .ok (.putfield 25, 3) := by decide +kernel
theorem dX6_init_42 : decode cX6_init 42 = .ok (.aload_n 0, 1) := by decide +kernel
theorem dX6_init_43 : decode cX6_init 43 = .ok (.aload_n 1, 1) := by decide +kernel
theorem dX6_init_44 : decode cX6_init 44 = .ok (.putfield 28, 3) := by decide +kernel
theorem dX6_init_47 : decode cX6_init 47 = .ok (.return_, 1) := by decide +kernel
set_option maxRecDepth 20000 in
theorem ggX6_countAll_X1_clear : GoodIn wsX6_countAll wsX1_clear := goodIn_r _ [8, 9, 145, 146, 147] (by decide +kernel) (by decide +kernel)
set_option maxRecDepth 20000 in
theorem gX6_countAll_X1_clear : GoodIn wsX6_countAll (wsV RX6 32 RX1 yX1_clear wsX1_clear) := goodIn_app (goodIn_of _ (by decide +kernel)) ggX6_countAll_X1_clear
set_option maxRecDepth 20000 in
theorem ggX6_countAll_X1_add : GoodIn wsX6_countAll wsX1_add := goodIn_r _ [13, 9, 14, 15, 16, 17, 18, 7, 19, 20, 21, 22, 23, 24, 25, 26, 27, 28, 29, 30, 31, 32, 33, 34, 35, 36, 37, 38, 39, 40, 41, 42, 43, 44, 45, 46, 145, 146, 147] (by decide +kernel) (by decide +kernel)
set_option maxRecDepth 20000 in
theorem gX6_countAll_X1_add : GoodIn wsX6_countAll (wsV RX6 35 RX1 yX1_add wsX1_add) := goodIn_app (goodIn_of _ (by decide +kernel)) ggX6_countAll_X1_add
set_option maxRecDepth 20000 in
theorem ggX6_countAll_X0_count : GoodIn wsX6_countAll wsX0_count := goodIn_r _ [51, 52, 148, 149, 150, 151, 152, 153, 154, 155] (by decide +kernel) (by decide +kernel)
set_option maxRecDepth 20000 in
theorem gX6_countAll_X0_count : GoodIn wsX6_countAll (wsV RX6 39 RX0 yX0_count wsX0_count) := goodIn_app (goodIn_of _ (by decide +kernel)) ggX6_countAll_X0_count
set_option maxRecDepth 20000 in
theorem ggX6_countAll_X6_sweepOver : GoodIn wsX6_countAll wsX6_sweepOver := goodIn_r _ [57, 2, 1, 3, 58, 59, 60, 50, 61, 62, 63, 64, 65, 66, 67, 68, 69, 70, 71, 72, 73, 74, 75, 76, 77, 78, 79, 80, 81, 7, 82, 9, 83, 84, 85, 86, 14, 87, 88, 89, 56, 90, 91, 92, 93, 94, 95, 96, 97, 98, 99, 100, 101, 102, 103, 104, 105, 106, 107, 108, 109, 110, 111, 112, 113, 114, 115, 116, 117, 118, 119, 120, 121, 122, 123, 47, 48, 49, 51, 52, 124, 125, 126, 127, 128, 129, 130, 131, 132, 133, 134, 22, 135, 136, 137, 138, 139, 15, 10, 11, 12, 13, 16, 17, 18, 19, 20, 21, 23, 24, 25, 26, 27, 28, 29, 30, 31, 32, 33, 34, 35, 36, 37, 38, 39, 40, 41, 42, 43, 44, 45, 46, 140, 141, 142, 143, 144, 148, 149, 150, 151, 152, 153, 154, 155, 145, 146, 147] (by decide +kernel) (by decide +kernel)
set_option maxRecDepth 20000 in
theorem gX6_countAll_X6_sweepOver : GoodIn wsX6_countAll (wsV RX6 45 RX6 yX6_sweepOver wsX6_sweepOver) := goodIn_app (goodIn_of _ (by decide +kernel)) ggX6_countAll_X6_sweepOver
set_option maxRecDepth 20000 in
theorem ggX6_countAll_X1_waysAt : GoodIn wsX6_countAll wsX1_waysAt := goodIn_r _ [139, 9, 15, 145, 146, 147] (by decide +kernel) (by decide +kernel)
set_option maxRecDepth 20000 in
theorem gX6_countAll_X1_waysAt : GoodIn wsX6_countAll (wsV RX6 49 RX1 yX1_waysAt wsX1_waysAt) := goodIn_app (goodIn_of _ (by decide +kernel)) ggX6_countAll_X1_waysAt
theorem dX6_countAll_0 : decode cX6_countAll 0 = .ok (.aload_n 0, 1) := by decide +kernel
theorem dX6_countAll_1 : decode cX6_countAll 1 = .ok (.getfield 21, 3) := by decide +kernel
theorem dX6_countAll_4 : decode cX6_countAll 4 = .ok (.invokevirtual 32, 3) := by decide +kernel
theorem dX6_countAll_7 : decode cX6_countAll 7 = .ok (.aload_n 0, 1) := by decide +kernel
theorem dX6_countAll_8 : decode cX6_countAll 8 = .ok (.getfield 21, 3) := by decide +kernel
theorem dX6_countAll_11 : decode cX6_countAll 11 = .ok (.lconst 0, 1) := by decide +kernel
theorem dX6_countAll_12 : decode cX6_countAll 12 = .ok (.iconst 1, 1) := by decide +kernel
theorem dX6_countAll_13 : decode cX6_countAll 13 = .ok (.invokevirtual 35, 3) := by decide +kernel
theorem dX6_countAll_16 : decode cX6_countAll 16 = .ok (.iconst 0, 1) := by decide +kernel
theorem dX6_countAll_17 : decode cX6_countAll 17 = .ok (.istore_n 1, 1) := by decide +kernel
theorem dX6_countAll_18 : decode cX6_countAll 18 = .ok (.iload_n 1, 1) := by decide +kernel
theorem dX6_countAll_19 : decode cX6_countAll 19 = .ok (.aload_n 0, 1) := by decide +kernel
theorem dX6_countAll_20 : decode cX6_countAll 20 = .ok (.getfield 28, 3) := by decide +kernel
theorem dX6_countAll_23 : decode cX6_countAll 23 = .ok (.invokevirtual 39, 3) := by decide +kernel
theorem dX6_countAll_26 : decode cX6_countAll 26 = .ok (.if_icmp .ge 39, 3) := by decide +kernel
theorem dX6_countAll_29 : decode cX6_countAll 29 = .ok (.aload_n 0, 1) := by decide +kernel
theorem dX6_countAll_30 : decode cX6_countAll 30 = .ok (.getfield 25, 3) := by decide +kernel
theorem dX6_countAll_33 : decode cX6_countAll 33 = .ok (.invokevirtual 32, 3) := by decide +kernel
theorem dX6_countAll_36 : decode cX6_countAll 36 = .ok (.aload_n 0, 1) := by decide +kernel
theorem dX6_countAll_37 : decode cX6_countAll 37 = .ok (.iload_n 1, 1) := by decide +kernel
theorem dX6_countAll_38 : decode cX6_countAll 38 = .ok (.invokevirtual 45, 3) := by decide +kernel
theorem dX6_countAll_41 : decode cX6_countAll 41 = .ok (.aload_n 0, 1) := by decide +kernel
theorem dX6_countAll_42 : decode cX6_countAll 42 = .ok (.getfield 25, 3) := by decide +kernel
theorem dX6_countAll_45 : decode cX6_countAll 45 = .ok (.astore_n 2, 1) := by decide +kernel
theorem dX6_countAll_46 : decode cX6_countAll 46 = .ok (.aload_n 0, 1) := by decide +kernel
theorem dX6_countAll_47 : decode cX6_countAll 47 = .ok (.aload_n 0, 1) := by decide +kernel
theorem dX6_countAll_48 : decode cX6_countAll 48 = .ok (.getfield 21, 3) := by decide +kernel
theorem dX6_countAll_51 : decode cX6_countAll 51 = .ok (.putfield 25, 3) := by decide +kernel
theorem dX6_countAll_54 : decode cX6_countAll 54 = .ok (.aload_n 0, 1) := by decide +kernel
theorem dX6_countAll_55 : decode cX6_countAll 55 = .ok (.aload_n 2, 1) := by decide +kernel
theorem dX6_countAll_56 : decode cX6_countAll 56 = .ok (.putfield 21, 3) := by decide +kernel
theorem dX6_countAll_59 : decode cX6_countAll 59 = .ok (.iinc 1 1, 3) := by decide +kernel
theorem dX6_countAll_62 : decode cX6_countAll 62 = .ok (.goto (-44), 3) := by decide +kernel
theorem dX6_countAll_65 : decode cX6_countAll 65 = .ok (.aload_n 0, 1) := by decide +kernel
theorem dX6_countAll_66 : decode cX6_countAll 66 = .ok (.getfield 21, 3) := by decide +kernel
theorem dX6_countAll_69 : decode cX6_countAll 69 = .ok (.iconst 0, 1) := by decide +kernel
theorem dX6_countAll_70 : decode cX6_countAll 70 = .ok (.invokevirtual 49, 3) := by decide +kernel
theorem dX6_countAll_73 : decode cX6_countAll 73 = .ok (.ireturn, 1) := by decide +kernel
set_option maxRecDepth 20000 in
theorem ggX6_sweepOver_X0_ownLays : GoodIn wsX6_sweepOver wsX0_ownLays := goodIn_r _ [8, 9, 10, 11, 7, 12, 13, 14, 15, 16, 17, 18, 19, 20, 21, 22, 23, 24, 25, 137, 138, 139, 140, 141, 142, 143, 144] (by decide +kernel) (by decide +kernel)
set_option maxRecDepth 20000 in
theorem gX6_sweepOver_X0_ownLays : GoodIn wsX6_sweepOver (wsV RX6 53 RX0 yX0_ownLays wsX0_ownLays) := goodIn_app (goodIn_of _ (by decide +kernel)) ggX6_sweepOver_X0_ownLays
set_option maxRecDepth 20000 in
theorem ggX6_sweepOver_X1_count : GoodIn wsX6_sweepOver wsX1_count := goodIn_r _ [30, 31, 145, 146, 147] (by decide +kernel) (by decide +kernel)
set_option maxRecDepth 20000 in
theorem gX6_sweepOver_X1_count : GoodIn wsX6_sweepOver (wsV RX6 56 RX1 yX1_count wsX1_count) := goodIn_app (goodIn_of _ (by decide +kernel)) ggX6_sweepOver_X1_count
set_option maxRecDepth 20000 in
theorem ggX6_sweepOver_X7_holds : GoodIn wsX6_sweepOver wsX7_holds := goodIn_r _ [23] (by decide +kernel) (by decide +kernel)
set_option maxRecDepth 20000 in
theorem gX6_sweepOver_X7_holds_n57 : GoodIn wsX6_sweepOver (wsX7_holds) := ggX6_sweepOver_X7_holds
set_option maxRecDepth 20000 in
theorem ggX6_sweepOver_X1_borderAt : GoodIn wsX6_sweepOver wsX1_borderAt := goodIn_r _ [35, 31, 36, 145, 146, 147] (by decide +kernel) (by decide +kernel)
set_option maxRecDepth 20000 in
theorem gX6_sweepOver_X1_borderAt : GoodIn wsX6_sweepOver (wsV RX6 61 RX1 yX1_borderAt wsX1_borderAt) := goodIn_app (goodIn_of _ (by decide +kernel)) ggX6_sweepOver_X1_borderAt
set_option maxRecDepth 20000 in
theorem ggX6_sweepOver_X6_unpack : GoodIn wsX6_sweepOver wsX6_unpack := goodIn_r _ [41, 42, 132, 133, 134, 135, 136] (by decide +kernel) (by decide +kernel)
set_option maxRecDepth 20000 in
theorem gX6_sweepOver_X6_unpack : GoodIn wsX6_sweepOver (wsV RX6 65 RX6 yX6_unpack wsX6_unpack) := goodIn_app (goodIn_of _ (by decide +kernel)) ggX6_sweepOver_X6_unpack
set_option maxRecDepth 20000 in
theorem ggX6_sweepOver_X0_sidesOf : GoodIn wsX6_sweepOver wsX0_sidesOf := goodIn_r _ [12, 13, 14, 15, 16, 137, 138, 139, 140, 141, 142, 143, 144] (by decide +kernel) (by decide +kernel)
set_option maxRecDepth 20000 in
theorem gX6_sweepOver_X0_sidesOf : GoodIn wsX6_sweepOver (wsV RX6 69 RX0 yX0_sidesOf wsX0_sidesOf) := goodIn_app (goodIn_of _ (by decide +kernel)) ggX6_sweepOver_X0_sidesOf
set_option maxRecDepth 20000 in
theorem ggX6_sweepOver_X7_turned : GoodIn wsX6_sweepOver wsX7_turned := goodIn_r _ [25] (by decide +kernel) (by decide +kernel)
set_option maxRecDepth 20000 in
theorem gX6_sweepOver_X7_turned_n72 : GoodIn wsX6_sweepOver (wsX7_turned) := ggX6_sweepOver_X7_turned
set_option maxRecDepth 20000 in
theorem ggX6_sweepOver_X6_pass : GoodIn wsX6_sweepOver wsX6_pass := goodIn_r _ [47, 1, 48, 49, 50, 7, 51, 52, 22, 15, 23, 53, 54, 55, 40, 56, 57, 58, 59, 60, 61, 62, 63, 64, 65, 66, 14, 16, 67, 68, 69, 70, 42, 71, 72, 73, 74, 75, 76, 77, 78, 79, 80, 81, 82, 83, 132, 133, 134, 135, 136, 137, 138, 139, 140, 141, 142, 143, 144] (by decide +kernel) (by decide +kernel)
set_option maxRecDepth 20000 in
theorem gX6_sweepOver_X6_pass : GoodIn wsX6_sweepOver (wsV RX6 76 RX6 yX6_pass wsX6_pass) := goodIn_app (goodIn_of _ (by decide +kernel)) ggX6_sweepOver_X6_pass
set_option maxRecDepth 20000 in
theorem ggX6_sweepOver_X6_pack : GoodIn wsX6_sweepOver wsX6_pack := goodIn_r _ [87, 88, 42, 89, 90, 91, 92, 132, 133, 134, 135, 136] (by decide +kernel) (by decide +kernel)
set_option maxRecDepth 20000 in
theorem gX6_sweepOver_X6_pack : GoodIn wsX6_sweepOver (wsV RX6 79 RX6 yX6_pack wsX6_pack) := goodIn_app (goodIn_of _ (by decide +kernel)) ggX6_sweepOver_X6_pack
set_option maxRecDepth 20000 in
theorem ggX6_sweepOver_X1_waysAt : GoodIn wsX6_sweepOver wsX1_waysAt := goodIn_r _ [96, 31, 97, 145, 146, 147] (by decide +kernel) (by decide +kernel)
set_option maxRecDepth 20000 in
theorem gX6_sweepOver_X1_waysAt : GoodIn wsX6_sweepOver (wsV RX6 49 RX1 yX1_waysAt wsX1_waysAt) := goodIn_app (goodIn_of _ (by decide +kernel)) ggX6_sweepOver_X1_waysAt
set_option maxRecDepth 20000 in
theorem ggX6_sweepOver_X1_add : GoodIn wsX6_sweepOver wsX1_add := goodIn_r _ [101, 31, 36, 97, 102, 103, 104, 29, 105, 106, 107, 91, 108, 109, 110, 111, 112, 113, 114, 115, 116, 117, 118, 119, 120, 121, 122, 123, 124, 125, 126, 127, 128, 129, 130, 131, 145, 146, 147] (by decide +kernel) (by decide +kernel)
set_option maxRecDepth 20000 in
theorem gX6_sweepOver_X1_add : GoodIn wsX6_sweepOver (wsV RX6 35 RX1 yX1_add wsX1_add) := goodIn_app (goodIn_of _ (by decide +kernel)) ggX6_sweepOver_X1_add
theorem dX6_sweepOver_0 : decode cX6_sweepOver 0 = .ok (.aload_n 0, 1) := by decide +kernel
theorem dX6_sweepOver_1 : decode cX6_sweepOver 1 = .ok (.getfield 28, 3) := by decide +kernel
theorem dX6_sweepOver_4 : decode cX6_sweepOver 4 = .ok (.iload_n 1, 1) := by decide +kernel
theorem dX6_sweepOver_5 : decode cX6_sweepOver 5 = .ok (.invokevirtual 53, 3) := by decide +kernel
theorem dX6_sweepOver_8 : decode cX6_sweepOver 8 = .ok (.istore_n 2, 1) := by decide +kernel
theorem dX6_sweepOver_9 : decode cX6_sweepOver 9 = .ok (.iconst 0, 1) := by decide +kernel
theorem dX6_sweepOver_10 : decode cX6_sweepOver 10 = .ok (.istore_n 3, 1) := by decide +kernel
theorem dX6_sweepOver_11 : decode cX6_sweepOver 11 = .ok (.iload_n 3, 1) := by decide +kernel
theorem dX6_sweepOver_12 : decode cX6_sweepOver 12 = .ok (.aload_n 0, 1) := by decide +kernel
theorem dX6_sweepOver_13 : decode cX6_sweepOver 13 = .ok (.getfield 21, 3) := by decide +kernel
theorem dX6_sweepOver_16 : decode cX6_sweepOver 16 = .ok (.invokevirtual 56, 3) := by decide +kernel
theorem dX6_sweepOver_19 : decode cX6_sweepOver 19 = .ok (.if_icmp .ge 85, 3) := by decide +kernel
theorem dX6_sweepOver_22 : decode cX6_sweepOver 22 = .ok (.iconst 0, 1) := by decide +kernel
theorem dX6_sweepOver_23 : decode cX6_sweepOver 23 = .ok (.istore 4, 2) := by decide +kernel
theorem dX6_sweepOver_25 : decode cX6_sweepOver 25 = .ok (.iload 4, 2) := by decide +kernel
theorem dX6_sweepOver_27 : decode cX6_sweepOver 27 = .ok (.iconst 4, 1) := by decide +kernel
theorem dX6_sweepOver_28 : decode cX6_sweepOver 28 = .ok (.if_icmp .ge 70, 3) := by decide +kernel
theorem dX6_sweepOver_31 : decode cX6_sweepOver 31 = .ok (.iload_n 2, 1) := by decide +kernel
theorem dX6_sweepOver_32 : decode cX6_sweepOver 32 = .ok (.iload 4, 2) := by decide +kernel
theorem dX6_sweepOver_34 : decode cX6_sweepOver 34 = .ok (.invokestatic 57, 3) := by decide +kernel
theorem dX6_sweepOver_37 : decode cX6_sweepOver 37 = .ok (.ifCond .eq 55, 3) := by decide +kernel
theorem dX6_sweepOver_40 : decode cX6_sweepOver 40 = .ok (.aload_n 0, 1) := by decide +kernel
theorem dX6_sweepOver_41 : decode cX6_sweepOver 41 = .ok (.aload_n 0, 1) := by decide +kernel
theorem dX6_sweepOver_42 : decode cX6_sweepOver 42 = .ok (.getfield 21, 3) := by decide +kernel
theorem dX6_sweepOver_45 : decode cX6_sweepOver 45 = .ok (.iload_n 3, 1) := by decide +kernel
theorem dX6_sweepOver_46 : decode cX6_sweepOver 46 = .ok (.invokevirtual 61, 3) := by decide +kernel
theorem dX6_sweepOver_49 : decode cX6_sweepOver 49 = .ok (.invokevirtual 65, 3) := by decide +kernel
theorem dX6_sweepOver_52 : decode cX6_sweepOver 52 = .ok (.aload_n 0, 1) := by decide +kernel
theorem dX6_sweepOver_53 : decode cX6_sweepOver 53 = .ok (.iload_n 1, 1) := by decide +kernel
theorem dX6_sweepOver_54 : decode cX6_sweepOver 54 = .ok (.aload_n 0, 1) := by decide +kernel
theorem dX6_sweepOver_55 : decode cX6_sweepOver 55 = .ok (.getfield 28, 3) := by decide +kernel
theorem dX6_sweepOver_58 : decode cX6_sweepOver 58 = .ok (.iload_n 1, 1) := by decide +kernel
theorem dX6_sweepOver_59 : decode cX6_sweepOver 59 = .ok (.invokevirtual 69, 3) := by decide +kernel
theorem dX6_sweepOver_62 : decode cX6_sweepOver 62 = .ok (.iload 4, 2) := by decide +kernel
theorem dX6_sweepOver_64 : decode cX6_sweepOver 64 = .ok (.invokestatic 72, 3) := by decide +kernel
theorem dX6_sweepOver_67 : decode cX6_sweepOver 67 = .ok (.invokevirtual 76, 3) := by decide +kernel
theorem dX6_sweepOver_70 : decode cX6_sweepOver 70 = .ok (.ifCond .eq 22, 3) := by decide +kernel
theorem dX6_sweepOver_73 : decode cX6_sweepOver 73 = .ok (.aload_n 0, 1) := by decide +kernel
theorem dX6_sweepOver_74 : decode cX6_sweepOver 74 = .ok (.getfield 25, 3) := by decide +kernel
theorem dX6_sweepOver_77 : decode cX6_sweepOver 77 = .ok (.aload_n 0, 1) := by decide +kernel
theorem dX6_sweepOver_78 : decode cX6_sweepOver 78 = .ok (.invokevirtual 79, 3) := by decide +kernel
theorem dX6_sweepOver_81 : decode cX6_sweepOver 81 = .ok (.aload_n 0, 1) := by decide +kernel
theorem dX6_sweepOver_82 : decode cX6_sweepOver 82 = .ok (.getfield 21, 3) := by decide +kernel
theorem dX6_sweepOver_85 : decode cX6_sweepOver 85 = .ok (.iload_n 3, 1) := by decide +kernel
theorem dX6_sweepOver_86 : decode cX6_sweepOver 86 = .ok (.invokevirtual 49, 3) := by decide +kernel
theorem dX6_sweepOver_89 : decode cX6_sweepOver 89 = .ok (.invokevirtual 35, 3) := by decide +kernel
theorem dX6_sweepOver_92 : decode cX6_sweepOver 92 = .ok (.iinc 4 1, 3) := by decide +kernel
theorem dX6_sweepOver_95 : decode cX6_sweepOver 95 = .ok (.goto (-70), 3) := by decide +kernel
theorem dX6_sweepOver_98 : decode cX6_sweepOver 98 = .ok (.iinc 3 1, 3) := by decide +kernel
theorem dX6_sweepOver_101 : decode cX6_sweepOver 101 = .ok (.goto (-90), 3) := by decide +kernel
theorem dX6_sweepOver_104 : decode cX6_sweepOver 104 = .ok (.return_, 1) := by decide +kernel
theorem dX6_unpack_0 : decode cX6_unpack 0 = .ok (.iconst 0, 1) := by decide +kernel
theorem dX6_unpack_1 : decode cX6_unpack 1 = .ok (.istore_n 3, 1) := by decide +kernel
theorem dX6_unpack_2 : decode cX6_unpack 2 = .ok (.iload_n 3, 1) := by decide +kernel
theorem dX6_unpack_3 : decode cX6_unpack 3 = .ok (.bipush 12, 2) := by decide +kernel
theorem dX6_unpack_5 : decode cX6_unpack 5 = .ok (.if_icmp .ge 24, 3) := by decide +kernel
theorem dX6_unpack_8 : decode cX6_unpack 8 = .ok (.aload_n 0, 1) := by decide +kernel
theorem dX6_unpack_9 : decode cX6_unpack 9 = .ok (.getfield 11, 3) := by decide +kernel
theorem dX6_unpack_12 : decode cX6_unpack 12 = .ok (.iload_n 3, 1) := by decide +kernel
theorem dX6_unpack_13 : decode cX6_unpack 13 = .ok (.lload_n 1, 1) := by decide +kernel
theorem dX6_unpack_14 : decode cX6_unpack 14 = .ok (.iconst 4, 1) := by decide +kernel
theorem dX6_unpack_15 : decode cX6_unpack 15 = .ok (.iload_n 3, 1) := by decide +kernel
theorem dX6_unpack_16 : decode cX6_unpack 16 = .ok (.imul, 1) := by decide +kernel
theorem dX6_unpack_17 : decode cX6_unpack 17 = .ok (.lshr, 1) := by decide +kernel
theorem dX6_unpack_18 : decode cX6_unpack 18 = .ok (.l2i, 1) := by decide +kernel
theorem dX6_unpack_19 : decode cX6_unpack 19 = .ok (.bipush 15, 2) := by decide +kernel
theorem dX6_unpack_21 : decode cX6_unpack 21 = .ok (.iand, 1) := by decide +kernel
theorem dX6_unpack_22 : decode cX6_unpack 22 = .ok (.iastore, 1) := by decide +kernel
theorem dX6_unpack_23 : decode cX6_unpack 23 = .ok (.iinc 3 1, 3) := by decide +kernel
theorem dX6_unpack_26 : decode cX6_unpack 26 = .ok (.goto (-24), 3) := by decide +kernel
theorem dX6_unpack_29 : decode cX6_unpack 29 = .ok (.return_, 1) := by decide +kernel
set_option maxRecDepth 20000 in
theorem ggX6_pack_J7_fill_53178 : GoodIn wsX6_pack wsJ7_fill_53178 := goodIn_r _ [6] (by decide +kernel) (by decide +kernel)
set_option maxRecDepth 20000 in
theorem gX6_pack_J7_fill_53178 : GoodIn wsX6_pack (va_wsS RX6 83 yJ7_fill_53178 wsJ7_fill_53178) := goodIn_app (goodIn_of _ (by decide +kernel)) ggX6_pack_J7_fill_53178
theorem dX6_pack_0 : decode cX6_pack 0 = .ok (.aload_n 0, 1) := by decide +kernel
theorem dX6_pack_1 : decode cX6_pack 1 = .ok (.getfield 15, 3) := by decide +kernel
theorem dX6_pack_4 : decode cX6_pack 4 = .ok (.iconst 0, 1) := by decide +kernel
theorem dX6_pack_5 : decode cX6_pack 5 = .ok (.invokestatic 83, 3) := by decide +kernel
theorem dX6_pack_8 : decode cX6_pack 8 = .ok (.iconst 0, 1) := by decide +kernel
theorem dX6_pack_9 : decode cX6_pack 9 = .ok (.istore_n 1, 1) := by decide +kernel
theorem dX6_pack_10 : decode cX6_pack 10 = .ok (.lconst 0, 1) := by decide +kernel
theorem dX6_pack_11 : decode cX6_pack 11 = .ok (.lstore_n 2, 1) := by decide +kernel
theorem dX6_pack_12 : decode cX6_pack 12 = .ok (.iconst 0, 1) := by decide +kernel
theorem dX6_pack_13 : decode cX6_pack 13 = .ok (.istore 4, 2) := by decide +kernel
theorem dX6_pack_15 : decode cX6_pack 15 = .ok (.iload 4, 2) := by decide +kernel
theorem dX6_pack_17 : decode cX6_pack 17 = .ok (.bipush 12, 2) := by decide +kernel
theorem dX6_pack_19 : decode cX6_pack 19 = .ok (.if_icmp .ge 63, 3) := by decide +kernel
theorem dX6_pack_22 : decode cX6_pack 22 = .ok (.aload_n 0, 1) := by decide +kernel
theorem dX6_pack_23 : decode cX6_pack 23 = .ok (.getfield 11, 3) := by decide +kernel
theorem dX6_pack_26 : decode cX6_pack 26 = .ok (.iload 4, 2) := by decide +kernel
theorem dX6_pack_28 : decode cX6_pack 28 = .ok (.iaload, 1) := by decide +kernel
theorem dX6_pack_29 : decode cX6_pack 29 = .ok (.bipush 15, 2) := by decide +kernel
theorem dX6_pack_31 : decode cX6_pack 31 = .ok (.iand, 1) := by decide +kernel
theorem dX6_pack_32 : decode cX6_pack 32 = .ok (.istore 5, 2) := by decide +kernel
theorem dX6_pack_34 : decode cX6_pack 34 = .ok (.iload 5, 2) := by decide +kernel
theorem dX6_pack_36 : decode cX6_pack 36 = .ok (.ifCond .eq 24, 3) := by decide +kernel
theorem dX6_pack_39 : decode cX6_pack 39 = .ok (.aload_n 0, 1) := by decide +kernel
theorem dX6_pack_40 : decode cX6_pack 40 = .ok (.getfield 15, 3) := by decide +kernel
theorem dX6_pack_43 : decode cX6_pack 43 = .ok (.iload 5, 2) := by decide +kernel
theorem dX6_pack_45 : decode cX6_pack 45 = .ok (.iaload, 1) := by decide +kernel
theorem dX6_pack_46 : decode cX6_pack 46 = .ok (.ifCond .ne 14, 3) := by decide +kernel
theorem dX6_pack_49 : decode cX6_pack 49 = .ok (.iinc 1 1, 3) := by decide +kernel
theorem dX6_pack_52 : decode cX6_pack 52 = .ok (.aload_n 0, 1) := by decide +kernel
theorem dX6_pack_53 : decode cX6_pack 53 = .ok (.getfield 15, 3) := by decide +kernel
theorem dX6_pack_56 : decode cX6_pack 56 = .ok (.iload 5, 2) := by decide +kernel
theorem dX6_pack_58 : decode cX6_pack 58 = .ok (.iload_n 1, 1) := by decide +kernel
theorem dX6_pack_59 : decode cX6_pack 59 = .ok (.iastore, 1) := by decide +kernel
theorem dX6_pack_60 : decode cX6_pack 60 = .ok (.lload_n 2, 1) := by decide +kernel
theorem dX6_pack_61 : decode cX6_pack 61 = .ok (.aload_n 0, 1) := by decide +kernel
theorem dX6_pack_62 : decode cX6_pack 62 = .ok (.getfield 15, 3) := by decide +kernel
theorem dX6_pack_65 : decode cX6_pack 65 = .ok (.iload 5, 2) := by decide +kernel
theorem dX6_pack_67 : decode cX6_pack 67 = .ok (.iaload, 1) := by decide +kernel
theorem dX6_pack_68 : decode cX6_pack 68 = .ok (.i2l, 1) := by decide +kernel
theorem dX6_pack_69 : decode cX6_pack 69 = .ok (.iconst 4, 1) := by decide +kernel
theorem dX6_pack_70 : decode cX6_pack 70 = .ok (.iload 4, 2) := by decide +kernel
theorem dX6_pack_72 : decode cX6_pack 72 = .ok (.imul, 1) := by decide +kernel
theorem dX6_pack_73 : decode cX6_pack 73 = .ok (.lshl, 1) := by decide +kernel
theorem dX6_pack_74 : decode cX6_pack 74 = .ok (.lor, 1) := by decide +kernel
theorem dX6_pack_75 : decode cX6_pack 75 = .ok (.lstore_n 2, 1) := by decide +kernel
theorem dX6_pack_76 : decode cX6_pack 76 = .ok (.iinc 4 1, 3) := by decide +kernel
theorem dX6_pack_79 : decode cX6_pack 79 = .ok (.goto (-64), 3) := by decide +kernel
theorem dX6_pack_82 : decode cX6_pack 82 = .ok (.lload_n 2, 1) := by decide +kernel
theorem dX6_pack_83 : decode cX6_pack 83 = .ok (.lreturn, 1) := by decide +kernel
set_option maxRecDepth 20000 in
theorem ggX6_pass_X0_across : GoodIn wsX6_pass wsX0_across := goodIn_r _ [6, 7, 51, 52, 53, 54, 55, 56, 57, 58] (by decide +kernel) (by decide +kernel)
set_option maxRecDepth 20000 in
theorem gX6_pass_X0_across : GoodIn wsX6_pass (wsV RX6 89 RX0 yX0_across wsX0_across) := goodIn_app (goodIn_of _ (by decide +kernel)) ggX6_pass_X0_across
set_option maxRecDepth 20000 in
theorem ggX6_pass_X7_holds : GoodIn wsX6_pass wsX7_holds := goodIn_r _ [10] (by decide +kernel) (by decide +kernel)
set_option maxRecDepth 20000 in
theorem gX6_pass_X7_holds_n57 : GoodIn wsX6_pass (wsX7_holds) := ggX6_pass_X7_holds
set_option maxRecDepth 20000 in
theorem ggX6_pass_X6_placeOf : GoodIn wsX6_pass wsX6_placeOf := goodIn_r _ [15, 1, 16, 17, 18, 5, 19, 20, 21, 22, 23, 24, 25, 26, 9, 27, 46, 47, 48, 49, 50, 51, 52, 53, 54, 55, 56, 57, 58] (by decide +kernel) (by decide +kernel)
set_option maxRecDepth 20000 in
theorem gX6_pass_X6_placeOf : GoodIn wsX6_pass (wsV RX6 92 RX6 yX6_placeOf wsX6_placeOf) := goodIn_app (goodIn_of _ (by decide +kernel)) ggX6_pass_X6_placeOf
set_option maxRecDepth 20000 in
theorem ggX6_pass_X6_take : GoodIn wsX6_pass wsX6_take := goodIn_r _ [31, 32, 26, 9, 27, 33, 34, 35, 14, 36, 46, 47, 48, 49, 50] (by decide +kernel) (by decide +kernel)
set_option maxRecDepth 20000 in
theorem gX6_pass_X6_take : GoodIn wsX6_pass (wsV RX6 95 RX6 yX6_take wsX6_take) := goodIn_app (goodIn_of _ (by decide +kernel)) ggX6_pass_X6_take
set_option maxRecDepth 20000 in
theorem ggX6_pass_X6_put : GoodIn wsX6_pass wsX6_put := goodIn_r _ [36, 32, 46, 47, 48, 49, 50] (by decide +kernel) (by decide +kernel)
set_option maxRecDepth 20000 in
theorem gX6_pass_X6_put : GoodIn wsX6_pass (wsV RX6 99 RX6 yX6_put wsX6_put) := goodIn_app (goodIn_of _ (by decide +kernel)) ggX6_pass_X6_put
set_option maxRecDepth 20000 in
theorem ggX6_pass_X0_count : GoodIn wsX6_pass wsX0_count := goodIn_r _ [40, 41, 51, 52, 53, 54, 55, 56, 57, 58] (by decide +kernel) (by decide +kernel)
set_option maxRecDepth 20000 in
theorem gX6_pass_X0_count : GoodIn wsX6_pass (wsV RX6 39 RX0 yX0_count wsX0_count) := goodIn_app (goodIn_of _ (by decide +kernel)) ggX6_pass_X0_count
set_option maxRecDepth 20000 in
theorem ggX6_pass_X6_goesOn : GoodIn wsX6_pass wsX6_goesOn := goodIn_r _ [45, 32, 46, 47, 48, 49, 50] (by decide +kernel) (by decide +kernel)
set_option maxRecDepth 20000 in
theorem gX6_pass_X6_goesOn : GoodIn wsX6_pass (wsV RX6 103 RX6 yX6_goesOn wsX6_goesOn) := goodIn_app (goodIn_of _ (by decide +kernel)) ggX6_pass_X6_goesOn
theorem dX6_pass_0 : decode cX6_pass 0 = .ok (.iconst 0, 1) := by decide +kernel
theorem dX6_pass_1 : decode cX6_pass 1 = .ok (.istore_n 3, 1) := by decide +kernel
theorem dX6_pass_2 : decode cX6_pass 2 = .ok (.iload_n 3, 1) := by decide +kernel
theorem dX6_pass_3 : decode cX6_pass 3 = .ok (.iconst 3, 1) := by decide +kernel
theorem dX6_pass_4 : decode cX6_pass 4 = .ok (.if_icmp .gt 69, 3) := by decide +kernel
theorem dX6_pass_7 : decode cX6_pass 7 = .ok (.aload_n 0, 1) := by decide +kernel
theorem dX6_pass_8 : decode cX6_pass 8 = .ok (.getfield 28, 3) := by decide +kernel
theorem dX6_pass_11 : decode cX6_pass 11 = .ok (.iload_n 1, 1) := by decide +kernel
theorem dX6_pass_12 : decode cX6_pass 12 = .ok (.iload_n 3, 1) := by decide +kernel
theorem dX6_pass_13 : decode cX6_pass 13 = .ok (.invokevirtual 89, 3) := by decide +kernel
theorem dX6_pass_16 : decode cX6_pass 16 = .ok (.istore 4, 2) := by decide +kernel
theorem dX6_pass_18 : decode cX6_pass 18 = .ok (.iload_n 2, 1) := by decide +kernel
theorem dX6_pass_19 : decode cX6_pass 19 = .ok (.iload_n 3, 1) := by decide +kernel
theorem dX6_pass_20 : decode cX6_pass 20 = .ok (.invokestatic 57, 3) := by decide +kernel
theorem dX6_pass_23 : decode cX6_pass 23 = .ok (.istore 5, 2) := by decide +kernel
theorem dX6_pass_25 : decode cX6_pass 25 = .ok (.iload 4, 2) := by decide +kernel
theorem dX6_pass_27 : decode cX6_pass 27 = .ok (.iconst (-1), 1) := by decide +kernel
theorem dX6_pass_28 : decode cX6_pass 28 = .ok (.if_icmp .ne 10, 3) := by decide +kernel
theorem dX6_pass_31 : decode cX6_pass 31 = .ok (.iload 5, 2) := by decide +kernel
theorem dX6_pass_33 : decode cX6_pass 33 = .ok (.ifCond .eq 5, 3) := by decide +kernel
theorem dX6_pass_36 : decode cX6_pass 36 = .ok (.iconst 0, 1) := by decide +kernel
theorem dX6_pass_37 : decode cX6_pass 37 = .ok (.ireturn, 1) := by decide +kernel
theorem dX6_pass_38 : decode cX6_pass 38 = .ok (.iload 4, 2) := by decide +kernel
theorem dX6_pass_40 : decode cX6_pass 40 = .ok (.iconst (-1), 1) := by decide +kernel
theorem dX6_pass_41 : decode cX6_pass 41 = .ok (.if_icmp .eq 26, 3) := by decide +kernel
theorem dX6_pass_44 : decode cX6_pass 44 = .ok (.iload 4, 2) := by decide +kernel
theorem dX6_pass_46 : decode cX6_pass 46 = .ok (.iload_n 1, 1) := by decide +kernel
theorem dX6_pass_47 : decode cX6_pass 47 = .ok (.if_icmp .ge 20, 3) := by decide +kernel
theorem dX6_pass_50 : decode cX6_pass 50 = .ok (.aload_n 0, 1) := by decide +kernel
theorem dX6_pass_51 : decode cX6_pass 51 = .ok (.aload_n 0, 1) := by decide +kernel
theorem dX6_pass_52 : decode cX6_pass 52 = .ok (.iload_n 1, 1) := by decide +kernel
theorem dX6_pass_53 : decode cX6_pass 53 = .ok (.iload_n 3, 1) := by decide +kernel
theorem dX6_pass_54 : decode cX6_pass 54 = .ok (.invokevirtual 92, 3) := by decide +kernel
theorem dX6_pass_57 : decode cX6_pass 57 = .ok (.iload 5, 2) := by decide +kernel
theorem dX6_pass_59 : decode cX6_pass 59 = .ok (.invokevirtual 95, 3) := by decide +kernel
theorem dX6_pass_62 : decode cX6_pass 62 = .ok (.ifCond .ne 5, 3) := by decide +kernel
theorem dX6_pass_65 : decode cX6_pass 65 = .ok (.iconst 0, 1) := by decide +kernel
theorem dX6_pass_66 : decode cX6_pass 66 = .ok (.ireturn, 1) := by decide +kernel
theorem dX6_pass_67 : decode cX6_pass 67 = .ok (.iinc 3 1, 3) := by decide +kernel
theorem dX6_pass_70 : decode cX6_pass 70 = .ok (.goto (-68), 3) := by decide +kernel
theorem dX6_pass_73 : decode cX6_pass 73 = .ok (.iconst 0, 1) := by decide +kernel
theorem dX6_pass_74 : decode cX6_pass 74 = .ok (.istore_n 3, 1) := by decide +kernel
theorem dX6_pass_75 : decode cX6_pass 75 = .ok (.iload_n 3, 1) := by decide +kernel
theorem dX6_pass_76 : decode cX6_pass 76 = .ok (.iconst 3, 1) := by decide +kernel
theorem dX6_pass_77 : decode cX6_pass 77 = .ok (.if_icmp .gt 37, 3) := by decide +kernel
theorem dX6_pass_80 : decode cX6_pass 80 = .ok (.aload_n 0, 1) := by decide +kernel
theorem dX6_pass_81 : decode cX6_pass 81 = .ok (.getfield 28, 3) := by decide +kernel
theorem dX6_pass_84 : decode cX6_pass 84 = .ok (.iload_n 1, 1) := by decide +kernel
theorem dX6_pass_85 : decode cX6_pass 85 = .ok (.iload_n 3, 1) := by decide +kernel
theorem dX6_pass_86 : decode cX6_pass 86 = .ok (.invokevirtual 89, 3) := by decide +kernel
theorem dX6_pass_89 : decode cX6_pass 89 = .ok (.iload_n 1, 1) := by decide +kernel
theorem dX6_pass_90 : decode cX6_pass 90 = .ok (.if_icmp .le 18, 3) := by decide +kernel
theorem dX6_pass_93 : decode cX6_pass 93 = .ok (.aload_n 0, 1) := by decide +kernel
theorem dX6_pass_94 : decode cX6_pass 94 = .ok (.aload_n 0, 1) := by decide +kernel
theorem dX6_pass_95 : decode cX6_pass 95 = .ok (.iload_n 1, 1) := by decide +kernel
theorem dX6_pass_96 : decode cX6_pass 96 = .ok (.iload_n 3, 1) := by decide +kernel
theorem dX6_pass_97 : decode cX6_pass 97 = .ok (.invokevirtual 92, 3) := by decide +kernel
theorem dX6_pass_100 : decode cX6_pass 100 = .ok (.iload_n 2, 1) := by decide +kernel
theorem dX6_pass_101 : decode cX6_pass 101 = .ok (.iload_n 3, 1) := by decide +kernel
theorem dX6_pass_102 : decode cX6_pass 102 = .ok (.invokestatic 57, 3) := by decide +kernel
theorem dX6_pass_105 : decode cX6_pass 105 = .ok (.invokevirtual 99, 3) := by decide +kernel
theorem dX6_pass_108 : decode cX6_pass 108 = .ok (.iinc 3 1, 3) := by decide +kernel
theorem dX6_pass_111 : decode cX6_pass 111 = .ok (.goto (-36), 3) := by decide +kernel
theorem dX6_pass_114 : decode cX6_pass 114 = .ok (.iload_n 1, 1) := by decide +kernel
theorem dX6_pass_115 : decode cX6_pass 115 = .ok (.aload_n 0, 1) := by decide +kernel
theorem dX6_pass_116 : decode cX6_pass 116 = .ok (.getfield 28, 3) := by decide +kernel
theorem dX6_pass_119 : decode cX6_pass 119 = .ok (.invokevirtual 39, 3) := by decide +kernel
theorem dX6_pass_122 : decode cX6_pass 122 = .ok (.iconst 1, 1) := by decide +kernel
theorem dX6_pass_123 : decode cX6_pass 123 = .ok (.isub, 1) := by decide +kernel
theorem dX6_pass_124 : decode cX6_pass 124 = .ok (.if_icmp .eq 10, 3) := by decide +kernel
theorem dX6_pass_127 : decode cX6_pass 127 = .ok (.aload_n 0, 1) := by decide +kernel
theorem dX6_pass_128 : decode cX6_pass 128 = .ok (.invokevirtual 103, 3) := by decide +kernel
theorem dX6_pass_131 : decode cX6_pass 131 = .ok (.ifCond .eq 7, 3) := by decide +kernel
theorem dX6_pass_134 : decode cX6_pass 134 = .ok (.iconst 1, 1) := by decide +kernel
theorem dX6_pass_135 : decode cX6_pass 135 = .ok (.goto 4, 3) := by decide +kernel
theorem dX6_pass_138 : decode cX6_pass 138 = .ok (.iconst 0, 1) := by decide +kernel
theorem dX6_pass_139 : decode cX6_pass 139 = .ok (.ireturn, 1) := by decide +kernel
set_option maxRecDepth 20000 in
theorem ggX6_take_X7_at : GoodIn wsX6_take wsX7_at := goodIn_r _ [4] (by decide +kernel) (by decide +kernel)
set_option maxRecDepth 20000 in
theorem gX6_take_X7_at_n107 : GoodIn wsX6_take (wsX7_at) := ggX6_take_X7_at
set_option maxRecDepth 20000 in
theorem ggX6_take_X6_put : GoodIn wsX6_take wsX6_put := goodIn_r _ [9, 1, 10, 11, 12, 13, 14] (by decide +kernel) (by decide +kernel)
set_option maxRecDepth 20000 in
theorem gX6_take_X6_put : GoodIn wsX6_take (wsV RX6 99 RX6 yX6_put wsX6_put) := goodIn_app (goodIn_of _ (by decide +kernel)) ggX6_take_X6_put
theorem dX6_take_0 : decode cX6_take 0 = .ok (.aload_n 0, 1) := by decide +kernel
theorem dX6_take_1 : decode cX6_take 1 = .ok (.getfield 11, 3) := by decide +kernel
theorem dX6_take_4 : decode cX6_take 4 = .ok (.iload_n 1, 1) := by decide +kernel
theorem dX6_take_5 : decode cX6_take 5 = .ok (.invokestatic 107, 3) := by decide +kernel
theorem dX6_take_8 : decode cX6_take 8 = .ok (.istore_n 3, 1) := by decide +kernel
theorem dX6_take_9 : decode cX6_take 9 = .ok (.iload_n 3, 1) := by decide +kernel
theorem dX6_take_10 : decode cX6_take 10 = .ok (.bipush 15, 2) := by decide +kernel
theorem dX6_take_12 : decode cX6_take 12 = .ok (.if_icmp .eq 16, 3) := by decide +kernel
theorem dX6_take_15 : decode cX6_take 15 = .ok (.iload_n 2, 1) := by decide +kernel
theorem dX6_take_16 : decode cX6_take 16 = .ok (.iload_n 3, 1) := by decide +kernel
theorem dX6_take_17 : decode cX6_take 17 = .ok (.ifCond .eq 7, 3) := by decide +kernel
theorem dX6_take_20 : decode cX6_take 20 = .ok (.iconst 1, 1) := by decide +kernel
theorem dX6_take_21 : decode cX6_take 21 = .ok (.goto 4, 3) := by decide +kernel
theorem dX6_take_24 : decode cX6_take 24 = .ok (.iconst 0, 1) := by decide +kernel
theorem dX6_take_25 : decode cX6_take 25 = .ok (.if_icmp .eq 5, 3) := by decide +kernel
theorem dX6_take_28 : decode cX6_take 28 = .ok (.iconst 0, 1) := by decide +kernel
theorem dX6_take_29 : decode cX6_take 29 = .ok (.ireturn, 1) := by decide +kernel
theorem dX6_take_30 : decode cX6_take 30 = .ok (.iconst 0, 1) := by decide +kernel
theorem dX6_take_31 : decode cX6_take 31 = .ok (.istore 4, 2) := by decide +kernel
theorem dX6_take_33 : decode cX6_take 33 = .ok (.iload 4, 2) := by decide +kernel
theorem dX6_take_35 : decode cX6_take 35 = .ok (.bipush 12, 2) := by decide +kernel
theorem dX6_take_37 : decode cX6_take 37 = .ok (.if_icmp .ge 33, 3) := by decide +kernel
theorem dX6_take_40 : decode cX6_take 40 = .ok (.iload_n 2, 1) := by decide +kernel
theorem dX6_take_41 : decode cX6_take 41 = .ok (.ifCond .eq 23, 3) := by decide +kernel
theorem dX6_take_44 : decode cX6_take 44 = .ok (.aload_n 0, 1) := by decide +kernel
theorem dX6_take_45 : decode cX6_take 45 = .ok (.getfield 11, 3) := by decide +kernel
theorem dX6_take_48 : decode cX6_take 48 = .ok (.iload 4, 2) := by decide +kernel
theorem dX6_take_50 : decode cX6_take 50 = .ok (.iaload, 1) := by decide +kernel
theorem dX6_take_51 : decode cX6_take 51 = .ok (.iload_n 3, 1) := by decide +kernel
theorem dX6_take_52 : decode cX6_take 52 = .ok (.if_icmp .ne 12, 3) := by decide +kernel
theorem dX6_take_55 : decode cX6_take 55 = .ok (.aload_n 0, 1) := by decide +kernel
theorem dX6_take_56 : decode cX6_take 56 = .ok (.getfield 11, 3) := by decide +kernel
theorem dX6_take_59 : decode cX6_take 59 = .ok (.iload 4, 2) := by decide +kernel
theorem dX6_take_61 : decode cX6_take 61 = .ok (.bipush 15, 2) := by decide +kernel
theorem dX6_take_63 : decode cX6_take 63 = .ok (.iastore, 1) := by decide +kernel
theorem dX6_take_64 : decode cX6_take 64 = .ok (.iinc 4 1, 3) := by decide +kernel
theorem dX6_take_67 : decode cX6_take 67 = .ok (.goto (-34), 3) := by decide +kernel
theorem dX6_take_70 : decode cX6_take 70 = .ok (.aload_n 0, 1) := by decide +kernel
theorem dX6_take_71 : decode cX6_take 71 = .ok (.iload_n 1, 1) := by decide +kernel
theorem dX6_take_72 : decode cX6_take 72 = .ok (.iconst 0, 1) := by decide +kernel
theorem dX6_take_73 : decode cX6_take 73 = .ok (.invokevirtual 99, 3) := by decide +kernel
theorem dX6_take_76 : decode cX6_take 76 = .ok (.iconst 1, 1) := by decide +kernel
theorem dX6_take_77 : decode cX6_take 77 = .ok (.ireturn, 1) := by decide +kernel
theorem dX6_put_0 : decode cX6_put 0 = .ok (.iload_n 1, 1) := by decide +kernel
theorem dX6_put_1 : decode cX6_put 1 = .ok (.ifCond .lt 25, 3) := by decide +kernel
theorem dX6_put_4 : decode cX6_put 4 = .ok (.iload_n 1, 1) := by decide +kernel
theorem dX6_put_5 : decode cX6_put 5 = .ok (.bipush 12, 2) := by decide +kernel
theorem dX6_put_7 : decode cX6_put 7 = .ok (.if_icmp .ge 19, 3) := by decide +kernel
theorem dX6_put_10 : decode cX6_put 10 = .ok (.aload_n 0, 1) := by decide +kernel
theorem dX6_put_11 : decode cX6_put 11 = .ok (.getfield 11, 3) := by decide +kernel
theorem dX6_put_14 : decode cX6_put 14 = .ok (.iload_n 1, 1) := by decide +kernel
theorem dX6_put_15 : decode cX6_put 15 = .ok (.iload_n 2, 1) := by decide +kernel
theorem dX6_put_16 : decode cX6_put 16 = .ok (.ifCond .eq 8, 3) := by decide +kernel
theorem dX6_put_19 : decode cX6_put 19 = .ok (.bipush 15, 2) := by decide +kernel
theorem dX6_put_21 : decode cX6_put 21 = .ok (.goto 4, 3) := by decide +kernel
theorem dX6_put_24 : decode cX6_put 24 = .ok (.iconst 0, 1) := by decide +kernel
theorem dX6_put_25 : decode cX6_put 25 = .ok (.iastore, 1) := by decide +kernel
theorem dX6_put_26 : decode cX6_put 26 = .ok (.return_, 1) := by decide +kernel
theorem dX6_goesOn_0 : decode cX6_goesOn 0 = .ok (.iconst 0, 1) := by decide +kernel
theorem dX6_goesOn_1 : decode cX6_goesOn 1 = .ok (.istore_n 1, 1) := by decide +kernel
theorem dX6_goesOn_2 : decode cX6_goesOn 2 = .ok (.iload_n 1, 1) := by decide +kernel
theorem dX6_goesOn_3 : decode cX6_goesOn 3 = .ok (.bipush 12, 2) := by decide +kernel
theorem dX6_goesOn_5 : decode cX6_goesOn 5 = .ok (.if_icmp .ge 22, 3) := by decide +kernel
theorem dX6_goesOn_8 : decode cX6_goesOn 8 = .ok (.aload_n 0, 1) := by decide +kernel
theorem dX6_goesOn_9 : decode cX6_goesOn 9 = .ok (.getfield 11, 3) := by decide +kernel
theorem dX6_goesOn_12 : decode cX6_goesOn 12 = .ok (.iload_n 1, 1) := by decide +kernel
theorem dX6_goesOn_13 : decode cX6_goesOn 13 = .ok (.iaload, 1) := by decide +kernel
theorem dX6_goesOn_14 : decode cX6_goesOn 14 = .ok (.bipush 15, 2) := by decide +kernel
theorem dX6_goesOn_16 : decode cX6_goesOn 16 = .ok (.if_icmp .ne 5, 3) := by decide +kernel
theorem dX6_goesOn_19 : decode cX6_goesOn 19 = .ok (.iconst 1, 1) := by decide +kernel
theorem dX6_goesOn_20 : decode cX6_goesOn 20 = .ok (.ireturn, 1) := by decide +kernel
theorem dX6_goesOn_21 : decode cX6_goesOn 21 = .ok (.iinc 1 1, 3) := by decide +kernel
theorem dX6_goesOn_24 : decode cX6_goesOn 24 = .ok (.goto (-22), 3) := by decide +kernel
theorem dX6_goesOn_27 : decode cX6_goesOn 27 = .ok (.iconst 0, 1) := by decide +kernel
theorem dX6_goesOn_28 : decode cX6_goesOn 28 = .ok (.ireturn, 1) := by decide +kernel
set_option maxRecDepth 20000 in
theorem ggX6_placeOf_X0_beside : GoodIn wsX6_placeOf wsX0_beside := goodIn_r _ [6, 7, 21, 22, 23, 24, 25, 26, 27, 28] (by decide +kernel) (by decide +kernel)
set_option maxRecDepth 20000 in
theorem gX6_placeOf_X0_beside : GoodIn wsX6_placeOf (wsV RX6 111 RX0 yX0_beside wsX0_beside) := goodIn_app (goodIn_of _ (by decide +kernel)) ggX6_placeOf_X0_beside
set_option maxRecDepth 20000 in
theorem ggX6_placeOf_X0_columnOf : GoodIn wsX6_placeOf wsX0_columnOf := goodIn_r _ [11, 12, 13, 14, 15, 21, 22, 23, 24, 25, 26, 27, 28] (by decide +kernel) (by decide +kernel)
set_option maxRecDepth 20000 in
theorem gX6_placeOf_X0_columnOf : GoodIn wsX6_placeOf (wsV RX6 114 RX0 yX0_columnOf wsX0_columnOf) := goodIn_app (goodIn_of _ (by decide +kernel)) ggX6_placeOf_X0_columnOf
theorem dX6_placeOf_0 : decode cX6_placeOf 0 = .ok (.aload_n 0, 1) := by decide +kernel
theorem dX6_placeOf_1 : decode cX6_placeOf 1 = .ok (.getfield 28, 3) := by decide +kernel
theorem dX6_placeOf_4 : decode cX6_placeOf 4 = .ok (.iload_n 1, 1) := by decide +kernel
theorem dX6_placeOf_5 : decode cX6_placeOf 5 = .ok (.iload_n 2, 1) := by decide +kernel
theorem dX6_placeOf_6 : decode cX6_placeOf 6 = .ok (.invokevirtual 111, 3) := by decide +kernel
theorem dX6_placeOf_9 : decode cX6_placeOf 9 = .ok (.iload_n 1, 1) := by decide +kernel
theorem dX6_placeOf_10 : decode cX6_placeOf 10 = .ok (.if_icmp .le 7, 3) := by decide +kernel
theorem dX6_placeOf_13 : decode cX6_placeOf 13 = .ok (.iconst 1, 1) := by decide +kernel
theorem dX6_placeOf_14 : decode cX6_placeOf 14 = .ok (.goto 4, 3) := by decide +kernel
theorem dX6_placeOf_17 : decode cX6_placeOf 17 = .ok (.iconst 0, 1) := by decide +kernel
theorem dX6_placeOf_18 : decode cX6_placeOf 18 = .ok (.istore_n 3, 1) := by decide +kernel
theorem dX6_placeOf_19 : decode cX6_placeOf 19 = .ok (.iload_n 3, 1) := by decide +kernel
theorem dX6_placeOf_20 : decode cX6_placeOf 20 = .ok (.iload_n 2, 1) := by decide +kernel
theorem dX6_placeOf_21 : decode cX6_placeOf 21 = .ok (.iconst 1, 1) := by decide +kernel
theorem dX6_placeOf_22 : decode cX6_placeOf 22 = .ok (.if_icmp .eq 8, 3) := by decide +kernel
theorem dX6_placeOf_25 : decode cX6_placeOf 25 = .ok (.iload_n 2, 1) := by decide +kernel
theorem dX6_placeOf_26 : decode cX6_placeOf 26 = .ok (.iconst 2, 1) := by decide +kernel
theorem dX6_placeOf_27 : decode cX6_placeOf 27 = .ok (.if_icmp .ne 7, 3) := by decide +kernel
theorem dX6_placeOf_30 : decode cX6_placeOf 30 = .ok (.iconst 1, 1) := by decide +kernel
theorem dX6_placeOf_31 : decode cX6_placeOf 31 = .ok (.goto 4, 3) := by decide +kernel
theorem dX6_placeOf_34 : decode cX6_placeOf 34 = .ok (.iconst 0, 1) := by decide +kernel
theorem dX6_placeOf_35 : decode cX6_placeOf 35 = .ok (.if_icmp .eq 7, 3) := by decide +kernel
theorem dX6_placeOf_38 : decode cX6_placeOf 38 = .ok (.iconst 1, 1) := by decide +kernel
theorem dX6_placeOf_39 : decode cX6_placeOf 39 = .ok (.goto 4, 3) := by decide +kernel
theorem dX6_placeOf_42 : decode cX6_placeOf 42 = .ok (.iconst 0, 1) := by decide +kernel
theorem dX6_placeOf_43 : decode cX6_placeOf 43 = .ok (.istore 4, 2) := by decide +kernel
theorem dX6_placeOf_45 : decode cX6_placeOf 45 = .ok (.iload_n 2, 1) := by decide +kernel
theorem dX6_placeOf_46 : decode cX6_placeOf 46 = .ok (.ifCond .eq 8, 3) := by decide +kernel
theorem dX6_placeOf_49 : decode cX6_placeOf 49 = .ok (.iload_n 2, 1) := by decide +kernel
theorem dX6_placeOf_50 : decode cX6_placeOf 50 = .ok (.iconst 2, 1) := by decide +kernel
theorem dX6_placeOf_51 : decode cX6_placeOf 51 = .ok (.if_icmp .ne 14, 3) := by decide +kernel
theorem dX6_placeOf_54 : decode cX6_placeOf 54 = .ok (.aload_n 0, 1) := by decide +kernel
theorem dX6_placeOf_55 : decode cX6_placeOf 55 = .ok (.getfield 28, 3) := by decide +kernel
theorem dX6_placeOf_58 : decode cX6_placeOf 58 = .ok (.iload_n 1, 1) := by decide +kernel
theorem dX6_placeOf_59 : decode cX6_placeOf 59 = .ok (.invokevirtual 114, 3) := by decide +kernel
theorem dX6_placeOf_62 : decode cX6_placeOf 62 = .ok (.goto 4, 3) := by decide +kernel
theorem dX6_placeOf_65 : decode cX6_placeOf 65 = .ok (.iconst 5, 1) := by decide +kernel
theorem dX6_placeOf_66 : decode cX6_placeOf 66 = .ok (.istore 5, 2) := by decide +kernel
theorem dX6_placeOf_68 : decode cX6_placeOf 68 = .ok (.iload 4, 2) := by decide +kernel
theorem dX6_placeOf_70 : decode cX6_placeOf 70 = .ok (.ifCond .eq 11, 3) := by decide +kernel
theorem dX6_placeOf_73 : decode cX6_placeOf 73 = .ok (.iload 5, 2) := by decide +kernel
theorem dX6_placeOf_75 : decode cX6_placeOf 75 = .ok (.bipush 6, 2) := by decide +kernel
theorem dX6_placeOf_77 : decode cX6_placeOf 77 = .ok (.iadd, 1) := by decide +kernel
theorem dX6_placeOf_78 : decode cX6_placeOf 78 = .ok (.goto 5, 3) := by decide +kernel
theorem dX6_placeOf_81 : decode cX6_placeOf 81 = .ok (.iload 5, 2) := by decide +kernel
theorem dX6_placeOf_83 : decode cX6_placeOf 83 = .ok (.ireturn, 1) := by decide +kernel
set_option maxRecDepth 20000 in
theorem ggX7_init_X0_init : GoodIn wsX7_init wsX0_init := goodIn_r _ [29, 30, 2, 3, 31, 32, 33, 34, 35, 36, 112, 113, 114, 115, 116, 117, 118, 119] (by decide +kernel) (by decide +kernel)
set_option maxRecDepth 20000 in
theorem gX7_init_X0_init_n9 : GoodIn wsX7_init (wsX0_init) := ggX7_init_X0_init
set_option maxRecDepth 20000 in
theorem ggX7_init_X2_init : GoodIn wsX7_init wsX2_init := goodIn_r _ [38, 39, 2, 3, 31, 40, 126, 127, 128] (by decide +kernel) (by decide +kernel)
set_option maxRecDepth 20000 in
theorem gX7_init_X2_init_n18 : GoodIn wsX7_init (wsX2_init) := ggX7_init_X2_init
set_option maxRecDepth 20000 in
theorem ggX7_init_X3_init : GoodIn wsX7_init wsX3_init := goodIn_r _ [43, 44, 2, 3, 31, 45, 46, 47, 129, 130, 131, 132, 133] (by decide +kernel) (by decide +kernel)
set_option maxRecDepth 20000 in
theorem gX7_init_X3_init : GoodIn wsX7_init (wsX3_init) := ggX7_init_X3_init
set_option maxRecDepth 20000 in
theorem ggX7_init_X5_init : GoodIn wsX7_init wsX5_init := goodIn_r _ [50, 51, 2, 3, 31, 52, 53, 54, 55, 56, 134, 135, 136, 137, 138] (by decide +kernel) (by decide +kernel)
set_option maxRecDepth 20000 in
theorem gX7_init_X5_init : GoodIn wsX7_init (wsX5_init) := ggX7_init_X5_init
set_option maxRecDepth 20000 in
theorem ggX7_init_X4_init : GoodIn wsX7_init wsX4_init := goodIn_r _ [59, 60, 2, 3, 31, 61, 62, 63, 64, 65, 66, 67, 139, 140, 141, 142, 143, 144, 145, 146] (by decide +kernel) (by decide +kernel)
set_option maxRecDepth 20000 in
theorem gX7_init_X4_init : GoodIn wsX7_init (wsX4_init) := ggX7_init_X4_init
set_option maxRecDepth 20000 in
theorem ggX7_init_X6_init : GoodIn wsX7_init wsX6_init := goodIn_r _ [70, 71, 2, 3, 31, 72, 73, 74, 75, 76, 77, 78, 79, 80, 81, 82, 83, 84, 85, 147, 148, 149, 150, 151, 152, 153, 154] (by decide +kernel) (by decide +kernel)
set_option maxRecDepth 20000 in
theorem gX7_init_X6_init : GoodIn wsX7_init (wsX6_init) := ggX7_init_X6_init
set_option maxRecDepth 20000 in
theorem ggX7_init_X0_clear : GoodIn wsX7_init wsX0_clear := goodIn_r _ [89, 32, 34, 90, 91, 92, 33, 35, 93, 94, 95, 96, 97, 98, 99, 100, 101, 102, 103, 6, 104, 105, 106, 107, 108, 109, 110, 111, 112, 113, 114, 115, 116, 117, 118, 119] (by decide +kernel) (by decide +kernel)
set_option maxRecDepth 20000 in
theorem gX7_init_X0_clear : GoodIn wsX7_init (wsV RX7 55 RX0 yX0_clear wsX0_clear) := goodIn_app (goodIn_of _ (by decide +kernel)) ggX7_init_X0_clear
theorem dX7_init_0 : decode cX7_init 0 = .ok (.aload_n 0, 1) := by decide +kernel
theorem dX7_init_1 : decode cX7_init 1 = .ok (.invokespecial 1, 3) := by decide +kernel
theorem dX7_init_4 : decode cX7_init 4 = .ok (.aload_n 0, 1) := by decide +kernel
theorem dX7_init_5 : decode cX7_init 5 = .ok (.new 7, 3) := by decide +kernel
theorem dX7_init_8 : decode cX7_init 8 = .ok (.dup, 1) := by decide +kernel
theorem dX7_init_9 : decode cX7_init 9 = .ok (.invokespecial 9, 3) := by decide +kernel
theorem dX7_init_12 : decode cX7_init 12 = .ok (.putfield 10, 3) := by decide +kernel
theorem dX7_init_15 : decode cX7_init 15 = .ok (.aload_n 0, 1) := by decide +kernel
theorem dX7_init_16 : decode cX7_init 16 = .ok (.new 16, 3) := by decide +kernel
theorem dX7_init_19 : decode cX7_init 19 = .ok (.dup, 1) := by decide +kernel
theorem dX7_init_20 : decode cX7_init 20 = .ok (.invokespecial 18, 3) := by decide +kernel
theorem dX7_init_23 : decode cX7_init 23 = .ok (.putfield 19, 3) := by decide +kernel
theorem dX7_init_26 : decode cX7_init 26 = .ok (.aload_n 0, 1) := by decide +kernel
theorem dX7_init_27 : decode cX7_init 27 = .ok (.new 23, 3) := by decide +kernel
theorem dX7_init_30 : decode cX7_init 30 = .ok (.dup, 1) := by decide +kernel
theorem dX7_init_31 : decode cX7_init 31 = .ok (.aload_n 0, 1) := by decide +kernel
theorem dX7_init_32 : decode cX7_init 32 = .ok (.getfield 10, 3) := by decide +kernel
theorem dX7_init_35 : decode cX7_init 35 = .ok (.invokespecial 25, 3) := by decide +kernel
theorem dX7_init_38 : decode cX7_init 38 = .ok (.putfield 28, 3) := by decide +kernel
theorem dX7_init_41 : decode cX7_init 41 = .ok (.aload_n 0, 1) := by decide +kernel
theorem dX7_init_42 : decode cX7_init 42 = .ok (.new 32, 3) := by decide +kernel
theorem dX7_init_45 : decode cX7_init 45 = .ok (.dup, 1) := by decide +kernel
theorem dX7_init_46 : decode cX7_init 46 = .ok (.aload_n 0, 1) := by decide +kernel
theorem dX7_init_47 : decode cX7_init 47 = .ok (.getfield 10, 3) := by decide +kernel
theorem dX7_init_50 : decode cX7_init 50 = .ok (.invokespecial 34, 3) := by decide +kernel
theorem dX7_init_53 : decode cX7_init 53 = .ok (.putfield 35, 3) := by decide +kernel
theorem dX7_init_56 : decode cX7_init 56 = .ok (.aload_n 0, 1) := by decide +kernel
theorem dX7_init_57 : decode cX7_init 57 = .ok (.new 39, 3) := by decide +kernel
theorem dX7_init_60 : decode cX7_init 60 = .ok (.dup, 1) := by decide +kernel
theorem dX7_init_61 : decode cX7_init 61 = .ok (.aload_n 0, 1) := by decide +kernel
theorem dX7_init_62 : decode cX7_init 62 = .ok (.getfield 10, 3) := by decide +kernel
theorem dX7_init_65 : decode cX7_init 65 = .ok (.aload_n 0, 1) := by decide +kernel
theorem dX7_init_66 : decode cX7_init 66 = .ok (.getfield 35, 3) := by decide +kernel
theorem dX7_init_69 : decode cX7_init 69 = .ok (.invokespecial 41, 3) := by decide +kernel
theorem dX7_init_72 : decode cX7_init 72 = .ok (.putfield 44, 3) := by decide +kernel
theorem dX7_init_75 : decode cX7_init 75 = .ok (.aload_n 0, 1) := by decide +kernel
theorem dX7_init_76 : decode cX7_init 76 = .ok (.new 48, 3) := by decide +kernel
theorem dX7_init_79 : decode cX7_init 79 = .ok (.dup, 1) := by decide +kernel
theorem dX7_init_80 : decode cX7_init 80 = .ok (.aload_n 0, 1) := by decide +kernel
theorem dX7_init_81 : decode cX7_init 81 = .ok (.getfield 10, 3) := by decide +kernel
theorem dX7_init_84 : decode cX7_init 84 = .ok (.invokespecial 50, 3) := by decide +kernel
theorem dX7_init_87 : decode cX7_init 87 = .ok (.putfield 51, 3) := by decide +kernel
theorem dX7_init_90 : decode cX7_init 90 = .ok (.aload_n 0, 1) := by decide +kernel
theorem dX7_init_91 : decode cX7_init 91 = .ok (.getfield 10, 3) := by decide +kernel
theorem dX7_init_94 : decode cX7_init 94 = .ok (.iconst 3, 1) := by decide +kernel
theorem dX7_init_95 : decode cX7_init 95 = .ok (.iconst 3, 1) := by decide +kernel
theorem dX7_init_96 : decode cX7_init 96 = .ok (.iconst 0, 1) := by decide +kernel
theorem dX7_init_97 : decode cX7_init 97 = .ok (.invokevirtual 55, 3) := by decide +kernel
theorem dX7_init_100 : decode cX7_init 100 = .ok (.return_, 1) := by decide +kernel
set_option maxRecDepth 20000 in
theorem ggX7_begin_X7_requireBoard : GoodIn wsX7_begin wsX7_requireBoard := goodIn_ca (goodIn_r _ [6, 7, 8, 9, 10, 11, 12] (by decide +kernel) (by decide +kernel)) (goodIn_sub (fun _ h => List.mem_cons_of_mem _ (List.mem_append_right _ h)) (by decide +kernel))
set_option maxRecDepth 20000 in
theorem gX7_begin_X7_requireBoard : GoodIn wsX7_begin (wsV RX7 59 RX7 yX7_requireBoard wsX7_requireBoard) := goodIn_app (goodIn_of _ (by decide +kernel)) ggX7_begin_X7_requireBoard
set_option maxRecDepth 20000 in
theorem ggX7_begin_X7_startBoard : GoodIn wsX7_begin wsX7_startBoard := goodIn_r _ [16, 1, 17, 18, 19, 20, 11, 21, 22, 23, 24, 25, 26, 27, 28, 29, 30, 31, 32, 33, 34, 35, 36, 37, 38, 39, 40, 41, 42, 43, 44, 45, 5, 46, 47, 48, 49, 50, 51, 52, 53, 58, 59, 60, 61, 62, 63, 64, 65, 66, 67, 68, 69, 70, 71, 72, 73, 74] (by decide +kernel) (by decide +kernel)
set_option maxRecDepth 20000 in
theorem gX7_begin_X7_startBoard : GoodIn wsX7_begin (wsV RX7 62 RX7 yX7_startBoard wsX7_startBoard) := goodIn_app (goodIn_of _ (by decide +kernel)) ggX7_begin_X7_startBoard
set_option maxRecDepth 20000 in
theorem ggX7_begin_X0_count : GoodIn wsX7_begin wsX0_count := goodIn_r _ [57, 24, 64, 65, 66, 67, 68, 69, 70, 71] (by decide +kernel) (by decide +kernel)
set_option maxRecDepth 20000 in
theorem gX7_begin_X0_count : GoodIn wsX7_begin (wsV RX7 65 RX0 yX0_count wsX0_count) := goodIn_app (goodIn_of _ (by decide +kernel)) ggX7_begin_X0_count
theorem dX7_begin_0 : decode cX7_begin 0 = .ok (.aload_n 0, 1) := by decide +kernel
theorem dX7_begin_1 : decode cX7_begin 1 = .ok (.iload_n 1, 1) := by decide +kernel
theorem dX7_begin_2 : decode cX7_begin 2 = .ok (.iload_n 2, 1) := by decide +kernel
theorem dX7_begin_3 : decode cX7_begin 3 = .ok (.iload_n 3, 1) := by decide +kernel
theorem dX7_begin_4 : decode cX7_begin 4 = .ok (.invokevirtual 59, 3) := by decide +kernel
theorem dX7_begin_7 : decode cX7_begin 7 = .ok (.aload_n 0, 1) := by decide +kernel
theorem dX7_begin_8 : decode cX7_begin 8 = .ok (.iload_n 1, 1) := by decide +kernel
theorem dX7_begin_9 : decode cX7_begin 9 = .ok (.iload_n 2, 1) := by decide +kernel
theorem dX7_begin_10 : decode cX7_begin 10 = .ok (.iload_n 3, 1) := by decide +kernel
theorem dX7_begin_11 : decode cX7_begin 11 = .ok (.invokevirtual 62, 3) := by decide +kernel
theorem dX7_begin_14 : decode cX7_begin 14 = .ok (.aload_n 0, 1) := by decide +kernel
theorem dX7_begin_15 : decode cX7_begin 15 = .ok (.getfield 10, 3) := by decide +kernel
theorem dX7_begin_18 : decode cX7_begin 18 = .ok (.invokevirtual 65, 3) := by decide +kernel
theorem dX7_begin_21 : decode cX7_begin 21 = .ok (.ireturn, 1) := by decide +kernel
set_option maxRecDepth 20000 in
theorem ggX7_make_X7_requireBoard : GoodIn wsX7_make wsX7_requireBoard := goodIn_ca (goodIn_r _ [10, 1, 2, 11, 12, 13, 14] (by decide +kernel) (by decide +kernel)) (goodIn_sub (fun _ h => List.mem_cons_of_mem _ (List.mem_append_right _ h)) (by decide +kernel))
set_option maxRecDepth 20000 in
theorem gX7_make_X7_requireBoard : GoodIn wsX7_make (wsV RX7 59 RX7 yX7_requireBoard wsX7_requireBoard) := goodIn_app (goodIn_of _ (by decide +kernel)) ggX7_make_X7_requireBoard
set_option maxRecDepth 20000 in
theorem ggX7_make_X7_startBoard : GoodIn wsX7_make wsX7_startBoard := goodIn_r _ [18, 5, 19, 20, 21, 22, 13, 23, 24, 25, 26, 27, 28, 29, 30, 31, 32, 33, 34, 35, 36, 37, 38, 39, 40, 41, 42, 43, 44, 45, 46, 47, 9, 48, 49, 50, 51, 52, 53, 54, 55, 145, 146, 147, 148, 149, 150, 151, 152, 153, 154, 155, 156, 157, 158, 159, 160, 161] (by decide +kernel) (by decide +kernel)
set_option maxRecDepth 20000 in
theorem gX7_make_X7_startBoard : GoodIn wsX7_make (wsV RX7 62 RX7 yX7_startBoard wsX7_startBoard) := goodIn_app (goodIn_of _ (by decide +kernel)) ggX7_make_X7_startBoard
set_option maxRecDepth 20000 in
theorem ggX7_make_X3_fillBoard : GoodIn wsX7_make wsX3_fillBoard := goodIn_r _ [60, 61, 62, 63, 64, 65, 66, 67, 68, 59, 69, 70, 71, 72, 13, 73, 26, 74, 75, 76, 77, 25, 78, 79, 80, 81, 82, 83, 84, 85, 86, 87, 88, 89, 90, 9, 91, 92, 93, 94, 95, 96, 97, 98, 99, 100, 101, 102, 103, 104, 105, 106, 107, 108, 24, 109, 110, 111, 112, 30, 113, 114, 47, 48, 115, 116, 117, 118, 119, 120, 121, 122, 123, 124, 125, 43, 44, 45, 46, 126, 127, 128, 129, 130, 131, 132, 133, 162, 163, 164, 165, 166, 151, 152, 153, 154, 155, 156, 157, 158] (by decide +kernel) (by decide +kernel)
set_option maxRecDepth 20000 in
theorem gX7_make_X3_fillBoard : GoodIn wsX7_make (wsV RX7 77 RX3 yX3_fillBoard wsX3_fillBoard) := goodIn_app (goodIn_of _ (by decide +kernel)) ggX7_make_X3_fillBoard
set_option maxRecDepth 20000 in
theorem ggX7_make_X0_countEnds : GoodIn wsX7_make wsX0_countEnds := goodIn_r _ [137, 26, 130, 119, 120, 13, 121, 24, 90, 9, 91, 138, 139, 140, 141, 142, 143, 144, 151, 152, 153, 154, 155, 156, 157, 158] (by decide +kernel) (by decide +kernel)
set_option maxRecDepth 20000 in
theorem gX7_make_X0_countEnds : GoodIn wsX7_make (wsV RX7 81 RX0 yX0_countEnds wsX0_countEnds) := goodIn_app (goodIn_of _ (by decide +kernel)) ggX7_make_X0_countEnds
theorem dX7_make_0 : decode cX7_make 0 = .ok (.aload_n 0, 1) := by decide +kernel
theorem dX7_make_1 : decode cX7_make 1 = .ok (.iload_n 1, 1) := by decide +kernel
theorem dX7_make_2 : decode cX7_make 2 = .ok (.iload_n 2, 1) := by decide +kernel
theorem dX7_make_3 : decode cX7_make 3 = .ok (.iload_n 3, 1) := by decide +kernel
theorem dX7_make_4 : decode cX7_make 4 = .ok (.invokevirtual 59, 3) := by decide +kernel
theorem dX7_make_7 : decode cX7_make 7 = .ok (.iload 4, 2) := by decide +kernel
theorem dX7_make_9 : decode cX7_make 9 = .ok (.ifCond .lt 10, 3) := by decide +kernel
theorem dX7_make_12 : decode cX7_make 12 = .ok (.iload 4, 2) := by decide +kernel
theorem dX7_make_14 : decode cX7_make 14 = .ok (.ldc 69, 2) := by decide +kernel
theorem dX7_make_16 : decode cX7_make 16 = .ok (.if_icmp .lt 13, 3) := by decide +kernel
theorem dX7_make_19 : decode cX7_make 19 = .ok (.new 70, 3) := by decide +kernel
theorem dX7_make_22 : decode cX7_make 22 = .ok (.dup, 1) := by decide +kernel
theorem dX7_make_23 : decode cX7_make 23 = .ok (.ldc 72, 2) := by decide +kernel
theorem dX7_make_25 : decode cX7_make 25 = .ok (.invokespecial 74, 3) := by decide +kernel
theorem dX7_make_28 : decode cX7_make 28 = .ok (.athrow, 1) := by decide +kernel
theorem dX7_make_29 : decode cX7_make 29 = .ok (.aload_n 0, 1) := by decide +kernel
theorem dX7_make_30 : decode cX7_make 30 = .ok (.iload_n 1, 1) := by decide +kernel
theorem dX7_make_31 : decode cX7_make 31 = .ok (.iload_n 2, 1) := by decide +kernel
theorem dX7_make_32 : decode cX7_make 32 = .ok (.iload_n 3, 1) := by decide +kernel
theorem dX7_make_33 : decode cX7_make 33 = .ok (.invokevirtual 62, 3) := by decide +kernel
theorem dX7_make_36 : decode cX7_make 36 = .ok (.aload_n 0, 1) := by decide +kernel
theorem dX7_make_37 : decode cX7_make 37 = .ok (.getfield 28, 3) := by decide +kernel
theorem dX7_make_40 : decode cX7_make 40 = .ok (.iload 4, 2) := by decide +kernel
theorem dX7_make_42 : decode cX7_make 42 = .ok (.invokevirtual 77, 3) := by decide +kernel
theorem dX7_make_45 : decode cX7_make 45 = .ok (.aload_n 0, 1) := by decide +kernel
theorem dX7_make_46 : decode cX7_make 46 = .ok (.getfield 10, 3) := by decide +kernel
theorem dX7_make_49 : decode cX7_make 49 = .ok (.invokevirtual 81, 3) := by decide +kernel
theorem dX7_make_52 : decode cX7_make 52 = .ok (.ireturn, 1) := by decide +kernel
set_option maxRecDepth 20000 in
theorem ggX7_setTile_X7_requireCell : GoodIn wsX7_setTile wsX7_requireCell := goodIn_ca (goodIn_r _ [9, 10, 11, 3, 12, 13, 14, 15, 16, 17, 37, 38, 39, 40, 41, 42, 43, 44, 45, 46, 47, 48, 49, 50] (by decide +kernel) (by decide +kernel)) (goodIn_sub (fun _ h => List.mem_cons_of_mem _ (List.mem_append_right _ h)) (by decide +kernel))
set_option maxRecDepth 20000 in
theorem gX7_setTile_X7_requireCell : GoodIn wsX7_setTile (wsV RX7 84 RX7 yX7_requireCell wsX7_requireCell) := goodIn_app (goodIn_of _ (by decide +kernel)) ggX7_setTile_X7_requireCell
set_option maxRecDepth 20000 in
theorem ggX7_setTile_X0_sidesOf : GoodIn wsX7_setTile wsX0_sidesOf := goodIn_r _ [21, 22, 23, 8, 24, 43, 44, 45, 46, 47, 48, 49, 50] (by decide +kernel) (by decide +kernel)
set_option maxRecDepth 20000 in
theorem gX7_setTile_X0_sidesOf : GoodIn wsX7_setTile (wsV RX7 89 RX0 yX0_sidesOf wsX0_sidesOf) := goodIn_app (goodIn_of _ (by decide +kernel)) ggX7_setTile_X0_sidesOf
set_option maxRecDepth 20000 in
theorem ggX7_setTile_X0_lay : GoodIn wsX7_setTile wsX0_lay := goodIn_r _ [28, 22, 29, 13, 14, 15, 16, 17, 43, 44, 45, 46, 47, 48, 49, 50] (by decide +kernel) (by decide +kernel)
set_option maxRecDepth 20000 in
theorem gX7_setTile_X0_lay : GoodIn wsX7_setTile (wsV RX7 93 RX0 yX0_lay wsX0_lay) := goodIn_app (goodIn_of _ (by decide +kernel)) ggX7_setTile_X0_lay
set_option maxRecDepth 20000 in
theorem ggX7_setTile_X2_forget : GoodIn wsX7_setTile wsX2_forget := goodIn_r _ [34, 35, 36, 51, 52, 53] (by decide +kernel) (by decide +kernel)
set_option maxRecDepth 20000 in
theorem gX7_setTile_X2_forget : GoodIn wsX7_setTile (wsV RX7 97 RX2 yX2_forget wsX2_forget) := goodIn_app (goodIn_of _ (by decide +kernel)) ggX7_setTile_X2_forget
theorem dX7_setTile_0 : decode cX7_setTile 0 = .ok (.aload_n 0, 1) := by decide +kernel
theorem dX7_setTile_1 : decode cX7_setTile 1 = .ok (.iload_n 1, 1) := by decide +kernel
theorem dX7_setTile_2 : decode cX7_setTile 2 = .ok (.invokevirtual 84, 3) := by decide +kernel
theorem dX7_setTile_5 : decode cX7_setTile 5 = .ok (.iload_n 2, 1) := by decide +kernel
theorem dX7_setTile_6 : decode cX7_setTile 6 = .ok (.ifCond .lt 9, 3) := by decide +kernel
theorem dX7_setTile_9 : decode cX7_setTile 9 = .ok (.iload_n 2, 1) := by decide +kernel
theorem dX7_setTile_10 : decode cX7_setTile 10 = .ok (.bipush 15, 2) := by decide +kernel
theorem dX7_setTile_12 : decode cX7_setTile 12 = .ok (.if_icmp .le 13, 3) := by decide +kernel
theorem dX7_setTile_15 : decode cX7_setTile 15 = .ok (.new 70, 3) := by decide +kernel
theorem dX7_setTile_18 : decode cX7_setTile 18 = .ok (.dup, 1) := by decide +kernel
theorem dX7_setTile_19 : decode cX7_setTile 19 = .ok (.ldc 87, 2) := by decide +kernel
theorem dX7_setTile_21 : decode cX7_setTile 21 = .ok (.invokespecial 74, 3) := by decide +kernel
theorem dX7_setTile_24 : decode cX7_setTile 24 = .ok (.athrow, 1) := by decide +kernel
theorem dX7_setTile_25 : decode cX7_setTile 25 = .ok (.aload_n 0, 1) := by decide +kernel
theorem dX7_setTile_26 : decode cX7_setTile 26 = .ok (.getfield 10, 3) := by decide +kernel
theorem dX7_setTile_29 : decode cX7_setTile 29 = .ok (.iload_n 1, 1) := by decide +kernel
theorem dX7_setTile_30 : decode cX7_setTile 30 = .ok (.invokevirtual 89, 3) := by decide +kernel
theorem dX7_setTile_33 : decode cX7_setTile 33 = .ok (.istore_n 3, 1) := by decide +kernel
theorem dX7_setTile_34 : decode cX7_setTile 34 = .ok (.aload_n 0, 1) := by decide +kernel
theorem dX7_setTile_35 : decode cX7_setTile 35 = .ok (.getfield 10, 3) := by decide +kernel
theorem dX7_setTile_38 : decode cX7_setTile 38 = .ok (.iload_n 1, 1) := by decide +kernel
theorem dX7_setTile_39 : decode cX7_setTile 39 = .ok (.iload_n 2, 1) := by decide +kernel
theorem dX7_setTile_40 : decode cX7_setTile 40 = .ok (.invokevirtual 93, 3) := by decide +kernel
theorem dX7_setTile_43 : decode cX7_setTile 43 = .ok (.aload_n 0, 1) := by decide +kernel
theorem dX7_setTile_44 : decode cX7_setTile 44 = .ok (.getfield 19, 3) := by decide +kernel
theorem dX7_setTile_47 : decode cX7_setTile 47 = .ok (.invokevirtual 97, 3) := by decide +kernel
theorem dX7_setTile_50 : decode cX7_setTile 50 = .ok (.iload_n 3, 1) := by decide +kernel
theorem dX7_setTile_51 : decode cX7_setTile 51 = .ok (.ireturn, 1) := by decide +kernel
set_option maxRecDepth 20000 in
theorem ggX7_setWall_X7_requireCell : GoodIn wsX7_setWall wsX7_requireCell := goodIn_ca (goodIn_r _ [8, 9, 10, 3, 11, 12, 13, 14, 15, 16, 39, 40, 41, 42, 43, 44, 45, 46, 47, 48, 49, 50, 51, 52] (by decide +kernel) (by decide +kernel)) (goodIn_sub (fun _ h => List.mem_cons_of_mem _ (List.mem_append_right _ h)) (by decide +kernel))
set_option maxRecDepth 20000 in
theorem gX7_setWall_X7_requireCell : GoodIn wsX7_setWall (wsV RX7 84 RX7 yX7_requireCell wsX7_requireCell) := goodIn_app (goodIn_of _ (by decide +kernel)) ggX7_setWall_X7_requireCell
set_option maxRecDepth 20000 in
theorem ggX7_setWall_X7_requireSide : GoodIn wsX7_setWall wsX7_requireSide := goodIn_ca (goodIn_r _ [20, 9, 10] (by decide +kernel) (by decide +kernel)) (goodIn_sub (fun _ h => List.mem_cons_of_mem _ (List.mem_append_right _ h)) (by decide +kernel))
set_option maxRecDepth 20000 in
theorem gX7_setWall_X7_requireSide : GoodIn wsX7_setWall (wsV RX7 100 RX7 yX7_requireSide wsX7_requireSide) := goodIn_app (goodIn_of _ (by decide +kernel)) ggX7_setWall_X7_requireSide
set_option maxRecDepth 20000 in
theorem ggX7_setWall_X0_beside : GoodIn wsX7_setWall wsX0_beside := goodIn_r _ [24, 25, 45, 46, 47, 48, 49, 50, 51, 52] (by decide +kernel) (by decide +kernel)
set_option maxRecDepth 20000 in
theorem gX7_setWall_X0_beside : GoodIn wsX7_setWall (wsV RX7 103 RX0 yX0_beside wsX0_beside) := goodIn_app (goodIn_of _ (by decide +kernel)) ggX7_setWall_X0_beside
set_option maxRecDepth 20000 in
theorem ggX7_setWall_X0_across : GoodIn wsX7_setWall wsX0_across := goodIn_r _ [29, 30, 45, 46, 47, 48, 49, 50, 51, 52] (by decide +kernel) (by decide +kernel)
set_option maxRecDepth 20000 in
theorem gX7_setWall_X0_across : GoodIn wsX7_setWall (wsV RX7 112 RX0 yX0_across wsX0_across) := goodIn_app (goodIn_of _ (by decide +kernel)) ggX7_setWall_X0_across
set_option maxRecDepth 20000 in
theorem ggX7_setWall_X0_putWall : GoodIn wsX7_setWall wsX0_putWall := goodIn_r _ [34, 30, 35, 22, 23, 14, 24, 25, 36, 12, 13, 15, 16, 37, 7, 38, 45, 46, 47, 48, 49, 50, 51, 52] (by decide +kernel) (by decide +kernel)
set_option maxRecDepth 20000 in
theorem gX7_setWall_X0_putWall : GoodIn wsX7_setWall (wsV RX7 115 RX0 yX0_putWall wsX0_putWall) := goodIn_app (goodIn_of _ (by decide +kernel)) ggX7_setWall_X0_putWall
theorem dX7_setWall_0 : decode cX7_setWall 0 = .ok (.aload_n 0, 1) := by decide +kernel
theorem dX7_setWall_1 : decode cX7_setWall 1 = .ok (.iload_n 1, 1) := by decide +kernel
theorem dX7_setWall_2 : decode cX7_setWall 2 = .ok (.invokevirtual 84, 3) := by decide +kernel
theorem dX7_setWall_5 : decode cX7_setWall 5 = .ok (.aload_n 0, 1) := by decide +kernel
theorem dX7_setWall_6 : decode cX7_setWall 6 = .ok (.iload_n 2, 1) := by decide +kernel
theorem dX7_setWall_7 : decode cX7_setWall 7 = .ok (.invokevirtual 100, 3) := by decide +kernel
theorem dX7_setWall_10 : decode cX7_setWall 10 = .ok (.aload_n 0, 1) := by decide +kernel
theorem dX7_setWall_11 : decode cX7_setWall 11 = .ok (.getfield 10, 3) := by decide +kernel
theorem dX7_setWall_14 : decode cX7_setWall 14 = .ok (.iload_n 1, 1) := by decide +kernel
theorem dX7_setWall_15 : decode cX7_setWall 15 = .ok (.iload_n 2, 1) := by decide +kernel
theorem dX7_setWall_16 : decode cX7_setWall 16 = .ok (.invokevirtual 103, 3) := by decide +kernel
theorem dX7_setWall_19 : decode cX7_setWall 19 = .ok (.iconst (-1), 1) := by decide +kernel
theorem dX7_setWall_20 : decode cX7_setWall 20 = .ok (.if_icmp .ne 13, 3) := by decide +kernel
theorem dX7_setWall_23 : decode cX7_setWall 23 = .ok (.new 107, 3) := by decide +kernel
theorem dX7_setWall_26 : decode cX7_setWall 26 = .ok (.dup, 1) := by decide +kernel
theorem dX7_setWall_27 : decode cX7_setWall 27 = .ok (.ldc 109, 2) := by decide +kernel
theorem dX7_setWall_29 : decode cX7_setWall 29 = .ok (.invokespecial 111, 3) := by decide +kernel
theorem dX7_setWall_32 : decode cX7_setWall 32 = .ok (.athrow, 1) := by decide +kernel
theorem dX7_setWall_33 : decode cX7_setWall 33 = .ok (.aload_n 0, 1) := by decide +kernel
theorem dX7_setWall_34 : decode cX7_setWall 34 = .ok (.getfield 10, 3) := by decide +kernel
theorem dX7_setWall_37 : decode cX7_setWall 37 = .ok (.iload_n 1, 1) := by decide +kernel
theorem dX7_setWall_38 : decode cX7_setWall 38 = .ok (.iload_n 2, 1) := by decide +kernel
theorem dX7_setWall_39 : decode cX7_setWall 39 = .ok (.invokevirtual 112, 3) := by decide +kernel
theorem dX7_setWall_42 : decode cX7_setWall 42 = .ok (.iconst (-1), 1) := by decide +kernel
theorem dX7_setWall_43 : decode cX7_setWall 43 = .ok (.if_icmp .ne 7, 3) := by decide +kernel
theorem dX7_setWall_46 : decode cX7_setWall 46 = .ok (.iconst 1, 1) := by decide +kernel
theorem dX7_setWall_47 : decode cX7_setWall 47 = .ok (.goto 4, 3) := by decide +kernel
theorem dX7_setWall_50 : decode cX7_setWall 50 = .ok (.iconst 0, 1) := by decide +kernel
theorem dX7_setWall_51 : decode cX7_setWall 51 = .ok (.istore 4, 2) := by decide +kernel
theorem dX7_setWall_53 : decode cX7_setWall 53 = .ok (.aload_n 0, 1) := by decide +kernel
theorem dX7_setWall_54 : decode cX7_setWall 54 = .ok (.getfield 10, 3) := by decide +kernel
theorem dX7_setWall_57 : decode cX7_setWall 57 = .ok (.iload_n 1, 1) := by decide +kernel
theorem dX7_setWall_58 : decode cX7_setWall 58 = .ok (.iload_n 2, 1) := by decide +kernel
theorem dX7_setWall_59 : decode cX7_setWall 59 = .ok (.iload_n 3, 1) := by decide +kernel
theorem dX7_setWall_60 : decode cX7_setWall 60 = .ok (.invokevirtual 115, 3) := by decide +kernel
theorem dX7_setWall_63 : decode cX7_setWall 63 = .ok (.iload 4, 2) := by decide +kernel
theorem dX7_setWall_65 : decode cX7_setWall 65 = .ok (.ireturn, 1) := by decide +kernel
set_option maxRecDepth 20000 in
theorem ggX7_setLock_X7_requireCell : GoodIn wsX7_setLock wsX7_requireCell := goodIn_ca (goodIn_r _ [6, 7, 8, 1, 9, 10, 11, 12, 13, 14, 26, 27, 28, 29, 30, 31, 32, 33, 34, 35, 36, 37, 38, 39] (by decide +kernel) (by decide +kernel)) (goodIn_sub (fun _ h => List.mem_cons_of_mem _ (List.mem_append_right _ h)) (by decide +kernel))
set_option maxRecDepth 20000 in
theorem gX7_setLock_X7_requireCell : GoodIn wsX7_setLock (wsV RX7 84 RX7 yX7_requireCell wsX7_requireCell) := goodIn_app (goodIn_of _ (by decide +kernel)) ggX7_setLock_X7_requireCell
set_option maxRecDepth 20000 in
theorem ggX7_setLock_X0_hasLock : GoodIn wsX7_setLock wsX0_hasLock := goodIn_r _ [18, 19, 20, 5, 21, 32, 33, 34, 35, 36, 37, 38, 39] (by decide +kernel) (by decide +kernel)
set_option maxRecDepth 20000 in
theorem gX7_setLock_X0_hasLock : GoodIn wsX7_setLock (wsV RX7 118 RX0 yX0_hasLock wsX0_hasLock) := goodIn_app (goodIn_of _ (by decide +kernel)) ggX7_setLock_X0_hasLock
set_option maxRecDepth 20000 in
theorem ggX7_setLock_X0_putLock : GoodIn wsX7_setLock wsX0_putLock := goodIn_r _ [25, 19, 32, 33, 34, 35, 36, 37, 38, 39] (by decide +kernel) (by decide +kernel)
set_option maxRecDepth 20000 in
theorem gX7_setLock_X0_putLock : GoodIn wsX7_setLock (wsV RX7 122 RX0 yX0_putLock wsX0_putLock) := goodIn_app (goodIn_of _ (by decide +kernel)) ggX7_setLock_X0_putLock
theorem dX7_setLock_0 : decode cX7_setLock 0 = .ok (.aload_n 0, 1) := by decide +kernel
theorem dX7_setLock_1 : decode cX7_setLock 1 = .ok (.iload_n 1, 1) := by decide +kernel
theorem dX7_setLock_2 : decode cX7_setLock 2 = .ok (.invokevirtual 84, 3) := by decide +kernel
theorem dX7_setLock_5 : decode cX7_setLock 5 = .ok (.aload_n 0, 1) := by decide +kernel
theorem dX7_setLock_6 : decode cX7_setLock 6 = .ok (.getfield 10, 3) := by decide +kernel
theorem dX7_setLock_9 : decode cX7_setLock 9 = .ok (.iload_n 1, 1) := by decide +kernel
theorem dX7_setLock_10 : decode cX7_setLock 10 = .ok (.invokevirtual 118, 3) := by decide +kernel
theorem dX7_setLock_13 : decode cX7_setLock 13 = .ok (.istore_n 3, 1) := by decide +kernel
theorem dX7_setLock_14 : decode cX7_setLock 14 = .ok (.aload_n 0, 1) := by decide +kernel
theorem dX7_setLock_15 : decode cX7_setLock 15 = .ok (.getfield 10, 3) := by decide +kernel
theorem dX7_setLock_18 : decode cX7_setLock 18 = .ok (.iload_n 1, 1) := by decide +kernel
theorem dX7_setLock_19 : decode cX7_setLock 19 = .ok (.iload_n 2, 1) := by decide +kernel
theorem dX7_setLock_20 : decode cX7_setLock 20 = .ok (.invokevirtual 122, 3) := by decide +kernel
theorem dX7_setLock_23 : decode cX7_setLock 23 = .ok (.iload_n 3, 1) := by decide +kernel
theorem dX7_setLock_24 : decode cX7_setLock 24 = .ok (.ireturn, 1) := by decide +kernel
set_option maxRecDepth 20000 in
theorem ggX7_setSource_X7_requireCell : GoodIn wsX7_setSource wsX7_requireCell := goodIn_ca (goodIn_r _ [6, 7, 8, 1, 9, 10, 11, 12, 13, 14, 24, 25, 26, 27, 28, 29, 30, 31, 32, 33, 34, 35, 36, 37] (by decide +kernel) (by decide +kernel)) (goodIn_sub (fun _ h => List.mem_cons_of_mem _ (List.mem_append_right _ h)) (by decide +kernel))
set_option maxRecDepth 20000 in
theorem gX7_setSource_X7_requireCell : GoodIn wsX7_setSource (wsV RX7 84 RX7 yX7_requireCell wsX7_requireCell) := goodIn_app (goodIn_of _ (by decide +kernel)) ggX7_setSource_X7_requireCell
set_option maxRecDepth 20000 in
theorem ggX7_setSource_X0_source : GoodIn wsX7_setSource wsX0_source := goodIn_r _ [18, 19, 30, 31, 32, 33, 34, 35, 36, 37] (by decide +kernel) (by decide +kernel)
set_option maxRecDepth 20000 in
theorem gX7_setSource_X0_source : GoodIn wsX7_setSource (wsV RX7 126 RX0 yX0_source wsX0_source) := goodIn_app (goodIn_of _ (by decide +kernel)) ggX7_setSource_X0_source
set_option maxRecDepth 20000 in
theorem ggX7_setSource_X0_putSource : GoodIn wsX7_setSource wsX0_putSource := goodIn_r _ [23, 19, 30, 31, 32, 33, 34, 35, 36, 37] (by decide +kernel) (by decide +kernel)
set_option maxRecDepth 20000 in
theorem gX7_setSource_X0_putSource : GoodIn wsX7_setSource (wsV RX7 129 RX0 yX0_putSource wsX0_putSource) := goodIn_app (goodIn_of _ (by decide +kernel)) ggX7_setSource_X0_putSource
theorem dX7_setSource_0 : decode cX7_setSource 0 = .ok (.aload_n 0, 1) := by decide +kernel
theorem dX7_setSource_1 : decode cX7_setSource 1 = .ok (.iload_n 1, 1) := by decide +kernel
theorem dX7_setSource_2 : decode cX7_setSource 2 = .ok (.invokevirtual 84, 3) := by decide +kernel
theorem dX7_setSource_5 : decode cX7_setSource 5 = .ok (.aload_n 0, 1) := by decide +kernel
theorem dX7_setSource_6 : decode cX7_setSource 6 = .ok (.getfield 10, 3) := by decide +kernel
theorem dX7_setSource_9 : decode cX7_setSource 9 = .ok (.invokevirtual 126, 3) := by decide +kernel
theorem dX7_setSource_12 : decode cX7_setSource 12 = .ok (.istore_n 2, 1) := by decide +kernel
theorem dX7_setSource_13 : decode cX7_setSource 13 = .ok (.aload_n 0, 1) := by decide +kernel
theorem dX7_setSource_14 : decode cX7_setSource 14 = .ok (.getfield 10, 3) := by decide +kernel
theorem dX7_setSource_17 : decode cX7_setSource 17 = .ok (.iload_n 1, 1) := by decide +kernel
theorem dX7_setSource_18 : decode cX7_setSource 18 = .ok (.invokevirtual 129, 3) := by decide +kernel
theorem dX7_setSource_21 : decode cX7_setSource 21 = .ok (.iload_n 2, 1) := by decide +kernel
theorem dX7_setSource_22 : decode cX7_setSource 22 = .ok (.ireturn, 1) := by decide +kernel
set_option maxRecDepth 20000 in
theorem ggX7_turn_X7_requireCell : GoodIn wsX7_turn wsX7_requireCell := goodIn_ca (goodIn_r _ [9, 10, 11, 3, 12, 13, 14, 15, 16, 17, 56, 57, 58, 59, 60, 61, 62, 63, 64, 65, 66, 67, 68, 69] (by decide +kernel) (by decide +kernel)) (goodIn_sub (fun _ h => List.mem_cons_of_mem _ (List.mem_append_right _ h)) (by decide +kernel))
set_option maxRecDepth 20000 in
theorem gX7_turn_X7_requireCell : GoodIn wsX7_turn (wsV RX7 84 RX7 yX7_requireCell wsX7_requireCell) := goodIn_app (goodIn_of _ (by decide +kernel)) ggX7_turn_X7_requireCell
set_option maxRecDepth 20000 in
theorem ggX7_turn_X0_hasLock : GoodIn wsX7_turn wsX0_hasLock := goodIn_r _ [21, 22, 23, 8, 24, 62, 63, 64, 65, 66, 67, 68, 69] (by decide +kernel) (by decide +kernel)
set_option maxRecDepth 20000 in
theorem gX7_turn_X0_hasLock : GoodIn wsX7_turn (wsV RX7 118 RX0 yX0_hasLock wsX0_hasLock) := goodIn_app (goodIn_of _ (by decide +kernel)) ggX7_turn_X0_hasLock
set_option maxRecDepth 20000 in
theorem ggX7_turn_X2_isFull : GoodIn wsX7_turn wsX2_isFull := goodIn_r _ [29, 30, 70, 71, 72] (by decide +kernel) (by decide +kernel)
set_option maxRecDepth 20000 in
theorem gX7_turn_X2_isFull : GoodIn wsX7_turn (wsV RX7 134 RX2 yX2_isFull wsX2_isFull) := goodIn_app (goodIn_of _ (by decide +kernel)) ggX7_turn_X2_isFull
set_option maxRecDepth 20000 in
theorem ggX7_turn_X0_spin : GoodIn wsX7_turn wsX0_spin := goodIn_r _ [34, 35, 36, 37, 15, 38, 39, 40, 8, 41, 42, 43, 44, 45, 46, 47, 48, 13, 14, 16, 17, 62, 63, 64, 65, 66, 67, 68, 69] (by decide +kernel) (by decide +kernel)
set_option maxRecDepth 20000 in
theorem gX7_turn_X0_spin : GoodIn wsX7_turn (wsV RX7 140 RX0 yX0_spin wsX0_spin) := goodIn_app (goodIn_of _ (by decide +kernel)) ggX7_turn_X0_spin
set_option maxRecDepth 20000 in
theorem ggX7_turn_X2_note : GoodIn wsX7_turn wsX2_note := goodIn_r _ [52, 30, 53, 54, 70, 71, 72] (by decide +kernel) (by decide +kernel)
set_option maxRecDepth 20000 in
theorem gX7_turn_X2_note : GoodIn wsX7_turn (wsV RX7 143 RX2 yX2_note wsX2_note) := goodIn_app (goodIn_of _ (by decide +kernel)) ggX7_turn_X2_note
set_option maxRecDepth 20000 in
theorem ggX7_turn_X0_sidesOf : GoodIn wsX7_turn wsX0_sidesOf := goodIn_r _ [38, 39, 40, 8, 41, 62, 63, 64, 65, 66, 67, 68, 69] (by decide +kernel) (by decide +kernel)
set_option maxRecDepth 20000 in
theorem gX7_turn_X0_sidesOf : GoodIn wsX7_turn (wsV RX7 89 RX0 yX0_sidesOf wsX0_sidesOf) := goodIn_app (goodIn_of _ (by decide +kernel)) ggX7_turn_X0_sidesOf
theorem dX7_turn_0 : decode cX7_turn 0 = .ok (.aload_n 0, 1) := by decide +kernel
theorem dX7_turn_1 : decode cX7_turn 1 = .ok (.iload_n 1, 1) := by decide +kernel
theorem dX7_turn_2 : decode cX7_turn 2 = .ok (.invokevirtual 84, 3) := by decide +kernel
theorem dX7_turn_5 : decode cX7_turn 5 = .ok (.aload_n 0, 1) := by decide +kernel
theorem dX7_turn_6 : decode cX7_turn 6 = .ok (.getfield 10, 3) := by decide +kernel
theorem dX7_turn_9 : decode cX7_turn 9 = .ok (.iload_n 1, 1) := by decide +kernel
theorem dX7_turn_10 : decode cX7_turn 10 = .ok (.invokevirtual 118, 3) := by decide +kernel
theorem dX7_turn_13 : decode cX7_turn 13 = .ok (.ifCond .eq 13, 3) := by decide +kernel
theorem dX7_turn_16 : decode cX7_turn 16 = .ok (.new 107, 3) := by decide +kernel
theorem dX7_turn_19 : decode cX7_turn 19 = .ok (.dup, 1) := by decide +kernel
theorem dX7_turn_20 : decode cX7_turn 20 = .ok (.ldc 132, 2) := by decide +kernel
theorem dX7_turn_22 : decode cX7_turn 22 = .ok (.invokespecial 111, 3) := by decide +kernel
theorem dX7_turn_25 : decode cX7_turn 25 = .ok (.athrow, 1) := by decide +kernel
theorem dX7_turn_26 : decode cX7_turn 26 = .ok (.aload_n 0, 1) := by decide +kernel
theorem dX7_turn_27 : decode cX7_turn 27 = .ok (.getfield 19, 3) := by decide +kernel
theorem dX7_turn_30 : decode cX7_turn 30 = .ok (.invokevirtual 134, 3) := by decide +kernel
theorem dX7_turn_33 : decode cX7_turn 33 = .ok (.ifCond .eq 13, 3) := by decide +kernel
theorem dX7_turn_36 : decode cX7_turn 36 = .ok (.new 107, 3) := by decide +kernel
theorem dX7_turn_39 : decode cX7_turn 39 = .ok (.dup, 1) := by decide +kernel
theorem dX7_turn_40 : decode cX7_turn 40 = .ok (.ldc 138, 2) := by decide +kernel
theorem dX7_turn_42 : decode cX7_turn 42 = .ok (.invokespecial 111, 3) := by decide +kernel
theorem dX7_turn_45 : decode cX7_turn 45 = .ok (.athrow, 1) := by decide +kernel
theorem dX7_turn_46 : decode cX7_turn 46 = .ok (.aload_n 0, 1) := by decide +kernel
theorem dX7_turn_47 : decode cX7_turn 47 = .ok (.getfield 10, 3) := by decide +kernel
theorem dX7_turn_50 : decode cX7_turn 50 = .ok (.iload_n 1, 1) := by decide +kernel
theorem dX7_turn_51 : decode cX7_turn 51 = .ok (.iconst 1, 1) := by decide +kernel
theorem dX7_turn_52 : decode cX7_turn 52 = .ok (.invokevirtual 140, 3) := by decide +kernel
theorem dX7_turn_55 : decode cX7_turn 55 = .ok (.aload_n 0, 1) := by decide +kernel
theorem dX7_turn_56 : decode cX7_turn 56 = .ok (.getfield 19, 3) := by decide +kernel
theorem dX7_turn_59 : decode cX7_turn 59 = .ok (.iload_n 1, 1) := by decide +kernel
theorem dX7_turn_60 : decode cX7_turn 60 = .ok (.invokevirtual 143, 3) := by decide +kernel
theorem dX7_turn_63 : decode cX7_turn 63 = .ok (.aload_n 0, 1) := by decide +kernel
theorem dX7_turn_64 : decode cX7_turn 64 = .ok (.getfield 10, 3) := by decide +kernel
theorem dX7_turn_67 : decode cX7_turn 67 = .ok (.iload_n 1, 1) := by decide +kernel
theorem dX7_turn_68 : decode cX7_turn 68 = .ok (.invokevirtual 89, 3) := by decide +kernel
theorem dX7_turn_71 : decode cX7_turn 71 = .ok (.ireturn, 1) := by decide +kernel
set_option maxRecDepth 20000 in
theorem ggX7_undo_X2_stepBack : GoodIn wsX7_undo wsX2_stepBack := goodIn_r _ [9, 10, 11, 46, 47, 48] (by decide +kernel) (by decide +kernel)
set_option maxRecDepth 20000 in
theorem gX7_undo_X2_stepBack : GoodIn wsX7_undo (wsV RX7 146 RX2 yX2_stepBack wsX2_stepBack) := goodIn_app (goodIn_of _ (by decide +kernel)) ggX7_undo_X2_stepBack
set_option maxRecDepth 20000 in
theorem ggX7_undo_X0_spin : GoodIn wsX7_undo wsX0_spin := goodIn_r _ [16, 17, 18, 19, 15, 20, 21, 22, 23, 24, 25, 26, 27, 28, 29, 30, 31, 32, 33, 34, 35, 49, 50, 51, 52, 53, 54, 55, 56] (by decide +kernel) (by decide +kernel)
set_option maxRecDepth 20000 in
theorem gX7_undo_X0_spin : GoodIn wsX7_undo (wsV RX7 140 RX0 yX0_spin wsX0_spin) := goodIn_app (goodIn_of _ (by decide +kernel)) ggX7_undo_X0_spin
set_option maxRecDepth 20000 in
theorem ggX7_undo_X2_done : GoodIn wsX7_undo wsX2_done := goodIn_r _ [39, 10, 46, 47, 48] (by decide +kernel) (by decide +kernel)
set_option maxRecDepth 20000 in
theorem gX7_undo_X2_done : GoodIn wsX7_undo (wsV RX7 151 RX2 yX2_done wsX2_done) := goodIn_app (goodIn_of _ (by decide +kernel)) ggX7_undo_X2_done
theorem dX7_undo_0 : decode cX7_undo 0 = .ok (.aload_n 0, 1) := by decide +kernel
theorem dX7_undo_1 : decode cX7_undo 1 = .ok (.getfield 19, 3) := by decide +kernel
theorem dX7_undo_4 : decode cX7_undo 4 = .ok (.invokevirtual 146, 3) := by decide +kernel
theorem dX7_undo_7 : decode cX7_undo 7 = .ok (.istore_n 1, 1) := by decide +kernel
theorem dX7_undo_8 : decode cX7_undo 8 = .ok (.iload_n 1, 1) := by decide +kernel
theorem dX7_undo_9 : decode cX7_undo 9 = .ok (.iconst (-1), 1) := by decide +kernel
theorem dX7_undo_10 : decode cX7_undo 10 = .ok (.if_icmp .ne 13, 3) := by decide +kernel
theorem dX7_undo_13 : decode cX7_undo 13 = .ok (.new 107, 3) := by decide +kernel
theorem dX7_undo_16 : decode cX7_undo 16 = .ok (.dup, 1) := by decide +kernel
theorem dX7_undo_17 : decode cX7_undo 17 = .ok (.ldc 149, 2) := by decide +kernel
theorem dX7_undo_19 : decode cX7_undo 19 = .ok (.invokespecial 111, 3) := by decide +kernel
theorem dX7_undo_22 : decode cX7_undo 22 = .ok (.athrow, 1) := by decide +kernel
theorem dX7_undo_23 : decode cX7_undo 23 = .ok (.aload_n 0, 1) := by decide +kernel
theorem dX7_undo_24 : decode cX7_undo 24 = .ok (.getfield 10, 3) := by decide +kernel
theorem dX7_undo_27 : decode cX7_undo 27 = .ok (.iload_n 1, 1) := by decide +kernel
theorem dX7_undo_28 : decode cX7_undo 28 = .ok (.iconst 3, 1) := by decide +kernel
theorem dX7_undo_29 : decode cX7_undo 29 = .ok (.invokevirtual 140, 3) := by decide +kernel
theorem dX7_undo_32 : decode cX7_undo 32 = .ok (.aload_n 0, 1) := by decide +kernel
theorem dX7_undo_33 : decode cX7_undo 33 = .ok (.getfield 19, 3) := by decide +kernel
theorem dX7_undo_36 : decode cX7_undo 36 = .ok (.invokevirtual 151, 3) := by decide +kernel
theorem dX7_undo_39 : decode cX7_undo 39 = .ok (.ireturn, 1) := by decide +kernel
set_option maxRecDepth 20000 in
theorem ggX7_redo_X2_stepOn : GoodIn wsX7_redo wsX2_stepOn := goodIn_r _ [9, 10, 11, 12, 47, 48, 49] (by decide +kernel) (by decide +kernel)
set_option maxRecDepth 20000 in
theorem gX7_redo_X2_stepOn : GoodIn wsX7_redo (wsV RX7 154 RX2 yX2_stepOn wsX2_stepOn) := goodIn_app (goodIn_of _ (by decide +kernel)) ggX7_redo_X2_stepOn
set_option maxRecDepth 20000 in
theorem ggX7_redo_X0_spin : GoodIn wsX7_redo wsX0_spin := goodIn_r _ [17, 18, 19, 20, 16, 21, 22, 23, 24, 25, 26, 27, 28, 29, 30, 31, 32, 33, 34, 35, 36, 50, 51, 52, 53, 54, 55, 56, 57] (by decide +kernel) (by decide +kernel)
set_option maxRecDepth 20000 in
theorem gX7_redo_X0_spin : GoodIn wsX7_redo (wsV RX7 140 RX0 yX0_spin wsX0_spin) := goodIn_app (goodIn_of _ (by decide +kernel)) ggX7_redo_X0_spin
set_option maxRecDepth 20000 in
theorem ggX7_redo_X2_done : GoodIn wsX7_redo wsX2_done := goodIn_r _ [40, 10, 47, 48, 49] (by decide +kernel) (by decide +kernel)
set_option maxRecDepth 20000 in
theorem gX7_redo_X2_done : GoodIn wsX7_redo (wsV RX7 151 RX2 yX2_done wsX2_done) := goodIn_app (goodIn_of _ (by decide +kernel)) ggX7_redo_X2_done
theorem dX7_redo_0 : decode cX7_redo 0 = .ok (.aload_n 0, 1) := by decide +kernel
theorem dX7_redo_1 : decode cX7_redo 1 = .ok (.getfield 19, 3) := by decide +kernel
theorem dX7_redo_4 : decode cX7_redo 4 = .ok (.invokevirtual 154, 3) := by decide +kernel
theorem dX7_redo_7 : decode cX7_redo 7 = .ok (.istore_n 1, 1) := by decide +kernel
theorem dX7_redo_8 : decode cX7_redo 8 = .ok (.iload_n 1, 1) := by decide +kernel
theorem dX7_redo_9 : decode cX7_redo 9 = .ok (.iconst (-1), 1) := by decide +kernel
theorem dX7_redo_10 : decode cX7_redo 10 = .ok (.if_icmp .ne 13, 3) := by decide +kernel
theorem dX7_redo_13 : decode cX7_redo 13 = .ok (.new 107, 3) := by decide +kernel
theorem dX7_redo_16 : decode cX7_redo 16 = .ok (.dup, 1) := by decide +kernel
theorem dX7_redo_17 : decode cX7_redo 17 = .ok (.ldc 157, 2) := by decide +kernel
theorem dX7_redo_19 : decode cX7_redo 19 = .ok (.invokespecial 111, 3) := by decide +kernel
theorem dX7_redo_22 : decode cX7_redo 22 = .ok (.athrow, 1) := by decide +kernel
theorem dX7_redo_23 : decode cX7_redo 23 = .ok (.aload_n 0, 1) := by decide +kernel
theorem dX7_redo_24 : decode cX7_redo 24 = .ok (.getfield 10, 3) := by decide +kernel
theorem dX7_redo_27 : decode cX7_redo 27 = .ok (.iload_n 1, 1) := by decide +kernel
theorem dX7_redo_28 : decode cX7_redo 28 = .ok (.iconst 1, 1) := by decide +kernel
theorem dX7_redo_29 : decode cX7_redo 29 = .ok (.invokevirtual 140, 3) := by decide +kernel
theorem dX7_redo_32 : decode cX7_redo 32 = .ok (.aload_n 0, 1) := by decide +kernel
theorem dX7_redo_33 : decode cX7_redo 33 = .ok (.getfield 19, 3) := by decide +kernel
theorem dX7_redo_36 : decode cX7_redo 36 = .ok (.invokevirtual 151, 3) := by decide +kernel
theorem dX7_redo_39 : decode cX7_redo 39 = .ok (.ireturn, 1) := by decide +kernel
set_option maxRecDepth 20000 in
theorem ggX7_moves_X2_done : GoodIn wsX7_moves wsX2_done := goodIn_r _ [6, 7, 14, 15, 16] (by decide +kernel) (by decide +kernel)
set_option maxRecDepth 20000 in
theorem gX7_moves_X2_done : GoodIn wsX7_moves (wsV RX7 151 RX2 yX2_done wsX2_done) := goodIn_app (goodIn_of _ (by decide +kernel)) ggX7_moves_X2_done
theorem dX7_moves_0 : decode cX7_moves 0 = .ok (.aload_n 0, 1) := by decide +kernel
theorem dX7_moves_1 : decode cX7_moves 1 = .ok (.getfield 19, 3) := by decide +kernel
theorem dX7_moves_4 : decode cX7_moves 4 = .ok (.invokevirtual 151, 3) := by decide +kernel
theorem dX7_moves_7 : decode cX7_moves 7 = .ok (.ireturn, 1) := by decide +kernel
set_option maxRecDepth 20000 in
theorem ggX7_size_X0_count : GoodIn wsX7_size wsX0_count := goodIn_r _ [6, 7, 14, 15, 16, 17, 18, 19, 20, 21] (by decide +kernel) (by decide +kernel)
set_option maxRecDepth 20000 in
theorem gX7_size_X0_count : GoodIn wsX7_size (wsV RX7 65 RX0 yX0_count wsX0_count) := goodIn_app (goodIn_of _ (by decide +kernel)) ggX7_size_X0_count
theorem dX7_size_0 : decode cX7_size 0 = .ok (.aload_n 0, 1) := by decide +kernel
theorem dX7_size_1 : decode cX7_size 1 = .ok (.getfield 10, 3) := by decide +kernel
theorem dX7_size_4 : decode cX7_size 4 = .ok (.invokevirtual 65, 3) := by decide +kernel
theorem dX7_size_7 : decode cX7_size 7 = .ok (.ireturn, 1) := by decide +kernel
set_option maxRecDepth 20000 in
theorem ggX7_tile_X7_requireCell : GoodIn wsX7_tile wsX7_requireCell := goodIn_ca (goodIn_r _ [6, 7, 8, 1, 9, 10, 11, 12, 13, 14, 22, 23, 24, 25, 26, 27, 28, 29, 30, 31, 32, 33, 34, 35] (by decide +kernel) (by decide +kernel)) (goodIn_sub (fun _ h => List.mem_cons_of_mem _ (List.mem_append_right _ h)) (by decide +kernel))
set_option maxRecDepth 20000 in
theorem gX7_tile_X7_requireCell : GoodIn wsX7_tile (wsV RX7 84 RX7 yX7_requireCell wsX7_requireCell) := goodIn_app (goodIn_of _ (by decide +kernel)) ggX7_tile_X7_requireCell
set_option maxRecDepth 20000 in
theorem ggX7_tile_X0_sidesOf : GoodIn wsX7_tile wsX0_sidesOf := goodIn_r _ [18, 19, 20, 5, 21, 28, 29, 30, 31, 32, 33, 34, 35] (by decide +kernel) (by decide +kernel)
set_option maxRecDepth 20000 in
theorem gX7_tile_X0_sidesOf : GoodIn wsX7_tile (wsV RX7 89 RX0 yX0_sidesOf wsX0_sidesOf) := goodIn_app (goodIn_of _ (by decide +kernel)) ggX7_tile_X0_sidesOf
