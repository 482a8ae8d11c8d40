theorem dX7_tile_0 : decode cX7_tile 0 = .ok (.aload_n 0, 1) := by decide +kernel
theorem dX7_tile_1 : decode cX7_tile 1 = .ok (.iload_n 1, 1) := by decide +kernel
theorem dX7_tile_2 : decode cX7_tile 2 = .ok (.invokevirtual 84, 3) := by decide +kernel
theorem dX7_tile_5 : decode cX7_tile 5 = .ok (.aload_n 0, 1) := by decide +kernel
theorem dX7_tile_6 : decode cX7_tile 6 = .ok (.getfield 10, 3) := by decide +kernel
theorem dX7_tile_9 : decode cX7_tile 9 = .ok (.iload_n 1, 1) := by decide +kernel
theorem dX7_tile_10 : decode cX7_tile 10 = .ok (.invokevirtual 89, 3) := by decide +kernel
theorem dX7_tile_13 : decode cX7_tile 13 = .ok (.ireturn, 1) := by decide +kernel
set_option maxRecDepth 20000 in
theorem ggX7_neighbour_X7_requireCell : GoodIn wsX7_neighbour wsX7_requireCell := goodIn_ca (goodIn_r _ [6, 7, 8, 1, 9, 10, 11, 12, 13, 14, 24, 25, 26, 27, 28, 29, 30, 31, 32, 33, 34, 35, 36, 37] (by decide +kernel) (by decide +kernel)) (goodIn_sub (fun _ h => List.mem_cons_of_mem _ (List.mem_append_right _ h)) (by decide +kernel))
set_option maxRecDepth 20000 in
theorem gX7_neighbour_X7_requireCell : GoodIn wsX7_neighbour (wsV RX7 84 RX7 yX7_requireCell wsX7_requireCell) := goodIn_app (goodIn_of _ (by decide +kernel)) ggX7_neighbour_X7_requireCell
set_option maxRecDepth 20000 in
theorem ggX7_neighbour_X7_requireSide : GoodIn wsX7_neighbour wsX7_requireSide := goodIn_ca (goodIn_r _ [18, 7, 8] (by decide +kernel) (by decide +kernel)) (goodIn_sub (fun _ h => List.mem_cons_of_mem _ (List.mem_append_right _ h)) (by decide +kernel))
set_option maxRecDepth 20000 in
theorem gX7_neighbour_X7_requireSide : GoodIn wsX7_neighbour (wsV RX7 100 RX7 yX7_requireSide wsX7_requireSide) := goodIn_app (goodIn_of _ (by decide +kernel)) ggX7_neighbour_X7_requireSide
set_option maxRecDepth 20000 in
theorem ggX7_neighbour_X0_beside : GoodIn wsX7_neighbour wsX0_beside := goodIn_r _ [22, 23, 30, 31, 32, 33, 34, 35, 36, 37] (by decide +kernel) (by decide +kernel)
set_option maxRecDepth 20000 in
theorem gX7_neighbour_X0_beside : GoodIn wsX7_neighbour (wsV RX7 103 RX0 yX0_beside wsX0_beside) := goodIn_app (goodIn_of _ (by decide +kernel)) ggX7_neighbour_X0_beside
theorem dX7_neighbour_0 : decode cX7_neighbour 0 = .ok (.aload_n 0, 1) := by decide +kernel
theorem dX7_neighbour_1 : decode cX7_neighbour 1 = .ok (.iload_n 1, 1) := by decide +kernel
theorem dX7_neighbour_2 : decode cX7_neighbour 2 = .ok (.invokevirtual 84, 3) := by decide +kernel
theorem dX7_neighbour_5 : decode cX7_neighbour 5 = .ok (.aload_n 0, 1) := by decide +kernel
theorem dX7_neighbour_6 : decode cX7_neighbour 6 = .ok (.iload_n 2, 1) := by decide +kernel
theorem dX7_neighbour_7 : decode cX7_neighbour 7 = .ok (.invokevirtual 100, 3) := by decide +kernel
theorem dX7_neighbour_10 : decode cX7_neighbour 10 = .ok (.aload_n 0, 1) := by decide +kernel
theorem dX7_neighbour_11 : decode cX7_neighbour 11 = .ok (.getfield 10, 3) := by decide +kernel
theorem dX7_neighbour_14 : decode cX7_neighbour 14 = .ok (.iload_n 1, 1) := by decide +kernel
theorem dX7_neighbour_15 : decode cX7_neighbour 15 = .ok (.iload_n 2, 1) := by decide +kernel
theorem dX7_neighbour_16 : decode cX7_neighbour 16 = .ok (.invokevirtual 103, 3) := by decide +kernel
theorem dX7_neighbour_19 : decode cX7_neighbour 19 = .ok (.ireturn, 1) := by decide +kernel
set_option maxRecDepth 20000 in
theorem ggX7_isJoined_X7_requireCell : GoodIn wsX7_isJoined wsX7_requireCell := goodIn_ca (goodIn_r _ [6, 7, 8, 1, 9, 10, 11, 12, 13, 14, 35, 36, 37, 38, 39, 40, 41, 42, 43, 44, 45, 46, 47, 48] (by decide +kernel) (by decide +kernel)) (goodIn_sub (fun _ h => List.mem_cons_of_mem _ (List.mem_append_right _ h)) (by decide +kernel))
set_option maxRecDepth 20000 in
theorem gX7_isJoined_X7_requireCell : GoodIn wsX7_isJoined (wsV RX7 84 RX7 yX7_requireCell wsX7_requireCell) := goodIn_app (goodIn_of _ (by decide +kernel)) ggX7_isJoined_X7_requireCell
set_option maxRecDepth 20000 in
theorem ggX7_isJoined_X7_requireSide : GoodIn wsX7_isJoined wsX7_requireSide := goodIn_ca (goodIn_r _ [18, 7, 8] (by decide +kernel) (by decide +kernel)) (goodIn_sub (fun _ h => List.mem_cons_of_mem _ (List.mem_append_right _ h)) (by decide +kernel))
set_option maxRecDepth 20000 in
theorem gX7_isJoined_X7_requireSide : GoodIn wsX7_isJoined (wsV RX7 100 RX7 yX7_requireSide wsX7_requireSide) := goodIn_app (goodIn_of _ (by decide +kernel)) ggX7_isJoined_X7_requireSide
set_option maxRecDepth 20000 in
theorem ggX7_isJoined_X0_joins : GoodIn wsX7_isJoined wsX0_joins := goodIn_r _ [22, 23, 24, 25, 26, 12, 27, 28, 29, 5, 30, 31, 32, 33, 34, 41, 42, 43, 44, 45, 46, 47, 48] (by decide +kernel) (by decide +kernel)
set_option maxRecDepth 20000 in
theorem gX7_isJoined_X0_joins : GoodIn wsX7_isJoined (wsV RX7 159 RX0 yX0_joins wsX0_joins) := goodIn_app (goodIn_of _ (by decide +kernel)) ggX7_isJoined_X0_joins
theorem dX7_isJoined_0 : decode cX7_isJoined 0 = .ok (.aload_n 0, 1) := by decide +kernel
theorem dX7_isJoined_1 : decode cX7_isJoined 1 = .ok (.iload_n 1, 1) := by decide +kernel
theorem dX7_isJoined_2 : decode cX7_isJoined 2 = .ok (.invokevirtual 84, 3) := by decide +kernel
theorem dX7_isJoined_5 : decode cX7_isJoined 5 = .ok (.aload_n 0, 1) := by decide +kernel
theorem dX7_isJoined_6 : decode cX7_isJoined 6 = .ok (.iload_n 2, 1) := by decide +kernel
theorem dX7_isJoined_7 : decode cX7_isJoined 7 = .ok (.invokevirtual 100, 3) := by decide +kernel
theorem dX7_isJoined_10 : decode cX7_isJoined 10 = .ok (.aload_n 0, 1) := by decide +kernel
theorem dX7_isJoined_11 : decode cX7_isJoined 11 = .ok (.getfield 10, 3) := by decide +kernel
theorem dX7_isJoined_14 : decode cX7_isJoined 14 = .ok (.iload_n 1, 1) := by decide +kernel
theorem dX7_isJoined_15 : decode cX7_isJoined 15 = .ok (.iload_n 2, 1) := by decide +kernel
theorem dX7_isJoined_16 : decode cX7_isJoined 16 = .ok (.invokevirtual 159, 3) := by decide +kernel
theorem dX7_isJoined_19 : decode cX7_isJoined 19 = .ok (.ireturn, 1) := by decide +kernel
set_option maxRecDepth 20000 in
theorem ggX7_loose_X0_countOpen : GoodIn wsX7_loose wsX0_countOpen := goodIn_r _ [6, 7, 8, 9, 10, 5, 11, 12, 13, 14, 15, 16, 17, 18, 19, 20, 21, 22, 50, 51, 52, 53, 54, 55, 56, 57] (by decide +kernel) (by decide +kernel)
set_option maxRecDepth 20000 in
theorem gX7_loose_X0_countOpen : GoodIn wsX7_loose (wsV RX7 163 RX0 yX0_countOpen wsX0_countOpen) := goodIn_app (goodIn_of _ (by decide +kernel)) ggX7_loose_X0_countOpen
set_option maxRecDepth 20000 in
theorem ggX7_loose_X0_countJoined : GoodIn wsX7_loose wsX0_countJoined := goodIn_r _ [26, 7, 27, 28, 29, 5, 30, 31, 32, 33, 34, 12, 35, 36, 37, 38, 39, 13, 14, 15, 40, 41, 42, 43, 16, 17, 18, 19, 20, 21, 22, 50, 51, 52, 53, 54, 55, 56, 57] (by decide +kernel) (by decide +kernel)
set_option maxRecDepth 20000 in
theorem gX7_loose_X0_countJoined : GoodIn wsX7_loose (wsV RX7 166 RX0 yX0_countJoined wsX0_countJoined) := goodIn_app (goodIn_of _ (by decide +kernel)) ggX7_loose_X0_countJoined
theorem dX7_loose_0 : decode cX7_loose 0 = .ok (.aload_n 0, 1) := by decide +kernel
theorem dX7_loose_1 : decode cX7_loose 1 = .ok (.getfield 10, 3) := by decide +kernel
theorem dX7_loose_4 : decode cX7_loose 4 = .ok (.invokevirtual 163, 3) := by decide +kernel
theorem dX7_loose_7 : decode cX7_loose 7 = .ok (.aload_n 0, 1) := by decide +kernel
theorem dX7_loose_8 : decode cX7_loose 8 = .ok (.getfield 10, 3) := by decide +kernel
theorem dX7_loose_11 : decode cX7_loose 11 = .ok (.invokevirtual 166, 3) := by decide +kernel
theorem dX7_loose_14 : decode cX7_loose 14 = .ok (.isub, 1) := by decide +kernel
theorem dX7_loose_15 : decode cX7_loose 15 = .ok (.ireturn, 1) := by decide +kernel
set_option maxRecDepth 20000 in
theorem ggX7_watered_X0_source : GoodIn wsX7_watered wsX0_source := goodIn_r _ [6, 7, 50, 51, 52, 53, 54, 55, 56, 57] (by decide +kernel) (by decide +kernel)
set_option maxRecDepth 20000 in
theorem gX7_watered_X0_source : GoodIn wsX7_watered (wsV RX7 126 RX0 yX0_source wsX0_source) := goodIn_app (goodIn_of _ (by decide +kernel)) ggX7_watered_X0_source
set_option maxRecDepth 20000 in
theorem ggX7_watered_X0_reachedFrom : GoodIn wsX7_watered wsX0_reachedFrom := goodIn_r _ [11, 12, 13, 14, 15, 5, 16, 17, 18, 19, 20, 21, 22, 23, 24, 25, 26, 27, 28, 29, 30, 31, 32, 33, 34, 35, 36, 50, 51, 52, 53, 54, 55, 56, 57] (by decide +kernel) (by decide +kernel)
set_option maxRecDepth 20000 in
theorem gX7_watered_X0_reachedFrom : GoodIn wsX7_watered (wsV RX7 169 RX0 yX0_reachedFrom wsX0_reachedFrom) := goodIn_app (goodIn_of _ (by decide +kernel)) ggX7_watered_X0_reachedFrom
set_option maxRecDepth 20000 in
theorem ggX7_watered_J6_bitCount_0f7a4 : GoodIn wsX7_watered wsJ6_bitCount_0f7a4 := goodIn_r _ [40, 41, 42, 43] (by decide +kernel) (by decide +kernel)
set_option maxRecDepth 20000 in
theorem gX7_watered_J6_bitCount_0f7a4 : GoodIn wsX7_watered (va_wsS RX7 172 yJ6_bitCount_0f7a4 wsJ6_bitCount_0f7a4) := goodIn_app (goodIn_of _ (by decide +kernel)) ggX7_watered_J6_bitCount_0f7a4
theorem dX7_watered_0 : decode cX7_watered 0 = .ok (.aload_n 0, 1) := by decide +kernel
theorem dX7_watered_1 : decode cX7_watered 1 = .ok (.getfield 10, 3) := by decide +kernel
theorem dX7_watered_4 : decode cX7_watered 4 = .ok (.aload_n 0, 1) := by decide +kernel
theorem dX7_watered_5 : decode cX7_watered 5 = .ok (.getfield 10, 3) := by decide +kernel
theorem dX7_watered_8 : decode cX7_watered 8 = .ok (.invokevirtual 126, 3) := by decide +kernel
theorem dX7_watered_11 : decode cX7_watered 11 = .ok (.invokevirtual 169, 3) := by decide +kernel
theorem dX7_watered_14 : decode cX7_watered 14 = .ok (.invokestatic 172, 3) := by decide +kernel
theorem dX7_watered_17 : decode cX7_watered 17 = .ok (.ireturn, 1) := by decide +kernel
set_option maxRecDepth 20000 in
theorem ggX7_isWatered_X7_requireCell : GoodIn wsX7_isWatered wsX7_requireCell := goodIn_ca (goodIn_r _ [6, 7, 8, 1, 9, 10, 11, 12, 13, 14, 48, 49, 50, 51, 52, 53, 54, 55, 56, 57, 58, 59, 60, 61] (by decide +kernel) (by decide +kernel)) (goodIn_sub (fun _ h => List.mem_cons_of_mem _ (List.mem_append_right _ h)) (by decide +kernel))
set_option maxRecDepth 20000 in
theorem gX7_isWatered_X7_requireCell : GoodIn wsX7_isWatered (wsV RX7 84 RX7 yX7_requireCell wsX7_requireCell) := goodIn_app (goodIn_of _ (by decide +kernel)) ggX7_isWatered_X7_requireCell
set_option maxRecDepth 20000 in
theorem ggX7_isWatered_X0_source : GoodIn wsX7_isWatered wsX0_source := goodIn_r _ [18, 19, 54, 55, 56, 57, 58, 59, 60, 61] (by decide +kernel) (by decide +kernel)
set_option maxRecDepth 20000 in
theorem gX7_isWatered_X0_source : GoodIn wsX7_isWatered (wsV RX7 126 RX0 yX0_source wsX0_source) := goodIn_app (goodIn_of _ (by decide +kernel)) ggX7_isWatered_X0_source
set_option maxRecDepth 20000 in
theorem ggX7_isWatered_X0_reachedFrom : GoodIn wsX7_isWatered wsX0_reachedFrom := goodIn_r _ [23, 24, 25, 26, 27, 12, 28, 29, 30, 31, 32, 33, 34, 35, 36, 37, 38, 39, 5, 40, 41, 42, 43, 44, 45, 46, 47, 54, 55, 56, 57, 58, 59, 60, 61] (by decide +kernel) (by decide +kernel)
set_option maxRecDepth 20000 in
theorem gX7_isWatered_X0_reachedFrom : GoodIn wsX7_isWatered (wsV RX7 169 RX0 yX0_reachedFrom wsX0_reachedFrom) := goodIn_app (goodIn_of _ (by decide +kernel)) ggX7_isWatered_X0_reachedFrom
set_option maxRecDepth 20000 in
theorem ggX7_isWatered_X7_holds : GoodIn wsX7_isWatered wsX7_holds := goodIn_r _ [42] (by decide +kernel) (by decide +kernel)
set_option maxRecDepth 20000 in
theorem gX7_isWatered_X7_holds : GoodIn wsX7_isWatered (va_wsS RX7 177 yX7_holds wsX7_holds) := goodIn_app (goodIn_of _ (by decide +kernel)) ggX7_isWatered_X7_holds
theorem dX7_isWatered_0 : decode cX7_isWatered 0 = .ok (.aload_n 0, 1) := by decide +kernel
theorem dX7_isWatered_1 : decode cX7_isWatered 1 = .ok (.iload_n 1, 1) := by decide +kernel
theorem dX7_isWatered_2 : decode cX7_isWatered 2 = .ok (.invokevirtual 84, 3) := by decide +kernel
theorem dX7_isWatered_5 : decode cX7_isWatered 5 = .ok (.aload_n 0, 1) := by decide +kernel
theorem dX7_isWatered_6 : decode cX7_isWatered 6 = .ok (.getfield 10, 3) := by decide +kernel
theorem dX7_isWatered_9 : decode cX7_isWatered 9 = .ok (.aload_n 0, 1) := by decide +kernel
theorem dX7_isWatered_10 : decode cX7_isWatered 10 = .ok (.getfield 10, 3) := by decide +kernel
theorem dX7_isWatered_13 : decode cX7_isWatered 13 = .ok (.invokevirtual 126, 3) := by decide +kernel
theorem dX7_isWatered_16 : decode cX7_isWatered 16 = .ok (.invokevirtual 169, 3) := by decide +kernel
theorem dX7_isWatered_19 : decode cX7_isWatered 19 = .ok (.iload_n 1, 1) := by decide +kernel
theorem dX7_isWatered_20 : decode cX7_isWatered 20 = .ok (.invokestatic 177, 3) := by decide +kernel
theorem dX7_isWatered_23 : decode cX7_isWatered 23 = .ok (.ireturn, 1) := by decide +kernel
set_option maxRecDepth 20000 in
theorem ggX7_isSolved_X0_countJoined : GoodIn wsX7_isSolved wsX0_countJoined := goodIn_r _ [6, 7, 8, 9, 10, 5, 11, 12, 13, 14, 15, 16, 17, 18, 19, 20, 21, 22, 23, 24, 25, 26, 27, 28, 29, 30, 31, 32, 33, 34, 35, 66, 67, 68, 69, 70, 71, 72, 73] (by decide +kernel) (by decide +kernel)
set_option maxRecDepth 20000 in
theorem gX7_isSolved_X0_countJoined : GoodIn wsX7_isSolved (wsV RX7 166 RX0 yX0_countJoined wsX0_countJoined) := goodIn_app (goodIn_of _ (by decide +kernel)) ggX7_isSolved_X0_countJoined
set_option maxRecDepth 20000 in
theorem ggX7_isSolved_X0_countOpen : GoodIn wsX7_isSolved wsX0_countOpen := goodIn_r _ [39, 7, 40, 41, 42, 5, 43, 16, 22, 23, 24, 29, 30, 31, 32, 33, 34, 35, 66, 67, 68, 69, 70, 71, 72, 73] (by decide +kernel) (by decide +kernel)
set_option maxRecDepth 20000 in
theorem gX7_isSolved_X0_countOpen : GoodIn wsX7_isSolved (wsV RX7 163 RX0 yX0_countOpen wsX0_countOpen) := goodIn_app (goodIn_of _ (by decide +kernel)) ggX7_isSolved_X0_countOpen
set_option maxRecDepth 20000 in
theorem ggX7_isSolved_X0_count : GoodIn wsX7_isSolved wsX0_count := goodIn_r _ [47, 7, 66, 67, 68, 69, 70, 71, 72, 73] (by decide +kernel) (by decide +kernel)
set_option maxRecDepth 20000 in
theorem gX7_isSolved_X0_count : GoodIn wsX7_isSolved (wsV RX7 65 RX0 yX0_count wsX0_count) := goodIn_app (goodIn_of _ (by decide +kernel)) ggX7_isSolved_X0_count
set_option maxRecDepth 20000 in
theorem ggX7_isSolved_X0_reachedFrom : GoodIn wsX7_isSolved wsX0_reachedFrom := goodIn_r _ [51, 52, 8, 9, 10, 5, 11, 12, 13, 14, 15, 16, 17, 18, 19, 20, 21, 22, 23, 24, 25, 26, 27, 28, 53, 54, 55, 66, 67, 68, 69, 70, 71, 72, 73] (by decide +kernel) (by decide +kernel)
set_option maxRecDepth 20000 in
theorem gX7_isSolved_X0_reachedFrom : GoodIn wsX7_isSolved (wsV RX7 169 RX0 yX0_reachedFrom wsX0_reachedFrom) := goodIn_app (goodIn_of _ (by decide +kernel)) ggX7_isSolved_X0_reachedFrom
set_option maxRecDepth 20000 in
theorem ggX7_isSolved_X0_allCells : GoodIn wsX7_isSolved wsX0_allCells := goodIn_r _ [59, 7, 66, 67, 68, 69, 70, 71, 72, 73] (by decide +kernel) (by decide +kernel)
set_option maxRecDepth 20000 in
theorem gX7_isSolved_X0_allCells : GoodIn wsX7_isSolved (wsV RX7 180 RX0 yX0_allCells wsX0_allCells) := goodIn_app (goodIn_of _ (by decide +kernel)) ggX7_isSolved_X0_allCells
theorem dX7_isSolved_0 : decode cX7_isSolved 0 = .ok (.aload_n 0, 1) := by decide +kernel
theorem dX7_isSolved_1 : decode cX7_isSolved 1 = .ok (.getfield 10, 3) := by decide +kernel
theorem dX7_isSolved_4 : decode cX7_isSolved 4 = .ok (.invokevirtual 166, 3) := by decide +kernel
theorem dX7_isSolved_7 : decode cX7_isSolved 7 = .ok (.istore_n 1, 1) := by decide +kernel
theorem dX7_isSolved_8 : decode cX7_isSolved 8 = .ok (.iload_n 1, 1) := by decide +kernel
theorem dX7_isSolved_9 : decode cX7_isSolved 9 = .ok (.aload_n 0, 1) := by decide +kernel
theorem dX7_isSolved_10 : decode cX7_isSolved 10 = .ok (.getfield 10, 3) := by decide +kernel
theorem dX7_isSolved_13 : decode cX7_isSolved 13 = .ok (.invokevirtual 163, 3) := by decide +kernel
theorem dX7_isSolved_16 : decode cX7_isSolved 16 = .ok (.if_icmp .ne 40, 3) := by decide +kernel
theorem dX7_isSolved_19 : decode cX7_isSolved 19 = .ok (.iload_n 1, 1) := by decide +kernel
theorem dX7_isSolved_20 : decode cX7_isSolved 20 = .ok (.iconst 2, 1) := by decide +kernel
theorem dX7_isSolved_21 : decode cX7_isSolved 21 = .ok (.aload_n 0, 1) := by decide +kernel
theorem dX7_isSolved_22 : decode cX7_isSolved 22 = .ok (.getfield 10, 3) := by decide +kernel
theorem dX7_isSolved_25 : decode cX7_isSolved 25 = .ok (.invokevirtual 65, 3) := by decide +kernel
theorem dX7_isSolved_28 : decode cX7_isSolved 28 = .ok (.iconst 1, 1) := by decide +kernel
theorem dX7_isSolved_29 : decode cX7_isSolved 29 = .ok (.isub, 1) := by decide +kernel
theorem dX7_isSolved_30 : decode cX7_isSolved 30 = .ok (.imul, 1) := by decide +kernel
theorem dX7_isSolved_31 : decode cX7_isSolved 31 = .ok (.if_icmp .ne 25, 3) := by decide +kernel
theorem dX7_isSolved_34 : decode cX7_isSolved 34 = .ok (.aload_n 0, 1) := by decide +kernel
theorem dX7_isSolved_35 : decode cX7_isSolved 35 = .ok (.getfield 10, 3) := by decide +kernel
theorem dX7_isSolved_38 : decode cX7_isSolved 38 = .ok (.iconst 0, 1) := by decide +kernel
theorem dX7_isSolved_39 : decode cX7_isSolved 39 = .ok (.invokevirtual 169, 3) := by decide +kernel
theorem dX7_isSolved_42 : decode cX7_isSolved 42 = .ok (.aload_n 0, 1) := by decide +kernel
theorem dX7_isSolved_43 : decode cX7_isSolved 43 = .ok (.getfield 10, 3) := by decide +kernel
theorem dX7_isSolved_46 : decode cX7_isSolved 46 = .ok (.invokevirtual 180, 3) := by decide +kernel
theorem dX7_isSolved_49 : decode cX7_isSolved 49 = .ok (.if_icmp .ne 7, 3) := by decide +kernel
theorem dX7_isSolved_52 : decode cX7_isSolved 52 = .ok (.iconst 1, 1) := by decide +kernel
theorem dX7_isSolved_53 : decode cX7_isSolved 53 = .ok (.goto 4, 3) := by decide +kernel
theorem dX7_isSolved_56 : decode cX7_isSolved 56 = .ok (.iconst 0, 1) := by decide +kernel
theorem dX7_isSolved_57 : decode cX7_isSolved 57 = .ok (.ireturn, 1) := by decide +kernel
set_option maxRecDepth 20000 in
theorem ggX7_lays_X7_requireCell : GoodIn wsX7_lays wsX7_requireCell := goodIn_ca (goodIn_r _ [6, 7, 8, 9, 10, 11, 12, 13, 14, 15, 87, 88, 89, 90, 91, 92, 93, 94, 95, 96, 97, 98, 99, 100] (by decide +kernel) (by decide +kernel)) (goodIn_sub (fun _ h => List.mem_cons_of_mem _ (List.mem_append_right _ h)) (by decide +kernel))
set_option maxRecDepth 20000 in
theorem gX7_lays_X7_requireCell : GoodIn wsX7_lays (wsV RX7 84 RX7 yX7_requireCell wsX7_requireCell) := goodIn_app (goodIn_of _ (by decide +kernel)) ggX7_lays_X7_requireCell
set_option maxRecDepth 20000 in
theorem ggX7_lays_X5_sift : GoodIn wsX7_lays wsX5_sift := goodIn_r _ [20, 21, 22, 23, 11, 12, 13, 14, 15, 24, 25, 26, 27, 28, 29, 30, 31, 32, 33, 5, 34, 35, 36, 37, 38, 39, 40, 41, 42, 43, 44, 45, 46, 19, 47, 48, 49, 50, 51, 52, 53, 54, 55, 56, 57, 58, 59, 60, 61, 62, 63, 64, 65, 66, 67, 68, 69, 70, 71, 72, 73, 74, 75, 76, 77, 78, 79, 80, 81, 82, 83, 84, 85, 101, 102, 103, 104, 105, 93, 94, 95, 96, 97, 98, 99, 100] (by decide +kernel) (by decide +kernel)
set_option maxRecDepth 20000 in
theorem gX7_lays_X5_sift : GoodIn wsX7_lays (wsV RX7 183 RX5 yX5_sift wsX5_sift) := goodIn_app (goodIn_of _ (by decide +kernel)) ggX7_lays_X5_sift
set_option maxRecDepth 20000 in
theorem ggX7_lays_X5_leftAt : GoodIn wsX7_lays wsX5_leftAt := goodIn_r _ [58, 21, 33, 5, 34, 101, 102, 103, 104, 105] (by decide +kernel) (by decide +kernel)
set_option maxRecDepth 20000 in
theorem gX7_lays_X5_leftAt : GoodIn wsX7_lays (wsV RX7 186 RX5 yX5_leftAt wsX5_leftAt) := goodIn_app (goodIn_of _ (by decide +kernel)) ggX7_lays_X5_leftAt
theorem dX7_lays_0 : decode cX7_lays 0 = .ok (.aload_n 0, 1) := by decide +kernel
theorem dX7_lays_1 : decode cX7_lays 1 = .ok (.iload_n 1, 1) := by decide +kernel
theorem dX7_lays_2 : decode cX7_lays 2 = .ok (.invokevirtual 84, 3) := by decide +kernel
theorem dX7_lays_5 : decode cX7_lays 5 = .ok (.aload_n 0, 1) := by decide +kernel
theorem dX7_lays_6 : decode cX7_lays 6 = .ok (.getfield 35, 3) := by decide +kernel
theorem dX7_lays_9 : decode cX7_lays 9 = .ok (.invokevirtual 183, 3) := by decide +kernel
theorem dX7_lays_12 : decode cX7_lays 12 = .ok (.aload_n 0, 1) := by decide +kernel
theorem dX7_lays_13 : decode cX7_lays 13 = .ok (.getfield 35, 3) := by decide +kernel
theorem dX7_lays_16 : decode cX7_lays 16 = .ok (.iload_n 1, 1) := by decide +kernel
theorem dX7_lays_17 : decode cX7_lays 17 = .ok (.invokevirtual 186, 3) := by decide +kernel
theorem dX7_lays_20 : decode cX7_lays 20 = .ok (.ireturn, 1) := by decide +kernel
set_option maxRecDepth 20000 in
theorem ggX7_solutions_X5_sift : GoodIn wsX7_solutions wsX5_sift := goodIn_r _ [7, 8, 9, 10, 11, 12, 13, 14, 15, 16, 17, 18, 19, 20, 21, 22, 23, 24, 25, 26, 27, 28, 29, 30, 31, 32, 33, 34, 35, 36, 37, 38, 39, 6, 40, 41, 42, 43, 44, 45, 46, 47, 48, 49, 50, 51, 52, 53, 54, 55, 56, 57, 58, 59, 60, 61, 62, 63, 64, 65, 66, 67, 68, 69, 70, 71, 72, 73, 74, 75, 76, 77, 78, 137, 138, 139, 140, 141, 142, 143, 144, 145, 146, 147, 148, 149] (by decide +kernel) (by decide +kernel)
set_option maxRecDepth 20000 in
theorem gX7_solutions_X5_sift : GoodIn wsX7_solutions (wsV RX7 183 RX5 yX5_sift wsX5_sift) := goodIn_app (goodIn_of _ (by decide +kernel)) ggX7_solutions_X5_sift
set_option maxRecDepth 20000 in
theorem ggX7_solutions_X4_countAll : GoodIn wsX7_solutions wsX4_countAll := goodIn_r _ [83, 84, 85, 86, 87, 88, 82, 89, 90, 91, 92, 11, 12, 13, 14, 15, 93, 94, 95, 96, 97, 98, 99, 100, 101, 102, 103, 104, 105, 106, 107, 108, 109, 110, 111, 112, 49, 50, 6, 51, 8, 25, 26, 27, 33, 34, 113, 114, 115, 116, 117, 118, 21, 22, 23, 24, 35, 36, 119, 120, 121, 122, 123, 62, 63, 64, 65, 66, 67, 124, 125, 126, 127, 128, 129, 130, 150, 151, 152, 153, 154, 155, 156, 157, 142, 143, 144, 145, 146, 147, 148, 149, 137, 138, 139, 140, 141] (by decide +kernel) (by decide +kernel)
set_option maxRecDepth 20000 in
theorem gX7_solutions_X4_countAll : GoodIn wsX7_solutions (wsV RX7 189 RX4 yX4_countAll wsX4_countAll) := goodIn_app (goodIn_of _ (by decide +kernel)) ggX7_solutions_X4_countAll
theorem dX7_solutions_0 : decode cX7_solutions 0 = .ok (.aload_n 0, 1) := by decide +kernel
theorem dX7_solutions_1 : decode cX7_solutions 1 = .ok (.getfield 35, 3) := by decide +kernel
theorem dX7_solutions_4 : decode cX7_solutions 4 = .ok (.invokevirtual 183, 3) := by decide +kernel
theorem dX7_solutions_7 : decode cX7_solutions 7 = .ok (.aload_n 0, 1) := by decide +kernel
theorem dX7_solutions_8 : decode cX7_solutions 8 = .ok (.getfield 44, 3) := by decide +kernel
theorem dX7_solutions_11 : decode cX7_solutions 11 = .ok (.invokevirtual 189, 3) := by decide +kernel
theorem dX7_solutions_14 : decode cX7_solutions 14 = .ok (.ireturn, 1) := by decide +kernel
set_option maxRecDepth 20000 in
theorem ggX7_solutionsBySweep_X6_countAll : GoodIn wsX7_solutionsBySweep wsX6_countAll := goodIn_r _ [6, 7, 8, 9, 10, 11, 12, 13, 14, 15, 16, 17, 18, 19, 20, 21, 22, 23, 24, 25, 26, 27, 28, 29, 30, 31, 32, 33, 34, 35, 36, 37, 38, 39, 40, 41, 42, 43, 44, 45, 46, 47, 48, 49, 50, 51, 52, 53, 54, 55, 56, 57, 58, 59, 60, 61, 5, 62, 63, 64, 65, 66, 67, 68, 69, 70, 71, 72, 73, 74, 75, 76, 77, 78, 79, 80, 81, 82, 83, 84, 85, 86, 87, 88, 89, 90, 91, 92, 93, 94, 95, 96, 97, 98, 99, 100, 101, 102, 103, 104, 105, 106, 107, 108, 109, 110, 111, 112, 113, 114, 115, 116, 117, 118, 119, 120, 121, 122, 123, 124, 125, 126, 127, 128, 129, 130, 131, 132, 133, 134, 135, 136, 137, 138, 139, 140, 141, 142, 143, 144, 151, 152, 153, 154, 155, 156, 157, 158, 159, 160, 161, 162, 163, 164, 165, 166] (by decide +kernel) (by decide +kernel)
set_option maxRecDepth 20000 in
theorem gX7_solutionsBySweep_X6_countAll : GoodIn wsX7_solutionsBySweep (wsV RX7 192 RX6 yX6_countAll wsX6_countAll) := goodIn_app (goodIn_of _ (by decide +kernel)) ggX7_solutionsBySweep_X6_countAll
theorem dX7_solutionsBySweep_0 : decode cX7_solutionsBySweep 0 = .ok (.aload_n 0, 1) := by decide +kernel
theorem dX7_solutionsBySweep_1 : decode cX7_solutionsBySweep 1 = .ok (.getfield 51, 3) := by decide +kernel
theorem dX7_solutionsBySweep_4 : decode cX7_solutionsBySweep 4 = .ok (.invokevirtual 192, 3) := by decide +kernel
theorem dX7_solutionsBySweep_7 : decode cX7_solutionsBySweep 7 = .ok (.ireturn, 1) := by decide +kernel
set_option maxRecDepth 20000 in
theorem ggX7_first_X7_requireCell : GoodIn wsX7_first wsX7_requireCell := goodIn_ca (goodIn_r _ [9, 10, 11, 12, 13, 14, 15, 16, 17, 18, 145, 146, 147, 148, 149, 150, 151, 152, 153, 154, 155, 156, 157, 158] (by decide +kernel) (by decide +kernel)) (goodIn_sub (fun _ h => List.mem_cons_of_mem _ (List.mem_append_right _ h)) (by decide +kernel))
set_option maxRecDepth 20000 in
theorem gX7_first_X7_requireCell : GoodIn wsX7_first (wsV RX7 84 RX7 yX7_requireCell wsX7_requireCell) := goodIn_app (goodIn_of _ (by decide +kernel)) ggX7_first_X7_requireCell
set_option maxRecDepth 20000 in
theorem ggX7_first_X5_sift : GoodIn wsX7_first wsX5_sift := goodIn_r _ [23, 24, 25, 26, 14, 15, 16, 17, 18, 27, 28, 29, 30, 31, 32, 33, 34, 35, 36, 8, 37, 38, 39, 40, 41, 42, 43, 44, 45, 46, 47, 48, 49, 22, 50, 51, 52, 53, 54, 55, 56, 57, 58, 59, 60, 61, 62, 63, 64, 65, 66, 67, 68, 69, 70, 71, 72, 73, 74, 75, 76, 77, 78, 79, 80, 81, 82, 83, 84, 85, 86, 87, 88, 159, 160, 161, 162, 163, 151, 152, 153, 154, 155, 156, 157, 158] (by decide +kernel) (by decide +kernel)
set_option maxRecDepth 20000 in
theorem gX7_first_X5_sift : GoodIn wsX7_first (wsV RX7 183 RX5 yX5_sift wsX5_sift) := goodIn_app (goodIn_of _ (by decide +kernel)) ggX7_first_X5_sift
set_option maxRecDepth 20000 in
theorem ggX7_first_X4_countAll : GoodIn wsX7_first wsX4_countAll := goodIn_r _ [93, 94, 95, 96, 97, 98, 92, 99, 100, 101, 102, 14, 15, 16, 17, 18, 103, 104, 105, 106, 107, 108, 109, 110, 111, 112, 113, 114, 115, 116, 117, 118, 119, 120, 121, 122, 59, 60, 22, 61, 24, 36, 8, 37, 43, 44, 123, 124, 125, 126, 127, 128, 32, 33, 34, 35, 45, 46, 129, 130, 131, 132, 133, 72, 73, 74, 75, 76, 77, 134, 135, 136, 137, 138, 139, 140, 164, 165, 166, 167, 168, 169, 170, 171, 151, 152, 153, 154, 155, 156, 157, 158, 159, 160, 161, 162, 163] (by decide +kernel) (by decide +kernel)
set_option maxRecDepth 20000 in
theorem gX7_first_X4_countAll : GoodIn wsX7_first (wsV RX7 189 RX4 yX4_countAll wsX4_countAll) := goodIn_app (goodIn_of _ (by decide +kernel)) ggX7_first_X4_countAll
set_option maxRecDepth 20000 in
theorem ggX7_first_X4_firstAt : GoodIn wsX7_first wsX4_firstAt := goodIn_r _ [144, 109, 36, 8, 37, 164, 165, 166, 167, 168, 169, 170, 171] (by decide +kernel) (by decide +kernel)
set_option maxRecDepth 20000 in
theorem gX7_first_X4_firstAt : GoodIn wsX7_first (wsV RX7 195 RX4 yX4_firstAt wsX4_firstAt) := goodIn_app (goodIn_of _ (by decide +kernel)) ggX7_first_X4_firstAt
theorem dX7_first_0 : decode cX7_first 0 = .ok (.aload_n 0, 1) := by decide +kernel
theorem dX7_first_1 : decode cX7_first 1 = .ok (.iload_n 1, 1) := by decide +kernel
theorem dX7_first_2 : decode cX7_first 2 = .ok (.invokevirtual 84, 3) := by decide +kernel
theorem dX7_first_5 : decode cX7_first 5 = .ok (.aload_n 0, 1) := by decide +kernel
theorem dX7_first_6 : decode cX7_first 6 = .ok (.getfield 35, 3) := by decide +kernel
theorem dX7_first_9 : decode cX7_first 9 = .ok (.invokevirtual 183, 3) := by decide +kernel
theorem dX7_first_12 : decode cX7_first 12 = .ok (.aload_n 0, 1) := by decide +kernel
theorem dX7_first_13 : decode cX7_first 13 = .ok (.getfield 44, 3) := by decide +kernel
theorem dX7_first_16 : decode cX7_first 16 = .ok (.invokevirtual 189, 3) := by decide +kernel
theorem dX7_first_19 : decode cX7_first 19 = .ok (.ifCond .ne 13, 3) := by decide +kernel
theorem dX7_first_22 : decode cX7_first 22 = .ok (.new 107, 3) := by decide +kernel
theorem dX7_first_25 : decode cX7_first 25 = .ok (.dup, 1) := by decide +kernel
theorem dX7_first_26 : decode cX7_first 26 = .ok (.ldc 193, 2) := by decide +kernel
theorem dX7_first_28 : decode cX7_first 28 = .ok (.invokespecial 111, 3) := by decide +kernel
theorem dX7_first_31 : decode cX7_first 31 = .ok (.athrow, 1) := by decide +kernel
theorem dX7_first_32 : decode cX7_first 32 = .ok (.aload_n 0, 1) := by decide +kernel
theorem dX7_first_33 : decode cX7_first 33 = .ok (.getfield 44, 3) := by decide +kernel
theorem dX7_first_36 : decode cX7_first 36 = .ok (.iload_n 1, 1) := by decide +kernel
theorem dX7_first_37 : decode cX7_first 37 = .ok (.invokevirtual 195, 3) := by decide +kernel
theorem dX7_first_40 : decode cX7_first 40 = .ok (.ireturn, 1) := by decide +kernel
set_option maxRecDepth 20000 in
theorem ggX7_fewestTurns_X5_sift : GoodIn wsX7_fewestTurns wsX5_sift := goodIn_r _ [9, 10, 11, 12, 13, 14, 15, 16, 17, 18, 19, 20, 21, 22, 23, 24, 25, 26, 27, 28, 29, 30, 31, 32, 33, 34, 35, 36, 37, 38, 39, 40, 41, 8, 42, 43, 44, 45, 46, 47, 48, 49, 50, 51, 52, 53, 54, 55, 56, 57, 58, 59, 60, 61, 62, 63, 64, 65, 66, 67, 68, 69, 70, 71, 72, 73, 74, 75, 76, 77, 78, 79, 80, 143, 144, 145, 146, 147, 148, 149, 150, 151, 152, 153, 154, 155] (by decide +kernel) (by decide +kernel)
set_option maxRecDepth 20000 in
theorem gX7_fewestTurns_X5_sift : GoodIn wsX7_fewestTurns (wsV RX7 183 RX5 yX5_sift wsX5_sift) := goodIn_app (goodIn_of _ (by decide +kernel)) ggX7_fewestTurns_X5_sift
set_option maxRecDepth 20000 in
theorem ggX7_fewestTurns_X4_countAll : GoodIn wsX7_fewestTurns wsX4_countAll := goodIn_r _ [85, 86, 87, 88, 89, 90, 84, 91, 92, 93, 94, 13, 14, 15, 16, 17, 95, 96, 97, 98, 99, 100, 101, 102, 103, 104, 105, 106, 107, 108, 109, 110, 111, 112, 113, 114, 51, 52, 8, 53, 10, 27, 28, 29, 35, 36, 115, 116, 117, 118, 119, 120, 23, 24, 25, 26, 37, 38, 121, 122, 123, 124, 125, 64, 65, 66, 67, 68, 69, 126, 127, 128, 129, 130, 131, 132, 156, 157, 158, 159, 160, 161, 162, 163, 148, 149, 150, 151, 152, 153, 154, 155, 143, 144, 145, 146, 147] (by decide +kernel) (by decide +kernel)
set_option maxRecDepth 20000 in
theorem gX7_fewestTurns_X4_countAll : GoodIn wsX7_fewestTurns (wsV RX7 189 RX4 yX4_countAll wsX4_countAll) := goodIn_app (goodIn_of _ (by decide +kernel)) ggX7_fewestTurns_X4_countAll
set_option maxRecDepth 20000 in
theorem ggX7_fewestTurns_X4_fewest : GoodIn wsX7_fewestTurns wsX4_fewest := goodIn_r _ [136, 87, 156, 157, 158, 159, 160, 161, 162, 163] (by decide +kernel) (by decide +kernel)
set_option maxRecDepth 20000 in
theorem gX7_fewestTurns_X4_fewest : GoodIn wsX7_fewestTurns (wsV RX7 198 RX4 yX4_fewest wsX4_fewest) := goodIn_app (goodIn_of _ (by decide +kernel)) ggX7_fewestTurns_X4_fewest
theorem dX7_fewestTurns_0 : decode cX7_fewestTurns 0 = .ok (.aload_n 0, 1) := by decide +kernel
theorem dX7_fewestTurns_1 : decode cX7_fewestTurns 1 = .ok (.getfield 35, 3) := by decide +kernel
theorem dX7_fewestTurns_4 : decode cX7_fewestTurns 4 = .ok (.invokevirtual 183, 3) := by decide +kernel
theorem dX7_fewestTurns_7 : decode cX7_fewestTurns 7 = .ok (.aload_n 0, 1) := by decide +kernel
theorem dX7_fewestTurns_8 : decode cX7_fewestTurns 8 = .ok (.getfield 44, 3) := by decide +kernel
theorem dX7_fewestTurns_11 : decode cX7_fewestTurns 11 = .ok (.invokevirtual 189, 3) := by decide +kernel
theorem dX7_fewestTurns_14 : decode cX7_fewestTurns 14 = .ok (.ifCond .ne 13, 3) := by decide +kernel
theorem dX7_fewestTurns_17 : decode cX7_fewestTurns 17 = .ok (.new 107, 3) := by decide +kernel
theorem dX7_fewestTurns_20 : decode cX7_fewestTurns 20 = .ok (.dup, 1) := by decide +kernel
theorem dX7_fewestTurns_21 : decode cX7_fewestTurns 21 = .ok (.ldc 193, 2) := by decide +kernel
theorem dX7_fewestTurns_23 : decode cX7_fewestTurns 23 = .ok (.invokespecial 111, 3) := by decide +kernel
theorem dX7_fewestTurns_26 : decode cX7_fewestTurns 26 = .ok (.athrow, 1) := by decide +kernel
theorem dX7_fewestTurns_27 : decode cX7_fewestTurns 27 = .ok (.aload_n 0, 1) := by decide +kernel
theorem dX7_fewestTurns_28 : decode cX7_fewestTurns 28 = .ok (.getfield 44, 3) := by decide +kernel
theorem dX7_fewestTurns_31 : decode cX7_fewestTurns 31 = .ok (.invokevirtual 198, 3) := by decide +kernel
theorem dX7_fewestTurns_34 : decode cX7_fewestTurns 34 = .ok (.ireturn, 1) := by decide +kernel
set_option maxRecDepth 20000 in
theorem ggX7_requireBoard_X0_allows : GoodIn wsX7_requireBoard wsX0_allows := goodIn_r _ [6] (by decide +kernel) (by decide +kernel)
set_option maxRecDepth 20000 in
theorem gX7_requireBoard_X0_allows : GoodIn wsX7_requireBoard (va_wsS RX7 201 yX0_allows wsX0_allows) := goodIn_app (goodIn_of _ (by decide +kernel)) ggX7_requireBoard_X0_allows
theorem dX7_requireBoard_0 : decode cX7_requireBoard 0 = .ok (.iload_n 1, 1) := by decide +kernel
theorem dX7_requireBoard_1 : decode cX7_requireBoard 1 = .ok (.iload_n 2, 1) := by decide +kernel
theorem dX7_requireBoard_2 : decode cX7_requireBoard 2 = .ok (.iload_n 3, 1) := by decide +kernel
theorem dX7_requireBoard_3 : decode cX7_requireBoard 3 = .ok (.invokestatic 201, 3) := by decide +kernel
theorem dX7_requireBoard_6 : decode cX7_requireBoard 6 = .ok (.ifCond .ne 13, 3) := by decide +kernel
theorem dX7_requireBoard_9 : decode cX7_requireBoard 9 = .ok (.new 70, 3) := by decide +kernel
theorem dX7_requireBoard_12 : decode cX7_requireBoard 12 = .ok (.dup, 1) := by decide +kernel
theorem dX7_requireBoard_13 : decode cX7_requireBoard 13 = .ok (.ldc 205, 2) := by decide +kernel
theorem dX7_requireBoard_15 : decode cX7_requireBoard 15 = .ok (.invokespecial 74, 3) := by decide +kernel
theorem dX7_requireBoard_18 : decode cX7_requireBoard 18 = .ok (.athrow, 1) := by decide +kernel
theorem dX7_requireBoard_19 : decode cX7_requireBoard 19 = .ok (.return_, 1) := by decide +kernel
set_option maxRecDepth 20000 in
theorem ggX7_requireCell_X0_has : GoodIn wsX7_requireCell wsX0_has := goodIn_r _ [8, 9, 16, 17, 18, 19, 20, 21, 22, 23] (by decide +kernel) (by decide +kernel)
set_option maxRecDepth 20000 in
theorem gX7_requireCell_X0_has : GoodIn wsX7_requireCell (wsV RX7 207 RX0 yX0_has wsX0_has) := goodIn_app (goodIn_of _ (by decide +kernel)) ggX7_requireCell_X0_has
theorem dX7_requireCell_0 : decode cX7_requireCell 0 = .ok (.aload_n 0, 1) := by decide +kernel
theorem dX7_requireCell_1 : decode cX7_requireCell 1 = .ok (.getfield 10, 3) := by decide +kernel
theorem dX7_requireCell_4 : decode cX7_requireCell 4 = .ok (.iload_n 1, 1) := by decide +kernel
theorem dX7_requireCell_5 : decode cX7_requireCell 5 = .ok (.invokevirtual 207, 3) := by decide +kernel
theorem dX7_requireCell_8 : decode cX7_requireCell 8 = .ok (.ifCond .ne 13, 3) := by decide +kernel
theorem dX7_requireCell_11 : decode cX7_requireCell 11 = .ok (.new 210, 3) := by decide +kernel
theorem dX7_requireCell_14 : decode cX7_requireCell 14 = .ok (.dup, 1) := by decide +kernel
theorem dX7_requireCell_15 : decode cX7_requireCell 15 = .ok (.ldc 212, 2) := by decide +kernel
theorem dX7_requireCell_17 : decode cX7_requireCell 17 = .ok (.invokespecial 214, 3) := by decide +kernel
theorem dX7_requireCell_20 : decode cX7_requireCell 20 = .ok (.athrow, 1) := by decide +kernel
theorem dX7_requireCell_21 : decode cX7_requireCell 21 = .ok (.return_, 1) := by decide +kernel
theorem dX7_requireSide_0 : decode cX7_requireSide 0 = .ok (.iload_n 1, 1) := by decide +kernel
theorem dX7_requireSide_1 : decode cX7_requireSide 1 = .ok (.ifCond .lt 8, 3) := by decide +kernel
theorem dX7_requireSide_4 : decode cX7_requireSide 4 = .ok (.iload_n 1, 1) := by decide +kernel
theorem dX7_requireSide_5 : decode cX7_requireSide 5 = .ok (.iconst 3, 1) := by decide +kernel
theorem dX7_requireSide_6 : decode cX7_requireSide 6 = .ok (.if_icmp .le 13, 3) := by decide +kernel
theorem dX7_requireSide_9 : decode cX7_requireSide 9 = .ok (.new 210, 3) := by decide +kernel
theorem dX7_requireSide_12 : decode cX7_requireSide 12 = .ok (.dup, 1) := by decide +kernel
theorem dX7_requireSide_13 : decode cX7_requireSide 13 = .ok (.ldc 215, 2) := by decide +kernel
theorem dX7_requireSide_15 : decode cX7_requireSide 15 = .ok (.invokespecial 214, 3) := by decide +kernel
theorem dX7_requireSide_18 : decode cX7_requireSide 18 = .ok (.athrow, 1) := by decide +kernel
theorem dX7_requireSide_19 : decode cX7_requireSide 19 = .ok (.return_, 1) := by decide +kernel
set_option maxRecDepth 20000 in
theorem ggX7_startBoard_X0_clear : GoodIn wsX7_startBoard wsX0_clear := goodIn_r _ [7, 8, 9, 10, 11, 12, 13, 14, 15, 16, 17, 18, 19, 20, 21, 22, 23, 24, 25, 6, 26, 27, 28, 29, 30, 31, 32, 33, 47, 48, 49, 50, 51, 52, 53, 54] (by decide +kernel) (by decide +kernel)
set_option maxRecDepth 20000 in
theorem gX7_startBoard_X0_clear : GoodIn wsX7_startBoard (wsV RX7 55 RX0 yX0_clear wsX0_clear) := goodIn_app (goodIn_of _ (by decide +kernel)) ggX7_startBoard_X0_clear
set_option maxRecDepth 20000 in
theorem ggX7_startBoard_X2_forget : GoodIn wsX7_startBoard wsX2_forget := goodIn_r _ [38, 39, 40, 55, 56, 57] (by decide +kernel) (by decide +kernel)
set_option maxRecDepth 20000 in
theorem gX7_startBoard_X2_forget : GoodIn wsX7_startBoard (wsV RX7 97 RX2 yX2_forget wsX2_forget) := goodIn_app (goodIn_of _ (by decide +kernel)) ggX7_startBoard_X2_forget
theorem dX7_startBoard_0 : decode cX7_startBoard 0 = .ok (.aload_n 0, 1) := by decide +kernel
theorem dX7_startBoard_1 : decode cX7_startBoard 1 = .ok (.getfield 10, 3) := by decide +kernel
theorem dX7_startBoard_4 : decode cX7_startBoard 4 = .ok (.iload_n 1, 1) := by decide +kernel
theorem dX7_startBoard_5 : decode cX7_startBoard 5 = .ok (.iload_n 2, 1) := by decide +kernel
theorem dX7_startBoard_6 : decode cX7_startBoard 6 = .ok (.iload_n 3, 1) := by decide +kernel
theorem dX7_startBoard_7 : decode cX7_startBoard 7 = .ok (.invokevirtual 55, 3) := by decide +kernel
theorem dX7_startBoard_10 : decode cX7_startBoard 10 = .ok (.aload_n 0, 1) := by decide +kernel
theorem dX7_startBoard_11 : decode cX7_startBoard 11 = .ok (.getfield 19, 3) := by decide +kernel
theorem dX7_startBoard_14 : decode cX7_startBoard 14 = .ok (.invokevirtual 97, 3) := by decide +kernel
theorem dX7_startBoard_17 : decode cX7_startBoard 17 = .ok (.return_, 1) := by decide +kernel
theorem dX7_holds_0 : decode cX7_holds 0 = .ok (.iload_n 0, 1) := by decide +kernel
theorem dX7_holds_1 : decode cX7_holds 1 = .ok (.iload_n 1, 1) := by decide +kernel
theorem dX7_holds_2 : decode cX7_holds 2 = .ok (.ishr, 1) := by decide +kernel
theorem dX7_holds_3 : decode cX7_holds 3 = .ok (.iconst 1, 1) := by decide +kernel
theorem dX7_holds_4 : decode cX7_holds 4 = .ok (.iand, 1) := by decide +kernel
theorem dX7_holds_5 : decode cX7_holds 5 = .ok (.ifCond .eq 7, 3) := by decide +kernel
theorem dX7_holds_8 : decode cX7_holds 8 = .ok (.iconst 1, 1) := by decide +kernel
theorem dX7_holds_9 : decode cX7_holds 9 = .ok (.goto 4, 3) := by decide +kernel
theorem dX7_holds_12 : decode cX7_holds 12 = .ok (.iconst 0, 1) := by decide +kernel
theorem dX7_holds_13 : decode cX7_holds 13 = .ok (.ireturn, 1) := by decide +kernel
theorem dX7_at_0 : decode cX7_at 0 = .ok (.iload_n 1, 1) := by decide +kernel
theorem dX7_at_1 : decode cX7_at 1 = .ok (.ifCond .lt 15, 3) := by decide +kernel
theorem dX7_at_4 : decode cX7_at 4 = .ok (.iload_n 1, 1) := by decide +kernel
theorem dX7_at_5 : decode cX7_at 5 = .ok (.aload_n 0, 1) := by decide +kernel
theorem dX7_at_6 : decode cX7_at 6 = .ok (.arraylength, 1) := by decide +kernel
theorem dX7_at_7 : decode cX7_at 7 = .ok (.if_icmp .ge 9, 3) := by decide +kernel
theorem dX7_at_10 : decode cX7_at 10 = .ok (.aload_n 0, 1) := by decide +kernel
theorem dX7_at_11 : decode cX7_at 11 = .ok (.iload_n 1, 1) := by decide +kernel
theorem dX7_at_12 : decode cX7_at 12 = .ok (.iaload, 1) := by decide +kernel
theorem dX7_at_13 : decode cX7_at 13 = .ok (.goto 4, 3) := by decide +kernel
theorem dX7_at_16 : decode cX7_at 16 = .ok (.iconst 0, 1) := by decide +kernel
theorem dX7_at_17 : decode cX7_at 17 = .ok (.ireturn, 1) := by decide +kernel
theorem dX7_opposite_0 : decode cX7_opposite 0 = .ok (.iload_n 0, 1) := by decide +kernel
theorem dX7_opposite_1 : decode cX7_opposite 1 = .ok (.iconst 2, 1) := by decide +kernel
theorem dX7_opposite_2 : decode cX7_opposite 2 = .ok (.iadd, 1) := by decide +kernel
theorem dX7_opposite_3 : decode cX7_opposite 3 = .ok (.iconst 3, 1) := by decide +kernel
theorem dX7_opposite_4 : decode cX7_opposite 4 = .ok (.iand, 1) := by decide +kernel
theorem dX7_opposite_5 : decode cX7_opposite 5 = .ok (.ireturn, 1) := by decide +kernel
theorem dX7_turned_0 : decode cX7_turned 0 = .ok (.iload_n 0, 1) := by decide +kernel
theorem dX7_turned_1 : decode cX7_turned 1 = .ok (.iload_n 1, 1) := by decide +kernel
theorem dX7_turned_2 : decode cX7_turned 2 = .ok (.ishl, 1) := by decide +kernel
theorem dX7_turned_3 : decode cX7_turned 3 = .ok (.iload_n 0, 1) := by decide +kernel
theorem dX7_turned_4 : decode cX7_turned 4 = .ok (.iconst 4, 1) := by decide +kernel
theorem dX7_turned_5 : decode cX7_turned 5 = .ok (.iload_n 1, 1) := by decide +kernel
theorem dX7_turned_6 : decode cX7_turned 6 = .ok (.isub, 1) := by decide +kernel
theorem dX7_turned_7 : decode cX7_turned 7 = .ok (.ishr, 1) := by decide +kernel
theorem dX7_turned_8 : decode cX7_turned 8 = .ok (.ior, 1) := by decide +kernel
theorem dX7_turned_9 : decode cX7_turned 9 = .ok (.bipush 15, 2) := by decide +kernel
theorem dX7_turned_11 : decode cX7_turned 11 = .ok (.iand, 1) := by decide +kernel
theorem dX7_turned_12 : decode cX7_turned 12 = .ok (.ireturn, 1) := by decide +kernel
set_option maxRecDepth 20000 in
theorem ggX7_spread_X7_holds : GoodIn wsX7_spread wsX7_holds := goodIn_r _ [4] (by decide +kernel) (by decide +kernel)
set_option maxRecDepth 20000 in
theorem gX7_spread_X7_holds : GoodIn wsX7_spread (va_wsS RX7 177 yX7_holds wsX7_holds) := goodIn_app (goodIn_of _ (by decide +kernel)) ggX7_spread_X7_holds
theorem dX7_spread_0 : decode cX7_spread 0 = .ok (.iconst 1, 1) := by decide +kernel
theorem dX7_spread_1 : decode cX7_spread 1 = .ok (.iload_n 1, 1) := by decide +kernel
theorem dX7_spread_2 : decode cX7_spread 2 = .ok (.ishl, 1) := by decide +kernel
theorem dX7_spread_3 : decode cX7_spread 3 = .ok (.istore_n 3, 1) := by decide +kernel
theorem dX7_spread_4 : decode cX7_spread 4 = .ok (.iconst 1, 1) := by decide +kernel
theorem dX7_spread_5 : decode cX7_spread 5 = .ok (.istore 4, 2) := by decide +kernel
theorem dX7_spread_7 : decode cX7_spread 7 = .ok (.iconst 0, 1) := by decide +kernel
theorem dX7_spread_8 : decode cX7_spread 8 = .ok (.istore 5, 2) := by decide +kernel
theorem dX7_spread_10 : decode cX7_spread 10 = .ok (.iload 4, 2) := by decide +kernel
theorem dX7_spread_12 : decode cX7_spread 12 = .ok (.ifCond .eq 70, 3) := by decide +kernel
theorem dX7_spread_15 : decode cX7_spread 15 = .ok (.iload 5, 2) := by decide +kernel
theorem dX7_spread_17 : decode cX7_spread 17 = .ok (.aload_n 0, 1) := by decide +kernel
theorem dX7_spread_18 : decode cX7_spread 18 = .ok (.arraylength, 1) := by decide +kernel
theorem dX7_spread_19 : decode cX7_spread 19 = .ok (.if_icmp .ge 63, 3) := by decide +kernel
theorem dX7_spread_22 : decode cX7_spread 22 = .ok (.iload_n 3, 1) := by decide +kernel
theorem dX7_spread_23 : decode cX7_spread 23 = .ok (.istore 6, 2) := by decide +kernel
theorem dX7_spread_25 : decode cX7_spread 25 = .ok (.iconst 0, 1) := by decide +kernel
theorem dX7_spread_26 : decode cX7_spread 26 = .ok (.istore 7, 2) := by decide +kernel
theorem dX7_spread_28 : decode cX7_spread 28 = .ok (.iload 7, 2) := by decide +kernel
theorem dX7_spread_30 : decode cX7_spread 30 = .ok (.aload_n 0, 1) := by decide +kernel
theorem dX7_spread_31 : decode cX7_spread 31 = .ok (.arraylength, 1) := by decide +kernel
theorem dX7_spread_32 : decode cX7_spread 32 = .ok (.if_icmp .ge 31, 3) := by decide +kernel
theorem dX7_spread_35 : decode cX7_spread 35 = .ok (.iload 7, 2) := by decide +kernel
theorem dX7_spread_37 : decode cX7_spread 37 = .ok (.iload_n 2, 1) := by decide +kernel
theorem dX7_spread_38 : decode cX7_spread 38 = .ok (.if_icmp .eq 19, 3) := by decide +kernel
theorem dX7_spread_41 : decode cX7_spread 41 = .ok (.iload_n 3, 1) := by decide +kernel
theorem dX7_spread_42 : decode cX7_spread 42 = .ok (.iload 7, 2) := by decide +kernel
theorem dX7_spread_44 : decode cX7_spread 44 = .ok (.invokestatic 177, 3) := by decide +kernel
theorem dX7_spread_47 : decode cX7_spread 47 = .ok (.ifCond .eq 10, 3) := by decide +kernel
theorem dX7_spread_50 : decode cX7_spread 50 = .ok (.iload_n 3, 1) := by decide +kernel
theorem dX7_spread_51 : decode cX7_spread 51 = .ok (.aload_n 0, 1) := by decide +kernel
theorem dX7_spread_52 : decode cX7_spread 52 = .ok (.iload 7, 2) := by decide +kernel
theorem dX7_spread_54 : decode cX7_spread 54 = .ok (.iaload, 1) := by decide +kernel
theorem dX7_spread_55 : decode cX7_spread 55 = .ok (.ior, 1) := by decide +kernel
theorem dX7_spread_56 : decode cX7_spread 56 = .ok (.istore_n 3, 1) := by decide +kernel
theorem dX7_spread_57 : decode cX7_spread 57 = .ok (.iinc 7 1, 3) := by decide +kernel
theorem dX7_spread_60 : decode cX7_spread 60 = .ok (.goto (-32), 3) := by decide +kernel
theorem dX7_spread_63 : decode cX7_spread 63 = .ok (.iload_n 3, 1) := by decide +kernel
theorem dX7_spread_64 : decode cX7_spread 64 = .ok (.iload 6, 2) := by decide +kernel
theorem dX7_spread_66 : decode cX7_spread 66 = .ok (.if_icmp .eq 7, 3) := by decide +kernel
theorem dX7_spread_69 : decode cX7_spread 69 = .ok (.iconst 1, 1) := by decide +kernel
theorem dX7_spread_70 : decode cX7_spread 70 = .ok (.goto 4, 3) := by decide +kernel
theorem dX7_spread_73 : decode cX7_spread 73 = .ok (.iconst 0, 1) := by decide +kernel
theorem dX7_spread_74 : decode cX7_spread 74 = .ok (.istore 4, 2) := by decide +kernel
theorem dX7_spread_76 : decode cX7_spread 76 = .ok (.iinc 5 1, 3) := by decide +kernel
theorem dX7_spread_79 : decode cX7_spread 79 = .ok (.goto (-69), 3) := by decide +kernel
theorem dX7_spread_82 : decode cX7_spread 82 = .ok (.iload_n 3, 1) := by decide +kernel
theorem dX7_spread_83 : decode cX7_spread 83 = .ok (.ireturn, 1) := by decide +kernel
theorem dJ6_bitCount_0f7a4_0 : decode cJ6_bitCount_0f7a4 0 = .ok (.iload_n 0, 1) := by decide +kernel
theorem dJ6_bitCount_0f7a4_1 : decode cJ6_bitCount_0f7a4 1 = .ok (.iload_n 0, 1) := by decide +kernel
theorem dJ6_bitCount_0f7a4_2 : decode cJ6_bitCount_0f7a4 2 = .ok (.iconst 1, 1) := by decide +kernel
theorem dJ6_bitCount_0f7a4_3 : decode cJ6_bitCount_0f7a4 3 = .ok (.iushr, 1) := by decide +kernel
theorem dJ6_bitCount_0f7a4_4 : decode cJ6_bitCount_0f7a4 4 = .ok (.ldc_w 265, 3) := by decide +kernel
theorem dJ6_bitCount_0f7a4_7 : decode cJ6_bitCount_0f7a4 7 = .ok (.iand, 1) := by decide +kernel
theorem dJ6_bitCount_0f7a4_8 : decode cJ6_bitCount_0f7a4 8 = .ok (.isub, 1) := by decide +kernel
theorem dJ6_bitCount_0f7a4_9 : decode cJ6_bitCount_0f7a4 9 = .ok (.istore_n 0, 1) := by decide +kernel
theorem dJ6_bitCount_0f7a4_10 : decode cJ6_bitCount_0f7a4 10 = .ok (.iload_n 0, 1) := by decide +kernel
theorem dJ6_bitCount_0f7a4_11 : decode cJ6_bitCount_0f7a4 11 = .ok (.ldc_w 266, 3) := by decide +kernel
theorem dJ6_bitCount_0f7a4_14 : decode cJ6_bitCount_0f7a4 14 = .ok (.iand, 1) := by decide +kernel
theorem dJ6_bitCount_0f7a4_15 : decode cJ6_bitCount_0f7a4 15 = .ok (.iload_n 0, 1) := by decide +kernel
theorem dJ6_bitCount_0f7a4_16 : decode cJ6_bitCount_0f7a4 16 = .ok (.iconst 2, 1) := by decide +kernel
theorem dJ6_bitCount_0f7a4_17 : decode cJ6_bitCount_0f7a4 17 = .ok (.iushr, 1) := by decide +kernel
theorem dJ6_bitCount_0f7a4_18 : decode cJ6_bitCount_0f7a4 18 = .ok (.ldc_w 266, 3) := by decide +kernel
theorem dJ6_bitCount_0f7a4_21 : decode cJ6_bitCount_0f7a4 21 = .ok (.iand, 1) := by decide +kernel
theorem dJ6_bitCount_0f7a4_22 : decode cJ6_bitCount_0f7a4 22 = .ok (.iadd, 1) := by decide +kernel
theorem dJ6_bitCount_0f7a4_23 : decode cJ6_bitCount_0f7a4 23 = .ok (.istore_n 0, 1) := by decide +kernel
theorem dJ6_bitCount_0f7a4_24 : decode cJ6_bitCount_0f7a4 24 = .ok (.iload_n 0, 1) := by decide +kernel
theorem dJ6_bitCount_0f7a4_25 : decode cJ6_bitCount_0f7a4 25 = .ok (.iload_n 0, 1) := by decide +kernel
theorem dJ6_bitCount_0f7a4_26 : decode cJ6_bitCount_0f7a4 26 = .ok (.iconst 4, 1) := by decide +kernel
theorem dJ6_bitCount_0f7a4_27 : decode cJ6_bitCount_0f7a4 27 = .ok (.iushr, 1) := by decide +kernel
theorem dJ6_bitCount_0f7a4_28 : decode cJ6_bitCount_0f7a4 28 = .ok (.iadd, 1) := by decide +kernel
theorem dJ6_bitCount_0f7a4_29 : decode cJ6_bitCount_0f7a4 29 = .ok (.ldc_w 267, 3) := by decide +kernel
theorem dJ6_bitCount_0f7a4_32 : decode cJ6_bitCount_0f7a4 32 = .ok (.iand, 1) := by decide +kernel
theorem dJ6_bitCount_0f7a4_33 : decode cJ6_bitCount_0f7a4 33 = .ok (.istore_n 0, 1) := by decide +kernel
theorem dJ6_bitCount_0f7a4_34 : decode cJ6_bitCount_0f7a4 34 = .ok (.iload_n 0, 1) := by decide +kernel
theorem dJ6_bitCount_0f7a4_35 : decode cJ6_bitCount_0f7a4 35 = .ok (.iload_n 0, 1) := by decide +kernel
theorem dJ6_bitCount_0f7a4_36 : decode cJ6_bitCount_0f7a4 36 = .ok (.bipush 8, 2) := by decide +kernel
theorem dJ6_bitCount_0f7a4_38 : decode cJ6_bitCount_0f7a4 38 = .ok (.iushr, 1) := by decide +kernel
theorem dJ6_bitCount_0f7a4_39 : decode cJ6_bitCount_0f7a4 39 = .ok (.iadd, 1) := by decide +kernel
theorem dJ6_bitCount_0f7a4_40 : decode cJ6_bitCount_0f7a4 40 = .ok (.istore_n 0, 1) := by decide +kernel
theorem dJ6_bitCount_0f7a4_41 : decode cJ6_bitCount_0f7a4 41 = .ok (.iload_n 0, 1) := by decide +kernel
theorem dJ6_bitCount_0f7a4_42 : decode cJ6_bitCount_0f7a4 42 = .ok (.iload_n 0, 1) := by decide +kernel
theorem dJ6_bitCount_0f7a4_43 : decode cJ6_bitCount_0f7a4 43 = .ok (.bipush 16, 2) := by decide +kernel
theorem dJ6_bitCount_0f7a4_45 : decode cJ6_bitCount_0f7a4 45 = .ok (.iushr, 1) := by decide +kernel
theorem dJ6_bitCount_0f7a4_46 : decode cJ6_bitCount_0f7a4 46 = .ok (.iadd, 1) := by decide +kernel
theorem dJ6_bitCount_0f7a4_47 : decode cJ6_bitCount_0f7a4 47 = .ok (.istore_n 0, 1) := by decide +kernel
theorem dJ6_bitCount_0f7a4_48 : decode cJ6_bitCount_0f7a4 48 = .ok (.iload_n 0, 1) := by decide +kernel
theorem dJ6_bitCount_0f7a4_49 : decode cJ6_bitCount_0f7a4 49 = .ok (.bipush 63, 2) := by decide +kernel
theorem dJ6_bitCount_0f7a4_51 : decode cJ6_bitCount_0f7a4 51 = .ok (.iand, 1) := by decide +kernel
theorem dJ6_bitCount_0f7a4_52 : decode cJ6_bitCount_0f7a4 52 = .ok (.ireturn, 1) := by decide +kernel
theorem dJ9_min_7cf53_0 : decode cJ9_min_7cf53 0 = .ok (.iload_n 0, 1) := by decide +kernel
theorem dJ9_min_7cf53_1 : decode cJ9_min_7cf53 1 = .ok (.iload_n 1, 1) := by decide +kernel
theorem dJ9_min_7cf53_2 : decode cJ9_min_7cf53 2 = .ok (.if_icmp .gt 7, 3) := by decide +kernel
theorem dJ9_min_7cf53_5 : decode cJ9_min_7cf53 5 = .ok (.iload_n 0, 1) := by decide +kernel
theorem dJ9_min_7cf53_6 : decode cJ9_min_7cf53 6 = .ok (.goto 4, 3) := by decide +kernel
theorem dJ9_min_7cf53_9 : decode cJ9_min_7cf53 9 = .ok (.iload_n 1, 1) := by decide +kernel
theorem dJ9_min_7cf53_10 : decode cJ9_min_7cf53 10 = .ok (.ireturn, 1) := by decide +kernel
theorem dJ7_fill_53178_0 : decode cJ7_fill_53178 0 = .ok (.iconst 0, 1) := by decide +kernel
theorem dJ7_fill_53178_1 : decode cJ7_fill_53178 1 = .ok (.istore_n 2, 1) := by decide +kernel
theorem dJ7_fill_53178_2 : decode cJ7_fill_53178 2 = .ok (.aload_n 0, 1) := by decide +kernel
theorem dJ7_fill_53178_3 : decode cJ7_fill_53178 3 = .ok (.arraylength, 1) := by decide +kernel
theorem dJ7_fill_53178_4 : decode cJ7_fill_53178 4 = .ok (.istore_n 3, 1) := by decide +kernel
theorem dJ7_fill_53178_5 : decode cJ7_fill_53178 5 = .ok (.iload_n 2, 1) := by decide +kernel
theorem dJ7_fill_53178_6 : decode cJ7_fill_53178 6 = .ok (.iload_n 3, 1) := by decide +kernel
theorem dJ7_fill_53178_7 : decode cJ7_fill_53178 7 = .ok (.if_icmp .ge 13, 3) := by decide +kernel
theorem dJ7_fill_53178_10 : decode cJ7_fill_53178 10 = .ok (.aload_n 0, 1) := by decide +kernel
theorem dJ7_fill_53178_11 : decode cJ7_fill_53178 11 = .ok (.iload_n 2, 1) := by decide +kernel
theorem dJ7_fill_53178_12 : decode cJ7_fill_53178 12 = .ok (.iload_n 1, 1) := by decide +kernel
theorem dJ7_fill_53178_13 : decode cJ7_fill_53178 13 = .ok (.iastore, 1) := by decide +kernel
theorem dJ7_fill_53178_14 : decode cJ7_fill_53178 14 = .ok (.iinc 2 1, 3) := by decide +kernel
theorem dJ7_fill_53178_17 : decode cJ7_fill_53178 17 = .ok (.goto (-12), 3) := by decide +kernel
theorem dJ7_fill_53178_20 : decode cJ7_fill_53178 20 = .ok (.return_, 1) := by decide +kernel
theorem dJ7_copyOf_59c91_0 : decode cJ7_copyOf_59c91 0 = .ok (.iload_n 1, 1) := by decide +kernel
theorem dJ7_copyOf_59c91_1 : decode cJ7_copyOf_59c91 1 = .ok (.aload_n 0, 1) := by decide +kernel
theorem dJ7_copyOf_59c91_2 : decode cJ7_copyOf_59c91 2 = .ok (.arraylength, 1) := by decide +kernel
theorem dJ7_copyOf_59c91_3 : decode cJ7_copyOf_59c91 3 = .ok (.if_icmp .ne 11, 3) := by decide +kernel
theorem dJ7_copyOf_59c91_6 : decode cJ7_copyOf_59c91 6 = .ok (.aload_n 0, 1) := by decide +kernel
theorem dJ7_copyOf_59c91_7 : decode cJ7_copyOf_59c91 7 = .ok (.invokevirtual 316, 3) := by decide +kernel
theorem dJ7_copyOf_59c91_10 : decode cJ7_copyOf_59c91 10 = .ok (.checkcast 317, 3) := by decide +kernel
theorem dJ7_copyOf_59c91_13 : decode cJ7_copyOf_59c91 13 = .ok (.areturn, 1) := by decide +kernel
theorem dJ7_copyOf_59c91_14 : decode cJ7_copyOf_59c91 14 = .ok (.iload_n 1, 1) := by decide +kernel
theorem dJ7_copyOf_59c91_15 : decode cJ7_copyOf_59c91 15 = .ok (.newarray .int, 2) := by decide +kernel
theorem dJ7_copyOf_59c91_17 : decode cJ7_copyOf_59c91 17 = .ok (.astore_n 2, 1) := by decide +kernel
theorem dJ7_copyOf_59c91_18 : decode cJ7_copyOf_59c91 18 = .ok (.aload_n 0, 1) := by decide +kernel
theorem dJ7_copyOf_59c91_19 : decode cJ7_copyOf_59c91 19 = .ok (.iconst 0, 1) := by decide +kernel
theorem dJ7_copyOf_59c91_20 : decode cJ7_copyOf_59c91 20 = .ok (.aload_n 2, 1) := by decide +kernel
theorem dJ7_copyOf_59c91_21 : decode cJ7_copyOf_59c91 21 = .ok (.iconst 0, 1) := by decide +kernel
theorem dJ7_copyOf_59c91_22 : decode cJ7_copyOf_59c91 22 = .ok (.aload_n 0, 1) := by decide +kernel
theorem dJ7_copyOf_59c91_23 : decode cJ7_copyOf_59c91 23 = .ok (.arraylength, 1) := by decide +kernel
theorem dJ7_copyOf_59c91_24 : decode cJ7_copyOf_59c91 24 = .ok (.iload_n 1, 1) := by decide +kernel
theorem dJ7_copyOf_59c91_25 : decode cJ7_copyOf_59c91 25 = .ok (.invokestatic 304, 3) := by decide +kernel
theorem dJ7_copyOf_59c91_28 : decode cJ7_copyOf_59c91 28 = .ok (.invokestatic 150, 3) := by decide +kernel
theorem dJ7_copyOf_59c91_31 : decode cJ7_copyOf_59c91 31 = .ok (.aload_n 2, 1) := by decide +kernel
theorem dJ7_copyOf_59c91_32 : decode cJ7_copyOf_59c91 32 = .ok (.areturn, 1) := by decide +kernel
theorem dJ7_copyOf_c38d5_0 : decode cJ7_copyOf_c38d5 0 = .ok (.iload_n 1, 1) := by decide +kernel
theorem dJ7_copyOf_c38d5_1 : decode cJ7_copyOf_c38d5 1 = .ok (.aload_n 0, 1) := by decide +kernel
theorem dJ7_copyOf_c38d5_2 : decode cJ7_copyOf_c38d5 2 = .ok (.arraylength, 1) := by decide +kernel
theorem dJ7_copyOf_c38d5_3 : decode cJ7_copyOf_c38d5 3 = .ok (.if_icmp .ne 11, 3) := by decide +kernel
theorem dJ7_copyOf_c38d5_6 : decode cJ7_copyOf_c38d5 6 = .ok (.aload_n 0, 1) := by decide +kernel
theorem dJ7_copyOf_c38d5_7 : decode cJ7_copyOf_c38d5 7 = .ok (.invokevirtual 319, 3) := by decide +kernel
theorem dJ7_copyOf_c38d5_10 : decode cJ7_copyOf_c38d5 10 = .ok (.checkcast 320, 3) := by decide +kernel
theorem dJ7_copyOf_c38d5_13 : decode cJ7_copyOf_c38d5 13 = .ok (.areturn, 1) := by decide +kernel
theorem dJ7_copyOf_c38d5_14 : decode cJ7_copyOf_c38d5 14 = .ok (.iload_n 1, 1) := by decide +kernel
theorem dJ7_copyOf_c38d5_15 : decode cJ7_copyOf_c38d5 15 = .ok (.newarray .long, 2) := by decide +kernel
theorem dJ7_copyOf_c38d5_17 : decode cJ7_copyOf_c38d5 17 = .ok (.astore_n 2, 1) := by decide +kernel
theorem dJ7_copyOf_c38d5_18 : decode cJ7_copyOf_c38d5 18 = .ok (.aload_n 0, 1) := by decide +kernel
theorem dJ7_copyOf_c38d5_19 : decode cJ7_copyOf_c38d5 19 = .ok (.iconst 0, 1) := by decide +kernel
theorem dJ7_copyOf_c38d5_20 : decode cJ7_copyOf_c38d5 20 = .ok (.aload_n 2, 1) := by decide +kernel
theorem dJ7_copyOf_c38d5_21 : decode cJ7_copyOf_c38d5 21 = .ok (.iconst 0, 1) := by decide +kernel
theorem dJ7_copyOf_c38d5_22 : decode cJ7_copyOf_c38d5 22 = .ok (.aload_n 0, 1) := by decide +kernel
theorem dJ7_copyOf_c38d5_23 : decode cJ7_copyOf_c38d5 23 = .ok (.arraylength, 1) := by decide +kernel
theorem dJ7_copyOf_c38d5_24 : decode cJ7_copyOf_c38d5 24 = .ok (.iload_n 1, 1) := by decide +kernel
theorem dJ7_copyOf_c38d5_25 : decode cJ7_copyOf_c38d5 25 = .ok (.invokestatic 304, 3) := by decide +kernel
theorem dJ7_copyOf_c38d5_28 : decode cJ7_copyOf_c38d5 28 = .ok (.invokestatic 150, 3) := by decide +kernel
theorem dJ7_copyOf_c38d5_31 : decode cJ7_copyOf_c38d5 31 = .ok (.aload_n 2, 1) := by decide +kernel
theorem dJ7_copyOf_c38d5_32 : decode cJ7_copyOf_c38d5 32 = .ok (.areturn, 1) := by decide +kernel
