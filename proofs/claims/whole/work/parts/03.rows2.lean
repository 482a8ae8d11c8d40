theorem dX7_tile_0 : decode cX7_tile 0 = .ok (.aload_n 0, 1) := by decide +kernel
theorem dX7_tile_1 : decode cX7_tile 1 = .ok (.iload_n 1, 1) := by decide +kernel
theorem dX7_tile_2 : decode cX7_tile 2 = .ok (.invokevirtual 84, 3) := by decide +kernel
theorem dX7_tile_5 : decode cX7_tile 5 = .ok (.aload_n 0, 1) := by decide +kernel
theorem dX7_tile_6 : decode cX7_tile 6 = .ok (.getfield 10, 3) := by decide +kernel
theorem dX7_tile_9 : decode cX7_tile 9 = .ok (.iload_n 1, 1) := by decide +kernel
theorem dX7_tile_10 : decode cX7_tile 10 = .ok (.invokevirtual 89, 3) := by decide +kernel
theorem dX7_tile_13 : decode cX7_tile 13 = .ok (.ireturn, 1) := by decide +kernel
set_option maxRecDepth 20000 in
theorem ggX7_neighbour_X7_requireCell : GoodIn wsX7_neighbour wsX7_requireCell := goodIn_ca (goodIn_r _ [6, 7, 8, 1, 9, 10, 11, 12, 13, 14, 24, 25, 26, 27, 28, 29, 30, 31, 32, 33, 34, 35, 36, 37] (by decide +kernel) (by decide +kernel)) (goodIn_sub (fun _ h => List.mem_cons_of_mem _ (List.mem_append_right _ h)) (by decide +kernel))
set_option maxRecDepth 20000 in
theorem gX7_neighbour_X7_requireCell : GoodIn wsX7_neighbour (wsV RX7 84 RX7 yX7_requireCell wsX7_requireCell) := goodIn_app (goodIn_of _ (by decide +kernel)) ggX7_neighbour_X7_requireCell
set_option maxRecDepth 20000 in
theorem ggX7_neighbour_X7_requireSide : GoodIn wsX7_neighbour wsX7_requireSide := goodIn_ca (goodIn_r _ [18, 7, 8] (by decide +kernel) (by decide +kernel)) (goodIn_sub (fun _ h => List.mem_cons_of_mem _ (List.mem_append_right _ h)) (by decide +kernel))
set_option maxRecDepth 20000 in
theorem gX7_neighbour_X7_requireSide : GoodIn wsX7_neighbour (wsV RX7 100 RX7 yX7_requireSide wsX7_requireSide) := goodIn_app (goodIn_of _ (by decide +kernel)) ggX7_neighbour_X7_requireSide
set_option maxRecDepth 20000 in
theorem ggX7_neighbour_X0_beside : GoodIn wsX7_neighbour wsX0_beside := goodIn_r _ [22, 23, 30, 31, 32, 33, 34, 35, 36, 37] (by decide +kernel) (by decide +kernel)
set_option maxRecDepth 20000 in
theorem gX7_neighbour_X0_beside : GoodIn wsX7_neighbour (wsV RX7 103 RX0 yX0_beside wsX0_beside) := goodIn_app (goodIn_of _ (by decide +kernel)) ggX7_neighbour_X0_beside
theorem dX7_neighbour_0 : decode cX7_neighbour 0 = .ok (.aload_n 0, 1) := by decide +kernel
theorem dX7_neighbour_1 : decode cX7_neighbour 1 = .ok (.iload_n 1, 1) := by decide +kernel
theorem dX7_neighbour_2 : decode cX7_neighbour 2 = .ok (.invokevirtual 84, 3) := by decide +kernel
theorem dX7_neighbour_5 : decode cX7_neighbour 5 = .ok (.aload_n 0, 1) := by decide +kernel
theorem dX7_neighbour_6 : decode cX7_neighbour 6 = .ok (.iload_n 2, 1) := by decide +kernel
theorem dX7_neighbour_7 : decode cX7_neighbour 7 = .ok (.invokevirtual 100, 3) := by decide +kernel
theorem dX7_neighbour_10 : decode cX7_neighbour 10 = .ok (.aload_n 0, 1) := by decide +kernel
theorem dX7_neighbour_11 : decode cX7_neighbour 11 = .ok (.getfield 10, 3) := by decide +kernel
theorem dX7_neighbour_14 : decode cX7_neighbour 14 = .ok (.iload_n 1, 1) := by decide +kernel
theorem dX7_neighbour_15 : decode cX7_neighbour 15 = .ok (.iload_n 2, 1) := by decide +kernel
theorem dX7_neighbour_16 : decode cX7_neighbour 16 = .ok (.invokevirtual 103, 3) := by decide +kernel
theorem dX7_neighbour_19 : decode cX7_neighbour 19 = .ok (.ireturn, 1) := by decide +kernel
set_option maxRecDepth 20000 in
theorem ggX7_isJoined_X7_requireCell : GoodIn wsX7_isJoined wsX7_requireCell := goodIn_ca (goodIn_r _ [6, 7, 8, 1, 9, 10, 11, 12, 13, 14, 35, 36, 37, 38, 39, 40, 41, 42, 43, 44, 45, 46, 47, 48] (by decide +kernel) (by decide +kernel)) (goodIn_sub (fun _ h => List.mem_cons_of_mem _ (List.mem_append_right _ h)) (by decide +kernel))
set_option maxRecDepth 20000 in
theorem gX7_isJoined_X7_requireCell : GoodIn wsX7_isJoined (wsV RX7 84 RX7 yX7_requireCell wsX7_requireCell) := goodIn_app (goodIn_of _ (by decide +kernel)) ggX7_isJoined_X7_requireCell
set_option maxRecDepth 20000 in
theorem ggX7_isJoined_X7_requireSide : GoodIn wsX7_isJoined wsX7_requireSide := goodIn_ca (goodIn_r _ [18, 7, 8] (by decide +kernel) (by decide +kernel)) (goodIn_sub (fun _ h => List.mem_cons_of_mem _ (List.mem_append_right _ h)) (by decide +kernel))
set_option maxRecDepth 20000 in
theorem gX7_isJoined_X7_requireSide : GoodIn wsX7_isJoined (wsV RX7 100 RX7 yX7_requireSide wsX7_requireSide) := goodIn_app (goodIn_of _ (by decide +kernel)) ggX7_isJoined_X7_requireSide
set_option maxRecDepth 20000 in
theorem ggX7_isJoined_X0_joins : GoodIn wsX7_isJoined wsX0_joins := goodIn_r _ [22, 23, 24, 25, 26, 12, 27, 28, 29, 5, 30, 31, 32, 33, 34, 41, 42, 43, 44, 45, 46, 47, 48] (by decide +kernel) (by decide +kernel)
set_option maxRecDepth 20000 in
theorem gX7_isJoined_X0_joins : GoodIn wsX7_isJoined (wsV RX7 159 RX0 yX0_joins wsX0_joins) := goodIn_app (goodIn_of _ (by decide +kernel)) ggX7_isJoined_X0_joins
theorem dX7_isJoined_0 : decode cX7_isJoined 0 = .ok (.aload_n 0, 1) := by decide +kernel
theorem dX7_isJoined_1 : decode cX7_isJoined 1 = .ok (.iload_n 1, 1) := by decide +kernel
theorem dX7_isJoined_2 : decode cX7_isJoined 2 = .ok (.invokevirtual 84, 3) := by decide +kernel
theorem dX7_isJoined_5 : decode cX7_isJoined 5 = .ok (.aload_n 0, 1) := by decide +kernel
theorem dX7_isJoined_6 : decode cX7_isJoined 6 = .ok (.iload_n 2, 1) := by decide +kernel
theorem dX7_isJoined_7 : decode cX7_isJoined 7 = .ok (.invokevirtual 100, 3) := by decide +kernel
theorem dX7_isJoined_10 : decode cX7_isJoined 10 = .ok (.aload_n 0, 1) := by decide +kernel
theorem dX7_isJoined_11 : decode cX7_isJoined 11 = .ok (.getfield 10, 3) := by decide +kernel
theorem dX7_isJoined_14 : decode cX7_isJoined 14 = .ok (.iload_n 1, 1) := by decide +kernel
theorem dX7_isJoined_15 : decode cX7_isJoined 15 = .ok (.iload_n 2, 1) := by decide +kernel
theorem dX7_isJoined_16 : decode cX7_isJoined 16 = .ok (.invokevirtual 159, 3) := by decide +kernel
theorem dX7_isJoined_19 : decode cX7_isJoined 19 = .ok (.ireturn, 1) := by decide +kernel
set_option maxRecDepth 20000 in
theorem ggX7_loose_X0_countOpen : GoodIn wsX7_loose wsX0_countOpen := goodIn_r _ [6, 7, 8, 9, 10, 5, 11, 12, 13, 14, 15, 16, 17, 18, 19, 20, 21, 22, 50, 51, 52, 53, 54, 55, 56, 57] (by decide +kernel) (by decide +kernel)
set_option maxRecDepth 20000 in
theorem gX7_loose_X0_countOpen : GoodIn wsX7_loose (wsV RX7 163 RX0 yX0_countOpen wsX0_countOpen) := goodIn_app (goodIn_of _ (by decide +kernel)) ggX7_loose_X0_countOpen
set_option maxRecDepth 20000 in
theorem ggX7_loose_X0_countJoined : GoodIn wsX7_loose wsX0_countJoined := goodIn_r _ [26, 7, 27, 28, 29, 5, 30, 31, 32, 33, 34, 12, 35, 36, 37, 38, 39, 13, 14, 15, 40, 41, 42, 43, 16, 17, 18, 19, 20, 21, 22, 50, 51, 52, 53, 54, 55, 56, 57] (by decide +kernel) (by decide +kernel)
set_option maxRecDepth 20000 in
theorem gX7_loose_X0_countJoined : GoodIn wsX7_loose (wsV RX7 166 RX0 yX0_countJoined wsX0_countJoined) := goodIn_app (goodIn_of _ (by decide +kernel)) ggX7_loose_X0_countJoined
theorem dX7_loose_0 : decode cX7_loose 0 = .ok (.aload_n 0, 1) := by decide +kernel
theorem dX7_loose_1 : decode cX7_loose 1 = .ok (.getfield 10, 3) := by decide +kernel
theorem dX7_loose_4 : decode cX7_loose 4 = .ok (.invokevirtual 163, 3) := by decide +kernel
theorem dX7_loose_7 : decode cX7_loose 7 = .ok (.aload_n 0, 1) := by decide +kernel
theorem dX7_loose_8 : decode cX7_loose 8 = .ok (.getfield 10, 3) := by decide +kernel
theorem dX7_loose_11 : decode cX7_loose 11 = .ok (.invokevirtual 166, 3) := by decide +kernel
theorem dX7_loose_14 : decode cX7_loose 14 = .ok (.isub, 1) := by decide +kernel
theorem dX7_loose_15 : decode cX7_loose 15 = .ok (.ireturn, 1) := by decide +kernel
set_option maxRecDepth 20000 in
theorem ggX7_watered_X0_source : GoodIn wsX7_watered wsX0_source := goodIn_r _ [6, 7, 50, 51, 52, 53, 54, 55, 56, 57] (by decide +kernel) (by decide +kernel)
set_option maxRecDepth 20000 in
theorem gX7_watered_X0_source : GoodIn wsX7_watered (wsV RX7 126 RX0 yX0_source wsX0_source) := goodIn_app (goodIn_of _ (by decide +kernel)) ggX7_watered_X0_source
set_option maxRecDepth 20000 in
theorem ggX7_watered_X0_reachedFrom : GoodIn wsX7_watered wsX0_reachedFrom := goodIn_r _ [11, 12, 13, 14, 15, 5, 16, 17, 18, 19, 20, 21, 22, 23, 24, 25, 26, 27, 28, 29, 30, 31, 32, 33, 34, 35, 36, 50, 51, 52, 53, 54, 55, 56, 57] (by decide +kernel) (by decide +kernel)
set_option maxRecDepth 20000 in
theorem gX7_watered_X0_reachedFrom : GoodIn wsX7_watered (wsV RX7 169 RX0 yX0_reachedFrom wsX0_reachedFrom) := goodIn_app (goodIn_of _ (by decide +kernel)) ggX7_watered_X0_reachedFrom
set_option maxRecDepth 20000 in
theorem ggX7_watered_J6_bitCount_0f7a4 : GoodIn wsX7_watered wsJ6_bitCount_0f7a4 := goodIn_r _ [40, 41, 42, 43] (by decide +kernel) (by decide +kernel)
set_option maxRecDepth 20000 in
theorem gX7_watered_J6_bitCount_0f7a4 : GoodIn wsX7_watered (va_wsS RX7 172 yJ6_bitCount_0f7a4 wsJ6_bitCount_0f7a4) := goodIn_app (goodIn_of _ (by decide +kernel)) ggX7_watered_J6_bitCount_0f7a4
theorem dX7_watered_0 : decode cX7_watered 0 = .ok (.aload_n 0, 1) := by decide +kernel
theorem dX7_watered_1 : decode cX7_watered 1 = .ok (.getfield 10, 3) := by decide +kernel
theorem dX7_watered_4 : decode cX7_watered 4 = .ok (.aload_n 0, 1) := by decide +kernel
theorem dX7_watered_5 : decode cX7_watered 5 = .ok (.getfield 10, 3) := by decide +kernel
theorem dX7_watered_8 : decode cX7_watered 8 = .ok (.invokevirtual 126, 3) := by decide +kernel
theorem dX7_watered_11 : decode cX7_watered 11 = .ok (.invokevirtual 169, 3) := by decide +kernel
theorem dX7_watered_14 : decode cX7_watered 14 = .ok (.invokestatic 172, 3) := by decide +kernel
theorem dX7_watered_17 : decode cX7_watered 17 = .ok (.ireturn, 1) := by decide +kernel
set_option maxRecDepth 20000 in
theorem ggX7_isWatered_X7_requireCell : GoodIn wsX7_isWatered wsX7_requireCell := goodIn_ca (goodIn_r _ [6, 7, 8, 1, 9, 10, 11, 12, 13, 14, 48, 49, 50, 51, 52, 53, 54, 55, 56, 57, 58, 59, 60, 61] (by decide +kernel) (by decide +kernel)) (goodIn_sub (fun _ h => List.mem_cons_of_mem _ (List.mem_append_right _ h)) (by decide +kernel))
set_option maxRecDepth 20000 in
theorem gX7_isWatered_X7_requireCell : GoodIn wsX7_isWatered (wsV RX7 84 RX7 yX7_requireCell wsX7_requireCell) := goodIn_app (goodIn_of _ (by decide +kernel)) ggX7_isWatered_X7_requireCell
set_option maxRecDepth 20000 in
theorem ggX7_isWatered_X0_source : GoodIn wsX7_isWatered wsX0_source := goodIn_r _ [18, 19, 54, 55, 56, 57, 58, 59, 60, 61] (by decide +kernel) (by decide +kernel)
set_option maxRecDepth 20000 in
theorem gX7_isWatered_X0_source : GoodIn wsX7_isWatered (wsV RX7 126 RX0 yX0_source wsX0_source) := goodIn_app (goodIn_of _ (by decide +kernel)) ggX7_isWatered_X0_source
set_option maxRecDepth 20000 in
theorem ggX7_isWatered_X0_reachedFrom : GoodIn wsX7_isWatered wsX0_reachedFrom := goodIn_r _ [23, 24, 25, 26, 27, 12, 28, 29, 30, 31, 32, 33, 34, 35, 36, 37, 38, 39, 5, 40, 41, 42, 43, 44, 45, 46, 47, 54, 55, 56, 57, 58, 59, 60, 61] (by decide +kernel) (by decide +kernel)
set_option maxRecDepth 20000 in
theorem gX7_isWatered_X0_reachedFrom : GoodIn wsX7_isWatered (wsV RX7 169 RX0 yX0_reachedFrom wsX0_reachedFrom) := goodIn_app (goodIn_of _ (by decide +kernel)) ggX7_isWatered_X0_reachedFrom
set_option maxRecDepth 20000 in
theorem ggX7_isWatered_X7_holds : GoodIn wsX7_isWatered wsX7_holds := goodIn_r _ [42] (by decide +kernel) (by decide +kernel)
set_option maxRecDepth 20000 in
theorem gX7_isWatered_X7_holds : GoodIn wsX7_isWatered (va_wsS RX7 177 yX7_holds wsX7_holds) := goodIn_app (goodIn_of _ (by decide +kernel)) ggX7_isWatered_X7_holds
theorem dX7_isWatered_0 : decode cX7_isWatered 0 = .ok (.aload_n 0, 1) := by decide +kernel
theorem dX7_isWatered_1 : decode cX7_isWatered 1 = .ok (.iload_n 1, 1) := by decide +kernel
theorem dX7_isWatered_2 : decode cX7_isWatered 2 = .ok (.invokevirtual 84, 3) := by decide +kernel
theorem dX7_isWatered_5 : decode cX7_isWatered 5 = .ok (.aload_n 0, 1) := by decide +kernel
theorem dX7_isWatered_6 : decode cX7_isWatered 6 = .ok (.getfield 10, 3) := by decide +kernel
theorem dX7_isWatered_9 : decode cX7_isWatered 9 = .ok (.aload_n 0, 1) := by decide +kernel
theorem dX7_isWatered_10 : decode cX7_isWatered 10 = .ok (.getfield 10, 3) := by decide +kernel
theorem dX7_isWatered_13 : decode cX7_isWatered 13 = .ok (.invokevirtual 126, 3) := by decide +kernel
theorem dX7_isWatered_16 : decode cX7_isWatered 16 = .ok (.invokevirtual 169, 3) := by decide +kernel
theorem dX7_isWatered_19 : decode cX7_isWatered 19 = .ok (.iload_n 1, 1) := by decide +kernel
theorem dX7_isWatered_20 : decode cX7_isWatered 20 = .ok (.invokestatic 177, 3) := by decide +kernel
theorem dX7_isWatered_23 : decode cX7_isWatered 23 = .ok (.ireturn, 1) := by decide +kernel
set_option maxRecDepth 20000 in
theorem ggX7_isSolved_X0_countJoined : GoodIn wsX7_isSolved wsX0_countJoined := goodIn_r _ [6, 7, 8, 9, 10, 5, 11, 12, 13, 14, 15, 16, 17, 18, 19, 20, 21, 22, 23, 24, 25, 26, 27, 28, 29, 30, 31, 32, 33, 34, 35, 66, 67, 68, 69, 70, 71, 72, 73] (by decide +kernel) (by decide +kernel)
set_option maxRecDepth 20000 in
theorem gX7_isSolved_X0_countJoined : GoodIn wsX7_isSolved (wsV RX7 166 RX0 yX0_countJoined wsX0_countJoined) := goodIn_app (goodIn_of _ (by decide +kernel)) ggX7_isSolved_X0_countJoined
set_option maxRecDepth 20000 in
theorem ggX7_isSolved_X0_countOpen : GoodIn wsX7_isSolved wsX0_countOpen := goodIn_r _ [39, 7, 40, 41, 42, 5, 43, 16, 22, 23, 24, 29, 30, 31, 32, 33, 34, 35, 66, 67, 68, 69, 70, 71, 72, 73] (by decide +kernel) (by decide +kernel)
set_option maxRecDepth 20000 in
theorem gX7_isSolved_X0_countOpen : GoodIn wsX7_isSolved (wsV RX7 163 RX0 yX0_countOpen wsX0_countOpen) := goodIn_app (goodIn_of _ (by decide +kernel)) ggX7_isSolved_X0_countOpen
set_option maxRecDepth 20000 in
theorem ggX7_isSolved_X0_count : GoodIn wsX7_isSolved wsX0_count := goodIn_r _ [47, 7, 66, 67, 68, 69, 70, 71, 72, 73] (by decide +kernel) (by decide +kernel)
set_option maxRecDepth 20000 in
theorem gX7_isSolved_X0_count : GoodIn wsX7_isSolved (wsV RX7 65 RX0 yX0_count wsX0_count) := goodIn_app (goodIn_of _ (by decide +kernel)) ggX7_isSolved_X0_count
set_option maxRecDepth 20000 in
theorem ggX7_isSolved_X0_reachedFrom : GoodIn wsX7_isSolved wsX0_reachedFrom := goodIn_r _ [51, 52, 8, 9, 10, 5, 11, 12, 13, 14, 15, 16, 17, 18, 19, 20, 21, 22, 23, 24, 25, 26, 27, 28, 53, 54, 55, 66, 67, 68, 69, 70, 71, 72, 73] (by decide +kernel) (by decide +kernel)
set_option maxRecDepth 20000 in
theorem gX7_isSolved_X0_reachedFrom : GoodIn wsX7_isSolved (wsV RX7 169 RX0 yX0_reachedFrom wsX0_reachedFrom) := goodIn_app (goodIn_of _ (by decide +kernel)) ggX7_isSolved_X0_reachedFrom
set_option maxRecDepth 20000 in
theorem ggX7_isSolved_X0_allCells : GoodIn wsX7_isSolved wsX0_allCells := goodIn_r _ [59, 7, 66, 67, 68, 69, 70, 71, 72, 73] (by decide +kernel) (by decide +kernel)
set_option maxRecDepth 20000 in
theorem gX7_isSolved_X0_allCells : GoodIn wsX7_isSolved (wsV RX7 180 RX0 yX0_allCells wsX0_allCells) := goodIn_app (goodIn_of _ (by decide +kernel)) ggX7_isSolved_X0_allCells
theorem dX7_isSolved_0 : decode cX7_isSolved 0 = .ok (.aload_n 0, 1) := by decide +kernel
theorem dX7_isSolved_1 : decode cX7_isSolved 1 = .ok (.getfield 10, 3) := by decide +kernel
theorem dX7_isSolved_4 : decode cX7_isSolved 4 = .ok (.invokevirtual 166, 3) := by decide +kernel
theorem dX7_isSolved_7 : decode cX7_isSolved 7 = .ok (.istore_n 1, 1) := by decide +kernel
theorem dX7_isSolved_8 : decode cX7_isSolved 8 = .ok (.iload_n 1, 1) := by decide +kernel
theorem dX7_isSolved_9 : decode cX7_isSolved 9 = .ok (.aload_n 0, 1) := by decide +kernel
theorem dX7_isSolved_10 : decode cX7_isSolved 10 = .ok (.getfield 10, 3) := by decide +kernel
theorem dX7_isSolved_13 : decode cX7_isSolved 13 = .ok (.invokevirtual 163, 3) := by decide +kernel
theorem dX7_isSolved_16 : decode cX7_isSolved 16 = .ok (.if_icmp .ne 40, 3) := by decide +kernel
theorem dX7_isSolved_19 : decode cX7_isSolved 19 = .ok (.iload_n 1, 1) := by decide +kernel
theorem dX7_isSolved_20 : decode cX7_isSolved 20 = .ok (.iconst 2, 1) := by decide +kernel
theorem dX7_isSolved_21 : decode cX7_isSolved 21 = .ok (.aload_n 0, 1) := by decide +kernel
theorem dX7_isSolved_22 : decode cX7_isSolved 22 = .ok (.getfield 10, 3) := by decide +kernel
theorem dX7_isSolved_25 : decode cX7_isSolved 25 = .ok (.invokevirtual 65, 3) := by decide +kernel
theorem dX7_isSolved_28 : decode cX7_isSolved 28 = .ok (.iconst 1, 1) := by decide +kernel
theorem dX7_isSolved_29 : decode cX7_isSolved 29 = .ok (.isub, 1) := by decide +kernel
theorem dX7_isSolved_30 : decode cX7_isSolved 30 = .ok (.imul, 1) := by decide +kernel
theorem dX7_isSolved_31 : decode cX7_isSolved 31 = .ok (.if_icmp .ne 25, 3) := by decide +kernel
theorem dX7_isSolved_34 : decode cX7_isSolved 34 = .ok (.aload_n 0, 1) := by decide +kernel
theorem dX7_isSolved_35 : decode cX7_isSolved 35 = .ok (.getfield 10, 3) := by decide +kernel
theorem dX7_isSolved_38 : decode cX7_isSolved 38 = .ok (.iconst 0, 1) := by decide +kernel
theorem dX7_isSolved_39 : decode cX7_isSolved 39 = .ok (.invokevirtual 169, 3) := by decide +kernel
theorem dX7_isSolved_42 : decode cX7_isSolved 42 = .ok (.aload_n 0, 1) := by decide +kernel
theorem dX7_isSolved_43 : decode cX7_isSolved 43 = .ok (.getfield 10, 3) := by decide +kernel
theorem dX7_isSolved_46 : decode cX7_isSolved 46 = .ok (.invokevirtual 180, 3) := by decide +kernel
theorem dX7_isSolved_49 : decode cX7_isSolved 49 = .ok (.if_icmp .ne 7, 3) := by decide +kernel
theorem dX7_isSolved_52 : decode cX7_isSolved 52 = .ok (.iconst 1, 1) := by decide +kernel
theorem dX7_isSolved_53 : decode cX7_isSolved 53 = .ok (.goto 4, 3) := by decide +kernel
theorem dX7_isSolved_56 : decode cX7_isSolved 56 = .ok (.iconst 0, 1) := by decide +kernel
theorem dX7_isSolved_57 : decode cX7_isSolved 57 = .ok (.ireturn, 1) := by decide +kernel
set_option maxRecDepth 20000 in
theorem ggX7_lays_X7_requireCell : GoodIn wsX7_lays wsX7_requireCell := goodIn_ca (goodIn_r _ [6, 7, 8, 9, 10, 11, 12, 13, 14, 15, 87, 88, 89, 90, 91, 92, 93, 94, 95, 96, 97, 98, 99, 100] (by decide +kernel) (by decide +kernel)) (goodIn_sub (fun _ h => List.mem_cons_of_mem _ (List.mem_append_right _ h)) (by decide +kernel))
set_option maxRecDepth 20000 in
theorem gX7_lays_X7_requireCell : GoodIn wsX7_lays (wsV RX7 84 RX7 yX7_requireCell wsX7_requireCell) := goodIn_app (goodIn_of _ (by decide +kernel)) ggX7_lays_X7_requireCell
set_option maxRecDepth 20000 in
theorem ggX7_lays_X5_sift : GoodIn wsX7_lays wsX5_sift := goodIn_r _ [20, 21, 22, 23, 11, 12, 13, 14, 15, 24, 25, 26, 27, 28, 29, 30, 31, 32, 33, 5, 34, 35, 36, 37, 38, 39, 40, 41, 42, 43, 44, 45, 46, 19, 47, 48, 49, 50, 51, 52, 53, 54, 55, 56, 57, 58, 59, 60, 61, 62, 63, 64, 65, 66, 67, 68, 69, 70, 71, 72, 73, 74, 75, 76, 77, 78, 79, 80, 81, 82, 83, 84, 85, 101, 102, 103, 104, 105, 93, 94, 95, 96, 97, 98, 99, 100] (by decide +kernel) (by decide +kernel)
set_option maxRecDepth 20000 in
theorem gX7_lays_X5_sift : GoodIn wsX7_lays (wsV RX7 183 RX5 yX5_sift wsX5_sift) := goodIn_app (goodIn_of _ (by decide +kernel)) ggX7_lays_X5_sift
set_option maxRecDepth 20000 in
theorem ggX7_lays_X5_leftAt : GoodIn wsX7_lays wsX5_leftAt := goodIn_r _ [58, 21, 33, 5, 34, 101, 102, 103, 104, 105] (by decide +kernel) (by decide +kernel)
set_option maxRecDepth 20000 in
theorem gX7_lays_X5_leftAt : GoodIn wsX7_lays (wsV RX7 186 RX5 yX5_leftAt wsX5_leftAt) := goodIn_app (goodIn_of _ (by decide +kernel)) ggX7_lays_X5_leftAt
theorem dX7_lays_0 : decode cX7_lays 0 = .ok (.aload_n 0, 1) := by decide +kernel
theorem dX7_lays_1 : decode cX7_lays 1 = .ok (.iload_n 1, 1) := by decide +kernel
theorem dX7_lays_2 : decode cX7_lays 2 = .ok (.invokevirtual 84, 3) := by decide +kernel
theorem dX7_lays_5 : decode cX7_lays 5 = .ok (.aload_n 0, 1) := by decide +kernel
theorem dX7_lays_6 : decode cX7_lays 6 = .ok (.getfield 35, 3) := by decide +kernel
theorem dX7_lays_9 : decode cX7_lays 9 = .ok (.invokevirtual 183, 3) := by decide +kernel
theorem dX7_lays_12 : decode cX7_lays 12 = .ok (.aload_n 0, 1) := by decide +kernel
theorem dX7_lays_13 : decode cX7_lays 13 = .ok (.getfield 35, 3) := by decide +kernel
theorem dX7_lays_16 : decode cX7_lays 16 = .ok (.iload_n 1, 1) := by decide +kernel
theorem dX7_lays_17 : decode cX7_lays 17 = .ok (.invokevirtual 186, 3) := by decide +kernel
theorem dX7_lays_20 : decode cX7_lays 20 = .ok (.ireturn, 1) := by decide +kernel
set_option maxRecDepth 20000 in
theorem ggX7_solutions_X5_sift : GoodIn wsX7_solutions wsX5_sift := goodIn_r _ [7, 8, 9, 10, 11, 12, 13, 14, 15, 16, 17, 18, 19, 20, 21, 22, 23, 24, 25, 26, 27, 28, 29, 30, 31, 32, 33, 34, 35, 36, 37, 38, 39, 6, 40, 41, 42, 43, 44, 45, 46, 47, 48, 49, 50, 51, 52, 53, 54, 55, 56, 57, 58, 59, 60, 61, 62, 63, 64, 65, 66, 67, 68, 69, 70, 71, 72, 73, 74, 75, 76, 77, 78, 137, 138, 139, 140, 141, 142, 143, 144, 145, 146, 147, 148, 149] (by decide +kernel) (by decide +kernel)
set_option maxRecDepth 20000 in
theorem gX7_solutions_X5_sift : GoodIn wsX7_solutions (wsV RX7 183 RX5 yX5_sift wsX5_sift) := goodIn_app (goodIn_of _ (by decide +kernel)) ggX7_solutions_X5_sift
set_option maxRecDepth 20000 in
theorem ggX7_solutions_X4_countAll : GoodIn wsX7_solutions wsX4_countAll := goodIn_r _ [83, 84, 85, 86, 87, 88, 82, 89, 90, 91, 92, 11, 12, 13, 14, 15, 93, 94, 95, 96, 97, 98, 99, 100, 101, 102, 103, 104, 105, 106, 107, 108, 109, 110, 111, 112, 49, 50, 6, 51, 8, 25, 26, 27, 33, 34, 113, 114, 115, 116, 117, 118, 21, 22, 23, 24, 35, 36, 119, 120, 121, 122, 123, 62, 63, 64, 65, 66, 67, 124, 125, 126, 127, 128, 129, 130, 150, 151, 152, 153, 154, 155, 156, 157, 142, 143, 144, 145, 146, 147, 148, 149, 137, 138, 139, 140, 141] (by decide +kernel) (by decide +kernel)
set_option maxRecDepth 20000 in
theorem gX7_solutions_X4_countAll : GoodIn wsX7_solutions (wsV RX7 189 RX4 yX4_countAll wsX4_countAll) := goodIn_app (goodIn_of _ (by decide +kernel)) ggX7_solutions_X4_countAll
theorem dX7_solutions_0 : decode cX7_solutions 0 = .ok (.aload_n 0, 1) := by decide +kernel
theorem dX7_solutions_1 : decode cX7_solutions 1 = .ok (.getfield 35, 3) := by decide +kernel
theorem dX7_solutions_4 : decode cX7_solutions 4 = .ok (.invokevirtual 183, 3) := by decide +kernel
theorem dX7_solutions_7 : decode cX7_solutions 7 = .ok (.aload_n 0, 1) := by decide +kernel
theorem dX7_solutions_8 : decode cX7_solutions 8 = .ok (.getfield 44, 3) := by decide +kernel
theorem dX7_solutions_11 : decode cX7_solutions 11 = .ok (.invokevirtual 189, 3) := by decide +kernel
theorem dX7_solutions_14 : decode cX7_solutions 14 = .ok (.ireturn, 1) := by decide +kernel
set_option maxRecDepth 20000 in
theorem ggX7_solutionsBySweep_X6_countAll : GoodIn wsX7_solutionsBySweep wsX6_countAll := goodIn_r _ [6, 7, 8, 9, 10, 11, 12, 13, 14, 15, 16, 17, 18, 19, 20, 21, 22, 23, 24, 25, 26, 27, 28, 29, 30, 31, 32, 33, 34, 35, 36, 37, 38, 39, 40, 41, 42, 43, 44, 45, 46, 47, 48, 49, 50, 51, 52, 53, 54, 55, 56, 57, 58, 59, 60, 61, 5, 62, 63, 64, 65, 66, 67, 68, 69, 70, 71, 72, 73, 74, 75, 76, 77, 78, 79, 80, 81, 82, 83, 84, 85, 86, 87, 88, 89, 90, 91, 92, 93, 94, 95, 96, 97, 98, 99, 100, 101, 102, 103, 104, 105, 106, 107, 108, 109, 110, 111, 112, 113, 114, 115, 116, 117, 118, 119, 120, 121, 122, 123, 124, 125, 126, 127, 128, 129, 130, 131, 132, 133, 134, 135, 136, 137, 138, 139, 140, 141, 142, 143, 144, 151, 152, 153, 154, 155, 156, 157, 158, 159, 160, 161, 162, 163, 164, 165, 166] (by decide +kernel) (by decide +kernel)
set_option maxRecDepth 20000 in
theorem gX7_solutionsBySweep_X6_countAll : GoodIn wsX7_solutionsBySweep (wsV RX7 192 RX6 yX6_countAll wsX6_countAll) := goodIn_app (goodIn_of _ (by decide +kernel)) ggX7_solutionsBySweep_X6_countAll
theorem dX7_solutionsBySweep_0 : decode cX7_solutionsBySweep 0 = .ok (.aload_n 0, 1) := by decide +kernel
theorem dX7_solutionsBySweep_1 : decode cX7_solutionsBySweep 1 = .ok (.getfield 51, 3) := by decide +kernel
theorem dX7_solutionsBySweep_4 : decode cX7_solutionsBySweep 4 = .ok (.invokevirtual 192, 3) := by decide +kernel
theorem dX7_solutionsBySweep_7 : decode cX7_solutionsBySweep 7 = .ok (.ireturn, 1) := by decide +kernel
set_option maxRecDepth 20000 in
theorem ggX7_first_X7_requireCell : GoodIn wsX7_first wsX7_requireCell := goodIn_ca (goodIn_r _ [9, 10, 11, 12, 13, 14, 15, 16, 17, 18, 145, 146, 147, 148, 149, 150, 151, 152, 153, 154, 155, 156, 157, 158] (by decide +kernel) (by decide +kernel)) (goodIn_sub (fun _ h => List.mem_cons_of_mem _ (List.mem_append_right _ h)) (by decide +kernel))
set_option maxRecDepth 20000 in
theorem gX7_first_X7_requireCell : GoodIn wsX7_first (wsV RX7 84 RX7 yX7_requireCell wsX7_requireCell) := goodIn_app (goodIn_of _ (by decide +kernel)) ggX7_first_X7_requireCell
set_option maxRecDepth 20000 in
theorem ggX7_first_X5_sift : GoodIn wsX7_first wsX5_sift := goodIn_r _ [23, 24, 25, 26, 14, 15, 16, 17, 18, 27, 28, 29, 30, 31, 32, 33, 34, 35, 36, 8, 37, 38, 39, 40, 41, 42, 43, 44, 45, 46, 47, 48, 49, 22, 50, 51, 52, 53, 54, 55, 56, 57, 58, 59, 60, 61, 62, 63, 64, 65, 66, 67, 68, 69, 70, 71, 72, 73, 74, 75, 76, 77, 78, 79, 80, 81, 82, 83, 84, 85, 86, 87, 88, 159, 160, 161, 162, 163, 151, 152, 153, 154, 155, 156, 157, 158] (by decide +kernel) (by decide +kernel)
set_option maxRecDepth 20000 in
theorem gX7_first_X5_sift : GoodIn wsX7_first (wsV RX7 183 RX5 yX5_sift wsX5_sift) := goodIn_app (goodIn_of _ (by decide +kernel)) ggX7_first_X5_sift
set_option maxRecDepth 20000 in
theorem ggX7_first_X4_countAll : GoodIn wsX7_first wsX4_countAll := goodIn_r _ [93, 94, 95, 96, 97, 98, 92, 99, 100, 101, 102, 14, 15, 16, 17, 18, 103, 104, 105, 106, 107, 108, 109, 110, 111, 112, 113, 114, 115, 116, 117, 118, 119, 120, 121, 122, 59, 60, 22, 61, 24, 36, 8, 37, 43, 44, 123, 124, 125, 126, 127, 128, 32, 33, 34, 35, 45, 46, 129, 130, 131, 132, 133, 72, 73, 74, 75, 76, 77, 134, 135, 136, 137, 138, 139, 140, 164, 165, 166, 167, 168, 169, 170, 171, 151, 152, 153, 154, 155, 156, 157, 158, 159, 160, 161, 162, 163] (by decide +kernel) (by decide +kernel)
set_option maxRecDepth 20000 in
theorem gX7_first_X4_countAll : GoodIn wsX7_first (wsV RX7 189 RX4 yX4_countAll wsX4_countAll) := goodIn_app (goodIn_of _ (by decide +kernel)) ggX7_first_X4_countAll
set_option maxRecDepth 20000 in
theorem ggX7_first_X4_firstAt : GoodIn wsX7_first wsX4_firstAt := goodIn_r _ [144, 109, 36, 8, 37, 164, 165, 166, 167, 168, 169, 170, 171] (by decide +kernel) (by decide +kernel)
set_option maxRecDepth 20000 in
theorem gX7_first_X4_firstAt : GoodIn wsX7_first (wsV RX7 195 RX4 yX4_firstAt wsX4_firstAt) := goodIn_app (goodIn_of _ (by decide +kernel)) ggX7_first_X4_firstAt
theorem dX7_first_0 : decode cX7_first 0 = .ok (.aload_n 0, 1) := by decide +kernel
theorem dX7_first_1 : decode cX7_first 1 = .ok (.iload_n 1, 1) := by decide +kernel
theorem dX7_first_2 : decode cX7_first 2 = .ok (.invokevirtual 84, 3) := by decide +kernel
theorem dX7_first_5 : decode cX7_first 5 = .ok (.aload_n 0, 1) := by decide +kernel
theorem dX7_first_6 : decode cX7_first 6 = .ok (.getfield 35, 3) := by decide +kernel
theorem dX7_first_9 : decode cX7_first 9 = .ok (.invokevirtual 183, 3) := by decide +kernel
theorem dX7_first_12 : decode cX7_first 12 = .ok (.aload_n 0, 1) := by decide +kernel
theorem dX7_first_13 : decode cX7_first 13 = .ok (.getfield 44, 3) := by decide +kernel
theorem dX7_first_16 : decode cX7_first 16 = .ok (.invokevirtual 189, 3) := by decide +kernel
theorem dX7_first_19 : decode cX7_first 19 = .ok (.ifCond .ne 13, 3) := by decide +kernel
theorem dX7_first_22 : decode cX7_first 22 = .ok (.new 107, 3) := by decide +kernel
theorem dX7_first_25 : decode cX7_first 25 = .ok (.dup, 1) := by decide +kernel
theorem dX7_first_26 : decode cX7_first 26 = .ok (.ldc 193, 2) := by decide +kernel
theorem dX7_first_28 : decode cX7_first 28 = .ok (.invokespecial 111, 3) := by decide +kernel
theorem dX7_first_31 : decode cX7_first 31 = .ok (.athrow, 1) := by decide +kernel
theorem dX7_first_32 : decode cX7_first 32 = .ok (.aload_n 0, 1) := by decide +kernel
theorem dX7_first_33 : decode cX7_first 33 = .ok (.getfield 44, 3) := by decide +kernel
theorem dX7_first_36 : decode cX7_first 36 = .ok (.iload_n 1, 1) := by decide +kernel
theorem dX7_first_37 : decode cX7_first 37 = .ok (.invokevirtual 195, 3) := by decide +kernel
theorem dX7_first_40 : decode cX7_first 40 = .ok (.ireturn, 1) := by decide +kernel
set_option maxRecDepth 20000 in
theorem ggX7_fewestTurns_X5_sift : GoodIn wsX7_fewestTurns wsX5_sift := goodIn_r _ [9, 10, 11, 12, 13, 14, 15, 16, 17, 18, 19, 20, 21, 22, 23, 24, 25, 26, 27, 28, 29, 30, 31, 32, 33, 34, 35, 36, 37, 38, 39, 40, 41, 8, 42, 43, 44, 45, 46, 47, 48, 49, 50, 51, 52, 53, 54, 55, 56, 57, 58, 59, 60, 61, 62, 63, 64, 65, 66, 67, 68, 69, 70, 71, 72, 73, 74, 75, 76, 77, 78, 79, 80, 143, 144, 145, 146, 147, 148, 149, 150, 151, 152, 153, 154, 155] (by decide +kernel) (by decide +kernel)
set_option maxRecDepth 20000 in
theorem gX7_fewestTurns_X5_sift : GoodIn wsX7_fewestTurns (wsV RX7 183 RX5 yX5_sift wsX5_sift) := goodIn_app (goodIn_of _ (by decide +kernel)) ggX7_fewestTurns_X5_sift
set_option maxRecDepth 20000 in
theorem ggX7_fewestTurns_X4_countAll : GoodIn wsX7_fewestTurns wsX4_countAll := goodIn_r _ [85, 86, 87, 88, 89, 90, 84, 91, 92, 93, 94, 13, 14, 15, 16, 17, 95, 96, 97, 98, 99, 100, 101, 102, 103, 104, 105, 106, 107, 108, 109, 110, 111, 112, 113, 114, 51, 52, 8, 53, 10, 27, 28, 29, 35, 36, 115, 116, 117, 118, 119, 120, 23, 24, 25, 26, 37, 38, 121, 122, 123, 124, 125, 64, 65, 66, 67, 68, 69, 126, 127, 128, 129, 130, 131, 132, 156, 157, 158, 159, 160, 161, 162, 163, 148, 149, 150, 151, 152, 153, 154, 155, 143, 144, 145, 146, 147] (by decide +kernel) (by decide +kernel)
set_option maxRecDepth 20000 in
theorem gX7_fewestTurns_X4_countAll : GoodIn wsX7_fewestTurns (wsV RX7 189 RX4 yX4_countAll wsX4_countAll) := goodIn_app (goodIn_of _ (by decide +kernel)) ggX7_fewestTurns_X4_countAll
set_option maxRecDepth 20000 in
theorem ggX7_fewestTurns_X4_fewest : GoodIn wsX7_fewestTurns wsX4_fewest := goodIn_r _ [136, 87, 156, 157, 158, 159, 160, 161, 162, 163] (by decide +kernel) (by decide +kernel)
set_option maxRecDepth 20000 in
theorem gX7_fewestTurns_X4_fewest : GoodIn wsX7_fewestTurns (wsV RX7 198 RX4 yX4_fewest wsX4_fewest) := goodIn_app (goodIn_of _ (by decide +kernel)) ggX7_fewestTurns_X4_fewest
theorem dX7_fewestTurns_0 : decode cX7_fewestTurns 0 = .ok (.aload_n 0, 1) := by decide +kernel
theorem dX7_fewestTurns_1 : decode cX7_fewestTurns 1 = .ok (.getfield 35, 3) := by decide +kernel
theorem dX7_fewestTurns_4 : decode cX7_fewestTurns 4 = .ok (.invokevirtual 183, 3) := by decide +kernel
theorem dX7_fewestTurns_7 : decode cX7_fewestTurns 7 = .ok (.aload_n 0, 1) := by decide +kernel
theorem dX7_fewestTurns_8 : decode cX7_fewestTurns 8 = .ok (.getfield 44, 3) := by decide +kernel
theorem dX7_fewestTurns_11 : decode cX7_fewestTurns 11 = .ok (.invokevirtual 189, 3) := by decide +kernel
theorem dX7_fewestTurns_14 : decode cX7_fewestTurns 14 = .ok (.ifCond .ne 13, 3) := by decide +kernel
theorem dX7_fewestTurns_17 : decode cX7_fewestTurns 17 = .ok (.new 107, 3) := by decide +kernel
theorem dX7_fewestTurns_20 : decode cX7_fewestTurns 20 = .ok (.dup, 1) := by decide +kernel
theorem dX7_fewestTurns_21 : decode cX7_fewestTurns 21 = .ok (.ldc 193, 2) := by decide +kernel
theorem dX7_fewestTurns_23 : decode cX7_fewestTurns 23 = .ok (.invokespecial 111, 3) := by decide +kernel
theorem dX7_fewestTurns_26 : decode cX7_fewestTurns 26 = .ok (.athrow, 1) := by decide +kernel
theorem dX7_fewestTurns_27 : decode cX7_fewestTurns 27 = .ok (.aload_n 0, 1) := by decide +kernel
theorem dX7_fewestTurns_28 : decode cX7_fewestTurns 28 = .ok (.getfield 44, 3) := by decide +kernel
theorem dX7_fewestTurns_31 : decode cX7_fewestTurns 31 = .ok (.invokevirtual 198, 3) := by decide +kernel
theorem dX7_fewestTurns_34 : decode cX7_fewestTurns 34 = .ok (.ireturn, 1) := by decide +kernel
set_option maxRecDepth 20000 in
theorem ggX7_requireBoard_X0_allows : GoodIn wsX7_requireBoard wsX0_allows := goodIn_r _ [6] (by decide +kernel) (by decide +kernel)
set_option maxRecDepth 20000 in
theorem gX7_requireBoard_X0_allows : GoodIn wsX7_requireBoard (va_wsS RX7 201 yX0_allows wsX0_allows) := goodIn_app (goodIn_of _ (by decide +kernel)) ggX7_requireBoard_X0_allows
theorem dX7_requireBoard_0 : decode cX7_requireBoard 0 = .ok (.iload_n 1, 1) := by decide +kernel
theorem dX7_requireBoard_1 : decode cX7_requireBoard 1 = .ok (.iload_n 2, 1) := by decide +kernel
theorem dX7_requireBoard_2 : decode cX7_requireBoard 2 = .ok (.iload_n 3, 1) := by decide +kernel
theorem dX7_requireBoard_3 : decode cX7_requireBoard 3 = .ok (.invokestatic 201, 3) := by decide +kernel
theorem dX7_requireBoard_6 : decode cX7_requireBoard 6 = .ok (.ifCond .ne 13, 3) := by decide +kernel
theorem dX7_requireBoard_9 : decode cX7_requireBoard 9 = .ok (.new 70, 3) := by decide +kernel
theorem dX7_requireBoard_12 : decode cX7_requireBoard 12 = .ok (.dup, 1) := by decide +kernel
theorem dX7_requireBoard_13 : decode cX7_requireBoard 13 = .ok (.ldc 205, 2) := by decide +kernel
theorem dX7_requireBoard_15 : decode cX7_requireBoard 15 = .ok (.invokespecial 74, 3) := by decide +kernel
theorem dX7_requireBoard_18 : decode cX7_requireBoard 18 = .ok (.athrow, 1) := by decide +kernel
theorem dX7_requireBoard_19 : decode cX7_requireBoard 19 = .ok (.return_, 1) := by decide +kernel
set_option maxRecDepth 20000 in
theorem ggX7_requireCell_X0_has : GoodIn wsX7_requireCell wsX0_has := goodIn_r _ [8, 9, 16, 17, 18, 19, 20, 21, 22, 23] (by decide +kernel) (by decide +kernel)
set_option maxRecDepth 20000 in
theorem gX7_requireCell_X0_has : GoodIn wsX7_requireCell (wsV RX7 207 RX0 yX0_has wsX0_has) := goodIn_app (goodIn_of _ (by decide +kernel)) ggX7_requireCell_X0_has
theorem dX7_requireCell_0 : decode cX7_requireCell 0 = .ok (.aload_n 0, 1) := by decide +kernel
theorem dX7_requireCell_1 : decode cX7_requireCell 1 = .ok (.getfield 10, 3) := by decide +kernel
theorem dX7_requireCell_4 : decode cX7_requireCell 4 = .ok (.iload_n 1, 1) := by decide +kernel
theorem dX7_requireCell_5 : decode cX7_requireCell 5 = .ok (.invokevirtual 207, 3) := by decide +kernel
theorem dX7_requireCell_8 : decode cX7_requireCell 8 = .ok (.ifCond .ne 13, 3) := by decide +kernel
theorem dX7_requireCell_11 : decode cX7_requireCell 11 = .ok (.new 210, 3) := by decide +kernel
theorem dX7_requireCell_14 : decode cX7_requireCell 14 = .ok (.dup, 1) := by decide +kernel
theorem dX7_requireCell_15 : decode cX7_requireCell 15 = .ok (.ldc 212, 2) := by decide +kernel
theorem dX7_requireCell_17 : decode cX7_requireCell 17 = .ok (.invokespecial 214, 3) := by decide +kernel
theorem dX7_requireCell_20 : decode cX7_requireCell 20 = .ok (.athrow, 1) := by decide +kernel
theorem dX7_requireCell_21 : decode cX7_requireCell 21 = .ok (.return_, 1) := by decide +kernel
theorem dX7_requireSide_0 : decode cX7_requireSide 0 = .ok (.iload_n 1, 1) := by decide +kernel
theorem dX7_requireSide_1 : decode cX7_requireSide 1 = .ok (.ifCond .lt 8, 3) := by decide +kernel
theorem dX7_requireSide_4 : decode cX7_requireSide 4 = .ok (.iload_n 1, 1) := by decide +kernel
theorem dX7_requireSide_5 : decode cX7_requireSide 5 = .ok (.iconst 3, 1) := by decide +kernel
theorem dX7_requireSide_6 : decode cX7_requireSide 6 = .ok (.if_icmp .le 13, 3) := by decide +kernel
theorem dX7_requireSide_9 : decode cX7_requireSide 9 = .ok (.new 210, 3) := by decide +kernel
theorem dX7_requireSide_12 : decode cX7_requireSide 12 = .ok (.dup, 1) := by decide +kernel
theorem dX7_requireSide_13 : decode cX7_requireSide 13 = .ok (.ldc 215, 2) := by decide +kernel
theorem dX7_requireSide_15 : decode cX7_requireSide 15 = .ok (.invokespecial 214, 3) := by decide +kernel
theorem dX7_requireSide_18 : decode cX7_requireSide 18 = .ok (.athrow, 1) := by decide +kernel
theorem dX7_requireSide_19 : decode cX7_requireSide 19 = .ok (.return_, 1) := by decide +kernel
set_option maxRecDepth 20000 in
theorem ggX7_startBoard_X0_clear : GoodIn wsX7_startBoard wsX0_clear := goodIn_r _ [7, 8, 9, 10, 11, 12, 13, 14, 15, 16, 17, 18, 19, 20, 21, 22, 23, 24, 25, 6, 26, 27, 28, 29, 30, 31, 32, 33, 47, 48, 49, 50, 51, 52, 53, 54] (by decide +kernel) (by decide +kernel)
set_option maxRecDepth 20000 in
theorem gX7_startBoard_X0_clear : GoodIn wsX7_startBoard (wsV RX7 55 RX0 yX0_clear wsX0_clear) := goodIn_app (goodIn_of _ (by decide +kernel)) ggX7_startBoard_X0_clear
set_option maxRecDepth 20000 in
theorem ggX7_startBoard_X2_forget : GoodIn wsX7_startBoard wsX2_forget := goodIn_r _ [38, 39, 40, 55, 56, 57] (by decide +kernel) (by decide +kernel)
set_option maxRecDepth 20000 in
theorem gX7_startBoard_X2_forget : GoodIn wsX7_startBoard (wsV RX7 97 RX2 yX2_forget wsX2_forget) := goodIn_app (goodIn_of _ (by decide +kernel)) ggX7_startBoard_X2_forget
theorem dX7_startBoard_0 : decode cX7_startBoard 0 = .ok (.aload_n 0, 1) := by decide +kernel
theorem dX7_startBoard_1 : decode cX7_startBoard 1 = .ok (.getfield 10, 3) := by decide +kernel
theorem dX7_startBoard_4 : decode cX7_startBoard 4 = .ok (.iload_n 1, 1) := by decide +kernel
theorem dX7_startBoard_5 : decode cX7_startBoard 5 = .ok (.iload_n 2, 1) := by decide +kernel
theorem dX7_startBoard_6 : decode cX7_startBoard 6 = .ok (.iload_n 3, 1) := by decide +kernel
theorem dX7_startBoard_7 : decode cX7_startBoard 7 = .ok (.invokevirtual 55, 3) := by decide +kernel
theorem dX7_startBoard_10 : decode cX7_startBoard 10 = .ok (.aload_n 0, 1) := by decide +kernel
theorem dX7_startBoard_11 : decode cX7_startBoard 11 = .ok (.getfield 19, 3) := by decide +kernel
theorem dX7_startBoard_14 : decode cX7_startBoard 14 = .ok (.invokevirtual 97, 3) := by decide +kernel
theorem dX7_startBoard_17 : decode cX7_startBoard 17 = .ok (.return_, 1) := by decide +kernel
theorem dX7_holds_0 : decode cX7_holds 0 = .ok (.iload_n 0, 1) := by decide +kernel
theorem dX7_holds_1 : decode cX7_holds 1 = .ok (.iload_n 1, 1) := by decide +kernel
theorem dX7_holds_2 : decode cX7_holds 2 = .ok (.ishr, 1) := by decide +kernel
theorem dX7_holds_3 : decode cX7_holds 3 = .ok (.iconst 1, 1) := by decide +kernel
theorem dX7_holds_4 : decode cX7_holds 4 = .ok (.iand, 1) := by decide +kernel
theorem dX7_holds_5 : decode cX7_holds 5 = .ok (.ifCond .eq 7, 3) := by decide +kernel
theorem dX7_holds_8 : decode cX7_holds 8 = .ok (.iconst 1, 1) := by decide +kernel
theorem dX7_holds_9 : decode cX7_holds 9 = .ok (.goto 4, 3) := by decide +kernel
theorem dX7_holds_12 : decode cX7_holds 12 = .ok (.iconst 0, 1) := by decide +kernel
theorem dX7_holds_13 : decode cX7_holds 13 = .ok (.ireturn, 1) := by decide +kernel
theorem dX7_at_0 : decode cX7_at 0 = .ok (.iload_n 1, 1) := by decide +kernel
theorem dX7_at_1 : decode cX7_at 1 = .ok (.ifCond .lt 15, 3) := by decide +kernel
theorem dX7_at_4 : decode cX7_at 4 = .ok (.iload_n 1, 1) := by decide +kernel
theorem dX7_at_5 : decode cX7_at 5 = .ok (.aload_n 0, 1) := by decide +kernel
theorem dX7_at_6 : decode cX7_at 6 = .ok (.arraylength, 1) := by decide +kernel
theorem dX7_at_7 : decode cX7_at 7 = .ok (.if_icmp .ge 9, 3) := by decide +kernel
theorem dX7_at_10 : decode cX7_at 10 = .ok (.aload_n 0, 1) := by decide +kernel
theorem dX7_at_11 : decode cX7_at 11 = .ok (.iload_n 1, 1) := by decide +kernel
theorem dX7_at_12 : decode cX7_at 12 = .ok (.iaload, 1) := by decide +kernel
theorem dX7_at_13 : decode cX7_at 13 = .ok (.goto 4, 3) := by decide +kernel
theorem dX7_at_16 : decode cX7_at 16 = .ok (.iconst 0, 1) := by decide +kernel
theorem dX7_at_17 : decode cX7_at 17 = .ok (.ireturn, 1) := by decide +kernel
theorem dX7_opposite_0 : decode cX7_opposite 0 = .ok (.iload_n 0, 1) := by decide +kernel
theorem dX7_opposite_1 : decode cX7_opposite 1 = .ok (.iconst 2, 1) := by decide +kernel
theorem dX7_opposite_2 : decode cX7_opposite 2 = .ok (.iadd, 1) := by decide +kernel
theorem dX7_opposite_3 : decode cX7_opposite 3 = .ok (.iconst 3, 1) := by decide +kernel
theorem dX7_opposite_4 : decode cX7_opposite 4 = .ok (.iand, 1) := by decide +kernel
theorem dX7_opposite_5 : decode cX7_opposite 5 = .ok (.ireturn, 1) := by decide +kernel
theorem dX7_turned_0 : decode cX7_turned 0 = .ok (.iload_n 0, 1) := by decide +kernel
theorem dX7_turned_1 : decode cX7_turned 1 = .ok (.iload_n 1, 1) := by decide +kernel
theorem dX7_turned_2 : decode cX7_turned 2 = .ok (.ishl, 1) := by decide +kernel
theorem dX7_turned_3 : decode cX7_turned 3 = .ok (.iload_n 0, 1) := by decide +kernel
theorem dX7_turned_4 : decode cX7_turned 4 = .ok (.iconst 4, 1) := by decide +kernel
theorem dX7_turned_5 : decode cX7_turned 5 = .ok (.iload_n 1, 1) := by decide +kernel
theorem dX7_turned_6 : decode cX7_turned 6 = .ok (.isub, 1) := by decide +kernel
theorem dX7_turned_7 : decode cX7_turned 7 = .ok (.ishr, 1) := by decide +kernel
theorem dX7_turned_8 : decode cX7_turned 8 = .ok (.ior, 1) := by decide +kernel
theorem dX7_turned_9 : decode cX7_turned 9 = .ok (.bipush 15, 2) := by decide +kernel
theorem dX7_turned_11 : decode cX7_turned 11 = .ok (.iand, 1) := by decide +kernel
theorem dX7_turned_12 : decode cX7_turned 12 = .ok (.ireturn, 1) := by decide +kernel
set_option maxRecDepth 20000 in
theorem ggX7_spread_X7_holds : GoodIn wsX7_spread wsX7_holds := goodIn_r _ [4] (by decide +kernel) (by decide +kernel)
set_option maxRecDepth 20000 in
theorem gX7_spread_X7_holds : GoodIn wsX7_spread (va_wsS RX7 177 yX7_holds wsX7_holds) := goodIn_app (goodIn_of _ (by decide +kernel)) ggX7_spread_X7_holds
theorem dX7_spread_0 : decode cX7_spread 0 = .ok (.iconst 1, 1) := by decide +kernel
theorem dX7_spread_1 : decode cX7_spread 1 = .ok (.iload_n 1, 1) := by decide +kernel
theorem dX7_spread_2 : decode cX7_spread 2 = .ok (.ishl, 1) := by decide +kernel
theorem dX7_spread_3 : decode cX7_spread 3 = .ok (.istore_n 3, 1) := by decide +kernel
theorem dX7_spread_4 : decode cX7_spread 4 = .ok (.iconst 1, 1) := by decide +kernel
theorem dX7_spread_5 : decode cX7_spread 5 = .ok (.istore 4, 2) := by decide +kernel
theorem dX7_spread_7 : decode cX7_spread 7 = .ok (.iconst 0, 1) := by decide +kernel
theorem dX7_spread_8 : decode cX7_spread 8 = .ok (.istore 5, 2) := by decide +kernel
theorem dX7_spread_10 : decode cX7_spread 10 = .ok (.iload 4, 2) := by decide +kernel
theorem dX7_spread_12 : decode cX7_spread 12 = .ok (.ifCond .eq 70, 3) := by decide +kernel
theorem dX7_spread_15 : decode cX7_spread 15 = .ok (.iload 5, 2) := by decide +kernel
theorem dX7_spread_17 : decode cX7_spread 17 = .ok (.aload_n 0, 1) := by decide +kernel
theorem dX7_spread_18 : decode cX7_spread 18 = .ok (.arraylength, 1) := by decide +kernel
theorem dX7_spread_19 : decode cX7_spread 19 = .ok (.if_icmp .ge 63, 3) := by decide +kernel
theorem dX7_spread_22 : decode cX7_spread 22 = .ok (.iload_n 3, 1) := by decide +kernel
theorem dX7_spread_23 : decode cX7_spread 23 = .ok (.istore 6, 2) := by decide +kernel
theorem dX7_spread_25 : decode cX7_spread 25 = .ok (.iconst 0, 1) := by decide +kernel
theorem dX7_spread_26 : decode cX7_spread 26 = .ok (.istore 7, 2) := by decide +kernel
theorem dX7_spread_28 : decode cX7_spread 28 = .ok (.iload 7, 2) := by decide +kernel
theorem dX7_spread_30 : decode cX7_spread 30 = .ok (.aload_n 0, 1) := by decide +kernel
theorem dX7_spread_31 : decode cX7_spread 31 = .ok (.arraylength, 1) := by decide +kernel
theorem dX7_spread_32 : decode cX7_spread 32 = .ok (.if_icmp .ge 31, 3) := by decide +kernel
theorem dX7_spread_35 : decode cX7_spread 35 = .ok (.iload 7, 2) := by decide +kernel
theorem dX7_spread_37 : decode cX7_spread 37 = .ok (.iload_n 2, 1) := by decide +kernel
theorem dX7_spread_38 : decode cX7_spread 38 = .ok (.if_icmp .eq 19, 3) := by decide +kernel
theorem dX7_spread_41 : decode cX7_spread 41 = .ok (.iload_n 3, 1) := by decide +kernel
theorem dX7_spread_42 : decode cX7_spread 42 = .ok (.iload 7, 2) := by decide +kernel
theorem dX7_spread_44 : decode cX7_spread 44 = .ok (.invokestatic 177, 3) := by decide +kernel
theorem dX7_spread_47 : decode cX7_spread 47 = .ok (.ifCond .eq 10, 3) := by decide +kernel
theorem dX7_spread_50 : decode cX7_spread 50 = .ok (.iload_n 3, 1) := by decide +kernel
theorem dX7_spread_51 : decode cX7_spread 51 = .ok (.aload_n 0, 1) := by decide +kernel
theorem dX7_spread_52 : decode cX7_spread 52 = .ok (.iload 7, 2) := by decide +kernel
theorem dX7_spread_54 : decode cX7_spread 54 = .ok (.iaload, 1) := by decide +kernel
theorem dX7_spread_55 : decode cX7_spread 55 = .ok (.ior, 1) := by decide +kernel
theorem dX7_spread_56 : decode cX7_spread 56 = .ok (.istore_n 3, 1) := by decide +kernel
theorem dX7_spread_57 : decode cX7_spread 57 = .ok (.iinc 7 1, 3) := by decide +kernel
theorem dX7_spread_60 : decode cX7_spread 60 = .ok (.goto (-32), 3) := by decide +kernel
theorem dX7_spread_63 : decode cX7_spread 63 = .ok (.iload_n 3, 1) := by decide +kernel
theorem dX7_spread_64 : decode cX7_spread 64 = .ok (.iload 6, 2) := by decide +kernel
theorem dX7_spread_66 : decode cX7_spread 66 = .ok (.if_icmp .eq 7, 3) := by decide +kernel
theorem dX7_spread_69 : decode cX7_spread 69 = .ok (.iconst 1, 1) := by decide +kernel
theorem dX7_spread_70 : decode cX7_spread 70 = .ok (.goto 4, 3) := by decide +kernel
theorem dX7_spread_73 : decode cX7_spread 73 = .ok (.iconst 0, 1) := by decide +kernel
theorem dX7_spread_74 : decode cX7_spread 74 = .ok (.istore 4, 2) := by decide +kernel
theorem dX7_spread_76 : decode cX7_spread 76 = .ok (.iinc 5 1, 3) := by decide +kernel
theorem dX7_spread_79 : decode cX7_spread 79 = .ok (.goto (-69), 3) := by decide +kernel
theorem dX7_spread_82 : decode cX7_spread 82 = .ok (.iload_n 3, 1) := by decide +kernel
theorem dX7_spread_83 : decode cX7_spread 83 = .ok (.ireturn, 1) := by decide +kernel
theorem dX8_init_0 : decode cX8_init 0 = .ok (.aload_n 0, 1) := by decide +kernel
theorem dX8_init_1 : decode cX8_init 1 = .ok (.invokespecial 1, 3) := by decide +kernel
theorem dX8_init_4 : decode cX8_init 4 = .ok (.aload_n 0, 1) := by decide +kernel
theorem dX8_init_5 : decode cX8_init 5 = .ok (.iconst 3, 1) := by decide +kernel
theorem dX8_init_6 : decode cX8_init 6 = .ok (.putfield 7, 3) := by decide +kernel
theorem dX8_init_9 : decode cX8_init 9 = .ok (.aload_n 0, 1) := by decide +kernel
theorem dX8_init_10 : decode cX8_init 10 = .ok (.iconst 3, 1) := by decide +kernel
theorem dX8_init_11 : decode cX8_init 11 = .ok (.putfield 13, 3) := by decide +kernel
theorem dX8_init_14 : decode cX8_init 14 = .ok (.aload_n 0, 1) := by decide +kernel
theorem dX8_init_15 : decode cX8_init 15 = .ok (.bipush 16, 2) := by decide +kernel
theorem dX8_init_17 : decode cX8_init 17 = .ok (.newarray .int, 2) := by decide +kernel
theorem dX8_init_19 : decode cX8_init 19 = .ok (.putfield 16, 3) := by decide +kernel
theorem dX8_init_22 : decode cX8_init 22 = .ok (.aload_n 0, 1) := by decide +kernel
theorem dX8_init_23 : decode cX8_init 23 = .ok (.bipush 16, 2) := by decide +kernel
theorem dX8_init_25 : decode cX8_init 25 = .ok (.newarray .int, 2) := by decide +kernel
theorem dX8_init_27 : decode cX8_init 27 = .ok (.putfield 20, 3) := by decide +kernel
theorem dX8_init_30 : decode cX8_init 30 = .ok (.aload_n 0, 1) := by decide +kernel
theorem dX8_init_31 : decode cX8_init 31 = .ok (.bipush 16, 2) := by decide +kernel
theorem dX8_init_33 : decode cX8_init 33 = .ok (.newarray .boolean, 2) := by decide +kernel
theorem dX8_init_35 : decode cX8_init 35 = .ok (.putfield 23, 3) := by decide +kernel
theorem dX8_init_38 : decode cX8_init 38 = .ok (.aload_n 0, 1) := by decide +kernel
theorem dX8_init_39 : decode cX8_init 39 = .ok (.sipush 4096, 3) := by decide +kernel
theorem dX8_init_42 : decode cX8_init 42 = .ok (.newarray .int, 2) := by decide +kernel
theorem dX8_init_44 : decode cX8_init 44 = .ok (.putfield 27, 3) := by decide +kernel
theorem dX8_init_47 : decode cX8_init 47 = .ok (.aload_n 0, 1) := by decide +kernel
theorem dX8_init_48 : decode cX8_init 48 = .ok (.bipush 16, 2) := by decide +kernel
theorem dX8_init_50 : decode cX8_init 50 = .ok (.newarray .boolean, 2) := by decide +kernel
theorem dX8_init_52 : decode cX8_init 52 = .ok (.putfield 30, 3) := by decide +kernel
theorem dX8_init_55 : decode cX8_init 55 = .ok (.aload_n 0, 1) := by decide +kernel
theorem dX8_init_56 : decode cX8_init 56 = .ok (.bipush 16, 2) := by decide +kernel
theorem dX8_init_58 : decode cX8_init 58 = .ok (.newarray .int, 2) := by decide +kernel
theorem dX8_init_60 : decode cX8_init 60 = .ok (.putfield 33, 3) := by decide +kernel
theorem dX8_init_63 : decode cX8_init 63 = .ok (.aload_n 0, 1) := by decide +kernel
theorem dX8_init_64 : decode cX8_init 64 = .ok (.bipush 32, 2) := by decide +kernel
theorem dX8_init_66 : decode cX8_init 66 = .ok (.newarray .int, 2) := by decide +kernel
theorem dX8_init_68 : decode cX8_init 68 = .ok (.putfield 36, 3) := by decide +kernel
theorem dX8_init_71 : decode cX8_init 71 = .ok (.aload_n 0, 1) := by decide +kernel
theorem dX8_init_72 : decode cX8_init 72 = .ok (.bipush 16, 2) := by decide +kernel
theorem dX8_init_74 : decode cX8_init 74 = .ok (.newarray .int, 2) := by decide +kernel
theorem dX8_init_76 : decode cX8_init 76 = .ok (.putfield 39, 3) := by decide +kernel
theorem dX8_init_79 : decode cX8_init 79 = .ok (.aload_n 0, 1) := by decide +kernel
theorem dX8_init_80 : decode cX8_init 80 = .ok (.bipush 16, 2) := by decide +kernel
theorem dX8_init_82 : decode cX8_init 82 = .ok (.newarray .int, 2) := by decide +kernel
theorem dX8_init_84 : decode cX8_init 84 = .ok (.putfield 42, 3) := by decide +kernel
theorem dX8_init_87 : decode cX8_init 87 = .ok (.return_, 1) := by decide +kernel
theorem dX8_thrown_0 : decode cX8_thrown 0 = .ok (.aload_n 0, 1) := by decide +kernel
theorem dX8_thrown_1 : decode cX8_thrown 1 = .ok (.getfield 45, 3) := by decide +kernel
theorem dX8_thrown_4 : decode cX8_thrown 4 = .ok (.ireturn, 1) := by decide +kernel
theorem dX8_holds_0 : decode cX8_holds 0 = .ok (.aload_n 0, 1) := by decide +kernel
theorem dX8_holds_1 : decode cX8_holds 1 = .ok (.iload_n 1, 1) := by decide +kernel
theorem dX8_holds_2 : decode cX8_holds 2 = .ok (.putfield 45, 3) := by decide +kernel
theorem dX8_holds_5 : decode cX8_holds 5 = .ok (.iload_n 1, 1) := by decide +kernel
theorem dX8_holds_6 : decode cX8_holds 6 = .ok (.ifCond .ne 7, 3) := by decide +kernel
theorem dX8_holds_9 : decode cX8_holds 9 = .ok (.iconst 1, 1) := by decide +kernel
theorem dX8_holds_10 : decode cX8_holds 10 = .ok (.goto 4, 3) := by decide +kernel
theorem dX8_holds_13 : decode cX8_holds 13 = .ok (.iconst 0, 1) := by decide +kernel
theorem dX8_holds_14 : decode cX8_holds 14 = .ok (.ireturn, 1) := by decide +kernel
theorem dX8_cells_0 : decode cX8_cells 0 = .ok (.aload_n 0, 1) := by decide +kernel
theorem dX8_cells_1 : decode cX8_cells 1 = .ok (.getfield 7, 3) := by decide +kernel
theorem dX8_cells_4 : decode cX8_cells 4 = .ok (.aload_n 0, 1) := by decide +kernel
theorem dX8_cells_5 : decode cX8_cells 5 = .ok (.getfield 13, 3) := by decide +kernel
theorem dX8_cells_8 : decode cX8_cells 8 = .ok (.imul, 1) := by decide +kernel
theorem dX8_cells_9 : decode cX8_cells 9 = .ok (.ireturn, 1) := by decide +kernel
set_option maxRecDepth 20000 in
theorem ggX8_isCell_X8_cells : GoodIn wsX8_isCell wsX8_cells := goodIn_r _ [5, 6, 7, 8, 9, 10, 11, 12, 13, 14, 15, 16, 17, 18, 19, 20, 21, 22, 23, 24, 25, 26] (by decide +kernel) (by decide +kernel)
set_option maxRecDepth 20000 in
theorem gX8_isCell_X8_cells : GoodIn wsX8_isCell (wsV RX8 48 RX8 yX8_cells wsX8_cells) := goodIn_app (goodIn_of _ (by decide +kernel)) ggX8_isCell_X8_cells
theorem dX8_isCell_0 : decode cX8_isCell 0 = .ok (.iload_n 1, 1) := by decide +kernel
theorem dX8_isCell_1 : decode cX8_isCell 1 = .ok (.ifCond .lt 15, 3) := by decide +kernel
theorem dX8_isCell_4 : decode cX8_isCell 4 = .ok (.iload_n 1, 1) := by decide +kernel
theorem dX8_isCell_5 : decode cX8_isCell 5 = .ok (.aload_n 0, 1) := by decide +kernel
theorem dX8_isCell_6 : decode cX8_isCell 6 = .ok (.invokevirtual 48, 3) := by decide +kernel
theorem dX8_isCell_9 : decode cX8_isCell 9 = .ok (.if_icmp .ge 7, 3) := by decide +kernel
theorem dX8_isCell_12 : decode cX8_isCell 12 = .ok (.iconst 1, 1) := by decide +kernel
theorem dX8_isCell_13 : decode cX8_isCell 13 = .ok (.goto 4, 3) := by decide +kernel
theorem dX8_isCell_16 : decode cX8_isCell 16 = .ok (.iconst 0, 1) := by decide +kernel
theorem dX8_isCell_17 : decode cX8_isCell 17 = .ok (.ireturn, 1) := by decide +kernel
theorem dX8_isSide_0 : decode cX8_isSide 0 = .ok (.iload_n 0, 1) := by decide +kernel
theorem dX8_isSide_1 : decode cX8_isSide 1 = .ok (.ifCond .lt 12, 3) := by decide +kernel
theorem dX8_isSide_4 : decode cX8_isSide 4 = .ok (.iload_n 0, 1) := by decide +kernel
theorem dX8_isSide_5 : decode cX8_isSide 5 = .ok (.iconst 4, 1) := by decide +kernel
theorem dX8_isSide_6 : decode cX8_isSide 6 = .ok (.if_icmp .ge 7, 3) := by decide +kernel
theorem dX8_isSide_9 : decode cX8_isSide 9 = .ok (.iconst 1, 1) := by decide +kernel
theorem dX8_isSide_10 : decode cX8_isSide 10 = .ok (.goto 4, 3) := by decide +kernel
theorem dX8_isSide_13 : decode cX8_isSide 13 = .ok (.iconst 0, 1) := by decide +kernel
theorem dX8_isSide_14 : decode cX8_isSide 14 = .ok (.ireturn, 1) := by decide +kernel
theorem dX8_isBoard_0 : decode cX8_isBoard 0 = .ok (.iload_n 0, 1) := by decide +kernel
theorem dX8_isBoard_1 : decode cX8_isBoard 1 = .ok (.iconst 2, 1) := by decide +kernel
theorem dX8_isBoard_2 : decode cX8_isBoard 2 = .ok (.if_icmp .lt 30, 3) := by decide +kernel
theorem dX8_isBoard_5 : decode cX8_isBoard 5 = .ok (.iload_n 0, 1) := by decide +kernel
theorem dX8_isBoard_6 : decode cX8_isBoard 6 = .ok (.iconst 5, 1) := by decide +kernel
theorem dX8_isBoard_7 : decode cX8_isBoard 7 = .ok (.if_icmp .gt 25, 3) := by decide +kernel
theorem dX8_isBoard_10 : decode cX8_isBoard 10 = .ok (.iload_n 1, 1) := by decide +kernel
theorem dX8_isBoard_11 : decode cX8_isBoard 11 = .ok (.iconst 2, 1) := by decide +kernel
theorem dX8_isBoard_12 : decode cX8_isBoard 12 = .ok (.if_icmp .lt 20, 3) := by decide +kernel
theorem dX8_isBoard_15 : decode cX8_isBoard 15 = .ok (.iload_n 1, 1) := by decide +kernel
theorem dX8_isBoard_16 : decode cX8_isBoard 16 = .ok (.iconst 5, 1) := by decide +kernel
theorem dX8_isBoard_17 : decode cX8_isBoard 17 = .ok (.if_icmp .gt 15, 3) := by decide +kernel
theorem dX8_isBoard_20 : decode cX8_isBoard 20 = .ok (.iload_n 0, 1) := by decide +kernel
theorem dX8_isBoard_21 : decode cX8_isBoard 21 = .ok (.iload_n 1, 1) := by decide +kernel
theorem dX8_isBoard_22 : decode cX8_isBoard 22 = .ok (.imul, 1) := by decide +kernel
theorem dX8_isBoard_23 : decode cX8_isBoard 23 = .ok (.bipush 16, 2) := by decide +kernel
theorem dX8_isBoard_25 : decode cX8_isBoard 25 = .ok (.if_icmp .gt 7, 3) := by decide +kernel
theorem dX8_isBoard_28 : decode cX8_isBoard 28 = .ok (.iconst 1, 1) := by decide +kernel
theorem dX8_isBoard_29 : decode cX8_isBoard 29 = .ok (.goto 4, 3) := by decide +kernel
theorem dX8_isBoard_32 : decode cX8_isBoard 32 = .ok (.iconst 0, 1) := by decide +kernel
theorem dX8_isBoard_33 : decode cX8_isBoard 33 = .ok (.istore_n 3, 1) := by decide +kernel
theorem dX8_isBoard_34 : decode cX8_isBoard 34 = .ok (.iload_n 3, 1) := by decide +kernel
theorem dX8_isBoard_35 : decode cX8_isBoard 35 = .ok (.ifCond .eq 29, 3) := by decide +kernel
theorem dX8_isBoard_38 : decode cX8_isBoard 38 = .ok (.iload_n 2, 1) := by decide +kernel
theorem dX8_isBoard_39 : decode cX8_isBoard 39 = .ok (.ifCond .eq 21, 3) := by decide +kernel
theorem dX8_isBoard_42 : decode cX8_isBoard 42 = .ok (.iload_n 0, 1) := by decide +kernel
theorem dX8_isBoard_43 : decode cX8_isBoard 43 = .ok (.iconst 2, 1) := by decide +kernel
theorem dX8_isBoard_44 : decode cX8_isBoard 44 = .ok (.if_icmp .le 20, 3) := by decide +kernel
theorem dX8_isBoard_47 : decode cX8_isBoard 47 = .ok (.iload_n 1, 1) := by decide +kernel
theorem dX8_isBoard_48 : decode cX8_isBoard 48 = .ok (.iconst 2, 1) := by decide +kernel
theorem dX8_isBoard_49 : decode cX8_isBoard 49 = .ok (.if_icmp .le 15, 3) := by decide +kernel
theorem dX8_isBoard_52 : decode cX8_isBoard 52 = .ok (.iload_n 0, 1) := by decide +kernel
theorem dX8_isBoard_53 : decode cX8_isBoard 53 = .ok (.iload_n 1, 1) := by decide +kernel
theorem dX8_isBoard_54 : decode cX8_isBoard 54 = .ok (.imul, 1) := by decide +kernel
theorem dX8_isBoard_55 : decode cX8_isBoard 55 = .ok (.bipush 12, 2) := by decide +kernel
theorem dX8_isBoard_57 : decode cX8_isBoard 57 = .ok (.if_icmp .gt 7, 3) := by decide +kernel
theorem dX8_isBoard_60 : decode cX8_isBoard 60 = .ok (.iconst 1, 1) := by decide +kernel
theorem dX8_isBoard_61 : decode cX8_isBoard 61 = .ok (.goto 4, 3) := by decide +kernel
theorem dX8_isBoard_64 : decode cX8_isBoard 64 = .ok (.iconst 0, 1) := by decide +kernel
theorem dX8_isBoard_65 : decode cX8_isBoard 65 = .ok (.ireturn, 1) := by decide +kernel
theorem dX8_begins_0 : decode cX8_begins 0 = .ok (.aload_n 0, 1) := by decide +kernel
theorem dX8_begins_1 : decode cX8_begins 1 = .ok (.iload_n 1, 1) := by decide +kernel
theorem dX8_begins_2 : decode cX8_begins 2 = .ok (.putfield 7, 3) := by decide +kernel
theorem dX8_begins_5 : decode cX8_begins 5 = .ok (.aload_n 0, 1) := by decide +kernel
theorem dX8_begins_6 : decode cX8_begins 6 = .ok (.iload_n 2, 1) := by decide +kernel
theorem dX8_begins_7 : decode cX8_begins 7 = .ok (.putfield 13, 3) := by decide +kernel
theorem dX8_begins_10 : decode cX8_begins 10 = .ok (.aload_n 0, 1) := by decide +kernel
theorem dX8_begins_11 : decode cX8_begins 11 = .ok (.iload_n 3, 1) := by decide +kernel
theorem dX8_begins_12 : decode cX8_begins 12 = .ok (.putfield 52, 3) := by decide +kernel
theorem dX8_begins_15 : decode cX8_begins 15 = .ok (.aload_n 0, 1) := by decide +kernel
theorem dX8_begins_16 : decode cX8_begins 16 = .ok (.iconst 0, 1) := by decide +kernel
theorem dX8_begins_17 : decode cX8_begins 17 = .ok (.putfield 56, 3) := by decide +kernel
theorem dX8_begins_20 : decode cX8_begins 20 = .ok (.aload_n 0, 1) := by decide +kernel
theorem dX8_begins_21 : decode cX8_begins 21 = .ok (.iconst 0, 1) := by decide +kernel
theorem dX8_begins_22 : decode cX8_begins 22 = .ok (.putfield 59, 3) := by decide +kernel
theorem dX8_begins_25 : decode cX8_begins 25 = .ok (.aload_n 0, 1) := by decide +kernel
theorem dX8_begins_26 : decode cX8_begins 26 = .ok (.iconst 0, 1) := by decide +kernel
theorem dX8_begins_27 : decode cX8_begins 27 = .ok (.putfield 62, 3) := by decide +kernel
theorem dX8_begins_30 : decode cX8_begins 30 = .ok (.iconst 0, 1) := by decide +kernel
theorem dX8_begins_31 : decode cX8_begins 31 = .ok (.istore 4, 2) := by decide +kernel
theorem dX8_begins_33 : decode cX8_begins 33 = .ok (.iload 4, 2) := by decide +kernel
theorem dX8_begins_35 : decode cX8_begins 35 = .ok (.bipush 16, 2) := by decide +kernel
theorem dX8_begins_37 : decode cX8_begins 37 = .ok (.if_icmp .ge 33, 3) := by decide +kernel
theorem dX8_begins_40 : decode cX8_begins 40 = .ok (.aload_n 0, 1) := by decide +kernel
theorem dX8_begins_41 : decode cX8_begins 41 = .ok (.getfield 16, 3) := by decide +kernel
theorem dX8_begins_44 : decode cX8_begins 44 = .ok (.iload 4, 2) := by decide +kernel
theorem dX8_begins_46 : decode cX8_begins 46 = .ok (.iconst 0, 1) := by decide +kernel
theorem dX8_begins_47 : decode cX8_begins 47 = .ok (.iastore, 1) := by decide +kernel
theorem dX8_begins_48 : decode cX8_begins 48 = .ok (.aload_n 0, 1) := by decide +kernel
theorem dX8_begins_49 : decode cX8_begins 49 = .ok (.getfield 20, 3) := by decide +kernel
theorem dX8_begins_52 : decode cX8_begins 52 = .ok (.iload 4, 2) := by decide +kernel
theorem dX8_begins_54 : decode cX8_begins 54 = .ok (.iconst 0, 1) := by decide +kernel
theorem dX8_begins_55 : decode cX8_begins 55 = .ok (.iastore, 1) := by decide +kernel
theorem dX8_begins_56 : decode cX8_begins 56 = .ok (.aload_n 0, 1) := by decide +kernel
theorem dX8_begins_57 : decode cX8_begins 57 = .ok (.getfield 23, 3) := by decide +kernel
theorem dX8_begins_60 : decode cX8_begins 60 = .ok (.iload 4, 2) := by decide +kernel
theorem dX8_begins_62 : decode cX8_begins 62 = .ok (.iconst 0, 1) := by decide +kernel
theorem dX8_begins_63 : decode cX8_begins 63 = .ok (.bastore, 1) := by decide +kernel
theorem dX8_begins_64 : decode cX8_begins 64 = .ok (.iinc 4 1, 3) := by decide +kernel
theorem dX8_begins_67 : decode cX8_begins 67 = .ok (.goto (-34), 3) := by decide +kernel
theorem dX8_begins_70 : decode cX8_begins 70 = .ok (.return_, 1) := by decide +kernel
set_option maxRecDepth 20000 in
theorem ggX8_begin_X8_isBoard : GoodIn wsX8_begin wsX8_isBoard := goodIn_r _ [4] (by decide +kernel) (by decide +kernel)
set_option maxRecDepth 20000 in
theorem gX8_begin_X8_isBoard : GoodIn wsX8_begin (va_wsS RX8 65 yX8_isBoard wsX8_isBoard) := goodIn_app (goodIn_of _ (by decide +kernel)) ggX8_begin_X8_isBoard
set_option maxRecDepth 20000 in
theorem ggX8_begin_X8_holds : GoodIn wsX8_begin wsX8_holds := goodIn_r _ [8, 9, 27, 28, 29, 30, 31, 32, 33, 34, 35, 36, 37, 38, 39, 40, 41, 42, 43, 44, 45] (by decide +kernel) (by decide +kernel)
set_option maxRecDepth 20000 in
theorem gX8_begin_X8_holds : GoodIn wsX8_begin (wsV RX8 69 RX8 yX8_holds wsX8_holds) := goodIn_app (goodIn_of _ (by decide +kernel)) ggX8_begin_X8_holds
set_option maxRecDepth 20000 in
theorem ggX8_begin_X8_begins : GoodIn wsX8_begin wsX8_begins := goodIn_r _ [13, 14, 15, 16, 17, 18, 19, 20, 21, 22, 27, 28, 29, 30, 31, 32, 33, 34, 35, 36, 37, 38, 39, 40, 41, 42, 43, 44, 45] (by decide +kernel) (by decide +kernel)
set_option maxRecDepth 20000 in
theorem gX8_begin_X8_begins : GoodIn wsX8_begin (wsV RX8 73 RX8 yX8_begins wsX8_begins) := goodIn_app (goodIn_of _ (by decide +kernel)) ggX8_begin_X8_begins
set_option maxRecDepth 20000 in
theorem ggX8_begin_X8_cells : GoodIn wsX8_begin wsX8_cells := goodIn_r _ [26, 14, 15, 27, 28, 29, 30, 31, 32, 33, 34, 35, 36, 37, 38, 39, 40, 41, 42, 43, 44, 45] (by decide +kernel) (by decide +kernel)
set_option maxRecDepth 20000 in
theorem gX8_begin_X8_cells : GoodIn wsX8_begin (wsV RX8 48 RX8 yX8_cells wsX8_cells) := goodIn_app (goodIn_of _ (by decide +kernel)) ggX8_begin_X8_cells
theorem dX8_begin_0 : decode cX8_begin 0 = .ok (.aload_n 0, 1) := by decide +kernel
theorem dX8_begin_1 : decode cX8_begin 1 = .ok (.iload_n 1, 1) := by decide +kernel
theorem dX8_begin_2 : decode cX8_begin 2 = .ok (.iload_n 2, 1) := by decide +kernel
theorem dX8_begin_3 : decode cX8_begin 3 = .ok (.iload_n 3, 1) := by decide +kernel
theorem dX8_begin_4 : decode cX8_begin 4 = .ok (.invokestatic 65, 3) := by decide +kernel
theorem dX8_begin_7 : decode cX8_begin 7 = .ok (.ifCond .eq 7, 3) := by decide +kernel
theorem dX8_begin_10 : decode cX8_begin 10 = .ok (.iconst 0, 1) := by decide +kernel
theorem dX8_begin_11 : decode cX8_begin 11 = .ok (.goto 4, 3) := by decide +kernel
theorem dX8_begin_14 : decode cX8_begin 14 = .ok (.iconst 1, 1) := by decide +kernel
theorem dX8_begin_15 : decode cX8_begin 15 = .ok (.invokevirtual 69, 3) := by decide +kernel
theorem dX8_begin_18 : decode cX8_begin 18 = .ok (.ifCond .ne 5, 3) := by decide +kernel
theorem dX8_begin_21 : decode cX8_begin 21 = .ok (.iconst 0, 1) := by decide +kernel
theorem dX8_begin_22 : decode cX8_begin 22 = .ok (.ireturn, 1) := by decide +kernel
theorem dX8_begin_23 : decode cX8_begin 23 = .ok (.aload_n 0, 1) := by decide +kernel
theorem dX8_begin_24 : decode cX8_begin 24 = .ok (.iload_n 1, 1) := by decide +kernel
theorem dX8_begin_25 : decode cX8_begin 25 = .ok (.iload_n 2, 1) := by decide +kernel
theorem dX8_begin_26 : decode cX8_begin 26 = .ok (.iload_n 3, 1) := by decide +kernel
theorem dX8_begin_27 : decode cX8_begin 27 = .ok (.invokevirtual 73, 3) := by decide +kernel
theorem dX8_begin_30 : decode cX8_begin 30 = .ok (.aload_n 0, 1) := by decide +kernel
theorem dX8_begin_31 : decode cX8_begin 31 = .ok (.invokevirtual 48, 3) := by decide +kernel
theorem dX8_begin_34 : decode cX8_begin 34 = .ok (.ireturn, 1) := by decide +kernel
theorem dX8_neighbourOf_0 : decode cX8_neighbourOf 0 = .ok (.iload_n 1, 1) := by decide +kernel
theorem dX8_neighbourOf_1 : decode cX8_neighbourOf 1 = .ok (.aload_n 0, 1) := by decide +kernel
theorem dX8_neighbourOf_2 : decode cX8_neighbourOf 2 = .ok (.getfield 7, 3) := by decide +kernel
theorem dX8_neighbourOf_5 : decode cX8_neighbourOf 5 = .ok (.irem, 1) := by decide +kernel
theorem dX8_neighbourOf_6 : decode cX8_neighbourOf 6 = .ok (.iload_n 2, 1) := by decide +kernel
theorem dX8_neighbourOf_7 : decode cX8_neighbourOf 7 = .ok (.iconst 1, 1) := by decide +kernel
theorem dX8_neighbourOf_8 : decode cX8_neighbourOf 8 = .ok (.if_icmp .ne 7, 3) := by decide +kernel
theorem dX8_neighbourOf_11 : decode cX8_neighbourOf 11 = .ok (.iconst 1, 1) := by decide +kernel
theorem dX8_neighbourOf_12 : decode cX8_neighbourOf 12 = .ok (.goto 13, 3) := by decide +kernel
theorem dX8_neighbourOf_15 : decode cX8_neighbourOf 15 = .ok (.iload_n 2, 1) := by decide +kernel
theorem dX8_neighbourOf_16 : decode cX8_neighbourOf 16 = .ok (.iconst 3, 1) := by decide +kernel
theorem dX8_neighbourOf_17 : decode cX8_neighbourOf 17 = .ok (.if_icmp .ne 7, 3) := by decide +kernel
theorem dX8_neighbourOf_20 : decode cX8_neighbourOf 20 = .ok (.iconst (-1), 1) := by decide +kernel
theorem dX8_neighbourOf_21 : decode cX8_neighbourOf 21 = .ok (.goto 4, 3) := by decide +kernel
theorem dX8_neighbourOf_24 : decode cX8_neighbourOf 24 = .ok (.iconst 0, 1) := by decide +kernel
theorem dX8_neighbourOf_25 : decode cX8_neighbourOf 25 = .ok (.iadd, 1) := by decide +kernel
theorem dX8_neighbourOf_26 : decode cX8_neighbourOf 26 = .ok (.istore_n 3, 1) := by decide +kernel
theorem dX8_neighbourOf_27 : decode cX8_neighbourOf 27 = .ok (.iload_n 1, 1) := by decide +kernel
theorem dX8_neighbourOf_28 : decode cX8_neighbourOf 28 = .ok (.aload_n 0, 1) := by decide +kernel
theorem dX8_neighbourOf_29 : decode cX8_neighbourOf 29 = .ok (.getfield 7, 3) := by decide +kernel
theorem dX8_neighbourOf_32 : decode cX8_neighbourOf 32 = .ok (.idiv, 1) := by decide +kernel
theorem dX8_neighbourOf_33 : decode cX8_neighbourOf 33 = .ok (.iload_n 2, 1) := by decide +kernel
theorem dX8_neighbourOf_34 : decode cX8_neighbourOf 34 = .ok (.iconst 2, 1) := by decide +kernel
theorem dX8_neighbourOf_35 : decode cX8_neighbourOf 35 = .ok (.if_icmp .ne 7, 3) := by decide +kernel
theorem dX8_neighbourOf_38 : decode cX8_neighbourOf 38 = .ok (.iconst 1, 1) := by decide +kernel
theorem dX8_neighbourOf_39 : decode cX8_neighbourOf 39 = .ok (.goto 12, 3) := by decide +kernel
theorem dX8_neighbourOf_42 : decode cX8_neighbourOf 42 = .ok (.iload_n 2, 1) := by decide +kernel
theorem dX8_neighbourOf_43 : decode cX8_neighbourOf 43 = .ok (.ifCond .ne 7, 3) := by decide +kernel
theorem dX8_neighbourOf_46 : decode cX8_neighbourOf 46 = .ok (.iconst (-1), 1) := by decide +kernel
theorem dX8_neighbourOf_47 : decode cX8_neighbourOf 47 = .ok (.goto 4, 3) := by decide +kernel
theorem dX8_neighbourOf_50 : decode cX8_neighbourOf 50 = .ok (.iconst 0, 1) := by decide +kernel
theorem dX8_neighbourOf_51 : decode cX8_neighbourOf 51 = .ok (.iadd, 1) := by decide +kernel
theorem dX8_neighbourOf_52 : decode cX8_neighbourOf 52 = .ok (.istore 4, 2) := by decide +kernel
theorem dX8_neighbourOf_54 : decode cX8_neighbourOf 54 = .ok (.iload_n 3, 1) := by decide +kernel
theorem dX8_neighbourOf_55 : decode cX8_neighbourOf 55 = .ok (.ifCond .lt 29, 3) := by decide +kernel
theorem dX8_neighbourOf_58 : decode cX8_neighbourOf 58 = .ok (.iload_n 3, 1) := by decide +kernel
theorem dX8_neighbourOf_59 : decode cX8_neighbourOf 59 = .ok (.aload_n 0, 1) := by decide +kernel
theorem dX8_neighbourOf_60 : decode cX8_neighbourOf 60 = .ok (.getfield 7, 3) := by decide +kernel
theorem dX8_neighbourOf_63 : decode cX8_neighbourOf 63 = .ok (.if_icmp .ge 21, 3) := by decide +kernel
theorem dX8_neighbourOf_66 : decode cX8_neighbourOf 66 = .ok (.iload 4, 2) := by decide +kernel
theorem dX8_neighbourOf_68 : decode cX8_neighbourOf 68 = .ok (.ifCond .lt 16, 3) := by decide +kernel
theorem dX8_neighbourOf_71 : decode cX8_neighbourOf 71 = .ok (.iload 4, 2) := by decide +kernel
theorem dX8_neighbourOf_73 : decode cX8_neighbourOf 73 = .ok (.aload_n 0, 1) := by decide +kernel
theorem dX8_neighbourOf_74 : decode cX8_neighbourOf 74 = .ok (.getfield 13, 3) := by decide +kernel
theorem dX8_neighbourOf_77 : decode cX8_neighbourOf 77 = .ok (.if_icmp .ge 7, 3) := by decide +kernel
theorem dX8_neighbourOf_80 : decode cX8_neighbourOf 80 = .ok (.iconst 1, 1) := by decide +kernel
theorem dX8_neighbourOf_81 : decode cX8_neighbourOf 81 = .ok (.goto 4, 3) := by decide +kernel
theorem dX8_neighbourOf_84 : decode cX8_neighbourOf 84 = .ok (.iconst 0, 1) := by decide +kernel
theorem dX8_neighbourOf_85 : decode cX8_neighbourOf 85 = .ok (.istore 5, 2) := by decide +kernel
theorem dX8_neighbourOf_87 : decode cX8_neighbourOf 87 = .ok (.iload 5, 2) := by decide +kernel
theorem dX8_neighbourOf_89 : decode cX8_neighbourOf 89 = .ok (.ifCond .ne 10, 3) := by decide +kernel
theorem dX8_neighbourOf_92 : decode cX8_neighbourOf 92 = .ok (.aload_n 0, 1) := by decide +kernel
theorem dX8_neighbourOf_93 : decode cX8_neighbourOf 93 = .ok (.getfield 52, 3) := by decide +kernel
theorem dX8_neighbourOf_96 : decode cX8_neighbourOf 96 = .ok (.ifCond .eq 35, 3) := by decide +kernel
theorem dX8_neighbourOf_99 : decode cX8_neighbourOf 99 = .ok (.iload 4, 2) := by decide +kernel
theorem dX8_neighbourOf_101 : decode cX8_neighbourOf 101 = .ok (.aload_n 0, 1) := by decide +kernel
theorem dX8_neighbourOf_102 : decode cX8_neighbourOf 102 = .ok (.getfield 13, 3) := by decide +kernel
theorem dX8_neighbourOf_105 : decode cX8_neighbourOf 105 = .ok (.iadd, 1) := by decide +kernel
theorem dX8_neighbourOf_106 : decode cX8_neighbourOf 106 = .ok (.aload_n 0, 1) := by decide +kernel
theorem dX8_neighbourOf_107 : decode cX8_neighbourOf 107 = .ok (.getfield 13, 3) := by decide +kernel
theorem dX8_neighbourOf_110 : decode cX8_neighbourOf 110 = .ok (.irem, 1) := by decide +kernel
theorem dX8_neighbourOf_111 : decode cX8_neighbourOf 111 = .ok (.aload_n 0, 1) := by decide +kernel
theorem dX8_neighbourOf_112 : decode cX8_neighbourOf 112 = .ok (.getfield 7, 3) := by decide +kernel
theorem dX8_neighbourOf_115 : decode cX8_neighbourOf 115 = .ok (.imul, 1) := by decide +kernel
theorem dX8_neighbourOf_116 : decode cX8_neighbourOf 116 = .ok (.iload_n 3, 1) := by decide +kernel
theorem dX8_neighbourOf_117 : decode cX8_neighbourOf 117 = .ok (.aload_n 0, 1) := by decide +kernel
theorem dX8_neighbourOf_118 : decode cX8_neighbourOf 118 = .ok (.getfield 7, 3) := by decide +kernel
theorem dX8_neighbourOf_121 : decode cX8_neighbourOf 121 = .ok (.iadd, 1) := by decide +kernel
theorem dX8_neighbourOf_122 : decode cX8_neighbourOf 122 = .ok (.aload_n 0, 1) := by decide +kernel
theorem dX8_neighbourOf_123 : decode cX8_neighbourOf 123 = .ok (.getfield 7, 3) := by decide +kernel
theorem dX8_neighbourOf_126 : decode cX8_neighbourOf 126 = .ok (.irem, 1) := by decide +kernel
theorem dX8_neighbourOf_127 : decode cX8_neighbourOf 127 = .ok (.iadd, 1) := by decide +kernel
theorem dX8_neighbourOf_128 : decode cX8_neighbourOf 128 = .ok (.goto 4, 3) := by decide +kernel
theorem dX8_neighbourOf_131 : decode cX8_neighbourOf 131 = .ok (.iconst (-1), 1) := by decide +kernel
theorem dX8_neighbourOf_132 : decode cX8_neighbourOf 132 = .ok (.ireturn, 1) := by decide +kernel
theorem dX8_opposite_0 : decode cX8_opposite 0 = .ok (.iload_n 0, 1) := by decide +kernel
theorem dX8_opposite_1 : decode cX8_opposite 1 = .ok (.iconst 2, 1) := by decide +kernel
theorem dX8_opposite_2 : decode cX8_opposite 2 = .ok (.iadd, 1) := by decide +kernel
theorem dX8_opposite_3 : decode cX8_opposite 3 = .ok (.iconst 4, 1) := by decide +kernel
theorem dX8_opposite_4 : decode cX8_opposite 4 = .ok (.irem, 1) := by decide +kernel
theorem dX8_opposite_5 : decode cX8_opposite 5 = .ok (.ireturn, 1) := by decide +kernel
theorem dX8_isOpen_0 : decode cX8_isOpen 0 = .ok (.iload_n 0, 1) := by decide +kernel
theorem dX8_isOpen_1 : decode cX8_isOpen 1 = .ok (.iload_n 1, 1) := by decide +kernel
theorem dX8_isOpen_2 : decode cX8_isOpen 2 = .ok (.ishr, 1) := by decide +kernel
theorem dX8_isOpen_3 : decode cX8_isOpen 3 = .ok (.iconst 1, 1) := by decide +kernel
theorem dX8_isOpen_4 : decode cX8_isOpen 4 = .ok (.iand, 1) := by decide +kernel
theorem dX8_isOpen_5 : decode cX8_isOpen 5 = .ok (.iconst 1, 1) := by decide +kernel
theorem dX8_isOpen_6 : decode cX8_isOpen 6 = .ok (.if_icmp .ne 7, 3) := by decide +kernel
theorem dX8_isOpen_9 : decode cX8_isOpen 9 = .ok (.iconst 1, 1) := by decide +kernel
theorem dX8_isOpen_10 : decode cX8_isOpen 10 = .ok (.goto 4, 3) := by decide +kernel
theorem dX8_isOpen_13 : decode cX8_isOpen 13 = .ok (.iconst 0, 1) := by decide +kernel
theorem dX8_isOpen_14 : decode cX8_isOpen 14 = .ok (.ireturn, 1) := by decide +kernel
theorem dX8_turned_0 : decode cX8_turned 0 = .ok (.iload_n 0, 1) := by decide +kernel
theorem dX8_turned_1 : decode cX8_turned 1 = .ok (.istore_n 2, 1) := by decide +kernel
theorem dX8_turned_2 : decode cX8_turned 2 = .ok (.iconst 0, 1) := by decide +kernel
theorem dX8_turned_3 : decode cX8_turned 3 = .ok (.istore_n 3, 1) := by decide +kernel
theorem dX8_turned_4 : decode cX8_turned 4 = .ok (.iload_n 3, 1) := by decide +kernel
theorem dX8_turned_5 : decode cX8_turned 5 = .ok (.iload_n 1, 1) := by decide +kernel
theorem dX8_turned_6 : decode cX8_turned 6 = .ok (.if_icmp .ge 20, 3) := by decide +kernel
theorem dX8_turned_9 : decode cX8_turned 9 = .ok (.iload_n 2, 1) := by decide +kernel
theorem dX8_turned_10 : decode cX8_turned 10 = .ok (.iconst 1, 1) := by decide +kernel
theorem dX8_turned_11 : decode cX8_turned 11 = .ok (.ishl, 1) := by decide +kernel
theorem dX8_turned_12 : decode cX8_turned 12 = .ok (.bipush 15, 2) := by decide +kernel
theorem dX8_turned_14 : decode cX8_turned 14 = .ok (.iand, 1) := by decide +kernel
theorem dX8_turned_15 : decode cX8_turned 15 = .ok (.iload_n 2, 1) := by decide +kernel
theorem dX8_turned_16 : decode cX8_turned 16 = .ok (.iconst 3, 1) := by decide +kernel
theorem dX8_turned_17 : decode cX8_turned 17 = .ok (.ishr, 1) := by decide +kernel
theorem dX8_turned_18 : decode cX8_turned 18 = .ok (.ior, 1) := by decide +kernel
theorem dX8_turned_19 : decode cX8_turned 19 = .ok (.istore_n 2, 1) := by decide +kernel
theorem dX8_turned_20 : decode cX8_turned 20 = .ok (.iinc 3 1, 3) := by decide +kernel
theorem dX8_turned_23 : decode cX8_turned 23 = .ok (.goto (-19), 3) := by decide +kernel
theorem dX8_turned_26 : decode cX8_turned 26 = .ok (.iload_n 2, 1) := by decide +kernel
theorem dX8_turned_27 : decode cX8_turned 27 = .ok (.ireturn, 1) := by decide +kernel
theorem dX8_sides_0 : decode cX8_sides 0 = .ok (.iload_n 0, 1) := by decide +kernel
theorem dX8_sides_1 : decode cX8_sides 1 = .ok (.iconst 1, 1) := by decide +kernel
theorem dX8_sides_2 : decode cX8_sides 2 = .ok (.iand, 1) := by decide +kernel
theorem dX8_sides_3 : decode cX8_sides 3 = .ok (.iload_n 0, 1) := by decide +kernel
theorem dX8_sides_4 : decode cX8_sides 4 = .ok (.iconst 1, 1) := by decide +kernel
theorem dX8_sides_5 : decode cX8_sides 5 = .ok (.ishr, 1) := by decide +kernel
theorem dX8_sides_6 : decode cX8_sides 6 = .ok (.iconst 1, 1) := by decide +kernel
theorem dX8_sides_7 : decode cX8_sides 7 = .ok (.iand, 1) := by decide +kernel
theorem dX8_sides_8 : decode cX8_sides 8 = .ok (.iadd, 1) := by decide +kernel
theorem dX8_sides_9 : decode cX8_sides 9 = .ok (.iload_n 0, 1) := by decide +kernel
theorem dX8_sides_10 : decode cX8_sides 10 = .ok (.iconst 2, 1) := by decide +kernel
theorem dX8_sides_11 : decode cX8_sides 11 = .ok (.ishr, 1) := by decide +kernel
theorem dX8_sides_12 : decode cX8_sides 12 = .ok (.iconst 1, 1) := by decide +kernel
theorem dX8_sides_13 : decode cX8_sides 13 = .ok (.iand, 1) := by decide +kernel
theorem dX8_sides_14 : decode cX8_sides 14 = .ok (.iadd, 1) := by decide +kernel
theorem dX8_sides_15 : decode cX8_sides 15 = .ok (.iload_n 0, 1) := by decide +kernel
theorem dX8_sides_16 : decode cX8_sides 16 = .ok (.iconst 3, 1) := by decide +kernel
theorem dX8_sides_17 : decode cX8_sides 17 = .ok (.ishr, 1) := by decide +kernel
theorem dX8_sides_18 : decode cX8_sides 18 = .ok (.iconst 1, 1) := by decide +kernel
theorem dX8_sides_19 : decode cX8_sides 19 = .ok (.iand, 1) := by decide +kernel
theorem dX8_sides_20 : decode cX8_sides 20 = .ok (.iadd, 1) := by decide +kernel
theorem dX8_sides_21 : decode cX8_sides 21 = .ok (.ireturn, 1) := by decide +kernel
theorem dX8_draws_0 : decode cX8_draws 0 = .ok (.aload_n 0, 1) := by decide +kernel
theorem dX8_draws_1 : decode cX8_draws 1 = .ok (.sipush 24693, 3) := by decide +kernel
theorem dX8_draws_4 : decode cX8_draws 4 = .ok (.aload_n 0, 1) := by decide +kernel
theorem dX8_draws_5 : decode cX8_draws 5 = .ok (.getfield 77, 3) := by decide +kernel
theorem dX8_draws_8 : decode cX8_draws 8 = .ok (.imul, 1) := by decide +kernel
theorem dX8_draws_9 : decode cX8_draws 9 = .ok (.sipush 3517, 3) := by decide +kernel
theorem dX8_draws_12 : decode cX8_draws 12 = .ok (.iadd, 1) := by decide +kernel
theorem dX8_draws_13 : decode cX8_draws 13 = .ok (.ldc 80, 2) := by decide +kernel
theorem dX8_draws_15 : decode cX8_draws 15 = .ok (.irem, 1) := by decide +kernel
theorem dX8_draws_16 : decode cX8_draws 16 = .ok (.putfield 77, 3) := by decide +kernel
theorem dX8_draws_19 : decode cX8_draws 19 = .ok (.aload_n 0, 1) := by decide +kernel
theorem dX8_draws_20 : decode cX8_draws 20 = .ok (.getfield 77, 3) := by decide +kernel
theorem dX8_draws_23 : decode cX8_draws 23 = .ok (.iload_n 1, 1) := by decide +kernel
theorem dX8_draws_24 : decode cX8_draws 24 = .ok (.irem, 1) := by decide +kernel
theorem dX8_draws_25 : decode cX8_draws 25 = .ok (.ireturn, 1) := by decide +kernel
set_option maxRecDepth 20000 in
theorem ggX8_laysPairs_X8_cells : GoodIn wsX8_laysPairs wsX8_cells := goodIn_r _ [8, 9, 10, 41, 42, 43, 44, 45, 46, 47, 48, 49, 50, 51, 52, 53, 54, 55, 56, 57, 58, 59] (by decide +kernel) (by decide +kernel)
set_option maxRecDepth 20000 in
theorem gX8_laysPairs_X8_cells : GoodIn wsX8_laysPairs (wsV RX8 48 RX8 yX8_cells wsX8_cells) := goodIn_app (goodIn_of _ (by decide +kernel)) ggX8_laysPairs_X8_cells
set_option maxRecDepth 20000 in
theorem ggX8_laysPairs_X8_neighbourOf : GoodIn wsX8_laysPairs wsX8_neighbourOf := goodIn_r _ [14, 9, 10, 15, 41, 42, 43, 44, 45, 46, 47, 48, 49, 50, 51, 52, 53, 54, 55, 56, 57, 58, 59] (by decide +kernel) (by decide +kernel)
set_option maxRecDepth 20000 in
theorem gX8_laysPairs_X8_neighbourOf : GoodIn wsX8_laysPairs (wsV RX8 81 RX8 yX8_neighbourOf wsX8_neighbourOf) := goodIn_app (goodIn_of _ (by decide +kernel)) ggX8_laysPairs_X8_neighbourOf
set_option maxRecDepth 20000 in
theorem ggX8_laysPairs_X8_draws : GoodIn wsX8_laysPairs wsX8_draws := goodIn_r _ [19, 20, 21, 41, 42, 43, 44, 45, 46, 47, 48, 49, 50, 51, 52, 53, 54, 55, 56, 57, 58, 59] (by decide +kernel) (by decide +kernel)
set_option maxRecDepth 20000 in
theorem gX8_laysPairs_X8_draws : GoodIn wsX8_laysPairs (wsV RX8 85 RX8 yX8_draws wsX8_draws) := goodIn_app (goodIn_of _ (by decide +kernel)) ggX8_laysPairs_X8_draws
set_option maxRecDepth 20000 in
theorem ggX8_laysPairs_X8_reaches : GoodIn wsX8_laysPairs wsX8_reaches := goodIn_r _ [25, 2, 4, 5, 6, 7, 8, 9, 10, 26, 27, 28, 29, 3, 11, 12, 13, 14, 15, 30, 31, 32, 33, 34, 35, 36, 37, 38, 39, 40, 41, 42, 43, 44, 45, 46, 47, 48, 49, 50, 51, 52, 53, 54, 55, 56, 57, 58, 59] (by decide +kernel) (by decide +kernel)
set_option maxRecDepth 20000 in
theorem gX8_laysPairs_X8_reaches : GoodIn wsX8_laysPairs (wsV RX8 89 RX8 yX8_reaches wsX8_reaches) := goodIn_app (goodIn_of _ (by decide +kernel)) ggX8_laysPairs_X8_reaches
set_option maxRecDepth 20000 in
theorem ggX8_laysPairs_X8_opposite : GoodIn wsX8_laysPairs wsX8_opposite := goodIn_r _ [40] (by decide +kernel) (by decide +kernel)
set_option maxRecDepth 20000 in
theorem gX8_laysPairs_X8_opposite : GoodIn wsX8_laysPairs (va_wsS RX8 92 yX8_opposite wsX8_opposite) := goodIn_app (goodIn_of _ (by decide +kernel)) ggX8_laysPairs_X8_opposite
theorem dX8_laysPairs_0 : decode cX8_laysPairs 0 = .ok (.iconst 0, 1) := by decide +kernel
theorem dX8_laysPairs_1 : decode cX8_laysPairs 1 = .ok (.istore_n 1, 1) := by decide +kernel
theorem dX8_laysPairs_2 : decode cX8_laysPairs 2 = .ok (.iconst 0, 1) := by decide +kernel
theorem dX8_laysPairs_3 : decode cX8_laysPairs 3 = .ok (.istore_n 2, 1) := by decide +kernel
theorem dX8_laysPairs_4 : decode cX8_laysPairs 4 = .ok (.iload_n 2, 1) := by decide +kernel
theorem dX8_laysPairs_5 : decode cX8_laysPairs 5 = .ok (.aload_n 0, 1) := by decide +kernel
theorem dX8_laysPairs_6 : decode cX8_laysPairs 6 = .ok (.invokevirtual 48, 3) := by decide +kernel
theorem dX8_laysPairs_9 : decode cX8_laysPairs 9 = .ok (.if_icmp .ge 46, 3) := by decide +kernel
theorem dX8_laysPairs_12 : decode cX8_laysPairs 12 = .ok (.iconst 1, 1) := by decide +kernel
theorem dX8_laysPairs_13 : decode cX8_laysPairs 13 = .ok (.istore_n 3, 1) := by decide +kernel
theorem dX8_laysPairs_14 : decode cX8_laysPairs 14 = .ok (.iload_n 3, 1) := by decide +kernel
theorem dX8_laysPairs_15 : decode cX8_laysPairs 15 = .ok (.iconst 2, 1) := by decide +kernel
theorem dX8_laysPairs_16 : decode cX8_laysPairs 16 = .ok (.if_icmp .gt 33, 3) := by decide +kernel
theorem dX8_laysPairs_19 : decode cX8_laysPairs 19 = .ok (.aload_n 0, 1) := by decide +kernel
theorem dX8_laysPairs_20 : decode cX8_laysPairs 20 = .ok (.iload_n 2, 1) := by decide +kernel
theorem dX8_laysPairs_21 : decode cX8_laysPairs 21 = .ok (.iload_n 3, 1) := by decide +kernel
theorem dX8_laysPairs_22 : decode cX8_laysPairs 22 = .ok (.invokevirtual 81, 3) := by decide +kernel
theorem dX8_laysPairs_25 : decode cX8_laysPairs 25 = .ok (.iconst (-1), 1) := by decide +kernel
theorem dX8_laysPairs_26 : decode cX8_laysPairs 26 = .ok (.if_icmp .eq 17, 3) := by decide +kernel
theorem dX8_laysPairs_29 : decode cX8_laysPairs 29 = .ok (.aload_n 0, 1) := by decide +kernel
theorem dX8_laysPairs_30 : decode cX8_laysPairs 30 = .ok (.getfield 36, 3) := by decide +kernel
theorem dX8_laysPairs_33 : decode cX8_laysPairs 33 = .ok (.iload_n 1, 1) := by decide +kernel
theorem dX8_laysPairs_34 : decode cX8_laysPairs 34 = .ok (.iconst 4, 1) := by decide +kernel
theorem dX8_laysPairs_35 : decode cX8_laysPairs 35 = .ok (.iload_n 2, 1) := by decide +kernel
theorem dX8_laysPairs_36 : decode cX8_laysPairs 36 = .ok (.imul, 1) := by decide +kernel
theorem dX8_laysPairs_37 : decode cX8_laysPairs 37 = .ok (.iload_n 3, 1) := by decide +kernel
theorem dX8_laysPairs_38 : decode cX8_laysPairs 38 = .ok (.iadd, 1) := by decide +kernel
theorem dX8_laysPairs_39 : decode cX8_laysPairs 39 = .ok (.iastore, 1) := by decide +kernel
theorem dX8_laysPairs_40 : decode cX8_laysPairs 40 = .ok (.iinc 1 1, 3) := by decide +kernel
theorem dX8_laysPairs_43 : decode cX8_laysPairs 43 = .ok (.iinc 3 1, 3) := by decide +kernel
theorem dX8_laysPairs_46 : decode cX8_laysPairs 46 = .ok (.goto (-32), 3) := by decide +kernel
theorem dX8_laysPairs_49 : decode cX8_laysPairs 49 = .ok (.iinc 2 1, 3) := by decide +kernel
theorem dX8_laysPairs_52 : decode cX8_laysPairs 52 = .ok (.goto (-48), 3) := by decide +kernel
theorem dX8_laysPairs_55 : decode cX8_laysPairs 55 = .ok (.iload_n 1, 1) := by decide +kernel
theorem dX8_laysPairs_56 : decode cX8_laysPairs 56 = .ok (.iconst 1, 1) := by decide +kernel
theorem dX8_laysPairs_57 : decode cX8_laysPairs 57 = .ok (.isub, 1) := by decide +kernel
theorem dX8_laysPairs_58 : decode cX8_laysPairs 58 = .ok (.istore_n 2, 1) := by decide +kernel
theorem dX8_laysPairs_59 : decode cX8_laysPairs 59 = .ok (.iload_n 2, 1) := by decide +kernel
theorem dX8_laysPairs_60 : decode cX8_laysPairs 60 = .ok (.ifCond .le 45, 3) := by decide +kernel
theorem dX8_laysPairs_63 : decode cX8_laysPairs 63 = .ok (.aload_n 0, 1) := by decide +kernel
theorem dX8_laysPairs_64 : decode cX8_laysPairs 64 = .ok (.iload_n 2, 1) := by decide +kernel
theorem dX8_laysPairs_65 : decode cX8_laysPairs 65 = .ok (.iconst 1, 1) := by decide +kernel
theorem dX8_laysPairs_66 : decode cX8_laysPairs 66 = .ok (.iadd, 1) := by decide +kernel
theorem dX8_laysPairs_67 : decode cX8_laysPairs 67 = .ok (.invokevirtual 85, 3) := by decide +kernel
theorem dX8_laysPairs_70 : decode cX8_laysPairs 70 = .ok (.istore_n 3, 1) := by decide +kernel
theorem dX8_laysPairs_71 : decode cX8_laysPairs 71 = .ok (.aload_n 0, 1) := by decide +kernel
theorem dX8_laysPairs_72 : decode cX8_laysPairs 72 = .ok (.getfield 36, 3) := by decide +kernel
theorem dX8_laysPairs_75 : decode cX8_laysPairs 75 = .ok (.iload_n 2, 1) := by decide +kernel
theorem dX8_laysPairs_76 : decode cX8_laysPairs 76 = .ok (.iaload, 1) := by decide +kernel
theorem dX8_laysPairs_77 : decode cX8_laysPairs 77 = .ok (.istore 4, 2) := by decide +kernel
theorem dX8_laysPairs_79 : decode cX8_laysPairs 79 = .ok (.aload_n 0, 1) := by decide +kernel
theorem dX8_laysPairs_80 : decode cX8_laysPairs 80 = .ok (.getfield 36, 3) := by decide +kernel
theorem dX8_laysPairs_83 : decode cX8_laysPairs 83 = .ok (.iload_n 2, 1) := by decide +kernel
theorem dX8_laysPairs_84 : decode cX8_laysPairs 84 = .ok (.aload_n 0, 1) := by decide +kernel
theorem dX8_laysPairs_85 : decode cX8_laysPairs 85 = .ok (.getfield 36, 3) := by decide +kernel
theorem dX8_laysPairs_88 : decode cX8_laysPairs 88 = .ok (.iload_n 3, 1) := by decide +kernel
theorem dX8_laysPairs_89 : decode cX8_laysPairs 89 = .ok (.iaload, 1) := by decide +kernel
theorem dX8_laysPairs_90 : decode cX8_laysPairs 90 = .ok (.iastore, 1) := by decide +kernel
theorem dX8_laysPairs_91 : decode cX8_laysPairs 91 = .ok (.aload_n 0, 1) := by decide +kernel
theorem dX8_laysPairs_92 : decode cX8_laysPairs 92 = .ok (.getfield 36, 3) := by decide +kernel
theorem dX8_laysPairs_95 : decode cX8_laysPairs 95 = .ok (.iload_n 3, 1) := by decide +kernel
theorem dX8_laysPairs_96 : decode cX8_laysPairs 96 = .ok (.iload 4, 2) := by decide +kernel
theorem dX8_laysPairs_98 : decode cX8_laysPairs 98 = .ok (.iastore, 1) := by decide +kernel
theorem dX8_laysPairs_99 : decode cX8_laysPairs 99 = .ok (.iinc 2 (-1), 3) := by decide +kernel
theorem dX8_laysPairs_102 : decode cX8_laysPairs 102 = .ok (.goto (-43), 3) := by decide +kernel
theorem dX8_laysPairs_105 : decode cX8_laysPairs 105 = .ok (.iconst 0, 1) := by decide +kernel
theorem dX8_laysPairs_106 : decode cX8_laysPairs 106 = .ok (.istore_n 2, 1) := by decide +kernel
theorem dX8_laysPairs_107 : decode cX8_laysPairs 107 = .ok (.iload_n 2, 1) := by decide +kernel
theorem dX8_laysPairs_108 : decode cX8_laysPairs 108 = .ok (.iload_n 1, 1) := by decide +kernel
theorem dX8_laysPairs_109 : decode cX8_laysPairs 109 = .ok (.if_icmp .ge 83, 3) := by decide +kernel
theorem dX8_laysPairs_112 : decode cX8_laysPairs 112 = .ok (.aload_n 0, 1) := by decide +kernel
theorem dX8_laysPairs_113 : decode cX8_laysPairs 113 = .ok (.getfield 36, 3) := by decide +kernel
theorem dX8_laysPairs_116 : decode cX8_laysPairs 116 = .ok (.iload_n 2, 1) := by decide +kernel
theorem dX8_laysPairs_117 : decode cX8_laysPairs 117 = .ok (.iaload, 1) := by decide +kernel
theorem dX8_laysPairs_118 : decode cX8_laysPairs 118 = .ok (.iconst 4, 1) := by decide +kernel
theorem dX8_laysPairs_119 : decode cX8_laysPairs 119 = .ok (.idiv, 1) := by decide +kernel
theorem dX8_laysPairs_120 : decode cX8_laysPairs 120 = .ok (.istore_n 3, 1) := by decide +kernel
theorem dX8_laysPairs_121 : decode cX8_laysPairs 121 = .ok (.aload_n 0, 1) := by decide +kernel
theorem dX8_laysPairs_122 : decode cX8_laysPairs 122 = .ok (.getfield 36, 3) := by decide +kernel
theorem dX8_laysPairs_125 : decode cX8_laysPairs 125 = .ok (.iload_n 2, 1) := by decide +kernel
theorem dX8_laysPairs_126 : decode cX8_laysPairs 126 = .ok (.iaload, 1) := by decide +kernel
theorem dX8_laysPairs_127 : decode cX8_laysPairs 127 = .ok (.iconst 4, 1) := by decide +kernel
theorem dX8_laysPairs_128 : decode cX8_laysPairs 128 = .ok (.irem, 1) := by decide +kernel
theorem dX8_laysPairs_129 : decode cX8_laysPairs 129 = .ok (.istore 4, 2) := by decide +kernel
theorem dX8_laysPairs_131 : decode cX8_laysPairs 131 = .ok (.aload_n 0, 1) := by decide +kernel
theorem dX8_laysPairs_132 : decode cX8_laysPairs 132 = .ok (.iload_n 3, 1) := by decide +kernel
theorem dX8_laysPairs_133 : decode cX8_laysPairs 133 = .ok (.iload 4, 2) := by decide +kernel
theorem dX8_laysPairs_135 : decode cX8_laysPairs 135 = .ok (.invokevirtual 81, 3) := by decide +kernel
theorem dX8_laysPairs_138 : decode cX8_laysPairs 138 = .ok (.istore 5, 2) := by decide +kernel
theorem dX8_laysPairs_140 : decode cX8_laysPairs 140 = .ok (.aload_n 0, 1) := by decide +kernel
theorem dX8_laysPairs_141 : decode cX8_laysPairs 141 = .ok (.iload_n 3, 1) := by decide +kernel
theorem dX8_laysPairs_142 : decode cX8_laysPairs 142 = .ok (.invokevirtual 89, 3) := by decide +kernel
theorem dX8_laysPairs_145 : decode cX8_laysPairs 145 = .ok (.pop, 1) := by decide +kernel
theorem dX8_laysPairs_146 : decode cX8_laysPairs 146 = .ok (.aload_n 0, 1) := by decide +kernel
theorem dX8_laysPairs_147 : decode cX8_laysPairs 147 = .ok (.getfield 30, 3) := by decide +kernel
theorem dX8_laysPairs_150 : decode cX8_laysPairs 150 = .ok (.iload 5, 2) := by decide +kernel
theorem dX8_laysPairs_152 : decode cX8_laysPairs 152 = .ok (.baload, 1) := by decide +kernel
theorem dX8_laysPairs_153 : decode cX8_laysPairs 153 = .ok (.ifCond .ne 33, 3) := by decide +kernel
theorem dX8_laysPairs_156 : decode cX8_laysPairs 156 = .ok (.aload_n 0, 1) := by decide +kernel
theorem dX8_laysPairs_157 : decode cX8_laysPairs 157 = .ok (.getfield 16, 3) := by decide +kernel
theorem dX8_laysPairs_160 : decode cX8_laysPairs 160 = .ok (.iload_n 3, 1) := by decide +kernel
theorem dX8_laysPairs_161 : decode cX8_laysPairs 161 = .ok (.dup2, 1) := by decide +kernel
theorem dX8_laysPairs_162 : decode cX8_laysPairs 162 = .ok (.iaload, 1) := by decide +kernel
theorem dX8_laysPairs_163 : decode cX8_laysPairs 163 = .ok (.iconst 1, 1) := by decide +kernel
theorem dX8_laysPairs_164 : decode cX8_laysPairs 164 = .ok (.iload 4, 2) := by decide +kernel
theorem dX8_laysPairs_166 : decode cX8_laysPairs 166 = .ok (.ishl, 1) := by decide +kernel
theorem dX8_laysPairs_167 : decode cX8_laysPairs 167 = .ok (.ior, 1) := by decide +kernel
theorem dX8_laysPairs_168 : decode cX8_laysPairs 168 = .ok (.iastore, 1) := by decide +kernel
theorem dX8_laysPairs_169 : decode cX8_laysPairs 169 = .ok (.aload_n 0, 1) := by decide +kernel
theorem dX8_laysPairs_170 : decode cX8_laysPairs 170 = .ok (.getfield 16, 3) := by decide +kernel
theorem dX8_laysPairs_173 : decode cX8_laysPairs 173 = .ok (.iload 5, 2) := by decide +kernel
theorem dX8_laysPairs_175 : decode cX8_laysPairs 175 = .ok (.dup2, 1) := by decide +kernel
theorem dX8_laysPairs_176 : decode cX8_laysPairs 176 = .ok (.iaload, 1) := by decide +kernel
theorem dX8_laysPairs_177 : decode cX8_laysPairs 177 = .ok (.iconst 1, 1) := by decide +kernel
theorem dX8_laysPairs_178 : decode cX8_laysPairs 178 = .ok (.iload 4, 2) := by decide +kernel
theorem dX8_laysPairs_180 : decode cX8_laysPairs 180 = .ok (.invokestatic 92, 3) := by decide +kernel
theorem dX8_laysPairs_183 : decode cX8_laysPairs 183 = .ok (.ishl, 1) := by decide +kernel
theorem dX8_laysPairs_184 : decode cX8_laysPairs 184 = .ok (.ior, 1) := by decide +kernel
theorem dX8_laysPairs_185 : decode cX8_laysPairs 185 = .ok (.iastore, 1) := by decide +kernel
theorem dX8_laysPairs_186 : decode cX8_laysPairs 186 = .ok (.iinc 2 1, 3) := by decide +kernel
theorem dX8_laysPairs_189 : decode cX8_laysPairs 189 = .ok (.goto (-82), 3) := by decide +kernel
theorem dX8_laysPairs_192 : decode cX8_laysPairs 192 = .ok (.return_, 1) := by decide +kernel
set_option maxRecDepth 20000 in
theorem ggX8_make_X8_isBoard : GoodIn wsX8_make wsX8_isBoard := goodIn_r _ [7] (by decide +kernel) (by decide +kernel)
set_option maxRecDepth 20000 in
theorem gX8_make_X8_isBoard : GoodIn wsX8_make (va_wsS RX8 65 yX8_isBoard wsX8_isBoard) := goodIn_app (goodIn_of _ (by decide +kernel)) ggX8_make_X8_isBoard
set_option maxRecDepth 20000 in
theorem ggX8_make_X8_holds : GoodIn wsX8_make wsX8_holds := goodIn_r _ [11, 12, 67, 68, 69, 70, 71, 72, 73, 74, 75, 76, 77, 78, 79, 80, 81, 82, 83, 84, 85] (by decide +kernel) (by decide +kernel)
set_option maxRecDepth 20000 in
theorem gX8_make_X8_holds : GoodIn wsX8_make (wsV RX8 69 RX8 yX8_holds wsX8_holds) := goodIn_app (goodIn_of _ (by decide +kernel)) ggX8_make_X8_holds
set_option maxRecDepth 20000 in
theorem ggX8_make_X8_begins : GoodIn wsX8_make wsX8_begins := goodIn_r _ [16, 17, 18, 19, 20, 21, 22, 3, 23, 24, 67, 68, 69, 70, 71, 72, 73, 74, 75, 76, 77, 78, 79, 80, 81, 82, 83, 84, 85] (by decide +kernel) (by decide +kernel)
set_option maxRecDepth 20000 in
theorem gX8_make_X8_begins : GoodIn wsX8_make (wsV RX8 73 RX8 yX8_begins wsX8_begins) := goodIn_app (goodIn_of _ (by decide +kernel)) ggX8_make_X8_begins
set_option maxRecDepth 20000 in
theorem ggX8_make_X8_laysPairs : GoodIn wsX8_make wsX8_laysPairs := goodIn_r _ [28, 29, 30, 3, 31, 32, 33, 6, 34, 17, 18, 35, 36, 37, 38, 19, 39, 40, 41, 42, 2, 1, 43, 44, 45, 46, 47, 48, 49, 50, 51, 52, 53, 54, 23, 55, 56, 57, 58, 59, 60, 67, 68, 69, 70, 71, 72, 73, 74, 75, 76, 77, 78, 79, 80, 81, 82, 83, 84, 85] (by decide +kernel) (by decide +kernel)
set_option maxRecDepth 20000 in
theorem gX8_make_X8_laysPairs : GoodIn wsX8_make (wsV RX8 95 RX8 yX8_laysPairs wsX8_laysPairs) := goodIn_app (goodIn_of _ (by decide +kernel)) ggX8_make_X8_laysPairs
set_option maxRecDepth 20000 in
theorem ggX8_make_X8_cells : GoodIn wsX8_make wsX8_cells := goodIn_r _ [34, 17, 18, 67, 68, 69, 70, 71, 72, 73, 74, 75, 76, 77, 78, 79, 80, 81, 82, 83, 84, 85] (by decide +kernel) (by decide +kernel)
set_option maxRecDepth 20000 in
theorem gX8_make_X8_cells : GoodIn wsX8_make (wsV RX8 48 RX8 yX8_cells wsX8_cells) := goodIn_app (goodIn_of _ (by decide +kernel)) ggX8_make_X8_cells
set_option maxRecDepth 20000 in
theorem ggX8_make_X8_draws : GoodIn wsX8_make wsX8_draws := goodIn_r _ [42, 2, 1, 67, 68, 69, 70, 71, 72, 73, 74, 75, 76, 77, 78, 79, 80, 81, 82, 83, 84, 85] (by decide +kernel) (by decide +kernel)
set_option maxRecDepth 20000 in
theorem gX8_make_X8_draws : GoodIn wsX8_make (wsV RX8 85 RX8 yX8_draws wsX8_draws) := goodIn_app (goodIn_of _ (by decide +kernel)) ggX8_make_X8_draws
set_option maxRecDepth 20000 in
theorem ggX8_make_X8_turned : GoodIn wsX8_make wsX8_turned := goodIn_r _ [63] (by decide +kernel) (by decide +kernel)
set_option maxRecDepth 20000 in
theorem gX8_make_X8_turned : GoodIn wsX8_make (va_wsS RX8 98 yX8_turned wsX8_turned) := goodIn_app (goodIn_of _ (by decide +kernel)) ggX8_make_X8_turned
set_option maxRecDepth 20000 in
theorem ggX8_make_X8_sides : GoodIn wsX8_make wsX8_sides := goodIn_r _ [66] (by decide +kernel) (by decide +kernel)
set_option maxRecDepth 20000 in
theorem gX8_make_X8_sides : GoodIn wsX8_make (va_wsS RX8 101 yX8_sides wsX8_sides) := goodIn_app (goodIn_of _ (by decide +kernel)) ggX8_make_X8_sides
theorem dX8_make_0 : decode cX8_make 0 = .ok (.aload_n 0, 1) := by decide +kernel
theorem dX8_make_1 : decode cX8_make 1 = .ok (.iload_n 1, 1) := by decide +kernel
theorem dX8_make_2 : decode cX8_make 2 = .ok (.iload_n 2, 1) := by decide +kernel
theorem dX8_make_3 : decode cX8_make 3 = .ok (.iload_n 3, 1) := by decide +kernel
theorem dX8_make_4 : decode cX8_make 4 = .ok (.invokestatic 65, 3) := by decide +kernel
theorem dX8_make_7 : decode cX8_make 7 = .ok (.ifCond .eq 19, 3) := by decide +kernel
theorem dX8_make_10 : decode cX8_make 10 = .ok (.iload 4, 2) := by decide +kernel
theorem dX8_make_12 : decode cX8_make 12 = .ok (.ifCond .lt 14, 3) := by decide +kernel
theorem dX8_make_15 : decode cX8_make 15 = .ok (.iload 4, 2) := by decide +kernel
theorem dX8_make_17 : decode cX8_make 17 = .ok (.ldc 80, 2) := by decide +kernel
theorem dX8_make_19 : decode cX8_make 19 = .ok (.if_icmp .ge 7, 3) := by decide +kernel
theorem dX8_make_22 : decode cX8_make 22 = .ok (.iconst 0, 1) := by decide +kernel
theorem dX8_make_23 : decode cX8_make 23 = .ok (.goto 4, 3) := by decide +kernel
theorem dX8_make_26 : decode cX8_make 26 = .ok (.iconst 1, 1) := by decide +kernel
theorem dX8_make_27 : decode cX8_make 27 = .ok (.invokevirtual 69, 3) := by decide +kernel
theorem dX8_make_30 : decode cX8_make 30 = .ok (.ifCond .ne 5, 3) := by decide +kernel
theorem dX8_make_33 : decode cX8_make 33 = .ok (.iconst 0, 1) := by decide +kernel
theorem dX8_make_34 : decode cX8_make 34 = .ok (.ireturn, 1) := by decide +kernel
theorem dX8_make_35 : decode cX8_make 35 = .ok (.aload_n 0, 1) := by decide +kernel
theorem dX8_make_36 : decode cX8_make 36 = .ok (.iload_n 1, 1) := by decide +kernel
theorem dX8_make_37 : decode cX8_make 37 = .ok (.iload_n 2, 1) := by decide +kernel
theorem dX8_make_38 : decode cX8_make 38 = .ok (.iload_n 3, 1) := by decide +kernel
theorem dX8_make_39 : decode cX8_make 39 = .ok (.invokevirtual 73, 3) := by decide +kernel
theorem dX8_make_42 : decode cX8_make 42 = .ok (.aload_n 0, 1) := by decide +kernel
theorem dX8_make_43 : decode cX8_make 43 = .ok (.iload 4, 2) := by decide +kernel
theorem dX8_make_45 : decode cX8_make 45 = .ok (.putfield 77, 3) := by decide +kernel
theorem dX8_make_48 : decode cX8_make 48 = .ok (.aload_n 0, 1) := by decide +kernel
theorem dX8_make_49 : decode cX8_make 49 = .ok (.invokevirtual 95, 3) := by decide +kernel
theorem dX8_make_52 : decode cX8_make 52 = .ok (.iconst 0, 1) := by decide +kernel
theorem dX8_make_53 : decode cX8_make 53 = .ok (.istore 5, 2) := by decide +kernel
theorem dX8_make_55 : decode cX8_make 55 = .ok (.iconst 0, 1) := by decide +kernel
theorem dX8_make_56 : decode cX8_make 56 = .ok (.istore 6, 2) := by decide +kernel
theorem dX8_make_58 : decode cX8_make 58 = .ok (.iload 6, 2) := by decide +kernel
theorem dX8_make_60 : decode cX8_make 60 = .ok (.aload_n 0, 1) := by decide +kernel
theorem dX8_make_61 : decode cX8_make 61 = .ok (.invokevirtual 48, 3) := by decide +kernel
theorem dX8_make_64 : decode cX8_make 64 = .ok (.if_icmp .ge 55, 3) := by decide +kernel
theorem dX8_make_67 : decode cX8_make 67 = .ok (.aload_n 0, 1) := by decide +kernel
theorem dX8_make_68 : decode cX8_make 68 = .ok (.getfield 16, 3) := by decide +kernel
theorem dX8_make_71 : decode cX8_make 71 = .ok (.iload 6, 2) := by decide +kernel
theorem dX8_make_73 : decode cX8_make 73 = .ok (.aload_n 0, 1) := by decide +kernel
theorem dX8_make_74 : decode cX8_make 74 = .ok (.getfield 16, 3) := by decide +kernel
theorem dX8_make_77 : decode cX8_make 77 = .ok (.iload 6, 2) := by decide +kernel
theorem dX8_make_79 : decode cX8_make 79 = .ok (.iaload, 1) := by decide +kernel
theorem dX8_make_80 : decode cX8_make 80 = .ok (.aload_n 0, 1) := by decide +kernel
theorem dX8_make_81 : decode cX8_make 81 = .ok (.iconst 4, 1) := by decide +kernel
theorem dX8_make_82 : decode cX8_make 82 = .ok (.invokevirtual 85, 3) := by decide +kernel
theorem dX8_make_85 : decode cX8_make 85 = .ok (.invokestatic 98, 3) := by decide +kernel
theorem dX8_make_88 : decode cX8_make 88 = .ok (.iastore, 1) := by decide +kernel
theorem dX8_make_89 : decode cX8_make 89 = .ok (.iload 5, 2) := by decide +kernel
theorem dX8_make_91 : decode cX8_make 91 = .ok (.aload_n 0, 1) := by decide +kernel
theorem dX8_make_92 : decode cX8_make 92 = .ok (.getfield 16, 3) := by decide +kernel
theorem dX8_make_95 : decode cX8_make 95 = .ok (.iload 6, 2) := by decide +kernel
theorem dX8_make_97 : decode cX8_make 97 = .ok (.iaload, 1) := by decide +kernel
theorem dX8_make_98 : decode cX8_make 98 = .ok (.invokestatic 101, 3) := by decide +kernel
theorem dX8_make_101 : decode cX8_make 101 = .ok (.iconst 1, 1) := by decide +kernel
theorem dX8_make_102 : decode cX8_make 102 = .ok (.if_icmp .ne 7, 3) := by decide +kernel
theorem dX8_make_105 : decode cX8_make 105 = .ok (.iconst 1, 1) := by decide +kernel
theorem dX8_make_106 : decode cX8_make 106 = .ok (.goto 4, 3) := by decide +kernel
theorem dX8_make_109 : decode cX8_make 109 = .ok (.iconst 0, 1) := by decide +kernel
theorem dX8_make_110 : decode cX8_make 110 = .ok (.iadd, 1) := by decide +kernel
theorem dX8_make_111 : decode cX8_make 111 = .ok (.istore 5, 2) := by decide +kernel
theorem dX8_make_113 : decode cX8_make 113 = .ok (.iinc 6 1, 3) := by decide +kernel
theorem dX8_make_116 : decode cX8_make 116 = .ok (.goto (-58), 3) := by decide +kernel
theorem dX8_make_119 : decode cX8_make 119 = .ok (.iload 5, 2) := by decide +kernel
theorem dX8_make_121 : decode cX8_make 121 = .ok (.ireturn, 1) := by decide +kernel
set_option maxRecDepth 20000 in
theorem ggX8_setTile_X8_isCell : GoodIn wsX8_setTile wsX8_isCell := goodIn_r _ [8, 9, 10, 11, 7, 12, 13, 14, 20, 21, 22, 23, 24, 25, 26, 27, 28, 29, 30, 31, 32, 33, 34, 35, 36, 37, 38] (by decide +kernel) (by decide +kernel)
set_option maxRecDepth 20000 in
theorem gX8_setTile_X8_isCell : GoodIn wsX8_setTile (wsV RX8 104 RX8 yX8_isCell wsX8_isCell) := goodIn_app (goodIn_of _ (by decide +kernel)) ggX8_setTile_X8_isCell
set_option maxRecDepth 20000 in
theorem ggX8_setTile_X8_holds : GoodIn wsX8_setTile wsX8_holds := goodIn_r _ [18, 19, 20, 21, 22, 23, 24, 25, 26, 27, 28, 29, 30, 31, 32, 33, 34, 35, 36, 37, 38] (by decide +kernel) (by decide +kernel)
set_option maxRecDepth 20000 in
theorem gX8_setTile_X8_holds : GoodIn wsX8_setTile (wsV RX8 69 RX8 yX8_holds wsX8_holds) := goodIn_app (goodIn_of _ (by decide +kernel)) ggX8_setTile_X8_holds
theorem dX8_setTile_0 : decode cX8_setTile 0 = .ok (.aload_n 0, 1) := by decide +kernel
theorem dX8_setTile_1 : decode cX8_setTile 1 = .ok (.aload_n 0, 1) := by decide +kernel
theorem dX8_setTile_2 : decode cX8_setTile 2 = .ok (.iload_n 1, 1) := by decide +kernel
theorem dX8_setTile_3 : decode cX8_setTile 3 = .ok (.invokevirtual 104, 3) := by decide +kernel
theorem dX8_setTile_6 : decode cX8_setTile 6 = .ok (.ifCond .ne 7, 3) := by decide +kernel
theorem dX8_setTile_9 : decode cX8_setTile 9 = .ok (.iconst 1, 1) := by decide +kernel
theorem dX8_setTile_10 : decode cX8_setTile 10 = .ok (.goto 18, 3) := by decide +kernel
theorem dX8_setTile_13 : decode cX8_setTile 13 = .ok (.iload_n 2, 1) := by decide +kernel
theorem dX8_setTile_14 : decode cX8_setTile 14 = .ok (.ifCond .lt 9, 3) := by decide +kernel
theorem dX8_setTile_17 : decode cX8_setTile 17 = .ok (.iload_n 2, 1) := by decide +kernel
theorem dX8_setTile_18 : decode cX8_setTile 18 = .ok (.bipush 15, 2) := by decide +kernel
theorem dX8_setTile_20 : decode cX8_setTile 20 = .ok (.if_icmp .le 7, 3) := by decide +kernel
theorem dX8_setTile_23 : decode cX8_setTile 23 = .ok (.iconst 2, 1) := by decide +kernel
theorem dX8_setTile_24 : decode cX8_setTile 24 = .ok (.goto 4, 3) := by decide +kernel
theorem dX8_setTile_27 : decode cX8_setTile 27 = .ok (.iconst 0, 1) := by decide +kernel
theorem dX8_setTile_28 : decode cX8_setTile 28 = .ok (.invokevirtual 69, 3) := by decide +kernel
theorem dX8_setTile_31 : decode cX8_setTile 31 = .ok (.ifCond .ne 5, 3) := by decide +kernel
theorem dX8_setTile_34 : decode cX8_setTile 34 = .ok (.iconst 0, 1) := by decide +kernel
theorem dX8_setTile_35 : decode cX8_setTile 35 = .ok (.ireturn, 1) := by decide +kernel
theorem dX8_setTile_36 : decode cX8_setTile 36 = .ok (.aload_n 0, 1) := by decide +kernel
theorem dX8_setTile_37 : decode cX8_setTile 37 = .ok (.getfield 16, 3) := by decide +kernel
theorem dX8_setTile_40 : decode cX8_setTile 40 = .ok (.iload_n 1, 1) := by decide +kernel
theorem dX8_setTile_41 : decode cX8_setTile 41 = .ok (.iaload, 1) := by decide +kernel
theorem dX8_setTile_42 : decode cX8_setTile 42 = .ok (.istore_n 3, 1) := by decide +kernel
theorem dX8_setTile_43 : decode cX8_setTile 43 = .ok (.aload_n 0, 1) := by decide +kernel
theorem dX8_setTile_44 : decode cX8_setTile 44 = .ok (.getfield 16, 3) := by decide +kernel
theorem dX8_setTile_47 : decode cX8_setTile 47 = .ok (.iload_n 1, 1) := by decide +kernel
theorem dX8_setTile_48 : decode cX8_setTile 48 = .ok (.iload_n 2, 1) := by decide +kernel
theorem dX8_setTile_49 : decode cX8_setTile 49 = .ok (.iastore, 1) := by decide +kernel
theorem dX8_setTile_50 : decode cX8_setTile 50 = .ok (.aload_n 0, 1) := by decide +kernel
theorem dX8_setTile_51 : decode cX8_setTile 51 = .ok (.iconst 0, 1) := by decide +kernel
theorem dX8_setTile_52 : decode cX8_setTile 52 = .ok (.putfield 59, 3) := by decide +kernel
theorem dX8_setTile_55 : decode cX8_setTile 55 = .ok (.aload_n 0, 1) := by decide +kernel
theorem dX8_setTile_56 : decode cX8_setTile 56 = .ok (.iconst 0, 1) := by decide +kernel
theorem dX8_setTile_57 : decode cX8_setTile 57 = .ok (.putfield 62, 3) := by decide +kernel
theorem dX8_setTile_60 : decode cX8_setTile 60 = .ok (.iload_n 3, 1) := by decide +kernel
theorem dX8_setTile_61 : decode cX8_setTile 61 = .ok (.ireturn, 1) := by decide +kernel
theorem dX8_hasWall_0 : decode cX8_hasWall 0 = .ok (.aload_n 0, 1) := by decide +kernel
theorem dX8_hasWall_1 : decode cX8_hasWall 1 = .ok (.getfield 20, 3) := by decide +kernel
theorem dX8_hasWall_4 : decode cX8_hasWall 4 = .ok (.iload_n 1, 1) := by decide +kernel
theorem dX8_hasWall_5 : decode cX8_hasWall 5 = .ok (.iaload, 1) := by decide +kernel
theorem dX8_hasWall_6 : decode cX8_hasWall 6 = .ok (.iload_n 2, 1) := by decide +kernel
theorem dX8_hasWall_7 : decode cX8_hasWall 7 = .ok (.ishr, 1) := by decide +kernel
theorem dX8_hasWall_8 : decode cX8_hasWall 8 = .ok (.iconst 1, 1) := by decide +kernel
theorem dX8_hasWall_9 : decode cX8_hasWall 9 = .ok (.iand, 1) := by decide +kernel
theorem dX8_hasWall_10 : decode cX8_hasWall 10 = .ok (.iconst 1, 1) := by decide +kernel
theorem dX8_hasWall_11 : decode cX8_hasWall 11 = .ok (.if_icmp .ne 7, 3) := by decide +kernel
theorem dX8_hasWall_14 : decode cX8_hasWall 14 = .ok (.iconst 1, 1) := by decide +kernel
theorem dX8_hasWall_15 : decode cX8_hasWall 15 = .ok (.goto 4, 3) := by decide +kernel
theorem dX8_hasWall_18 : decode cX8_hasWall 18 = .ok (.iconst 0, 1) := by decide +kernel
theorem dX8_hasWall_19 : decode cX8_hasWall 19 = .ok (.ireturn, 1) := by decide +kernel
set_option maxRecDepth 20000 in
theorem ggX8_setWall_X8_isCell : GoodIn wsX8_setWall wsX8_isCell := goodIn_r _ [6, 7, 8, 9, 5, 10, 11, 12, 33, 34, 35, 36, 37, 38, 39, 40, 41, 42, 43, 44, 45, 46, 47, 48, 49, 50, 51] (by decide +kernel) (by decide +kernel)
set_option maxRecDepth 20000 in
theorem gX8_setWall_X8_isCell : GoodIn wsX8_setWall (wsV RX8 104 RX8 yX8_isCell wsX8_isCell) := goodIn_app (goodIn_of _ (by decide +kernel)) ggX8_setWall_X8_isCell
set_option maxRecDepth 20000 in
theorem ggX8_setWall_X8_isSide : GoodIn wsX8_setWall wsX8_isSide := goodIn_r _ [15] (by decide +kernel) (by decide +kernel)
set_option maxRecDepth 20000 in
theorem gX8_setWall_X8_isSide : GoodIn wsX8_setWall (va_wsS RX8 107 yX8_isSide wsX8_isSide) := goodIn_app (goodIn_of _ (by decide +kernel)) ggX8_setWall_X8_isSide
set_option maxRecDepth 20000 in
theorem ggX8_setWall_X8_neighbourOf : GoodIn wsX8_setWall wsX8_neighbourOf := goodIn_r _ [19, 11, 12, 20, 33, 34, 35, 36, 37, 38, 39, 40, 41, 42, 43, 44, 45, 46, 47, 48, 49, 50, 51] (by decide +kernel) (by decide +kernel)
set_option maxRecDepth 20000 in
theorem gX8_setWall_X8_neighbourOf : GoodIn wsX8_setWall (wsV RX8 81 RX8 yX8_neighbourOf wsX8_neighbourOf) := goodIn_app (goodIn_of _ (by decide +kernel)) ggX8_setWall_X8_neighbourOf
set_option maxRecDepth 20000 in
theorem ggX8_setWall_X8_holds : GoodIn wsX8_setWall wsX8_holds := goodIn_r _ [24, 25, 33, 34, 35, 36, 37, 38, 39, 40, 41, 42, 43, 44, 45, 46, 47, 48, 49, 50, 51] (by decide +kernel) (by decide +kernel)
set_option maxRecDepth 20000 in
theorem gX8_setWall_X8_holds : GoodIn wsX8_setWall (wsV RX8 69 RX8 yX8_holds wsX8_holds) := goodIn_app (goodIn_of _ (by decide +kernel)) ggX8_setWall_X8_holds
set_option maxRecDepth 20000 in
theorem ggX8_setWall_X8_hasWall : GoodIn wsX8_setWall wsX8_hasWall := goodIn_r _ [29, 1, 33, 34, 35, 36, 37, 38, 39, 40, 41, 42, 43, 44, 45, 46, 47, 48, 49, 50, 51] (by decide +kernel) (by decide +kernel)
set_option maxRecDepth 20000 in
theorem gX8_setWall_X8_hasWall : GoodIn wsX8_setWall (wsV RX8 110 RX8 yX8_hasWall wsX8_hasWall) := goodIn_app (goodIn_of _ (by decide +kernel)) ggX8_setWall_X8_hasWall
set_option maxRecDepth 20000 in
theorem ggX8_setWall_X8_opposite : GoodIn wsX8_setWall wsX8_opposite := goodIn_r _ [32] (by decide +kernel) (by decide +kernel)
set_option maxRecDepth 20000 in
theorem gX8_setWall_X8_opposite : GoodIn wsX8_setWall (va_wsS RX8 92 yX8_opposite wsX8_opposite) := goodIn_app (goodIn_of _ (by decide +kernel)) ggX8_setWall_X8_opposite
theorem dX8_setWall_0 : decode cX8_setWall 0 = .ok (.aload_n 0, 1) := by decide +kernel
theorem dX8_setWall_1 : decode cX8_setWall 1 = .ok (.iload_n 1, 1) := by decide +kernel
theorem dX8_setWall_2 : decode cX8_setWall 2 = .ok (.invokevirtual 104, 3) := by decide +kernel
theorem dX8_setWall_5 : decode cX8_setWall 5 = .ok (.ifCond .eq 14, 3) := by decide +kernel
theorem dX8_setWall_8 : decode cX8_setWall 8 = .ok (.iload_n 2, 1) := by decide +kernel
theorem dX8_setWall_9 : decode cX8_setWall 9 = .ok (.invokestatic 107, 3) := by decide +kernel
theorem dX8_setWall_12 : decode cX8_setWall 12 = .ok (.ifCond .eq 7, 3) := by decide +kernel
theorem dX8_setWall_15 : decode cX8_setWall 15 = .ok (.iconst 1, 1) := by decide +kernel
theorem dX8_setWall_16 : decode cX8_setWall 16 = .ok (.goto 4, 3) := by decide +kernel
theorem dX8_setWall_19 : decode cX8_setWall 19 = .ok (.iconst 0, 1) := by decide +kernel
theorem dX8_setWall_20 : decode cX8_setWall 20 = .ok (.istore 4, 2) := by decide +kernel
theorem dX8_setWall_22 : decode cX8_setWall 22 = .ok (.aload_n 0, 1) := by decide +kernel
theorem dX8_setWall_23 : decode cX8_setWall 23 = .ok (.iload 4, 2) := by decide +kernel
theorem dX8_setWall_25 : decode cX8_setWall 25 = .ok (.ifCond .ne 7, 3) := by decide +kernel
theorem dX8_setWall_28 : decode cX8_setWall 28 = .ok (.iconst 1, 1) := by decide +kernel
theorem dX8_setWall_29 : decode cX8_setWall 29 = .ok (.goto 18, 3) := by decide +kernel
theorem dX8_setWall_32 : decode cX8_setWall 32 = .ok (.aload_n 0, 1) := by decide +kernel
theorem dX8_setWall_33 : decode cX8_setWall 33 = .ok (.iload_n 1, 1) := by decide +kernel
theorem dX8_setWall_34 : decode cX8_setWall 34 = .ok (.iload_n 2, 1) := by decide +kernel
theorem dX8_setWall_35 : decode cX8_setWall 35 = .ok (.invokevirtual 81, 3) := by decide +kernel
theorem dX8_setWall_38 : decode cX8_setWall 38 = .ok (.iconst (-1), 1) := by decide +kernel
theorem dX8_setWall_39 : decode cX8_setWall 39 = .ok (.if_icmp .ne 7, 3) := by decide +kernel
theorem dX8_setWall_42 : decode cX8_setWall 42 = .ok (.iconst 2, 1) := by decide +kernel
theorem dX8_setWall_43 : decode cX8_setWall 43 = .ok (.goto 4, 3) := by decide +kernel
theorem dX8_setWall_46 : decode cX8_setWall 46 = .ok (.iconst 0, 1) := by decide +kernel
theorem dX8_setWall_47 : decode cX8_setWall 47 = .ok (.invokevirtual 69, 3) := by decide +kernel
theorem dX8_setWall_50 : decode cX8_setWall 50 = .ok (.ifCond .ne 5, 3) := by decide +kernel
theorem dX8_setWall_53 : decode cX8_setWall 53 = .ok (.iconst 0, 1) := by decide +kernel
theorem dX8_setWall_54 : decode cX8_setWall 54 = .ok (.ireturn, 1) := by decide +kernel
theorem dX8_setWall_55 : decode cX8_setWall 55 = .ok (.aload_n 0, 1) := by decide +kernel
theorem dX8_setWall_56 : decode cX8_setWall 56 = .ok (.iload_n 1, 1) := by decide +kernel
theorem dX8_setWall_57 : decode cX8_setWall 57 = .ok (.iload_n 2, 1) := by decide +kernel
theorem dX8_setWall_58 : decode cX8_setWall 58 = .ok (.invokevirtual 110, 3) := by decide +kernel
theorem dX8_setWall_61 : decode cX8_setWall 61 = .ok (.istore 5, 2) := by decide +kernel
theorem dX8_setWall_63 : decode cX8_setWall 63 = .ok (.aload_n 0, 1) := by decide +kernel
theorem dX8_setWall_64 : decode cX8_setWall 64 = .ok (.iload_n 1, 1) := by decide +kernel
theorem dX8_setWall_65 : decode cX8_setWall 65 = .ok (.iload_n 2, 1) := by decide +kernel
theorem dX8_setWall_66 : decode cX8_setWall 66 = .ok (.invokevirtual 81, 3) := by decide +kernel
theorem dX8_setWall_69 : decode cX8_setWall 69 = .ok (.istore 6, 2) := by decide +kernel
theorem dX8_setWall_71 : decode cX8_setWall 71 = .ok (.iload_n 2, 1) := by decide +kernel
theorem dX8_setWall_72 : decode cX8_setWall 72 = .ok (.invokestatic 92, 3) := by decide +kernel
theorem dX8_setWall_75 : decode cX8_setWall 75 = .ok (.istore 7, 2) := by decide +kernel
theorem dX8_setWall_77 : decode cX8_setWall 77 = .ok (.aload_n 0, 1) := by decide +kernel
theorem dX8_setWall_78 : decode cX8_setWall 78 = .ok (.getfield 20, 3) := by decide +kernel
theorem dX8_setWall_81 : decode cX8_setWall 81 = .ok (.iload_n 1, 1) := by decide +kernel
theorem dX8_setWall_82 : decode cX8_setWall 82 = .ok (.aload_n 0, 1) := by decide +kernel
theorem dX8_setWall_83 : decode cX8_setWall 83 = .ok (.getfield 20, 3) := by decide +kernel
theorem dX8_setWall_86 : decode cX8_setWall 86 = .ok (.iload_n 1, 1) := by decide +kernel
theorem dX8_setWall_87 : decode cX8_setWall 87 = .ok (.iaload, 1) := by decide +kernel
theorem dX8_setWall_88 : decode cX8_setWall 88 = .ok (.iconst 1, 1) := by decide +kernel
theorem dX8_setWall_89 : decode cX8_setWall 89 = .ok (.iload_n 2, 1) := by decide +kernel
theorem dX8_setWall_90 : decode cX8_setWall 90 = .ok (.ishl, 1) := by decide +kernel
theorem dX8_setWall_91 : decode cX8_setWall 91 = .ok (.iconst (-1), 1) := by decide +kernel
theorem dX8_setWall_92 : decode cX8_setWall 92 = .ok (.ixor, 1) := by decide +kernel
theorem dX8_setWall_93 : decode cX8_setWall 93 = .ok (.iand, 1) := by decide +kernel
theorem dX8_setWall_94 : decode cX8_setWall 94 = .ok (.iload_n 3, 1) := by decide +kernel
theorem dX8_setWall_95 : decode cX8_setWall 95 = .ok (.ifCond .eq 9, 3) := by decide +kernel
theorem dX8_setWall_98 : decode cX8_setWall 98 = .ok (.iconst 1, 1) := by decide +kernel
theorem dX8_setWall_99 : decode cX8_setWall 99 = .ok (.iload_n 2, 1) := by decide +kernel
theorem dX8_setWall_100 : decode cX8_setWall 100 = .ok (.ishl, 1) := by decide +kernel
theorem dX8_setWall_101 : decode cX8_setWall 101 = .ok (.goto 4, 3) := by decide +kernel
theorem dX8_setWall_104 : decode cX8_setWall 104 = .ok (.iconst 0, 1) := by decide +kernel
theorem dX8_setWall_105 : decode cX8_setWall 105 = .ok (.ior, 1) := by decide +kernel
theorem dX8_setWall_106 : decode cX8_setWall 106 = .ok (.iastore, 1) := by decide +kernel
theorem dX8_setWall_107 : decode cX8_setWall 107 = .ok (.aload_n 0, 1) := by decide +kernel
theorem dX8_setWall_108 : decode cX8_setWall 108 = .ok (.getfield 20, 3) := by decide +kernel
theorem dX8_setWall_111 : decode cX8_setWall 111 = .ok (.iload 6, 2) := by decide +kernel
theorem dX8_setWall_113 : decode cX8_setWall 113 = .ok (.aload_n 0, 1) := by decide +kernel
theorem dX8_setWall_114 : decode cX8_setWall 114 = .ok (.getfield 20, 3) := by decide +kernel
theorem dX8_setWall_117 : decode cX8_setWall 117 = .ok (.iload 6, 2) := by decide +kernel
theorem dX8_setWall_119 : decode cX8_setWall 119 = .ok (.iaload, 1) := by decide +kernel
theorem dX8_setWall_120 : decode cX8_setWall 120 = .ok (.iconst 1, 1) := by decide +kernel
theorem dX8_setWall_121 : decode cX8_setWall 121 = .ok (.iload 7, 2) := by decide +kernel
theorem dX8_setWall_123 : decode cX8_setWall 123 = .ok (.ishl, 1) := by decide +kernel
theorem dX8_setWall_124 : decode cX8_setWall 124 = .ok (.iconst (-1), 1) := by decide +kernel
theorem dX8_setWall_125 : decode cX8_setWall 125 = .ok (.ixor, 1) := by decide +kernel
theorem dX8_setWall_126 : decode cX8_setWall 126 = .ok (.iand, 1) := by decide +kernel
theorem dX8_setWall_127 : decode cX8_setWall 127 = .ok (.iload_n 3, 1) := by decide +kernel
theorem dX8_setWall_128 : decode cX8_setWall 128 = .ok (.ifCond .eq 10, 3) := by decide +kernel
theorem dX8_setWall_131 : decode cX8_setWall 131 = .ok (.iconst 1, 1) := by decide +kernel
theorem dX8_setWall_132 : decode cX8_setWall 132 = .ok (.iload 7, 2) := by decide +kernel
theorem dX8_setWall_134 : decode cX8_setWall 134 = .ok (.ishl, 1) := by decide +kernel
theorem dX8_setWall_135 : decode cX8_setWall 135 = .ok (.goto 4, 3) := by decide +kernel
theorem dX8_setWall_138 : decode cX8_setWall 138 = .ok (.iconst 0, 1) := by decide +kernel
theorem dX8_setWall_139 : decode cX8_setWall 139 = .ok (.ior, 1) := by decide +kernel
theorem dX8_setWall_140 : decode cX8_setWall 140 = .ok (.iastore, 1) := by decide +kernel
theorem dX8_setWall_141 : decode cX8_setWall 141 = .ok (.iload 5, 2) := by decide +kernel
theorem dX8_setWall_143 : decode cX8_setWall 143 = .ok (.ireturn, 1) := by decide +kernel
set_option maxRecDepth 20000 in
theorem ggX8_setLock_X8_isCell : GoodIn wsX8_setLock wsX8_isCell := goodIn_r _ [6, 7, 8, 9, 5, 10, 11, 12, 18, 19, 20, 21, 22, 23, 24, 25, 26, 27, 28, 29, 30, 31, 32, 33, 34, 35, 36] (by decide +kernel) (by decide +kernel)
set_option maxRecDepth 20000 in
theorem gX8_setLock_X8_isCell : GoodIn wsX8_setLock (wsV RX8 104 RX8 yX8_isCell wsX8_isCell) := goodIn_app (goodIn_of _ (by decide +kernel)) ggX8_setLock_X8_isCell
set_option maxRecDepth 20000 in
theorem ggX8_setLock_X8_holds : GoodIn wsX8_setLock wsX8_holds := goodIn_r _ [16, 17, 18, 19, 20, 21, 22, 23, 24, 25, 26, 27, 28, 29, 30, 31, 32, 33, 34, 35, 36] (by decide +kernel) (by decide +kernel)
set_option maxRecDepth 20000 in
theorem gX8_setLock_X8_holds : GoodIn wsX8_setLock (wsV RX8 69 RX8 yX8_holds wsX8_holds) := goodIn_app (goodIn_of _ (by decide +kernel)) ggX8_setLock_X8_holds
theorem dX8_setLock_0 : decode cX8_setLock 0 = .ok (.aload_n 0, 1) := by decide +kernel
theorem dX8_setLock_1 : decode cX8_setLock 1 = .ok (.aload_n 0, 1) := by decide +kernel
theorem dX8_setLock_2 : decode cX8_setLock 2 = .ok (.iload_n 1, 1) := by decide +kernel
theorem dX8_setLock_3 : decode cX8_setLock 3 = .ok (.invokevirtual 104, 3) := by decide +kernel
theorem dX8_setLock_6 : decode cX8_setLock 6 = .ok (.ifCond .eq 7, 3) := by decide +kernel
theorem dX8_setLock_9 : decode cX8_setLock 9 = .ok (.iconst 0, 1) := by decide +kernel
theorem dX8_setLock_10 : decode cX8_setLock 10 = .ok (.goto 4, 3) := by decide +kernel
theorem dX8_setLock_13 : decode cX8_setLock 13 = .ok (.iconst 1, 1) := by decide +kernel
theorem dX8_setLock_14 : decode cX8_setLock 14 = .ok (.invokevirtual 69, 3) := by decide +kernel
theorem dX8_setLock_17 : decode cX8_setLock 17 = .ok (.ifCond .ne 5, 3) := by decide +kernel
theorem dX8_setLock_20 : decode cX8_setLock 20 = .ok (.iconst 0, 1) := by decide +kernel
theorem dX8_setLock_21 : decode cX8_setLock 21 = .ok (.ireturn, 1) := by decide +kernel
theorem dX8_setLock_22 : decode cX8_setLock 22 = .ok (.aload_n 0, 1) := by decide +kernel
theorem dX8_setLock_23 : decode cX8_setLock 23 = .ok (.getfield 23, 3) := by decide +kernel
theorem dX8_setLock_26 : decode cX8_setLock 26 = .ok (.iload_n 1, 1) := by decide +kernel
theorem dX8_setLock_27 : decode cX8_setLock 27 = .ok (.baload, 1) := by decide +kernel
theorem dX8_setLock_28 : decode cX8_setLock 28 = .ok (.istore_n 3, 1) := by decide +kernel
theorem dX8_setLock_29 : decode cX8_setLock 29 = .ok (.aload_n 0, 1) := by decide +kernel
theorem dX8_setLock_30 : decode cX8_setLock 30 = .ok (.getfield 23, 3) := by decide +kernel
theorem dX8_setLock_33 : decode cX8_setLock 33 = .ok (.iload_n 1, 1) := by decide +kernel
theorem dX8_setLock_34 : decode cX8_setLock 34 = .ok (.iload_n 2, 1) := by decide +kernel
theorem dX8_setLock_35 : decode cX8_setLock 35 = .ok (.bastore, 1) := by decide +kernel
theorem dX8_setLock_36 : decode cX8_setLock 36 = .ok (.iload_n 3, 1) := by decide +kernel
theorem dX8_setLock_37 : decode cX8_setLock 37 = .ok (.ireturn, 1) := by decide +kernel
set_option maxRecDepth 20000 in
theorem ggX8_setSource_X8_isCell : GoodIn wsX8_setSource wsX8_isCell := goodIn_r _ [6, 7, 8, 9, 5, 10, 11, 12, 18, 19, 20, 21, 22, 23, 24, 25, 26, 27, 28, 29, 30, 31, 32, 33, 34, 35, 36] (by decide +kernel) (by decide +kernel)
set_option maxRecDepth 20000 in
theorem gX8_setSource_X8_isCell : GoodIn wsX8_setSource (wsV RX8 104 RX8 yX8_isCell wsX8_isCell) := goodIn_app (goodIn_of _ (by decide +kernel)) ggX8_setSource_X8_isCell
set_option maxRecDepth 20000 in
theorem ggX8_setSource_X8_holds : GoodIn wsX8_setSource wsX8_holds := goodIn_r _ [16, 17, 18, 19, 20, 21, 22, 23, 24, 25, 26, 27, 28, 29, 30, 31, 32, 33, 34, 35, 36] (by decide +kernel) (by decide +kernel)
set_option maxRecDepth 20000 in
theorem gX8_setSource_X8_holds : GoodIn wsX8_setSource (wsV RX8 69 RX8 yX8_holds wsX8_holds) := goodIn_app (goodIn_of _ (by decide +kernel)) ggX8_setSource_X8_holds
theorem dX8_setSource_0 : decode cX8_setSource 0 = .ok (.aload_n 0, 1) := by decide +kernel
theorem dX8_setSource_1 : decode cX8_setSource 1 = .ok (.aload_n 0, 1) := by decide +kernel
theorem dX8_setSource_2 : decode cX8_setSource 2 = .ok (.iload_n 1, 1) := by decide +kernel
theorem dX8_setSource_3 : decode cX8_setSource 3 = .ok (.invokevirtual 104, 3) := by decide +kernel
theorem dX8_setSource_6 : decode cX8_setSource 6 = .ok (.ifCond .eq 7, 3) := by decide +kernel
theorem dX8_setSource_9 : decode cX8_setSource 9 = .ok (.iconst 0, 1) := by decide +kernel
theorem dX8_setSource_10 : decode cX8_setSource 10 = .ok (.goto 4, 3) := by decide +kernel
theorem dX8_setSource_13 : decode cX8_setSource 13 = .ok (.iconst 1, 1) := by decide +kernel
theorem dX8_setSource_14 : decode cX8_setSource 14 = .ok (.invokevirtual 69, 3) := by decide +kernel
theorem dX8_setSource_17 : decode cX8_setSource 17 = .ok (.ifCond .ne 5, 3) := by decide +kernel
theorem dX8_setSource_20 : decode cX8_setSource 20 = .ok (.iconst 0, 1) := by decide +kernel
theorem dX8_setSource_21 : decode cX8_setSource 21 = .ok (.ireturn, 1) := by decide +kernel
theorem dX8_setSource_22 : decode cX8_setSource 22 = .ok (.aload_n 0, 1) := by decide +kernel
theorem dX8_setSource_23 : decode cX8_setSource 23 = .ok (.getfield 56, 3) := by decide +kernel
theorem dX8_setSource_26 : decode cX8_setSource 26 = .ok (.istore_n 2, 1) := by decide +kernel
theorem dX8_setSource_27 : decode cX8_setSource 27 = .ok (.aload_n 0, 1) := by decide +kernel
theorem dX8_setSource_28 : decode cX8_setSource 28 = .ok (.iload_n 1, 1) := by decide +kernel
theorem dX8_setSource_29 : decode cX8_setSource 29 = .ok (.putfield 56, 3) := by decide +kernel
theorem dX8_setSource_32 : decode cX8_setSource 32 = .ok (.iload_n 2, 1) := by decide +kernel
theorem dX8_setSource_33 : decode cX8_setSource 33 = .ok (.ireturn, 1) := by decide +kernel
set_option maxRecDepth 20000 in
theorem ggX8_turn_X8_isCell : GoodIn wsX8_turn wsX8_isCell := goodIn_r _ [10, 11, 12, 13, 9, 14, 15, 16, 25, 26, 27, 28, 29, 30, 31, 32, 33, 34, 35, 36, 37, 38, 39, 40, 41, 42, 43] (by decide +kernel) (by decide +kernel)
set_option maxRecDepth 20000 in
theorem gX8_turn_X8_isCell : GoodIn wsX8_turn (wsV RX8 104 RX8 yX8_isCell wsX8_isCell) := goodIn_app (goodIn_of _ (by decide +kernel)) ggX8_turn_X8_isCell
set_option maxRecDepth 20000 in
theorem ggX8_turn_X8_holds : GoodIn wsX8_turn wsX8_holds := goodIn_r _ [20, 21, 25, 26, 27, 28, 29, 30, 31, 32, 33, 34, 35, 36, 37, 38, 39, 40, 41, 42, 43] (by decide +kernel) (by decide +kernel)
set_option maxRecDepth 20000 in
theorem gX8_turn_X8_holds : GoodIn wsX8_turn (wsV RX8 69 RX8 yX8_holds wsX8_holds) := goodIn_app (goodIn_of _ (by decide +kernel)) ggX8_turn_X8_holds
set_option maxRecDepth 20000 in
theorem ggX8_turn_X8_turned : GoodIn wsX8_turn wsX8_turned := goodIn_r _ [24] (by decide +kernel) (by decide +kernel)
set_option maxRecDepth 20000 in
theorem gX8_turn_X8_turned : GoodIn wsX8_turn (va_wsS RX8 98 yX8_turned wsX8_turned) := goodIn_app (goodIn_of _ (by decide +kernel)) ggX8_turn_X8_turned
theorem dX8_turn_0 : decode cX8_turn 0 = .ok (.aload_n 0, 1) := by decide +kernel
theorem dX8_turn_1 : decode cX8_turn 1 = .ok (.iload_n 1, 1) := by decide +kernel
theorem dX8_turn_2 : decode cX8_turn 2 = .ok (.invokevirtual 104, 3) := by decide +kernel
theorem dX8_turn_5 : decode cX8_turn 5 = .ok (.istore_n 2, 1) := by decide +kernel
theorem dX8_turn_6 : decode cX8_turn 6 = .ok (.aload_n 0, 1) := by decide +kernel
theorem dX8_turn_7 : decode cX8_turn 7 = .ok (.iload_n 2, 1) := by decide +kernel
theorem dX8_turn_8 : decode cX8_turn 8 = .ok (.ifCond .ne 7, 3) := by decide +kernel
theorem dX8_turn_11 : decode cX8_turn 11 = .ok (.iconst 1, 1) := by decide +kernel
theorem dX8_turn_12 : decode cX8_turn 12 = .ok (.goto 17, 3) := by decide +kernel
theorem dX8_turn_15 : decode cX8_turn 15 = .ok (.aload_n 0, 1) := by decide +kernel
theorem dX8_turn_16 : decode cX8_turn 16 = .ok (.getfield 23, 3) := by decide +kernel
theorem dX8_turn_19 : decode cX8_turn 19 = .ok (.iload_n 1, 1) := by decide +kernel
theorem dX8_turn_20 : decode cX8_turn 20 = .ok (.baload, 1) := by decide +kernel
theorem dX8_turn_21 : decode cX8_turn 21 = .ok (.ifCond .eq 7, 3) := by decide +kernel
theorem dX8_turn_24 : decode cX8_turn 24 = .ok (.iconst 2, 1) := by decide +kernel
theorem dX8_turn_25 : decode cX8_turn 25 = .ok (.goto 4, 3) := by decide +kernel
theorem dX8_turn_28 : decode cX8_turn 28 = .ok (.iconst 0, 1) := by decide +kernel
theorem dX8_turn_29 : decode cX8_turn 29 = .ok (.invokevirtual 69, 3) := by decide +kernel
theorem dX8_turn_32 : decode cX8_turn 32 = .ok (.ifCond .ne 5, 3) := by decide +kernel
theorem dX8_turn_35 : decode cX8_turn 35 = .ok (.iconst 0, 1) := by decide +kernel
theorem dX8_turn_36 : decode cX8_turn 36 = .ok (.ireturn, 1) := by decide +kernel
theorem dX8_turn_37 : decode cX8_turn 37 = .ok (.aload_n 0, 1) := by decide +kernel
theorem dX8_turn_38 : decode cX8_turn 38 = .ok (.getfield 16, 3) := by decide +kernel
theorem dX8_turn_41 : decode cX8_turn 41 = .ok (.iload_n 1, 1) := by decide +kernel
theorem dX8_turn_42 : decode cX8_turn 42 = .ok (.aload_n 0, 1) := by decide +kernel
theorem dX8_turn_43 : decode cX8_turn 43 = .ok (.getfield 16, 3) := by decide +kernel
theorem dX8_turn_46 : decode cX8_turn 46 = .ok (.iload_n 1, 1) := by decide +kernel
theorem dX8_turn_47 : decode cX8_turn 47 = .ok (.iaload, 1) := by decide +kernel
theorem dX8_turn_48 : decode cX8_turn 48 = .ok (.iconst 1, 1) := by decide +kernel
theorem dX8_turn_49 : decode cX8_turn 49 = .ok (.invokestatic 98, 3) := by decide +kernel
theorem dX8_turn_52 : decode cX8_turn 52 = .ok (.iastore, 1) := by decide +kernel
theorem dX8_turn_53 : decode cX8_turn 53 = .ok (.aload_n 0, 1) := by decide +kernel
theorem dX8_turn_54 : decode cX8_turn 54 = .ok (.getfield 27, 3) := by decide +kernel
theorem dX8_turn_57 : decode cX8_turn 57 = .ok (.aload_n 0, 1) := by decide +kernel
theorem dX8_turn_58 : decode cX8_turn 58 = .ok (.getfield 62, 3) := by decide +kernel
theorem dX8_turn_61 : decode cX8_turn 61 = .ok (.sipush 4096, 3) := by decide +kernel
theorem dX8_turn_64 : decode cX8_turn 64 = .ok (.irem, 1) := by decide +kernel
theorem dX8_turn_65 : decode cX8_turn 65 = .ok (.iload_n 1, 1) := by decide +kernel
theorem dX8_turn_66 : decode cX8_turn 66 = .ok (.iastore, 1) := by decide +kernel
theorem dX8_turn_67 : decode cX8_turn 67 = .ok (.aload_n 0, 1) := by decide +kernel
theorem dX8_turn_68 : decode cX8_turn 68 = .ok (.dup, 1) := by decide +kernel
theorem dX8_turn_69 : decode cX8_turn 69 = .ok (.getfield 62, 3) := by decide +kernel
theorem dX8_turn_72 : decode cX8_turn 72 = .ok (.iconst 1, 1) := by decide +kernel
theorem dX8_turn_73 : decode cX8_turn 73 = .ok (.iadd, 1) := by decide +kernel
theorem dX8_turn_74 : decode cX8_turn 74 = .ok (.putfield 62, 3) := by decide +kernel
theorem dX8_turn_77 : decode cX8_turn 77 = .ok (.aload_n 0, 1) := by decide +kernel
theorem dX8_turn_78 : decode cX8_turn 78 = .ok (.aload_n 0, 1) := by decide +kernel
theorem dX8_turn_79 : decode cX8_turn 79 = .ok (.getfield 62, 3) := by decide +kernel
theorem dX8_turn_82 : decode cX8_turn 82 = .ok (.putfield 59, 3) := by decide +kernel
theorem dX8_turn_85 : decode cX8_turn 85 = .ok (.aload_n 0, 1) := by decide +kernel
theorem dX8_turn_86 : decode cX8_turn 86 = .ok (.getfield 16, 3) := by decide +kernel
theorem dX8_turn_89 : decode cX8_turn 89 = .ok (.iload_n 1, 1) := by decide +kernel
theorem dX8_turn_90 : decode cX8_turn 90 = .ok (.iaload, 1) := by decide +kernel
theorem dX8_turn_91 : decode cX8_turn 91 = .ok (.ireturn, 1) := by decide +kernel
set_option maxRecDepth 20000 in
theorem ggX8_undo_X8_holds : GoodIn wsX8_undo wsX8_holds := goodIn_r _ [8, 9, 13, 14, 15, 16, 17, 18, 19, 20, 21, 22, 23, 24, 25, 26, 27, 28, 29, 30, 31] (by decide +kernel) (by decide +kernel)
set_option maxRecDepth 20000 in
theorem gX8_undo_X8_holds : GoodIn wsX8_undo (wsV RX8 69 RX8 yX8_holds wsX8_holds) := goodIn_app (goodIn_of _ (by decide +kernel)) ggX8_undo_X8_holds
set_option maxRecDepth 20000 in
theorem ggX8_undo_X8_turned : GoodIn wsX8_undo wsX8_turned := goodIn_r _ [12] (by decide +kernel) (by decide +kernel)
set_option maxRecDepth 20000 in
theorem gX8_undo_X8_turned : GoodIn wsX8_undo (va_wsS RX8 98 yX8_turned wsX8_turned) := goodIn_app (goodIn_of _ (by decide +kernel)) ggX8_undo_X8_turned
theorem dX8_undo_0 : decode cX8_undo 0 = .ok (.aload_n 0, 1) := by decide +kernel
theorem dX8_undo_1 : decode cX8_undo 1 = .ok (.aload_n 0, 1) := by decide +kernel
theorem dX8_undo_2 : decode cX8_undo 2 = .ok (.getfield 62, 3) := by decide +kernel
theorem dX8_undo_5 : decode cX8_undo 5 = .ok (.ifCond .ne 7, 3) := by decide +kernel
theorem dX8_undo_8 : decode cX8_undo 8 = .ok (.iconst 1, 1) := by decide +kernel
theorem dX8_undo_9 : decode cX8_undo 9 = .ok (.goto 4, 3) := by decide +kernel
theorem dX8_undo_12 : decode cX8_undo 12 = .ok (.iconst 0, 1) := by decide +kernel
theorem dX8_undo_13 : decode cX8_undo 13 = .ok (.invokevirtual 69, 3) := by decide +kernel
theorem dX8_undo_16 : decode cX8_undo 16 = .ok (.ifCond .ne 5, 3) := by decide +kernel
theorem dX8_undo_19 : decode cX8_undo 19 = .ok (.iconst 0, 1) := by decide +kernel
theorem dX8_undo_20 : decode cX8_undo 20 = .ok (.ireturn, 1) := by decide +kernel
theorem dX8_undo_21 : decode cX8_undo 21 = .ok (.aload_n 0, 1) := by decide +kernel
theorem dX8_undo_22 : decode cX8_undo 22 = .ok (.dup, 1) := by decide +kernel
theorem dX8_undo_23 : decode cX8_undo 23 = .ok (.getfield 62, 3) := by decide +kernel
theorem dX8_undo_26 : decode cX8_undo 26 = .ok (.iconst 1, 1) := by decide +kernel
theorem dX8_undo_27 : decode cX8_undo 27 = .ok (.isub, 1) := by decide +kernel
theorem dX8_undo_28 : decode cX8_undo 28 = .ok (.putfield 62, 3) := by decide +kernel
theorem dX8_undo_31 : decode cX8_undo 31 = .ok (.aload_n 0, 1) := by decide +kernel
theorem dX8_undo_32 : decode cX8_undo 32 = .ok (.getfield 16, 3) := by decide +kernel
theorem dX8_undo_35 : decode cX8_undo 35 = .ok (.aload_n 0, 1) := by decide +kernel
theorem dX8_undo_36 : decode cX8_undo 36 = .ok (.getfield 27, 3) := by decide +kernel
theorem dX8_undo_39 : decode cX8_undo 39 = .ok (.aload_n 0, 1) := by decide +kernel
theorem dX8_undo_40 : decode cX8_undo 40 = .ok (.getfield 62, 3) := by decide +kernel
theorem dX8_undo_43 : decode cX8_undo 43 = .ok (.sipush 4096, 3) := by decide +kernel
theorem dX8_undo_46 : decode cX8_undo 46 = .ok (.irem, 1) := by decide +kernel
theorem dX8_undo_47 : decode cX8_undo 47 = .ok (.iaload, 1) := by decide +kernel
theorem dX8_undo_48 : decode cX8_undo 48 = .ok (.aload_n 0, 1) := by decide +kernel
theorem dX8_undo_49 : decode cX8_undo 49 = .ok (.getfield 16, 3) := by decide +kernel
theorem dX8_undo_52 : decode cX8_undo 52 = .ok (.aload_n 0, 1) := by decide +kernel
theorem dX8_undo_53 : decode cX8_undo 53 = .ok (.getfield 27, 3) := by decide +kernel
theorem dX8_undo_56 : decode cX8_undo 56 = .ok (.aload_n 0, 1) := by decide +kernel
theorem dX8_undo_57 : decode cX8_undo 57 = .ok (.getfield 62, 3) := by decide +kernel
theorem dX8_undo_60 : decode cX8_undo 60 = .ok (.sipush 4096, 3) := by decide +kernel
theorem dX8_undo_63 : decode cX8_undo 63 = .ok (.irem, 1) := by decide +kernel
theorem dX8_undo_64 : decode cX8_undo 64 = .ok (.iaload, 1) := by decide +kernel
theorem dX8_undo_65 : decode cX8_undo 65 = .ok (.iaload, 1) := by decide +kernel
theorem dX8_undo_66 : decode cX8_undo 66 = .ok (.iconst 3, 1) := by decide +kernel
theorem dX8_undo_67 : decode cX8_undo 67 = .ok (.invokestatic 98, 3) := by decide +kernel
theorem dX8_undo_70 : decode cX8_undo 70 = .ok (.iastore, 1) := by decide +kernel
theorem dX8_undo_71 : decode cX8_undo 71 = .ok (.aload_n 0, 1) := by decide +kernel
theorem dX8_undo_72 : decode cX8_undo 72 = .ok (.getfield 62, 3) := by decide +kernel
theorem dX8_undo_75 : decode cX8_undo 75 = .ok (.ireturn, 1) := by decide +kernel
set_option maxRecDepth 20000 in
theorem ggX8_redo_X8_holds : GoodIn wsX8_redo wsX8_holds := goodIn_r _ [9, 10, 14, 15, 16, 17, 18, 19, 20, 21, 22, 23, 24, 25, 26, 27, 28, 29, 30, 31, 32] (by decide +kernel) (by decide +kernel)
set_option maxRecDepth 20000 in
theorem gX8_redo_X8_holds : GoodIn wsX8_redo (wsV RX8 69 RX8 yX8_holds wsX8_holds) := goodIn_app (goodIn_of _ (by decide +kernel)) ggX8_redo_X8_holds
set_option maxRecDepth 20000 in
theorem ggX8_redo_X8_turned : GoodIn wsX8_redo wsX8_turned := goodIn_r _ [13] (by decide +kernel) (by decide +kernel)
set_option maxRecDepth 20000 in
theorem gX8_redo_X8_turned : GoodIn wsX8_redo (va_wsS RX8 98 yX8_turned wsX8_turned) := goodIn_app (goodIn_of _ (by decide +kernel)) ggX8_redo_X8_turned
theorem dX8_redo_0 : decode cX8_redo 0 = .ok (.aload_n 0, 1) := by decide +kernel
theorem dX8_redo_1 : decode cX8_redo 1 = .ok (.aload_n 0, 1) := by decide +kernel
theorem dX8_redo_2 : decode cX8_redo 2 = .ok (.getfield 62, 3) := by decide +kernel
theorem dX8_redo_5 : decode cX8_redo 5 = .ok (.aload_n 0, 1) := by decide +kernel
theorem dX8_redo_6 : decode cX8_redo 6 = .ok (.getfield 59, 3) := by decide +kernel
theorem dX8_redo_9 : decode cX8_redo 9 = .ok (.if_icmp .ne 7, 3) := by decide +kernel
theorem dX8_redo_12 : decode cX8_redo 12 = .ok (.iconst 1, 1) := by decide +kernel
theorem dX8_redo_13 : decode cX8_redo 13 = .ok (.goto 4, 3) := by decide +kernel
theorem dX8_redo_16 : decode cX8_redo 16 = .ok (.iconst 0, 1) := by decide +kernel
theorem dX8_redo_17 : decode cX8_redo 17 = .ok (.invokevirtual 69, 3) := by decide +kernel
theorem dX8_redo_20 : decode cX8_redo 20 = .ok (.ifCond .ne 5, 3) := by decide +kernel
theorem dX8_redo_23 : decode cX8_redo 23 = .ok (.iconst 0, 1) := by decide +kernel
theorem dX8_redo_24 : decode cX8_redo 24 = .ok (.ireturn, 1) := by decide +kernel
theorem dX8_redo_25 : decode cX8_redo 25 = .ok (.aload_n 0, 1) := by decide +kernel
theorem dX8_redo_26 : decode cX8_redo 26 = .ok (.getfield 16, 3) := by decide +kernel
theorem dX8_redo_29 : decode cX8_redo 29 = .ok (.aload_n 0, 1) := by decide +kernel
theorem dX8_redo_30 : decode cX8_redo 30 = .ok (.getfield 27, 3) := by decide +kernel
theorem dX8_redo_33 : decode cX8_redo 33 = .ok (.aload_n 0, 1) := by decide +kernel
theorem dX8_redo_34 : decode cX8_redo 34 = .ok (.getfield 62, 3) := by decide +kernel
theorem dX8_redo_37 : decode cX8_redo 37 = .ok (.sipush 4096, 3) := by decide +kernel
theorem dX8_redo_40 : decode cX8_redo 40 = .ok (.irem, 1) := by decide +kernel
theorem dX8_redo_41 : decode cX8_redo 41 = .ok (.iaload, 1) := by decide +kernel
theorem dX8_redo_42 : decode cX8_redo 42 = .ok (.aload_n 0, 1) := by decide +kernel
theorem dX8_redo_43 : decode cX8_redo 43 = .ok (.getfield 16, 3) := by decide +kernel
theorem dX8_redo_46 : decode cX8_redo 46 = .ok (.aload_n 0, 1) := by decide +kernel
theorem dX8_redo_47 : decode cX8_redo 47 = .ok (.getfield 27, 3) := by decide +kernel
theorem dX8_redo_50 : decode cX8_redo 50 = .ok (.aload_n 0, 1) := by decide +kernel
theorem dX8_redo_51 : decode cX8_redo 51 = .ok (.getfield 62, 3) := by decide +kernel
theorem dX8_redo_54 : decode cX8_redo 54 = .ok (.sipush 4096, 3) := by decide +kernel
theorem dX8_redo_57 : decode cX8_redo 57 = .ok (.irem, 1) := by decide +kernel
theorem dX8_redo_58 : decode cX8_redo 58 = .ok (.iaload, 1) := by decide +kernel
theorem dX8_redo_59 : decode cX8_redo 59 = .ok (.iaload, 1) := by decide +kernel
theorem dX8_redo_60 : decode cX8_redo 60 = .ok (.iconst 1, 1) := by decide +kernel
theorem dX8_redo_61 : decode cX8_redo 61 = .ok (.invokestatic 98, 3) := by decide +kernel
theorem dX8_redo_64 : decode cX8_redo 64 = .ok (.iastore, 1) := by decide +kernel
theorem dX8_redo_65 : decode cX8_redo 65 = .ok (.aload_n 0, 1) := by decide +kernel
theorem dX8_redo_66 : decode cX8_redo 66 = .ok (.dup, 1) := by decide +kernel
theorem dX8_redo_67 : decode cX8_redo 67 = .ok (.getfield 62, 3) := by decide +kernel
theorem dX8_redo_70 : decode cX8_redo 70 = .ok (.iconst 1, 1) := by decide +kernel
theorem dX8_redo_71 : decode cX8_redo 71 = .ok (.iadd, 1) := by decide +kernel
theorem dX8_redo_72 : decode cX8_redo 72 = .ok (.putfield 62, 3) := by decide +kernel
theorem dX8_redo_75 : decode cX8_redo 75 = .ok (.aload_n 0, 1) := by decide +kernel
theorem dX8_redo_76 : decode cX8_redo 76 = .ok (.getfield 62, 3) := by decide +kernel
theorem dX8_redo_79 : decode cX8_redo 79 = .ok (.ireturn, 1) := by decide +kernel
theorem dX8_moves_0 : decode cX8_moves 0 = .ok (.aload_n 0, 1) := by decide +kernel
theorem dX8_moves_1 : decode cX8_moves 1 = .ok (.iconst 0, 1) := by decide +kernel
theorem dX8_moves_2 : decode cX8_moves 2 = .ok (.putfield 45, 3) := by decide +kernel
theorem dX8_moves_5 : decode cX8_moves 5 = .ok (.aload_n 0, 1) := by decide +kernel
theorem dX8_moves_6 : decode cX8_moves 6 = .ok (.getfield 62, 3) := by decide +kernel
theorem dX8_moves_9 : decode cX8_moves 9 = .ok (.ireturn, 1) := by decide +kernel
set_option maxRecDepth 20000 in
theorem ggX8_size_X8_cells : GoodIn wsX8_size wsX8_cells := goodIn_r _ [6, 7, 8, 9, 10, 11, 12, 13, 14, 15, 16, 17, 18, 19, 20, 21, 22, 23, 24, 25, 26, 27] (by decide +kernel) (by decide +kernel)
set_option maxRecDepth 20000 in
theorem gX8_size_X8_cells : GoodIn wsX8_size (wsV RX8 48 RX8 yX8_cells wsX8_cells) := goodIn_app (goodIn_of _ (by decide +kernel)) ggX8_size_X8_cells
theorem dX8_size_0 : decode cX8_size 0 = .ok (.aload_n 0, 1) := by decide +kernel
theorem dX8_size_1 : decode cX8_size 1 = .ok (.iconst 0, 1) := by decide +kernel
theorem dX8_size_2 : decode cX8_size 2 = .ok (.putfield 45, 3) := by decide +kernel
theorem dX8_size_5 : decode cX8_size 5 = .ok (.aload_n 0, 1) := by decide +kernel
theorem dX8_size_6 : decode cX8_size 6 = .ok (.invokevirtual 48, 3) := by decide +kernel
theorem dX8_size_9 : decode cX8_size 9 = .ok (.ireturn, 1) := by decide +kernel
set_option maxRecDepth 20000 in
theorem ggX8_tile_X8_isCell : GoodIn wsX8_tile wsX8_isCell := goodIn_r _ [6, 7, 8, 9, 5, 10, 11, 12, 18, 19, 20, 21, 22, 23, 24, 25, 26, 27, 28, 29, 30, 31, 32, 33, 34, 35, 36] (by decide +kernel) (by decide +kernel)
set_option maxRecDepth 20000 in
theorem gX8_tile_X8_isCell : GoodIn wsX8_tile (wsV RX8 104 RX8 yX8_isCell wsX8_isCell) := goodIn_app (goodIn_of _ (by decide +kernel)) ggX8_tile_X8_isCell
set_option maxRecDepth 20000 in
theorem ggX8_tile_X8_holds : GoodIn wsX8_tile wsX8_holds := goodIn_r _ [16, 17, 18, 19, 20, 21, 22, 23, 24, 25, 26, 27, 28, 29, 30, 31, 32, 33, 34, 35, 36] (by decide +kernel) (by decide +kernel)
set_option maxRecDepth 20000 in
theorem gX8_tile_X8_holds : GoodIn wsX8_tile (wsV RX8 69 RX8 yX8_holds wsX8_holds) := goodIn_app (goodIn_of _ (by decide +kernel)) ggX8_tile_X8_holds
theorem dX8_tile_0 : decode cX8_tile 0 = .ok (.aload_n 0, 1) := by decide +kernel
theorem dX8_tile_1 : decode cX8_tile 1 = .ok (.aload_n 0, 1) := by decide +kernel
theorem dX8_tile_2 : decode cX8_tile 2 = .ok (.iload_n 1, 1) := by decide +kernel
theorem dX8_tile_3 : decode cX8_tile 3 = .ok (.invokevirtual 104, 3) := by decide +kernel
theorem dX8_tile_6 : decode cX8_tile 6 = .ok (.ifCond .eq 7, 3) := by decide +kernel
theorem dX8_tile_9 : decode cX8_tile 9 = .ok (.iconst 0, 1) := by decide +kernel
theorem dX8_tile_10 : decode cX8_tile 10 = .ok (.goto 4, 3) := by decide +kernel
theorem dX8_tile_13 : decode cX8_tile 13 = .ok (.iconst 1, 1) := by decide +kernel
theorem dX8_tile_14 : decode cX8_tile 14 = .ok (.invokevirtual 69, 3) := by decide +kernel
theorem dX8_tile_17 : decode cX8_tile 17 = .ok (.ifCond .eq 12, 3) := by decide +kernel
theorem dX8_tile_20 : decode cX8_tile 20 = .ok (.aload_n 0, 1) := by decide +kernel
theorem dX8_tile_21 : decode cX8_tile 21 = .ok (.getfield 16, 3) := by decide +kernel
theorem dX8_tile_24 : decode cX8_tile 24 = .ok (.iload_n 1, 1) := by decide +kernel
theorem dX8_tile_25 : decode cX8_tile 25 = .ok (.iaload, 1) := by decide +kernel
theorem dX8_tile_26 : decode cX8_tile 26 = .ok (.goto 4, 3) := by decide +kernel
theorem dX8_tile_29 : decode cX8_tile 29 = .ok (.iconst 0, 1) := by decide +kernel
theorem dX8_tile_30 : decode cX8_tile 30 = .ok (.ireturn, 1) := by decide +kernel
set_option maxRecDepth 20000 in
theorem ggX8_neighbour_X8_isCell : GoodIn wsX8_neighbour wsX8_isCell := goodIn_r _ [5, 6, 7, 8, 4, 9, 10, 11, 25, 26, 27, 28, 29, 30, 31, 32, 33, 34, 35, 36, 37, 38, 39, 40, 41, 42, 43] (by decide +kernel) (by decide +kernel)
set_option maxRecDepth 20000 in
theorem gX8_neighbour_X8_isCell : GoodIn wsX8_neighbour (wsV RX8 104 RX8 yX8_isCell wsX8_isCell) := goodIn_app (goodIn_of _ (by decide +kernel)) ggX8_neighbour_X8_isCell
set_option maxRecDepth 20000 in
theorem ggX8_neighbour_X8_isSide : GoodIn wsX8_neighbour wsX8_isSide := goodIn_r _ [14] (by decide +kernel) (by decide +kernel)
set_option maxRecDepth 20000 in
theorem gX8_neighbour_X8_isSide : GoodIn wsX8_neighbour (va_wsS RX8 107 yX8_isSide wsX8_isSide) := goodIn_app (goodIn_of _ (by decide +kernel)) ggX8_neighbour_X8_isSide
set_option maxRecDepth 20000 in
theorem ggX8_neighbour_X8_holds : GoodIn wsX8_neighbour wsX8_holds := goodIn_r _ [18, 19, 25, 26, 27, 28, 29, 30, 31, 32, 33, 34, 35, 36, 37, 38, 39, 40, 41, 42, 43] (by decide +kernel) (by decide +kernel)
set_option maxRecDepth 20000 in
theorem gX8_neighbour_X8_holds : GoodIn wsX8_neighbour (wsV RX8 69 RX8 yX8_holds wsX8_holds) := goodIn_app (goodIn_of _ (by decide +kernel)) ggX8_neighbour_X8_holds
set_option maxRecDepth 20000 in
theorem ggX8_neighbour_X8_neighbourOf : GoodIn wsX8_neighbour wsX8_neighbourOf := goodIn_r _ [23, 10, 11, 24, 25, 26, 27, 28, 29, 30, 31, 32, 33, 34, 35, 36, 37, 38, 39, 40, 41, 42, 43] (by decide +kernel) (by decide +kernel)
set_option maxRecDepth 20000 in
theorem gX8_neighbour_X8_neighbourOf : GoodIn wsX8_neighbour (wsV RX8 81 RX8 yX8_neighbourOf wsX8_neighbourOf) := goodIn_app (goodIn_of _ (by decide +kernel)) ggX8_neighbour_X8_neighbourOf
theorem dX8_neighbour_0 : decode cX8_neighbour 0 = .ok (.aload_n 0, 1) := by decide +kernel
theorem dX8_neighbour_1 : decode cX8_neighbour 1 = .ok (.aload_n 0, 1) := by decide +kernel
theorem dX8_neighbour_2 : decode cX8_neighbour 2 = .ok (.iload_n 1, 1) := by decide +kernel
theorem dX8_neighbour_3 : decode cX8_neighbour 3 = .ok (.invokevirtual 104, 3) := by decide +kernel
theorem dX8_neighbour_6 : decode cX8_neighbour 6 = .ok (.ifCond .eq 14, 3) := by decide +kernel
theorem dX8_neighbour_9 : decode cX8_neighbour 9 = .ok (.iload_n 2, 1) := by decide +kernel
theorem dX8_neighbour_10 : decode cX8_neighbour 10 = .ok (.invokestatic 107, 3) := by decide +kernel
theorem dX8_neighbour_13 : decode cX8_neighbour 13 = .ok (.ifCond .eq 7, 3) := by decide +kernel
theorem dX8_neighbour_16 : decode cX8_neighbour 16 = .ok (.iconst 0, 1) := by decide +kernel
theorem dX8_neighbour_17 : decode cX8_neighbour 17 = .ok (.goto 4, 3) := by decide +kernel
theorem dX8_neighbour_20 : decode cX8_neighbour 20 = .ok (.iconst 1, 1) := by decide +kernel
theorem dX8_neighbour_21 : decode cX8_neighbour 21 = .ok (.invokevirtual 69, 3) := by decide +kernel
theorem dX8_neighbour_24 : decode cX8_neighbour 24 = .ok (.ifCond .eq 12, 3) := by decide +kernel
theorem dX8_neighbour_27 : decode cX8_neighbour 27 = .ok (.aload_n 0, 1) := by decide +kernel
theorem dX8_neighbour_28 : decode cX8_neighbour 28 = .ok (.iload_n 1, 1) := by decide +kernel
theorem dX8_neighbour_29 : decode cX8_neighbour 29 = .ok (.iload_n 2, 1) := by decide +kernel
theorem dX8_neighbour_30 : decode cX8_neighbour 30 = .ok (.invokevirtual 81, 3) := by decide +kernel
theorem dX8_neighbour_33 : decode cX8_neighbour 33 = .ok (.goto 4, 3) := by decide +kernel
theorem dX8_neighbour_36 : decode cX8_neighbour 36 = .ok (.iconst 0, 1) := by decide +kernel
theorem dX8_neighbour_37 : decode cX8_neighbour 37 = .ok (.ireturn, 1) := by decide +kernel
set_option maxRecDepth 20000 in
theorem ggX8_joins_X8_neighbourOf : GoodIn wsX8_joins wsX8_neighbourOf := goodIn_r _ [6, 7, 8, 9, 21, 22, 23, 24, 25, 26, 27, 28, 29, 30, 31, 32, 33, 34, 35, 36, 37, 38, 39] (by decide +kernel) (by decide +kernel)
set_option maxRecDepth 20000 in
theorem gX8_joins_X8_neighbourOf : GoodIn wsX8_joins (wsV RX8 81 RX8 yX8_neighbourOf wsX8_neighbourOf) := goodIn_app (goodIn_of _ (by decide +kernel)) ggX8_joins_X8_neighbourOf
set_option maxRecDepth 20000 in
theorem ggX8_joins_X8_hasWall : GoodIn wsX8_joins wsX8_hasWall := goodIn_r _ [13, 14, 21, 22, 23, 24, 25, 26, 27, 28, 29, 30, 31, 32, 33, 34, 35, 36, 37, 38, 39] (by decide +kernel) (by decide +kernel)
set_option maxRecDepth 20000 in
theorem gX8_joins_X8_hasWall : GoodIn wsX8_joins (wsV RX8 110 RX8 yX8_hasWall wsX8_hasWall) := goodIn_app (goodIn_of _ (by decide +kernel)) ggX8_joins_X8_hasWall
set_option maxRecDepth 20000 in
theorem ggX8_joins_X8_isOpen : GoodIn wsX8_joins wsX8_isOpen := goodIn_r _ [17] (by decide +kernel) (by decide +kernel)
set_option maxRecDepth 20000 in
theorem gX8_joins_X8_isOpen : GoodIn wsX8_joins (va_wsS RX8 114 yX8_isOpen wsX8_isOpen) := goodIn_app (goodIn_of _ (by decide +kernel)) ggX8_joins_X8_isOpen
set_option maxRecDepth 20000 in
theorem ggX8_joins_X8_opposite : GoodIn wsX8_joins wsX8_opposite := goodIn_r _ [20] (by decide +kernel) (by decide +kernel)
set_option maxRecDepth 20000 in
theorem gX8_joins_X8_opposite : GoodIn wsX8_joins (va_wsS RX8 92 yX8_opposite wsX8_opposite) := goodIn_app (goodIn_of _ (by decide +kernel)) ggX8_joins_X8_opposite
