theorem dL_draw_0 : decode cL_draw 0 = .ok (.iload_n 1, 1) := by decide +kernel
theorem dL_draw_1 : decode cL_draw 1 = .ok (.aload_n 0, 1) := by decide +kernel
theorem dL_draw_2 : decode cL_draw 2 = .ok (.arraylength, 1) := by decide +kernel
theorem dL_draw_3 : decode cL_draw 3 = .ok (.if_icmp .ge 12, 3) := by decide +kernel
theorem dL_draw_6 : decode cL_draw 6 = .ok (.aload_n 0, 1) := by decide +kernel
theorem dL_draw_7 : decode cL_draw 7 = .ok (.iload_n 1, 1) := by decide +kernel
theorem dL_draw_8 : decode cL_draw 8 = .ok (.iaload, 1) := by decide +kernel
theorem dL_draw_9 : decode cL_draw 9 = .ok (.ldc 7, 2) := by decide +kernel
theorem dL_draw_11 : decode cL_draw 11 = .ok (.iand, 1) := by decide +kernel
theorem dL_draw_12 : decode cL_draw 12 = .ok (.goto 12, 3) := by decide +kernel
theorem dL_draw_15 : decode cL_draw 15 = .ok (.ldc 8, 2) := by decide +kernel
theorem dL_draw_17 : decode cL_draw 17 = .ok (.iload_n 1, 1) := by decide +kernel
theorem dL_draw_18 : decode cL_draw 18 = .ok (.iconst 2, 1) := by decide +kernel
theorem dL_draw_19 : decode cL_draw 19 = .ok (.iadd, 1) := by decide +kernel
theorem dL_draw_20 : decode cL_draw 20 = .ok (.imul, 1) := by decide +kernel
theorem dL_draw_21 : decode cL_draw 21 = .ok (.ldc 9, 2) := by decide +kernel
theorem dL_draw_23 : decode cL_draw 23 = .ok (.irem, 1) := by decide +kernel
theorem dL_draw_24 : decode cL_draw 24 = .ok (.ireturn, 1) := by decide +kernel
theorem dL_turned_0 : decode cL_turned 0 = .ok (.iload_n 0, 1) := by decide +kernel
theorem dL_turned_1 : decode cL_turned 1 = .ok (.iconst 1, 1) := by decide +kernel
theorem dL_turned_2 : decode cL_turned 2 = .ok (.ishl, 1) := by decide +kernel
theorem dL_turned_3 : decode cL_turned 3 = .ok (.bipush 15, 2) := by decide +kernel
theorem dL_turned_5 : decode cL_turned 5 = .ok (.iand, 1) := by decide +kernel
theorem dL_turned_6 : decode cL_turned 6 = .ok (.iload_n 0, 1) := by decide +kernel
theorem dL_turned_7 : decode cL_turned 7 = .ok (.iconst 3, 1) := by decide +kernel
theorem dL_turned_8 : decode cL_turned 8 = .ok (.ishr, 1) := by decide +kernel
theorem dL_turned_9 : decode cL_turned 9 = .ok (.ior, 1) := by decide +kernel
theorem dL_turned_10 : decode cL_turned 10 = .ok (.ireturn, 1) := by decide +kernel
theorem dL_sides_0 : decode cL_sides 0 = .ok (.iload_n 0, 1) := by decide +kernel
theorem dL_sides_1 : decode cL_sides 1 = .ok (.iconst 1, 1) := by decide +kernel
theorem dL_sides_2 : decode cL_sides 2 = .ok (.iand, 1) := by decide +kernel
theorem dL_sides_3 : decode cL_sides 3 = .ok (.iload_n 0, 1) := by decide +kernel
theorem dL_sides_4 : decode cL_sides 4 = .ok (.iconst 1, 1) := by decide +kernel
theorem dL_sides_5 : decode cL_sides 5 = .ok (.ishr, 1) := by decide +kernel
theorem dL_sides_6 : decode cL_sides 6 = .ok (.iconst 1, 1) := by decide +kernel
theorem dL_sides_7 : decode cL_sides 7 = .ok (.iand, 1) := by decide +kernel
theorem dL_sides_8 : decode cL_sides 8 = .ok (.iadd, 1) := by decide +kernel
theorem dL_sides_9 : decode cL_sides 9 = .ok (.iload_n 0, 1) := by decide +kernel
theorem dL_sides_10 : decode cL_sides 10 = .ok (.iconst 2, 1) := by decide +kernel
theorem dL_sides_11 : decode cL_sides 11 = .ok (.ishr, 1) := by decide +kernel
theorem dL_sides_12 : decode cL_sides 12 = .ok (.iconst 1, 1) := by decide +kernel
theorem dL_sides_13 : decode cL_sides 13 = .ok (.iand, 1) := by decide +kernel
theorem dL_sides_14 : decode cL_sides 14 = .ok (.iadd, 1) := by decide +kernel
theorem dL_sides_15 : decode cL_sides 15 = .ok (.iload_n 0, 1) := by decide +kernel
theorem dL_sides_16 : decode cL_sides 16 = .ok (.iconst 3, 1) := by decide +kernel
theorem dL_sides_17 : decode cL_sides 17 = .ok (.ishr, 1) := by decide +kernel
theorem dL_sides_18 : decode cL_sides 18 = .ok (.iconst 1, 1) := by decide +kernel
theorem dL_sides_19 : decode cL_sides 19 = .ok (.iand, 1) := by decide +kernel
theorem dL_sides_20 : decode cL_sides 20 = .ok (.iadd, 1) := by decide +kernel
theorem dL_sides_21 : decode cL_sides 21 = .ok (.ireturn, 1) := by decide +kernel
set_option maxRecDepth 20000 in
theorem ggL_step_X7_size : GoodIn wsL_step wsX7_size := goodIn_r _ [5, 6, 7, 8, 9, 10, 11, 12, 400, 401, 402, 403, 404, 405, 406, 407, 408, 409, 410, 411, 412, 413] (by decide +kernel) (by decide +kernel)
set_option maxRecDepth 20000 in
theorem gL_step_X7_size : GoodIn wsL_step (wsV RL 10 RX7 yX7_size wsX7_size) := goodIn_app (goodIn_of _ (by decide +kernel)) ggL_step_X7_size
set_option maxRecDepth 20000 in
theorem ggL_step_L_begins : GoodIn wsL_step wsL_begins := goodIn_ca (goodIn_ca (goodIn_r _ [16, 17, 1, 2, 3, 4, 5, 6, 7, 8, 9, 10, 11, 12, 18, 19, 20, 21, 22, 23, 24, 25, 26, 27, 28, 29, 30, 31, 32, 33, 34, 35, 36, 37, 38, 39, 40, 41, 42, 43, 44, 45, 46, 47, 48, 49, 50, 51, 52, 53, 54, 55, 56, 57, 58, 59, 60, 61, 62, 63, 64, 65, 66, 67, 68, 69, 70, 71, 72, 73, 74, 75, 76, 77, 78, 79, 80, 81, 82, 83, 84, 85, 86, 87, 88, 89, 90, 91, 92, 93, 94, 95, 96, 97, 98, 99, 100, 101, 102, 103, 104, 105, 106, 107, 108, 109, 110, 111, 112, 113, 114, 115, 116, 117, 118, 119, 120, 121, 122, 123, 124, 125, 126, 127, 128, 129, 130, 131, 132, 133, 134, 135, 136, 137, 138, 139, 140, 141, 142, 143, 144, 145, 146, 147, 148, 149, 150, 151, 152, 153, 154, 155, 156, 157, 158, 159, 160, 161, 162, 163, 164, 165, 166, 167, 168, 169, 170, 171, 172, 173, 174, 175, 176, 177, 178, 179, 180, 181, 182, 183, 184, 185, 186, 187, 188, 189, 190, 191, 192, 193, 194, 195, 196, 197, 198, 199, 200, 201, 202, 203, 204, 205, 206, 207, 208, 209, 210, 211, 212, 213, 214, 215, 216, 217, 218, 219, 220, 221, 222, 223, 224, 225, 226, 227, 228, 229, 230, 231, 232, 233, 234, 235, 236, 237, 238, 239, 240, 241, 242, 243, 244, 245, 246, 247, 248, 249, 250, 251, 252, 253, 254, 255, 256, 257, 258, 259, 260, 261, 262, 263, 264, 265, 266, 267, 268, 269, 270, 271, 272, 273, 274, 275, 276, 277, 278, 279, 280, 281, 282, 283, 284, 285, 286, 287, 288, 289, 290, 291, 292, 293, 294, 295, 296, 297, 298, 299, 300, 301, 302, 15, 303, 304, 305, 306, 307, 308, 309, 310, 311, 400, 401, 402, 403, 404, 405, 406, 407, 408, 409, 410, 411, 412, 413, 414, 415, 416, 417, 418, 419, 420, 421, 422, 423, 424, 425, 426, 427, 428, 429, 430, 431, 432, 433, 434] (by decide +kernel) (by decide +kernel)) (goodIn_sub (fun _ h => List.mem_cons_of_mem _ (List.mem_append_left _ (List.mem_append_left _ (List.mem_append_right _ h)))) (by decide +kernel))) (goodIn_sub (fun _ h => List.mem_cons_of_mem _ (List.mem_append_left _ (List.mem_append_right _ h))) (by decide +kernel))
set_option maxRecDepth 20000 in
theorem gL_step_L_begins : GoodIn wsL_step (va_wsS RL 16 yL_begins wsL_begins) := goodIn_app (goodIn_of _ (by decide +kernel)) ggL_step_L_begins
set_option maxRecDepth 20000 in
theorem ggL_step_X7_setTile : GoodIn wsL_step wsX7_setTile := goodIn_ca (goodIn_ca (goodIn_r _ [315, 26, 27, 6, 35, 293, 294, 295, 4, 296, 297, 298, 299, 59, 60, 10, 61, 12, 300, 80, 81, 82, 40, 83, 84, 316, 277, 278, 279, 58, 64, 65, 66, 67, 68, 69, 70, 400, 401, 402, 403, 404, 405, 406, 407, 408, 409, 410, 411, 412, 413, 414, 415, 416] (by decide +kernel) (by decide +kernel)) (goodIn_sub (fun _ h => List.mem_cons_of_mem _ (List.mem_append_left _ (List.mem_append_left _ (List.mem_append_right _ h)))) (by decide +kernel))) (goodIn_sub (fun _ h => List.mem_cons_of_mem _ (List.mem_append_left _ (List.mem_append_right _ h))) (by decide +kernel))
set_option maxRecDepth 20000 in
theorem gL_step_X7_setTile : GoodIn wsL_step (wsV RL 22 RX7 yX7_setTile wsX7_setTile) := goodIn_app (goodIn_of _ (by decide +kernel)) ggL_step_X7_setTile
set_option maxRecDepth 20000 in
theorem ggL_step_X7_moves : GoodIn wsL_step wsX7_moves := goodIn_r _ [307, 35, 308, 309, 310, 67, 311, 69, 400, 401, 402, 403, 404, 405, 414, 415, 416] (by decide +kernel) (by decide +kernel)
set_option maxRecDepth 20000 in
theorem gL_step_X7_moves : GoodIn wsL_step (wsV RL 26 RX7 yX7_moves wsX7_moves) := goodIn_app (goodIn_of _ (by decide +kernel)) ggL_step_X7_moves
set_option maxRecDepth 20000 in
theorem ggL_step_X7_neighbour : GoodIn wsL_step wsX7_neighbour := goodIn_ca (goodIn_r _ [320, 6, 293, 294, 295, 4, 296, 297, 298, 299, 59, 60, 10, 61, 12, 321, 322, 323, 324, 325, 255, 256, 257, 41, 400, 401, 402, 403, 404, 405, 406, 407, 408, 409, 410, 411, 412, 413] (by decide +kernel) (by decide +kernel)) (goodIn_sub (fun _ h => List.mem_cons_of_mem _ (List.mem_append_left _ (List.mem_append_right _ h))) (by decide +kernel))
set_option maxRecDepth 20000 in
theorem gL_step_X7_neighbour : GoodIn wsL_step (wsV RL 29 RX7 yX7_neighbour wsX7_neighbour) := goodIn_app (goodIn_of _ (by decide +kernel)) ggL_step_X7_neighbour
set_option maxRecDepth 20000 in
theorem ggL_step_X7_isJoined : GoodIn wsL_step wsX7_isJoined := goodIn_ca (goodIn_r _ [329, 6, 293, 294, 295, 4, 296, 297, 298, 299, 59, 60, 10, 61, 12, 321, 322, 323, 324, 330, 101, 102, 103, 40, 104, 105, 106, 107, 45, 83, 84, 108, 109, 62, 63, 400, 401, 402, 403, 404, 405, 406, 407, 408, 409, 410, 411, 412, 413] (by decide +kernel) (by decide +kernel)) (goodIn_sub (fun _ h => List.mem_cons_of_mem _ (List.mem_append_left _ (List.mem_append_right _ h))) (by decide +kernel))
set_option maxRecDepth 20000 in
theorem gL_step_X7_isJoined : GoodIn wsL_step (wsV RL 32 RX7 yX7_isJoined wsX7_isJoined) := goodIn_app (goodIn_of _ (by decide +kernel)) ggL_step_X7_isJoined
set_option maxRecDepth 20000 in
theorem ggL_step_X7_setWall : GoodIn wsL_step wsX7_setWall := goodIn_ca (goodIn_ca (goodIn_r _ [334, 335, 336, 6, 293, 294, 295, 4, 296, 297, 298, 299, 59, 60, 10, 61, 12, 321, 322, 323, 324, 325, 255, 256, 257, 41, 337, 105, 106, 107, 45, 338, 339, 340, 341, 342, 58, 62, 63, 400, 401, 402, 403, 404, 405, 406, 407, 408, 409, 410, 411, 412, 413] (by decide +kernel) (by decide +kernel)) (goodIn_sub (fun _ h => List.mem_cons_of_mem _ (List.mem_append_right _ h)) (by decide +kernel))) (goodIn_sub (fun _ h => List.mem_cons_of_mem _ (List.mem_append_left _ (List.mem_append_right _ h))) (by decide +kernel))
set_option maxRecDepth 20000 in
theorem gL_step_X7_setWall : GoodIn wsL_step (wsV RL 36 RX7 yX7_setWall wsX7_setWall) := goodIn_app (goodIn_of _ (by decide +kernel)) ggL_step_X7_setWall
set_option maxRecDepth 20000 in
theorem ggL_step_X7_setLock : GoodIn wsL_step wsX7_setLock := goodIn_ca (goodIn_r _ [346, 6, 293, 294, 295, 4, 296, 297, 298, 299, 59, 60, 10, 61, 12, 347, 146, 147, 148, 42, 108, 109, 348, 349, 350, 351, 400, 401, 402, 403, 404, 405, 406, 407, 408, 409, 410, 411, 412, 413] (by decide +kernel) (by decide +kernel)) (goodIn_sub (fun _ h => List.mem_cons_of_mem _ (List.mem_append_left _ (List.mem_append_right _ h))) (by decide +kernel))
set_option maxRecDepth 20000 in
theorem gL_step_X7_setLock : GoodIn wsL_step (wsV RL 40 RX7 yX7_setLock wsX7_setLock) := goodIn_app (goodIn_of _ (by decide +kernel)) ggL_step_X7_setLock
set_option maxRecDepth 20000 in
theorem ggL_step_X7_setSource : GoodIn wsL_step wsX7_setSource := goodIn_ca (goodIn_r _ [355, 6, 293, 294, 295, 4, 296, 297, 298, 299, 59, 60, 10, 61, 12, 114, 115, 116, 117, 43, 356, 357, 358, 359, 400, 401, 402, 403, 404, 405, 406, 407, 408, 409, 410, 411, 412, 413] (by decide +kernel) (by decide +kernel)) (goodIn_sub (fun _ h => List.mem_cons_of_mem _ (List.mem_append_left _ (List.mem_append_right _ h))) (by decide +kernel))
set_option maxRecDepth 20000 in
theorem gL_step_X7_setSource : GoodIn wsL_step (wsV RL 44 RX7 yX7_setSource wsX7_setSource) := goodIn_app (goodIn_of _ (by decide +kernel)) ggL_step_X7_setSource
set_option maxRecDepth 20000 in
theorem ggL_step_X7_isWatered : GoodIn wsL_step wsX7_isWatered := goodIn_ca (goodIn_r _ [363, 6, 293, 294, 295, 4, 296, 297, 298, 299, 59, 60, 10, 61, 12, 114, 115, 116, 117, 43, 118, 119, 120, 121, 122, 96, 97, 98, 99, 100, 101, 102, 103, 40, 104, 105, 106, 107, 45, 83, 84, 108, 109, 62, 63, 123, 124, 125, 400, 401, 402, 403, 404, 405, 406, 407, 408, 409, 410, 411, 412, 413] (by decide +kernel) (by decide +kernel)) (goodIn_sub (fun _ h => List.mem_cons_of_mem _ (List.mem_append_left _ (List.mem_append_right _ h))) (by decide +kernel))
set_option maxRecDepth 20000 in
theorem gL_step_X7_isWatered : GoodIn wsL_step (wsV RL 48 RX7 yX7_isWatered wsX7_isWatered) := goodIn_app (goodIn_of _ (by decide +kernel)) ggL_step_X7_isWatered
set_option maxRecDepth 20000 in
theorem ggL_step_L_undoes : GoodIn wsL_step wsL_undoes := goodIn_ca (goodIn_ca (goodIn_r _ [366, 304, 305, 306, 4, 307, 35, 308, 309, 310, 67, 311, 69, 367, 368, 15, 369, 370, 371, 372, 373, 335, 336, 6, 374, 375, 376, 377, 378, 379, 281, 282, 10, 283, 79, 80, 81, 82, 40, 83, 84, 149, 150, 284, 277, 278, 279, 58, 59, 60, 61, 12, 289, 290, 291, 292, 293, 294, 295, 296, 297, 298, 299, 300, 380, 381, 382, 383, 384, 385, 386, 387, 70, 400, 401, 402, 403, 404, 405, 414, 415, 416, 406, 407, 408, 409, 410, 411, 412, 413] (by decide +kernel) (by decide +kernel)) (goodIn_sub (fun _ h => List.mem_cons_of_mem _ (List.mem_append_right _ h)) (by decide +kernel))) (goodIn_sub (fun _ h => List.mem_cons_of_mem _ (List.mem_append_left _ (List.mem_append_right _ h))) (by decide +kernel))
set_option maxRecDepth 20000 in
theorem gL_step_L_undoes : GoodIn wsL_step (va_wsS RL 52 yL_undoes wsL_undoes) := goodIn_app (goodIn_of _ (by decide +kernel)) ggL_step_L_undoes
set_option maxRecDepth 20000 in
theorem ggL_step_L_turned : GoodIn wsL_step wsL_turned := goodIn_r _ [369] (by decide +kernel) (by decide +kernel)
set_option maxRecDepth 20000 in
theorem gL_step_L_turned : GoodIn wsL_step (va_wsS RL 56 yL_turned wsL_turned) := goodIn_app (goodIn_of _ (by decide +kernel)) ggL_step_L_turned
set_option maxRecDepth 20000 in
theorem ggL_step_X7_turn : GoodIn wsL_step wsX7_turn := goodIn_ca (goodIn_ca (goodIn_r _ [391, 335, 336, 6, 35, 293, 294, 295, 4, 296, 297, 298, 299, 59, 60, 10, 61, 12, 347, 146, 147, 148, 42, 108, 109, 392, 393, 394, 67, 395, 69, 379, 281, 282, 283, 79, 80, 81, 82, 40, 83, 84, 149, 150, 284, 277, 278, 279, 58, 396, 397, 398, 399, 378, 70, 300, 400, 401, 402, 403, 404, 405, 406, 407, 408, 409, 410, 411, 412, 413, 414, 415, 416] (by decide +kernel) (by decide +kernel)) (goodIn_sub (fun _ h => List.mem_cons_of_mem _ (List.mem_append_right _ h)) (by decide +kernel))) (goodIn_sub (fun _ h => List.mem_cons_of_mem _ (List.mem_append_left _ (List.mem_append_right _ h))) (by decide +kernel))
set_option maxRecDepth 20000 in
theorem gL_step_X7_turn : GoodIn wsL_step (wsV RL 59 RX7 yX7_turn wsX7_turn) := goodIn_app (goodIn_of _ (by decide +kernel)) ggL_step_X7_turn
theorem dL_step_0 : decode cL_step 0 = .ok (.iload 4, 2) := by decide +kernel
theorem dL_step_2 : decode cL_step 2 = .ok (.aload_n 0, 1) := by decide +kernel
theorem dL_step_3 : decode cL_step 3 = .ok (.invokevirtual 10, 3) := by decide +kernel
theorem dL_step_6 : decode cL_step 6 = .ok (.irem, 1) := by decide +kernel
theorem dL_step_7 : decode cL_step 7 = .ok (.istore 6, 2) := by decide +kernel
theorem dL_step_9 : decode cL_step 9 = .ok (.iload_n 3, 1) := by decide +kernel
theorem dL_step_10 : decode cL_step 10 = .ok (.bipush 12, 2) := by decide +kernel
theorem dL_step_12 : decode cL_step 12 = .ok (.irem, 1) := by decide +kernel
theorem dL_step_13 : decode cL_step 13 = .ok (.tableswitch 413 0 5 #[39, 50, 104, 281, 347, 395], 39) := by decide +kernel
theorem dL_step_52 : decode cL_step 52 = .ok (.aload_n 0, 1) := by decide +kernel
theorem dL_step_53 : decode cL_step 53 = .ok (.aload_n 1, 1) := by decide +kernel
theorem dL_step_54 : decode cL_step 54 = .ok (.aload_n 2, 1) := by decide +kernel
theorem dL_step_55 : decode cL_step 55 = .ok (.iload 4, 2) := by decide +kernel
theorem dL_step_57 : decode cL_step 57 = .ok (.iload 5, 2) := by decide +kernel
theorem dL_step_59 : decode cL_step 59 = .ok (.invokestatic 16, 3) := by decide +kernel
theorem dL_step_62 : decode cL_step 62 = .ok (.ireturn, 1) := by decide +kernel
theorem dL_step_63 : decode cL_step 63 = .ok (.aload_n 1, 1) := by decide +kernel
theorem dL_step_64 : decode cL_step 64 = .ok (.iload 6, 2) := by decide +kernel
theorem dL_step_66 : decode cL_step 66 = .ok (.iaload, 1) := by decide +kernel
theorem dL_step_67 : decode cL_step 67 = .ok (.istore 7, 2) := by decide +kernel
theorem dL_step_69 : decode cL_step 69 = .ok (.aload_n 1, 1) := by decide +kernel
theorem dL_step_70 : decode cL_step 70 = .ok (.iload 6, 2) := by decide +kernel
theorem dL_step_72 : decode cL_step 72 = .ok (.iload 5, 2) := by decide +kernel
theorem dL_step_74 : decode cL_step 74 = .ok (.bipush 16, 2) := by decide +kernel
theorem dL_step_76 : decode cL_step 76 = .ok (.irem, 1) := by decide +kernel
theorem dL_step_77 : decode cL_step 77 = .ok (.iastore, 1) := by decide +kernel
theorem dL_step_78 : decode cL_step 78 = .ok (.aload_n 1, 1) := by decide +kernel
theorem dL_step_79 : decode cL_step 79 = .ok (.bipush 62, 2) := by decide +kernel
theorem dL_step_81 : decode cL_step 81 = .ok (.iconst 0, 1) := by decide +kernel
theorem dL_step_82 : decode cL_step 82 = .ok (.iastore, 1) := by decide +kernel
theorem dL_step_83 : decode cL_step 83 = .ok (.aload_n 1, 1) := by decide +kernel
theorem dL_step_84 : decode cL_step 84 = .ok (.bipush 63, 2) := by decide +kernel
theorem dL_step_86 : decode cL_step 86 = .ok (.iconst 0, 1) := by decide +kernel
theorem dL_step_87 : decode cL_step 87 = .ok (.iastore, 1) := by decide +kernel
theorem dL_step_88 : decode cL_step 88 = .ok (.aload_n 0, 1) := by decide +kernel
theorem dL_step_89 : decode cL_step 89 = .ok (.iload 6, 2) := by decide +kernel
theorem dL_step_91 : decode cL_step 91 = .ok (.iload 5, 2) := by decide +kernel
theorem dL_step_93 : decode cL_step 93 = .ok (.bipush 16, 2) := by decide +kernel
theorem dL_step_95 : decode cL_step 95 = .ok (.irem, 1) := by decide +kernel
theorem dL_step_96 : decode cL_step 96 = .ok (.invokevirtual 22, 3) := by decide +kernel
theorem dL_step_99 : decode cL_step 99 = .ok (.iload 7, 2) := by decide +kernel
theorem dL_step_101 : decode cL_step 101 = .ok (.if_icmp .ne 14, 3) := by decide +kernel
theorem dL_step_104 : decode cL_step 104 = .ok (.aload_n 0, 1) := by decide +kernel
theorem dL_step_105 : decode cL_step 105 = .ok (.invokevirtual 26, 3) := by decide +kernel
theorem dL_step_108 : decode cL_step 108 = .ok (.ifCond .ne 7, 3) := by decide +kernel
theorem dL_step_111 : decode cL_step 111 = .ok (.iconst 1, 1) := by decide +kernel
theorem dL_step_112 : decode cL_step 112 = .ok (.goto 4, 3) := by decide +kernel
theorem dL_step_115 : decode cL_step 115 = .ok (.iconst 0, 1) := by decide +kernel
theorem dL_step_116 : decode cL_step 116 = .ok (.ireturn, 1) := by decide +kernel
theorem dL_step_117 : decode cL_step 117 = .ok (.iload 5, 2) := by decide +kernel
theorem dL_step_119 : decode cL_step 119 = .ok (.iconst 4, 1) := by decide +kernel
theorem dL_step_120 : decode cL_step 120 = .ok (.irem, 1) := by decide +kernel
theorem dL_step_121 : decode cL_step 121 = .ok (.istore 8, 2) := by decide +kernel
theorem dL_step_123 : decode cL_step 123 = .ok (.iload 5, 2) := by decide +kernel
theorem dL_step_125 : decode cL_step 125 = .ok (.iconst 4, 1) := by decide +kernel
theorem dL_step_126 : decode cL_step 126 = .ok (.idiv, 1) := by decide +kernel
theorem dL_step_127 : decode cL_step 127 = .ok (.iconst 3, 1) := by decide +kernel
theorem dL_step_128 : decode cL_step 128 = .ok (.irem, 1) := by decide +kernel
theorem dL_step_129 : decode cL_step 129 = .ok (.ifCond .ne 7, 3) := by decide +kernel
theorem dL_step_132 : decode cL_step 132 = .ok (.iconst 1, 1) := by decide +kernel
theorem dL_step_133 : decode cL_step 133 = .ok (.goto 4, 3) := by decide +kernel
theorem dL_step_136 : decode cL_step 136 = .ok (.iconst 0, 1) := by decide +kernel
theorem dL_step_137 : decode cL_step 137 = .ok (.istore 9, 2) := by decide +kernel
theorem dL_step_139 : decode cL_step 139 = .ok (.aload_n 0, 1) := by decide +kernel
theorem dL_step_140 : decode cL_step 140 = .ok (.iload 6, 2) := by decide +kernel
theorem dL_step_142 : decode cL_step 142 = .ok (.iload 8, 2) := by decide +kernel
theorem dL_step_144 : decode cL_step 144 = .ok (.invokevirtual 29, 3) := by decide +kernel
theorem dL_step_147 : decode cL_step 147 = .ok (.istore 10, 2) := by decide +kernel
theorem dL_step_149 : decode cL_step 149 = .ok (.iload 10, 2) := by decide +kernel
theorem dL_step_151 : decode cL_step 151 = .ok (.iconst (-1), 1) := by decide +kernel
theorem dL_step_152 : decode cL_step 152 = .ok (.if_icmp .ne 20, 3) := by decide +kernel
theorem dL_step_155 : decode cL_step 155 = .ok (.aload_n 0, 1) := by decide +kernel
theorem dL_step_156 : decode cL_step 156 = .ok (.iload 6, 2) := by decide +kernel
theorem dL_step_158 : decode cL_step 158 = .ok (.iload 8, 2) := by decide +kernel
theorem dL_step_160 : decode cL_step 160 = .ok (.invokevirtual 32, 3) := by decide +kernel
theorem dL_step_163 : decode cL_step 163 = .ok (.ifCond .ne 7, 3) := by decide +kernel
theorem dL_step_166 : decode cL_step 166 = .ok (.iconst 1, 1) := by decide +kernel
theorem dL_step_167 : decode cL_step 167 = .ok (.goto 4, 3) := by decide +kernel
theorem dL_step_170 : decode cL_step 170 = .ok (.iconst 0, 1) := by decide +kernel
theorem dL_step_171 : decode cL_step 171 = .ok (.ireturn, 1) := by decide +kernel
theorem dL_step_172 : decode cL_step 172 = .ok (.aload_n 2, 1) := by decide +kernel
theorem dL_step_173 : decode cL_step 173 = .ok (.iload 6, 2) := by decide +kernel
theorem dL_step_175 : decode cL_step 175 = .ok (.iaload, 1) := by decide +kernel
theorem dL_step_176 : decode cL_step 176 = .ok (.iload 8, 2) := by decide +kernel
theorem dL_step_178 : decode cL_step 178 = .ok (.ishr, 1) := by decide +kernel
theorem dL_step_179 : decode cL_step 179 = .ok (.iconst 1, 1) := by decide +kernel
theorem dL_step_180 : decode cL_step 180 = .ok (.iand, 1) := by decide +kernel
theorem dL_step_181 : decode cL_step 181 = .ok (.iconst 1, 1) := by decide +kernel
theorem dL_step_182 : decode cL_step 182 = .ok (.if_icmp .ne 7, 3) := by decide +kernel
theorem dL_step_185 : decode cL_step 185 = .ok (.iconst 1, 1) := by decide +kernel
theorem dL_step_186 : decode cL_step 186 = .ok (.goto 4, 3) := by decide +kernel
theorem dL_step_189 : decode cL_step 189 = .ok (.iconst 0, 1) := by decide +kernel
theorem dL_step_190 : decode cL_step 190 = .ok (.istore 11, 2) := by decide +kernel
theorem dL_step_192 : decode cL_step 192 = .ok (.iload 8, 2) := by decide +kernel
theorem dL_step_194 : decode cL_step 194 = .ok (.iconst 2, 1) := by decide +kernel
theorem dL_step_195 : decode cL_step 195 = .ok (.iadd, 1) := by decide +kernel
theorem dL_step_196 : decode cL_step 196 = .ok (.iconst 4, 1) := by decide +kernel
theorem dL_step_197 : decode cL_step 197 = .ok (.irem, 1) := by decide +kernel
theorem dL_step_198 : decode cL_step 198 = .ok (.istore 12, 2) := by decide +kernel
theorem dL_step_200 : decode cL_step 200 = .ok (.aload_n 2, 1) := by decide +kernel
theorem dL_step_201 : decode cL_step 201 = .ok (.iload 6, 2) := by decide +kernel
theorem dL_step_203 : decode cL_step 203 = .ok (.aload_n 2, 1) := by decide +kernel
theorem dL_step_204 : decode cL_step 204 = .ok (.iload 6, 2) := by decide +kernel
theorem dL_step_206 : decode cL_step 206 = .ok (.iaload, 1) := by decide +kernel
theorem dL_step_207 : decode cL_step 207 = .ok (.iconst 1, 1) := by decide +kernel
theorem dL_step_208 : decode cL_step 208 = .ok (.iload 8, 2) := by decide +kernel
theorem dL_step_210 : decode cL_step 210 = .ok (.ishl, 1) := by decide +kernel
theorem dL_step_211 : decode cL_step 211 = .ok (.iconst (-1), 1) := by decide +kernel
theorem dL_step_212 : decode cL_step 212 = .ok (.ixor, 1) := by decide +kernel
theorem dL_step_213 : decode cL_step 213 = .ok (.iand, 1) := by decide +kernel
theorem dL_step_214 : decode cL_step 214 = .ok (.iload 9, 2) := by decide +kernel
theorem dL_step_216 : decode cL_step 216 = .ok (.ifCond .eq 10, 3) := by decide +kernel
theorem dL_step_219 : decode cL_step 219 = .ok (.iconst 1, 1) := by decide +kernel
theorem dL_step_220 : decode cL_step 220 = .ok (.iload 8, 2) := by decide +kernel
theorem dL_step_222 : decode cL_step 222 = .ok (.ishl, 1) := by decide +kernel
theorem dL_step_223 : decode cL_step 223 = .ok (.goto 4, 3) := by decide +kernel
theorem dL_step_226 : decode cL_step 226 = .ok (.iconst 0, 1) := by decide +kernel
theorem dL_step_227 : decode cL_step 227 = .ok (.ior, 1) := by decide +kernel
theorem dL_step_228 : decode cL_step 228 = .ok (.iastore, 1) := by decide +kernel
theorem dL_step_229 : decode cL_step 229 = .ok (.aload_n 2, 1) := by decide +kernel
theorem dL_step_230 : decode cL_step 230 = .ok (.iload 10, 2) := by decide +kernel
theorem dL_step_232 : decode cL_step 232 = .ok (.aload_n 2, 1) := by decide +kernel
theorem dL_step_233 : decode cL_step 233 = .ok (.iload 10, 2) := by decide +kernel
theorem dL_step_235 : decode cL_step 235 = .ok (.iaload, 1) := by decide +kernel
theorem dL_step_236 : decode cL_step 236 = .ok (.iconst 1, 1) := by decide +kernel
theorem dL_step_237 : decode cL_step 237 = .ok (.iload 12, 2) := by decide +kernel
theorem dL_step_239 : decode cL_step 239 = .ok (.ishl, 1) := by decide +kernel
theorem dL_step_240 : decode cL_step 240 = .ok (.iconst (-1), 1) := by decide +kernel
theorem dL_step_241 : decode cL_step 241 = .ok (.ixor, 1) := by decide +kernel
theorem dL_step_242 : decode cL_step 242 = .ok (.iand, 1) := by decide +kernel
theorem dL_step_243 : decode cL_step 243 = .ok (.iload 9, 2) := by decide +kernel
theorem dL_step_245 : decode cL_step 245 = .ok (.ifCond .eq 10, 3) := by decide +kernel
theorem dL_step_248 : decode cL_step 248 = .ok (.iconst 1, 1) := by decide +kernel
theorem dL_step_249 : decode cL_step 249 = .ok (.iload 12, 2) := by decide +kernel
theorem dL_step_251 : decode cL_step 251 = .ok (.ishl, 1) := by decide +kernel
theorem dL_step_252 : decode cL_step 252 = .ok (.goto 4, 3) := by decide +kernel
theorem dL_step_255 : decode cL_step 255 = .ok (.iconst 0, 1) := by decide +kernel
theorem dL_step_256 : decode cL_step 256 = .ok (.ior, 1) := by decide +kernel
theorem dL_step_257 : decode cL_step 257 = .ok (.iastore, 1) := by decide +kernel
theorem dL_step_258 : decode cL_step 258 = .ok (.aload_n 0, 1) := by decide +kernel
theorem dL_step_259 : decode cL_step 259 = .ok (.iload 6, 2) := by decide +kernel
theorem dL_step_261 : decode cL_step 261 = .ok (.iload 8, 2) := by decide +kernel
theorem dL_step_263 : decode cL_step 263 = .ok (.iload 9, 2) := by decide +kernel
theorem dL_step_265 : decode cL_step 265 = .ok (.invokevirtual 36, 3) := by decide +kernel
theorem dL_step_268 : decode cL_step 268 = .ok (.iload 11, 2) := by decide +kernel
theorem dL_step_270 : decode cL_step 270 = .ok (.if_icmp .ne 22, 3) := by decide +kernel
theorem dL_step_273 : decode cL_step 273 = .ok (.aload_n 0, 1) := by decide +kernel
theorem dL_step_274 : decode cL_step 274 = .ok (.iload 10, 2) := by decide +kernel
theorem dL_step_276 : decode cL_step 276 = .ok (.iload 12, 2) := by decide +kernel
theorem dL_step_278 : decode cL_step 278 = .ok (.iload 9, 2) := by decide +kernel
theorem dL_step_280 : decode cL_step 280 = .ok (.invokevirtual 36, 3) := by decide +kernel
theorem dL_step_283 : decode cL_step 283 = .ok (.iload 9, 2) := by decide +kernel
theorem dL_step_285 : decode cL_step 285 = .ok (.if_icmp .ne 7, 3) := by decide +kernel
theorem dL_step_288 : decode cL_step 288 = .ok (.iconst 1, 1) := by decide +kernel
theorem dL_step_289 : decode cL_step 289 = .ok (.goto 4, 3) := by decide +kernel
theorem dL_step_292 : decode cL_step 292 = .ok (.iconst 0, 1) := by decide +kernel
theorem dL_step_293 : decode cL_step 293 = .ok (.ireturn, 1) := by decide +kernel
theorem dL_step_294 : decode cL_step 294 = .ok (.aload_n 1, 1) := by decide +kernel
theorem dL_step_295 : decode cL_step 295 = .ok (.bipush 16, 2) := by decide +kernel
theorem dL_step_297 : decode cL_step 297 = .ok (.iload 6, 2) := by decide +kernel
theorem dL_step_299 : decode cL_step 299 = .ok (.iadd, 1) := by decide +kernel
theorem dL_step_300 : decode cL_step 300 = .ok (.iaload, 1) := by decide +kernel
theorem dL_step_301 : decode cL_step 301 = .ok (.iconst 1, 1) := by decide +kernel
theorem dL_step_302 : decode cL_step 302 = .ok (.if_icmp .ne 7, 3) := by decide +kernel
theorem dL_step_305 : decode cL_step 305 = .ok (.iconst 1, 1) := by decide +kernel
theorem dL_step_306 : decode cL_step 306 = .ok (.goto 4, 3) := by decide +kernel
theorem dL_step_309 : decode cL_step 309 = .ok (.iconst 0, 1) := by decide +kernel
theorem dL_step_310 : decode cL_step 310 = .ok (.istore 13, 2) := by decide +kernel
theorem dL_step_312 : decode cL_step 312 = .ok (.aload_n 1, 1) := by decide +kernel
theorem dL_step_313 : decode cL_step 313 = .ok (.bipush 16, 2) := by decide +kernel
theorem dL_step_315 : decode cL_step 315 = .ok (.iload 6, 2) := by decide +kernel
theorem dL_step_317 : decode cL_step 317 = .ok (.iadd, 1) := by decide +kernel
theorem dL_step_318 : decode cL_step 318 = .ok (.iload 5, 2) := by decide +kernel
theorem dL_step_320 : decode cL_step 320 = .ok (.iconst 3, 1) := by decide +kernel
theorem dL_step_321 : decode cL_step 321 = .ok (.irem, 1) := by decide +kernel
theorem dL_step_322 : decode cL_step 322 = .ok (.ifCond .ne 7, 3) := by decide +kernel
theorem dL_step_325 : decode cL_step 325 = .ok (.iconst 1, 1) := by decide +kernel
theorem dL_step_326 : decode cL_step 326 = .ok (.goto 4, 3) := by decide +kernel
theorem dL_step_329 : decode cL_step 329 = .ok (.iconst 0, 1) := by decide +kernel
theorem dL_step_330 : decode cL_step 330 = .ok (.iastore, 1) := by decide +kernel
theorem dL_step_331 : decode cL_step 331 = .ok (.aload_n 0, 1) := by decide +kernel
theorem dL_step_332 : decode cL_step 332 = .ok (.iload 6, 2) := by decide +kernel
theorem dL_step_334 : decode cL_step 334 = .ok (.iload 5, 2) := by decide +kernel
theorem dL_step_336 : decode cL_step 336 = .ok (.iconst 3, 1) := by decide +kernel
theorem dL_step_337 : decode cL_step 337 = .ok (.irem, 1) := by decide +kernel
theorem dL_step_338 : decode cL_step 338 = .ok (.ifCond .ne 7, 3) := by decide +kernel
theorem dL_step_341 : decode cL_step 341 = .ok (.iconst 1, 1) := by decide +kernel
theorem dL_step_342 : decode cL_step 342 = .ok (.goto 4, 3) := by decide +kernel
theorem dL_step_345 : decode cL_step 345 = .ok (.iconst 0, 1) := by decide +kernel
theorem dL_step_346 : decode cL_step 346 = .ok (.invokevirtual 40, 3) := by decide +kernel
theorem dL_step_349 : decode cL_step 349 = .ok (.iload 13, 2) := by decide +kernel
theorem dL_step_351 : decode cL_step 351 = .ok (.if_icmp .ne 7, 3) := by decide +kernel
theorem dL_step_354 : decode cL_step 354 = .ok (.iconst 1, 1) := by decide +kernel
theorem dL_step_355 : decode cL_step 355 = .ok (.goto 4, 3) := by decide +kernel
theorem dL_step_358 : decode cL_step 358 = .ok (.iconst 0, 1) := by decide +kernel
theorem dL_step_359 : decode cL_step 359 = .ok (.ireturn, 1) := by decide +kernel
theorem dL_step_360 : decode cL_step 360 = .ok (.aload_n 0, 1) := by decide +kernel
theorem dL_step_361 : decode cL_step 361 = .ok (.iload 6, 2) := by decide +kernel
theorem dL_step_363 : decode cL_step 363 = .ok (.invokevirtual 44, 3) := by decide +kernel
theorem dL_step_366 : decode cL_step 366 = .ok (.istore 14, 2) := by decide +kernel
theorem dL_step_368 : decode cL_step 368 = .ok (.iload 14, 2) := by decide +kernel
theorem dL_step_370 : decode cL_step 370 = .ok (.ifCond .lt 36, 3) := by decide +kernel
theorem dL_step_373 : decode cL_step 373 = .ok (.iload 14, 2) := by decide +kernel
theorem dL_step_375 : decode cL_step 375 = .ok (.aload_n 0, 1) := by decide +kernel
theorem dL_step_376 : decode cL_step 376 = .ok (.invokevirtual 10, 3) := by decide +kernel
theorem dL_step_379 : decode cL_step 379 = .ok (.if_icmp .ge 27, 3) := by decide +kernel
theorem dL_step_382 : decode cL_step 382 = .ok (.aload_n 0, 1) := by decide +kernel
theorem dL_step_383 : decode cL_step 383 = .ok (.iload 6, 2) := by decide +kernel
theorem dL_step_385 : decode cL_step 385 = .ok (.invokevirtual 48, 3) := by decide +kernel
theorem dL_step_388 : decode cL_step 388 = .ok (.ifCond .eq 18, 3) := by decide +kernel
theorem dL_step_391 : decode cL_step 391 = .ok (.aload_n 0, 1) := by decide +kernel
theorem dL_step_392 : decode cL_step 392 = .ok (.iload 6, 2) := by decide +kernel
theorem dL_step_394 : decode cL_step 394 = .ok (.invokevirtual 44, 3) := by decide +kernel
theorem dL_step_397 : decode cL_step 397 = .ok (.iload 6, 2) := by decide +kernel
theorem dL_step_399 : decode cL_step 399 = .ok (.if_icmp .ne 7, 3) := by decide +kernel
theorem dL_step_402 : decode cL_step 402 = .ok (.iconst 1, 1) := by decide +kernel
theorem dL_step_403 : decode cL_step 403 = .ok (.goto 4, 3) := by decide +kernel
theorem dL_step_406 : decode cL_step 406 = .ok (.iconst 0, 1) := by decide +kernel
theorem dL_step_407 : decode cL_step 407 = .ok (.ireturn, 1) := by decide +kernel
theorem dL_step_408 : decode cL_step 408 = .ok (.aload_n 0, 1) := by decide +kernel
theorem dL_step_409 : decode cL_step 409 = .ok (.aload_n 1, 1) := by decide +kernel
theorem dL_step_410 : decode cL_step 410 = .ok (.iload 5, 2) := by decide +kernel
theorem dL_step_412 : decode cL_step 412 = .ok (.iconst 2, 1) := by decide +kernel
theorem dL_step_413 : decode cL_step 413 = .ok (.irem, 1) := by decide +kernel
theorem dL_step_414 : decode cL_step 414 = .ok (.ifCond .ne 7, 3) := by decide +kernel
theorem dL_step_417 : decode cL_step 417 = .ok (.iconst 1, 1) := by decide +kernel
theorem dL_step_418 : decode cL_step 418 = .ok (.goto 4, 3) := by decide +kernel
theorem dL_step_421 : decode cL_step 421 = .ok (.iconst 0, 1) := by decide +kernel
theorem dL_step_422 : decode cL_step 422 = .ok (.invokestatic 52, 3) := by decide +kernel
theorem dL_step_425 : decode cL_step 425 = .ok (.ireturn, 1) := by decide +kernel
theorem dL_step_426 : decode cL_step 426 = .ok (.aload_n 1, 1) := by decide +kernel
theorem dL_step_427 : decode cL_step 427 = .ok (.bipush 16, 2) := by decide +kernel
theorem dL_step_429 : decode cL_step 429 = .ok (.iload 6, 2) := by decide +kernel
theorem dL_step_431 : decode cL_step 431 = .ok (.iadd, 1) := by decide +kernel
theorem dL_step_432 : decode cL_step 432 = .ok (.iaload, 1) := by decide +kernel
theorem dL_step_433 : decode cL_step 433 = .ok (.iconst 1, 1) := by decide +kernel
theorem dL_step_434 : decode cL_step 434 = .ok (.if_icmp .eq 12, 3) := by decide +kernel
theorem dL_step_437 : decode cL_step 437 = .ok (.aload_n 1, 1) := by decide +kernel
theorem dL_step_438 : decode cL_step 438 = .ok (.bipush 62, 2) := by decide +kernel
theorem dL_step_440 : decode cL_step 440 = .ok (.iaload, 1) := by decide +kernel
theorem dL_step_441 : decode cL_step 441 = .ok (.bipush 30, 2) := by decide +kernel
theorem dL_step_443 : decode cL_step 443 = .ok (.if_icmp .ne 20, 3) := by decide +kernel
theorem dL_step_446 : decode cL_step 446 = .ok (.aload_n 0, 1) := by decide +kernel
theorem dL_step_447 : decode cL_step 447 = .ok (.invokevirtual 26, 3) := by decide +kernel
theorem dL_step_450 : decode cL_step 450 = .ok (.aload_n 1, 1) := by decide +kernel
theorem dL_step_451 : decode cL_step 451 = .ok (.bipush 62, 2) := by decide +kernel
theorem dL_step_453 : decode cL_step 453 = .ok (.iaload, 1) := by decide +kernel
theorem dL_step_454 : decode cL_step 454 = .ok (.if_icmp .ne 7, 3) := by decide +kernel
theorem dL_step_457 : decode cL_step 457 = .ok (.iconst 1, 1) := by decide +kernel
theorem dL_step_458 : decode cL_step 458 = .ok (.goto 4, 3) := by decide +kernel
theorem dL_step_461 : decode cL_step 461 = .ok (.iconst 0, 1) := by decide +kernel
theorem dL_step_462 : decode cL_step 462 = .ok (.ireturn, 1) := by decide +kernel
theorem dL_step_463 : decode cL_step 463 = .ok (.aload_n 1, 1) := by decide +kernel
theorem dL_step_464 : decode cL_step 464 = .ok (.bipush 32, 2) := by decide +kernel
theorem dL_step_466 : decode cL_step 466 = .ok (.aload_n 1, 1) := by decide +kernel
theorem dL_step_467 : decode cL_step 467 = .ok (.bipush 62, 2) := by decide +kernel
theorem dL_step_469 : decode cL_step 469 = .ok (.iaload, 1) := by decide +kernel
theorem dL_step_470 : decode cL_step 470 = .ok (.iadd, 1) := by decide +kernel
theorem dL_step_471 : decode cL_step 471 = .ok (.iload 6, 2) := by decide +kernel
theorem dL_step_473 : decode cL_step 473 = .ok (.iastore, 1) := by decide +kernel
theorem dL_step_474 : decode cL_step 474 = .ok (.aload_n 1, 1) := by decide +kernel
theorem dL_step_475 : decode cL_step 475 = .ok (.bipush 62, 2) := by decide +kernel
theorem dL_step_477 : decode cL_step 477 = .ok (.dup2, 1) := by decide +kernel
theorem dL_step_478 : decode cL_step 478 = .ok (.iaload, 1) := by decide +kernel
theorem dL_step_479 : decode cL_step 479 = .ok (.iconst 1, 1) := by decide +kernel
theorem dL_step_480 : decode cL_step 480 = .ok (.iadd, 1) := by decide +kernel
theorem dL_step_481 : decode cL_step 481 = .ok (.iastore, 1) := by decide +kernel
theorem dL_step_482 : decode cL_step 482 = .ok (.aload_n 1, 1) := by decide +kernel
theorem dL_step_483 : decode cL_step 483 = .ok (.bipush 63, 2) := by decide +kernel
theorem dL_step_485 : decode cL_step 485 = .ok (.aload_n 1, 1) := by decide +kernel
theorem dL_step_486 : decode cL_step 486 = .ok (.bipush 62, 2) := by decide +kernel
theorem dL_step_488 : decode cL_step 488 = .ok (.iaload, 1) := by decide +kernel
theorem dL_step_489 : decode cL_step 489 = .ok (.iastore, 1) := by decide +kernel
theorem dL_step_490 : decode cL_step 490 = .ok (.aload_n 1, 1) := by decide +kernel
theorem dL_step_491 : decode cL_step 491 = .ok (.iload 6, 2) := by decide +kernel
theorem dL_step_493 : decode cL_step 493 = .ok (.aload_n 1, 1) := by decide +kernel
theorem dL_step_494 : decode cL_step 494 = .ok (.iload 6, 2) := by decide +kernel
theorem dL_step_496 : decode cL_step 496 = .ok (.iaload, 1) := by decide +kernel
theorem dL_step_497 : decode cL_step 497 = .ok (.invokestatic 56, 3) := by decide +kernel
theorem dL_step_500 : decode cL_step 500 = .ok (.iastore, 1) := by decide +kernel
theorem dL_step_501 : decode cL_step 501 = .ok (.aload_n 0, 1) := by decide +kernel
theorem dL_step_502 : decode cL_step 502 = .ok (.iload 6, 2) := by decide +kernel
theorem dL_step_504 : decode cL_step 504 = .ok (.invokevirtual 59, 3) := by decide +kernel
theorem dL_step_507 : decode cL_step 507 = .ok (.aload_n 1, 1) := by decide +kernel
theorem dL_step_508 : decode cL_step 508 = .ok (.iload 6, 2) := by decide +kernel
theorem dL_step_510 : decode cL_step 510 = .ok (.iaload, 1) := by decide +kernel
theorem dL_step_511 : decode cL_step 511 = .ok (.if_icmp .ne 18, 3) := by decide +kernel
theorem dL_step_514 : decode cL_step 514 = .ok (.aload_n 0, 1) := by decide +kernel
theorem dL_step_515 : decode cL_step 515 = .ok (.invokevirtual 26, 3) := by decide +kernel
theorem dL_step_518 : decode cL_step 518 = .ok (.aload_n 1, 1) := by decide +kernel
theorem dL_step_519 : decode cL_step 519 = .ok (.bipush 62, 2) := by decide +kernel
theorem dL_step_521 : decode cL_step 521 = .ok (.iaload, 1) := by decide +kernel
theorem dL_step_522 : decode cL_step 522 = .ok (.if_icmp .ne 7, 3) := by decide +kernel
theorem dL_step_525 : decode cL_step 525 = .ok (.iconst 1, 1) := by decide +kernel
theorem dL_step_526 : decode cL_step 526 = .ok (.goto 4, 3) := by decide +kernel
theorem dL_step_529 : decode cL_step 529 = .ok (.iconst 0, 1) := by decide +kernel
theorem dL_step_530 : decode cL_step 530 = .ok (.ireturn, 1) := by decide +kernel
set_option maxRecDepth 20000 in
theorem ggL_begins_X7_size : GoodIn wsL_begins wsX7_size := goodIn_r _ [6, 7, 8, 9, 10, 11, 12, 13, 309, 310, 311, 312, 313, 314, 315, 316, 317, 318, 319, 320, 321, 322] (by decide +kernel) (by decide +kernel)
set_option maxRecDepth 20000 in
theorem gL_begins_X7_size : GoodIn wsL_begins (wsV RL 10 RX7 yX7_size wsX7_size) := goodIn_app (goodIn_of _ (by decide +kernel)) ggL_begins_X7_size
set_option maxRecDepth 20000 in
theorem ggL_begins_X7_begin : GoodIn wsL_begins wsX7_begin := goodIn_ca (goodIn_r _ [17, 7, 18, 19, 20, 5, 21, 22, 23, 24, 25, 11, 26, 27, 28, 29, 30, 31, 32, 33, 34, 35, 36, 37, 13, 38, 39, 40, 41, 42, 43, 44, 45, 46, 47, 48, 49, 50, 51, 52, 53, 54, 55, 56, 57, 58, 59, 60, 61, 62, 63, 64, 65, 66, 8, 9, 10, 12, 309, 310, 311, 312, 313, 314, 315, 316, 317, 318, 319, 320, 321, 322, 323, 324, 325] (by decide +kernel) (by decide +kernel)) (goodIn_sub (fun _ h => List.mem_cons_of_mem _ (List.mem_append_left _ (List.mem_append_right _ h))) (by decide +kernel))
set_option maxRecDepth 20000 in
theorem gL_begins_X7_begin : GoodIn wsL_begins (wsV RL 62 RX7 yX7_begin wsX7_begin) := goodIn_app (goodIn_of _ (by decide +kernel)) ggL_begins_X7_begin
set_option maxRecDepth 20000 in
theorem ggL_begins_X7_loose : GoodIn wsL_begins wsX7_loose := goodIn_r _ [70, 7, 71, 72, 73, 11, 74, 13, 75, 76, 77, 78, 36, 79, 5, 80, 81, 82, 83, 84, 85, 86, 87, 88, 89, 90, 91, 92, 93, 94, 95, 96, 97, 98, 99, 100, 101, 102, 103, 41, 104, 105, 58, 59, 309, 310, 311, 312, 313, 314, 315, 316, 317, 318, 319, 320, 321, 322] (by decide +kernel) (by decide +kernel)
set_option maxRecDepth 20000 in
theorem gL_begins_X7_loose : GoodIn wsL_begins (wsV RL 66 RX7 yX7_loose wsX7_loose) := goodIn_app (goodIn_of _ (by decide +kernel)) ggL_begins_X7_loose
set_option maxRecDepth 20000 in
theorem ggL_begins_X7_watered : GoodIn wsL_begins wsX7_watered := goodIn_r _ [109, 7, 110, 111, 112, 11, 113, 39, 114, 115, 116, 117, 118, 92, 93, 94, 95, 96, 97, 98, 99, 36, 100, 101, 102, 103, 41, 79, 5, 80, 104, 105, 58, 59, 119, 120, 121, 122, 82, 83, 84, 85, 86, 87, 309, 310, 311, 312, 313, 314, 315, 316, 317, 318, 319, 320, 321, 322] (by decide +kernel) (by decide +kernel)
set_option maxRecDepth 20000 in
theorem gL_begins_X7_watered : GoodIn wsL_begins (wsV RL 69 RX7 yX7_watered wsX7_watered) := goodIn_app (goodIn_of _ (by decide +kernel)) ggL_begins_X7_watered
set_option maxRecDepth 20000 in
theorem ggL_begins_X7_solutions : GoodIn wsL_begins wsX7_solutions := goodIn_r _ [126, 127, 128, 129, 130, 131, 132, 133, 134, 135, 136, 55, 56, 11, 57, 13, 137, 138, 139, 140, 75, 76, 77, 78, 36, 79, 5, 80, 141, 142, 143, 144, 38, 104, 105, 145, 146, 147, 148, 149, 150, 151, 152, 153, 154, 155, 156, 157, 158, 159, 160, 161, 162, 163, 164, 165, 166, 167, 168, 169, 170, 171, 101, 102, 103, 41, 58, 59, 172, 173, 174, 175, 176, 177, 178, 179, 119, 120, 121, 180, 181, 182, 183, 184, 185, 186, 187, 188, 189, 190, 191, 192, 193, 194, 195, 196, 197, 198, 199, 200, 201, 43, 44, 45, 202, 203, 204, 205, 206, 207, 208, 209, 210, 211, 212, 213, 214, 215, 216, 217, 218, 219, 220, 221, 222, 223, 224, 225, 226, 227, 228, 309, 310, 311, 312, 313, 314, 326, 327, 328, 329, 330, 315, 316, 317, 318, 319, 320, 321, 322, 331, 332, 333, 334, 335, 336, 337, 338] (by decide +kernel) (by decide +kernel)
set_option maxRecDepth 20000 in
theorem gL_begins_X7_solutions : GoodIn wsL_begins (wsV RL 72 RX7 yX7_solutions wsX7_solutions) := goodIn_app (goodIn_of _ (by decide +kernel)) ggL_begins_X7_solutions
set_option maxRecDepth 20000 in
theorem ggL_begins_X7_make : GoodIn wsL_begins wsX7_make := goodIn_ca (goodIn_r _ [232, 22, 23, 233, 234, 7, 18, 19, 20, 5, 21, 24, 25, 11, 26, 27, 28, 29, 30, 31, 32, 33, 34, 35, 36, 37, 13, 38, 39, 40, 41, 42, 43, 44, 45, 46, 47, 48, 49, 50, 51, 52, 53, 54, 55, 56, 57, 58, 59, 60, 61, 62, 63, 64, 65, 66, 235, 236, 237, 238, 239, 240, 241, 242, 243, 244, 245, 246, 247, 248, 249, 9, 10, 12, 250, 251, 252, 253, 254, 255, 256, 257, 258, 259, 260, 261, 262, 263, 264, 265, 79, 80, 266, 267, 268, 269, 270, 115, 116, 117, 118, 92, 93, 94, 95, 96, 97, 98, 99, 100, 101, 102, 103, 104, 105, 119, 120, 121, 271, 76, 77, 78, 272, 273, 274, 275, 276, 277, 278, 279, 75, 145, 146, 280, 281, 282, 283, 284, 81, 82, 83, 84, 85, 86, 87, 309, 310, 311, 312, 313, 314, 315, 316, 317, 318, 319, 320, 321, 322, 323, 324, 325, 339, 340, 341, 342, 343] (by decide +kernel) (by decide +kernel)) (goodIn_sub (fun _ h => List.mem_cons_of_mem _ (List.mem_append_left _ (List.mem_append_right _ h))) (by decide +kernel))
set_option maxRecDepth 20000 in
theorem gL_begins_X7_make : GoodIn wsL_begins (wsV RL 76 RX7 yX7_make wsX7_make) := goodIn_app (goodIn_of _ (by decide +kernel)) ggL_begins_X7_make
set_option maxRecDepth 20000 in
theorem ggL_begins_X7_tile : GoodIn wsL_begins wsX7_tile := goodIn_ca (goodIn_r _ [288, 7, 289, 290, 291, 5, 292, 293, 294, 295, 55, 56, 11, 57, 13, 296, 76, 77, 78, 36, 79, 80, 309, 310, 311, 312, 313, 314, 315, 316, 317, 318, 319, 320, 321, 322] (by decide +kernel) (by decide +kernel)) (goodIn_sub (fun _ h => List.mem_cons_of_mem _ (List.mem_append_right _ h)) (by decide +kernel))
set_option maxRecDepth 20000 in
theorem gL_begins_X7_tile : GoodIn wsL_begins (wsV RL 80 RX7 yX7_tile wsX7_tile) := goodIn_app (goodIn_of _ (by decide +kernel)) ggL_begins_X7_tile
set_option maxRecDepth 20000 in
theorem ggL_begins_L_sides : GoodIn wsL_begins wsL_sides := goodIn_r _ [300] (by decide +kernel) (by decide +kernel)
set_option maxRecDepth 20000 in
theorem gL_begins_L_sides : GoodIn wsL_begins (va_wsS RL 83 yL_sides wsL_sides) := goodIn_app (goodIn_of _ (by decide +kernel)) ggL_begins_L_sides
set_option maxRecDepth 20000 in
theorem ggL_begins_X7_moves : GoodIn wsL_begins wsX7_moves := goodIn_r _ [304, 31, 305, 306, 307, 63, 308, 65, 309, 310, 311, 312, 313, 314, 323, 324, 325] (by decide +kernel) (by decide +kernel)
set_option maxRecDepth 20000 in
theorem gL_begins_X7_moves : GoodIn wsL_begins (wsV RL 26 RX7 yX7_moves wsX7_moves) := goodIn_app (goodIn_of _ (by decide +kernel)) ggL_begins_X7_moves
theorem dL_begins_0 : decode cL_begins 0 = .ok (.iconst 2, 1) := by decide +kernel
theorem dL_begins_1 : decode cL_begins 1 = .ok (.iload_n 3, 1) := by decide +kernel
theorem dL_begins_2 : decode cL_begins 2 = .ok (.iconst 4, 1) := by decide +kernel
theorem dL_begins_3 : decode cL_begins 3 = .ok (.irem, 1) := by decide +kernel
theorem dL_begins_4 : decode cL_begins 4 = .ok (.iadd, 1) := by decide +kernel
theorem dL_begins_5 : decode cL_begins 5 = .ok (.istore 5, 2) := by decide +kernel
theorem dL_begins_7 : decode cL_begins 7 = .ok (.iconst 2, 1) := by decide +kernel
theorem dL_begins_8 : decode cL_begins 8 = .ok (.iload_n 3, 1) := by decide +kernel
theorem dL_begins_9 : decode cL_begins 9 = .ok (.iconst 4, 1) := by decide +kernel
theorem dL_begins_10 : decode cL_begins 10 = .ok (.idiv, 1) := by decide +kernel
theorem dL_begins_11 : decode cL_begins 11 = .ok (.iconst 4, 1) := by decide +kernel
theorem dL_begins_12 : decode cL_begins 12 = .ok (.irem, 1) := by decide +kernel
theorem dL_begins_13 : decode cL_begins 13 = .ok (.iadd, 1) := by decide +kernel
theorem dL_begins_14 : decode cL_begins 14 = .ok (.istore 6, 2) := by decide +kernel
theorem dL_begins_16 : decode cL_begins 16 = .ok (.iload 4, 2) := by decide +kernel
theorem dL_begins_18 : decode cL_begins 18 = .ok (.iconst 3, 1) := by decide +kernel
theorem dL_begins_19 : decode cL_begins 19 = .ok (.irem, 1) := by decide +kernel
theorem dL_begins_20 : decode cL_begins 20 = .ok (.ifCond .ne 29, 3) := by decide +kernel
theorem dL_begins_23 : decode cL_begins 23 = .ok (.iload 5, 2) := by decide +kernel
theorem dL_begins_25 : decode cL_begins 25 = .ok (.iconst 2, 1) := by decide +kernel
theorem dL_begins_26 : decode cL_begins 26 = .ok (.if_icmp .le 23, 3) := by decide +kernel
theorem dL_begins_29 : decode cL_begins 29 = .ok (.iload 6, 2) := by decide +kernel
theorem dL_begins_31 : decode cL_begins 31 = .ok (.iconst 2, 1) := by decide +kernel
theorem dL_begins_32 : decode cL_begins 32 = .ok (.if_icmp .le 17, 3) := by decide +kernel
theorem dL_begins_35 : decode cL_begins 35 = .ok (.iload 5, 2) := by decide +kernel
theorem dL_begins_37 : decode cL_begins 37 = .ok (.iload 6, 2) := by decide +kernel
theorem dL_begins_39 : decode cL_begins 39 = .ok (.imul, 1) := by decide +kernel
theorem dL_begins_40 : decode cL_begins 40 = .ok (.bipush 12, 2) := by decide +kernel
theorem dL_begins_42 : decode cL_begins 42 = .ok (.if_icmp .gt 7, 3) := by decide +kernel
theorem dL_begins_45 : decode cL_begins 45 = .ok (.iconst 1, 1) := by decide +kernel
theorem dL_begins_46 : decode cL_begins 46 = .ok (.goto 4, 3) := by decide +kernel
theorem dL_begins_49 : decode cL_begins 49 = .ok (.iconst 0, 1) := by decide +kernel
theorem dL_begins_50 : decode cL_begins 50 = .ok (.istore 7, 2) := by decide +kernel
theorem dL_begins_52 : decode cL_begins 52 = .ok (.iload 5, 2) := by decide +kernel
theorem dL_begins_54 : decode cL_begins 54 = .ok (.iload 6, 2) := by decide +kernel
theorem dL_begins_56 : decode cL_begins 56 = .ok (.imul, 1) := by decide +kernel
theorem dL_begins_57 : decode cL_begins 57 = .ok (.bipush 12, 2) := by decide +kernel
theorem dL_begins_59 : decode cL_begins 59 = .ok (.if_icmp .le 18, 3) := by decide +kernel
theorem dL_begins_62 : decode cL_begins 62 = .ok (.aload_n 0, 1) := by decide +kernel
theorem dL_begins_63 : decode cL_begins 63 = .ok (.invokevirtual 10, 3) := by decide +kernel
theorem dL_begins_66 : decode cL_begins 66 = .ok (.bipush 16, 2) := by decide +kernel
theorem dL_begins_68 : decode cL_begins 68 = .ok (.if_icmp .gt 7, 3) := by decide +kernel
theorem dL_begins_71 : decode cL_begins 71 = .ok (.iconst 1, 1) := by decide +kernel
theorem dL_begins_72 : decode cL_begins 72 = .ok (.goto 4, 3) := by decide +kernel
theorem dL_begins_75 : decode cL_begins 75 = .ok (.iconst 0, 1) := by decide +kernel
theorem dL_begins_76 : decode cL_begins 76 = .ok (.ireturn, 1) := by decide +kernel
theorem dL_begins_77 : decode cL_begins 77 = .ok (.iconst 0, 1) := by decide +kernel
theorem dL_begins_78 : decode cL_begins 78 = .ok (.istore 8, 2) := by decide +kernel
theorem dL_begins_80 : decode cL_begins 80 = .ok (.iload 8, 2) := by decide +kernel
theorem dL_begins_82 : decode cL_begins 82 = .ok (.bipush 64, 2) := by decide +kernel
theorem dL_begins_84 : decode cL_begins 84 = .ok (.if_icmp .ge 22, 3) := by decide +kernel
theorem dL_begins_87 : decode cL_begins 87 = .ok (.aload_n 1, 1) := by decide +kernel
theorem dL_begins_88 : decode cL_begins 88 = .ok (.iload 8, 2) := by decide +kernel
theorem dL_begins_90 : decode cL_begins 90 = .ok (.iconst 0, 1) := by decide +kernel
theorem dL_begins_91 : decode cL_begins 91 = .ok (.iastore, 1) := by decide +kernel
theorem dL_begins_92 : decode cL_begins 92 = .ok (.aload_n 2, 1) := by decide +kernel
theorem dL_begins_93 : decode cL_begins 93 = .ok (.iload 8, 2) := by decide +kernel
theorem dL_begins_95 : decode cL_begins 95 = .ok (.bipush 16, 2) := by decide +kernel
theorem dL_begins_97 : decode cL_begins 97 = .ok (.irem, 1) := by decide +kernel
theorem dL_begins_98 : decode cL_begins 98 = .ok (.iconst 0, 1) := by decide +kernel
theorem dL_begins_99 : decode cL_begins 99 = .ok (.iastore, 1) := by decide +kernel
theorem dL_begins_100 : decode cL_begins 100 = .ok (.iinc 8 1, 3) := by decide +kernel
theorem dL_begins_103 : decode cL_begins 103 = .ok (.goto (-23), 3) := by decide +kernel
theorem dL_begins_106 : decode cL_begins 106 = .ok (.iload 4, 2) := by decide +kernel
theorem dL_begins_108 : decode cL_begins 108 = .ok (.iconst 3, 1) := by decide +kernel
theorem dL_begins_109 : decode cL_begins 109 = .ok (.idiv, 1) := by decide +kernel
theorem dL_begins_110 : decode cL_begins 110 = .ok (.iconst 4, 1) := by decide +kernel
theorem dL_begins_111 : decode cL_begins 111 = .ok (.irem, 1) := by decide +kernel
theorem dL_begins_112 : decode cL_begins 112 = .ok (.ifCond .ne 61, 3) := by decide +kernel
theorem dL_begins_115 : decode cL_begins 115 = .ok (.aload_n 0, 1) := by decide +kernel
theorem dL_begins_116 : decode cL_begins 116 = .ok (.iload 5, 2) := by decide +kernel
theorem dL_begins_118 : decode cL_begins 118 = .ok (.iload 6, 2) := by decide +kernel
theorem dL_begins_120 : decode cL_begins 120 = .ok (.iload 7, 2) := by decide +kernel
theorem dL_begins_122 : decode cL_begins 122 = .ok (.invokevirtual 62, 3) := by decide +kernel
theorem dL_begins_125 : decode cL_begins 125 = .ok (.iload 5, 2) := by decide +kernel
theorem dL_begins_127 : decode cL_begins 127 = .ok (.iload 6, 2) := by decide +kernel
theorem dL_begins_129 : decode cL_begins 129 = .ok (.imul, 1) := by decide +kernel
theorem dL_begins_130 : decode cL_begins 130 = .ok (.if_icmp .ne 41, 3) := by decide +kernel
theorem dL_begins_133 : decode cL_begins 133 = .ok (.aload_n 0, 1) := by decide +kernel
theorem dL_begins_134 : decode cL_begins 134 = .ok (.invokevirtual 10, 3) := by decide +kernel
theorem dL_begins_137 : decode cL_begins 137 = .ok (.iload 5, 2) := by decide +kernel
theorem dL_begins_139 : decode cL_begins 139 = .ok (.iload 6, 2) := by decide +kernel
theorem dL_begins_141 : decode cL_begins 141 = .ok (.imul, 1) := by decide +kernel
theorem dL_begins_142 : decode cL_begins 142 = .ok (.if_icmp .ne 29, 3) := by decide +kernel
theorem dL_begins_145 : decode cL_begins 145 = .ok (.aload_n 0, 1) := by decide +kernel
theorem dL_begins_146 : decode cL_begins 146 = .ok (.invokevirtual 66, 3) := by decide +kernel
theorem dL_begins_149 : decode cL_begins 149 = .ok (.ifCond .ne 22, 3) := by decide +kernel
theorem dL_begins_152 : decode cL_begins 152 = .ok (.aload_n 0, 1) := by decide +kernel
theorem dL_begins_153 : decode cL_begins 153 = .ok (.invokevirtual 69, 3) := by decide +kernel
theorem dL_begins_156 : decode cL_begins 156 = .ok (.iconst 1, 1) := by decide +kernel
theorem dL_begins_157 : decode cL_begins 157 = .ok (.if_icmp .ne 14, 3) := by decide +kernel
theorem dL_begins_160 : decode cL_begins 160 = .ok (.aload_n 0, 1) := by decide +kernel
theorem dL_begins_161 : decode cL_begins 161 = .ok (.invokevirtual 72, 3) := by decide +kernel
theorem dL_begins_164 : decode cL_begins 164 = .ok (.ifCond .ne 7, 3) := by decide +kernel
theorem dL_begins_167 : decode cL_begins 167 = .ok (.iconst 1, 1) := by decide +kernel
theorem dL_begins_168 : decode cL_begins 168 = .ok (.goto 4, 3) := by decide +kernel
theorem dL_begins_171 : decode cL_begins 171 = .ok (.iconst 0, 1) := by decide +kernel
theorem dL_begins_172 : decode cL_begins 172 = .ok (.ireturn, 1) := by decide +kernel
theorem dL_begins_173 : decode cL_begins 173 = .ok (.aload_n 0, 1) := by decide +kernel
theorem dL_begins_174 : decode cL_begins 174 = .ok (.iload 5, 2) := by decide +kernel
theorem dL_begins_176 : decode cL_begins 176 = .ok (.iload 6, 2) := by decide +kernel
theorem dL_begins_178 : decode cL_begins 178 = .ok (.iload 7, 2) := by decide +kernel
theorem dL_begins_180 : decode cL_begins 180 = .ok (.iload 4, 2) := by decide +kernel
theorem dL_begins_182 : decode cL_begins 182 = .ok (.bipush 12, 2) := by decide +kernel
theorem dL_begins_184 : decode cL_begins 184 = .ok (.idiv, 1) := by decide +kernel
theorem dL_begins_185 : decode cL_begins 185 = .ok (.ldc 75, 2) := by decide +kernel
theorem dL_begins_187 : decode cL_begins 187 = .ok (.irem, 1) := by decide +kernel
theorem dL_begins_188 : decode cL_begins 188 = .ok (.invokevirtual 76, 3) := by decide +kernel
theorem dL_begins_191 : decode cL_begins 191 = .ok (.istore 8, 2) := by decide +kernel
theorem dL_begins_193 : decode cL_begins 193 = .ok (.iconst 0, 1) := by decide +kernel
theorem dL_begins_194 : decode cL_begins 194 = .ok (.istore 9, 2) := by decide +kernel
theorem dL_begins_196 : decode cL_begins 196 = .ok (.iconst 0, 1) := by decide +kernel
theorem dL_begins_197 : decode cL_begins 197 = .ok (.istore 10, 2) := by decide +kernel
theorem dL_begins_199 : decode cL_begins 199 = .ok (.iconst 0, 1) := by decide +kernel
theorem dL_begins_200 : decode cL_begins 200 = .ok (.istore 11, 2) := by decide +kernel
theorem dL_begins_202 : decode cL_begins 202 = .ok (.iload 11, 2) := by decide +kernel
theorem dL_begins_204 : decode cL_begins 204 = .ok (.aload_n 0, 1) := by decide +kernel
theorem dL_begins_205 : decode cL_begins 205 = .ok (.invokevirtual 10, 3) := by decide +kernel
theorem dL_begins_208 : decode cL_begins 208 = .ok (.if_icmp .ge 52, 3) := by decide +kernel
theorem dL_begins_211 : decode cL_begins 211 = .ok (.aload_n 1, 1) := by decide +kernel
theorem dL_begins_212 : decode cL_begins 212 = .ok (.iload 11, 2) := by decide +kernel
theorem dL_begins_214 : decode cL_begins 214 = .ok (.aload_n 0, 1) := by decide +kernel
theorem dL_begins_215 : decode cL_begins 215 = .ok (.iload 11, 2) := by decide +kernel
theorem dL_begins_217 : decode cL_begins 217 = .ok (.invokevirtual 80, 3) := by decide +kernel
theorem dL_begins_220 : decode cL_begins 220 = .ok (.iastore, 1) := by decide +kernel
theorem dL_begins_221 : decode cL_begins 221 = .ok (.iload 9, 2) := by decide +kernel
theorem dL_begins_223 : decode cL_begins 223 = .ok (.aload_n 1, 1) := by decide +kernel
theorem dL_begins_224 : decode cL_begins 224 = .ok (.iload 11, 2) := by decide +kernel
theorem dL_begins_226 : decode cL_begins 226 = .ok (.iaload, 1) := by decide +kernel
theorem dL_begins_227 : decode cL_begins 227 = .ok (.invokestatic 83, 3) := by decide +kernel
theorem dL_begins_230 : decode cL_begins 230 = .ok (.iadd, 1) := by decide +kernel
theorem dL_begins_231 : decode cL_begins 231 = .ok (.istore 9, 2) := by decide +kernel
theorem dL_begins_233 : decode cL_begins 233 = .ok (.iload 10, 2) := by decide +kernel
theorem dL_begins_235 : decode cL_begins 235 = .ok (.aload_n 1, 1) := by decide +kernel
theorem dL_begins_236 : decode cL_begins 236 = .ok (.iload 11, 2) := by decide +kernel
theorem dL_begins_238 : decode cL_begins 238 = .ok (.iaload, 1) := by decide +kernel
theorem dL_begins_239 : decode cL_begins 239 = .ok (.invokestatic 83, 3) := by decide +kernel
theorem dL_begins_242 : decode cL_begins 242 = .ok (.iconst 1, 1) := by decide +kernel
theorem dL_begins_243 : decode cL_begins 243 = .ok (.if_icmp .ne 7, 3) := by decide +kernel
theorem dL_begins_246 : decode cL_begins 246 = .ok (.iconst 1, 1) := by decide +kernel
theorem dL_begins_247 : decode cL_begins 247 = .ok (.goto 4, 3) := by decide +kernel
theorem dL_begins_250 : decode cL_begins 250 = .ok (.iconst 0, 1) := by decide +kernel
theorem dL_begins_251 : decode cL_begins 251 = .ok (.iadd, 1) := by decide +kernel
theorem dL_begins_252 : decode cL_begins 252 = .ok (.istore 10, 2) := by decide +kernel
theorem dL_begins_254 : decode cL_begins 254 = .ok (.iinc 11 1, 3) := by decide +kernel
theorem dL_begins_257 : decode cL_begins 257 = .ok (.goto (-55), 3) := by decide +kernel
theorem dL_begins_260 : decode cL_begins 260 = .ok (.iload 8, 2) := by decide +kernel
theorem dL_begins_262 : decode cL_begins 262 = .ok (.iload 10, 2) := by decide +kernel
theorem dL_begins_264 : decode cL_begins 264 = .ok (.if_icmp .ne 47, 3) := by decide +kernel
theorem dL_begins_267 : decode cL_begins 267 = .ok (.iload 9, 2) := by decide +kernel
theorem dL_begins_269 : decode cL_begins 269 = .ok (.iconst 2, 1) := by decide +kernel
theorem dL_begins_270 : decode cL_begins 270 = .ok (.aload_n 0, 1) := by decide +kernel
theorem dL_begins_271 : decode cL_begins 271 = .ok (.invokevirtual 10, 3) := by decide +kernel
theorem dL_begins_274 : decode cL_begins 274 = .ok (.imul, 1) := by decide +kernel
theorem dL_begins_275 : decode cL_begins 275 = .ok (.iconst 2, 1) := by decide +kernel
theorem dL_begins_276 : decode cL_begins 276 = .ok (.isub, 1) := by decide +kernel
theorem dL_begins_277 : decode cL_begins 277 = .ok (.if_icmp .ne 34, 3) := by decide +kernel
theorem dL_begins_280 : decode cL_begins 280 = .ok (.aload_n 0, 1) := by decide +kernel
theorem dL_begins_281 : decode cL_begins 281 = .ok (.invokevirtual 10, 3) := by decide +kernel
theorem dL_begins_284 : decode cL_begins 284 = .ok (.iload 5, 2) := by decide +kernel
theorem dL_begins_286 : decode cL_begins 286 = .ok (.iload 6, 2) := by decide +kernel
theorem dL_begins_288 : decode cL_begins 288 = .ok (.imul, 1) := by decide +kernel
theorem dL_begins_289 : decode cL_begins 289 = .ok (.if_icmp .ne 22, 3) := by decide +kernel
theorem dL_begins_292 : decode cL_begins 292 = .ok (.aload_n 0, 1) := by decide +kernel
theorem dL_begins_293 : decode cL_begins 293 = .ok (.invokevirtual 26, 3) := by decide +kernel
theorem dL_begins_296 : decode cL_begins 296 = .ok (.ifCond .ne 15, 3) := by decide +kernel
theorem dL_begins_299 : decode cL_begins 299 = .ok (.aload_n 0, 1) := by decide +kernel
theorem dL_begins_300 : decode cL_begins 300 = .ok (.invokevirtual 72, 3) := by decide +kernel
theorem dL_begins_303 : decode cL_begins 303 = .ok (.iconst 1, 1) := by decide +kernel
theorem dL_begins_304 : decode cL_begins 304 = .ok (.if_icmp .lt 7, 3) := by decide +kernel
theorem dL_begins_307 : decode cL_begins 307 = .ok (.iconst 1, 1) := by decide +kernel
theorem dL_begins_308 : decode cL_begins 308 = .ok (.goto 4, 3) := by decide +kernel
theorem dL_begins_311 : decode cL_begins 311 = .ok (.iconst 0, 1) := by decide +kernel
theorem dL_begins_312 : decode cL_begins 312 = .ok (.ireturn, 1) := by decide +kernel
set_option maxRecDepth 20000 in
theorem ggL_undoes_X7_moves : GoodIn wsL_undoes wsX7_moves := goodIn_r _ [5, 6, 7, 8, 9, 10, 11, 12, 73, 74, 75, 76, 77, 78, 79, 80, 81] (by decide +kernel) (by decide +kernel)
set_option maxRecDepth 20000 in
theorem gL_undoes_X7_moves : GoodIn wsL_undoes (wsV RL 26 RX7 yX7_moves wsX7_moves) := goodIn_app (goodIn_of _ (by decide +kernel)) ggL_undoes_X7_moves
set_option maxRecDepth 20000 in
theorem ggL_undoes_L_turned : GoodIn wsL_undoes wsL_turned := goodIn_r _ [16] (by decide +kernel) (by decide +kernel)
set_option maxRecDepth 20000 in
theorem gL_undoes_L_turned : GoodIn wsL_undoes (va_wsS RL 56 yL_turned wsL_turned) := goodIn_app (goodIn_of _ (by decide +kernel)) ggL_undoes_L_turned
set_option maxRecDepth 20000 in
theorem ggL_undoes_X7_undo : GoodIn wsL_undoes wsX7_undo := goodIn_ca (goodIn_r _ [20, 21, 22, 6, 23, 24, 25, 26, 10, 27, 12, 28, 29, 30, 31, 32, 33, 34, 35, 36, 37, 38, 39, 4, 40, 41, 42, 43, 44, 45, 46, 47, 48, 49, 50, 51, 7, 8, 9, 11, 73, 74, 75, 76, 77, 78, 79, 80, 81, 82, 83, 84, 85, 86, 87, 88, 89] (by decide +kernel) (by decide +kernel)) (goodIn_sub (fun _ h => List.mem_cons_of_mem _ (List.mem_append_left _ (List.mem_append_right _ h))) (by decide +kernel))
set_option maxRecDepth 20000 in
theorem gL_undoes_X7_undo : GoodIn wsL_undoes (wsV RL 86 RX7 yX7_undo wsX7_undo) := goodIn_app (goodIn_of _ (by decide +kernel)) ggL_undoes_X7_undo
set_option maxRecDepth 20000 in
theorem ggL_undoes_X7_tile : GoodIn wsL_undoes wsX7_tile := goodIn_ca (goodIn_r _ [55, 23, 56, 57, 58, 4, 59, 60, 61, 62, 48, 49, 32, 50, 51, 63, 35, 36, 37, 38, 39, 40, 73, 74, 75, 76, 77, 78, 82, 83, 84, 85, 86, 87, 88, 89] (by decide +kernel) (by decide +kernel)) (goodIn_sub (fun _ h => List.mem_cons_of_mem _ (List.mem_append_right _ h)) (by decide +kernel))
set_option maxRecDepth 20000 in
theorem gL_undoes_X7_tile : GoodIn wsL_undoes (wsV RL 80 RX7 yX7_tile wsX7_tile) := goodIn_app (goodIn_of _ (by decide +kernel)) ggL_undoes_X7_tile
set_option maxRecDepth 20000 in
theorem ggL_undoes_X7_redo : GoodIn wsL_undoes wsX7_redo := goodIn_ca (goodIn_r _ [67, 21, 22, 6, 23, 68, 69, 70, 10, 71, 12, 72, 28, 29, 30, 31, 32, 33, 34, 35, 36, 37, 38, 39, 4, 40, 41, 42, 43, 44, 45, 46, 47, 48, 49, 50, 51, 7, 8, 9, 11, 73, 74, 75, 76, 77, 78, 79, 80, 81, 82, 83, 84, 85, 86, 87, 88, 89] (by decide +kernel) (by decide +kernel)) (goodIn_sub (fun _ h => List.mem_cons_of_mem _ (List.mem_append_left _ (List.mem_append_right _ h))) (by decide +kernel))
set_option maxRecDepth 20000 in
theorem gL_undoes_X7_redo : GoodIn wsL_undoes (wsV RL 89 RX7 yX7_redo wsX7_redo) := goodIn_app (goodIn_of _ (by decide +kernel)) ggL_undoes_X7_redo
theorem dL_undoes_0 : decode cL_undoes 0 = .ok (.iload_n 2, 1) := by decide +kernel
theorem dL_undoes_1 : decode cL_undoes 1 = .ok (.ifCond .eq 13, 3) := by decide +kernel
theorem dL_undoes_4 : decode cL_undoes 4 = .ok (.aload_n 1, 1) := by decide +kernel
theorem dL_undoes_5 : decode cL_undoes 5 = .ok (.bipush 62, 2) := by decide +kernel
theorem dL_undoes_7 : decode cL_undoes 7 = .ok (.iaload, 1) := by decide +kernel
theorem dL_undoes_8 : decode cL_undoes 8 = .ok (.ifCond .ne 34, 3) := by decide +kernel
theorem dL_undoes_11 : decode cL_undoes 11 = .ok (.goto 14, 3) := by decide +kernel
theorem dL_undoes_14 : decode cL_undoes 14 = .ok (.aload_n 1, 1) := by decide +kernel
theorem dL_undoes_15 : decode cL_undoes 15 = .ok (.bipush 62, 2) := by decide +kernel
theorem dL_undoes_17 : decode cL_undoes 17 = .ok (.iaload, 1) := by decide +kernel
theorem dL_undoes_18 : decode cL_undoes 18 = .ok (.aload_n 1, 1) := by decide +kernel
theorem dL_undoes_19 : decode cL_undoes 19 = .ok (.bipush 63, 2) := by decide +kernel
theorem dL_undoes_21 : decode cL_undoes 21 = .ok (.iaload, 1) := by decide +kernel
theorem dL_undoes_22 : decode cL_undoes 22 = .ok (.if_icmp .ne 20, 3) := by decide +kernel
theorem dL_undoes_25 : decode cL_undoes 25 = .ok (.aload_n 0, 1) := by decide +kernel
theorem dL_undoes_26 : decode cL_undoes 26 = .ok (.invokevirtual 26, 3) := by decide +kernel
theorem dL_undoes_29 : decode cL_undoes 29 = .ok (.aload_n 1, 1) := by decide +kernel
theorem dL_undoes_30 : decode cL_undoes 30 = .ok (.bipush 62, 2) := by decide +kernel
theorem dL_undoes_32 : decode cL_undoes 32 = .ok (.iaload, 1) := by decide +kernel
theorem dL_undoes_33 : decode cL_undoes 33 = .ok (.if_icmp .ne 7, 3) := by decide +kernel
theorem dL_undoes_36 : decode cL_undoes 36 = .ok (.iconst 1, 1) := by decide +kernel
theorem dL_undoes_37 : decode cL_undoes 37 = .ok (.goto 4, 3) := by decide +kernel
theorem dL_undoes_40 : decode cL_undoes 40 = .ok (.iconst 0, 1) := by decide +kernel
theorem dL_undoes_41 : decode cL_undoes 41 = .ok (.ireturn, 1) := by decide +kernel
theorem dL_undoes_42 : decode cL_undoes 42 = .ok (.iload_n 2, 1) := by decide +kernel
theorem dL_undoes_43 : decode cL_undoes 43 = .ok (.ifCond .eq 64, 3) := by decide +kernel
theorem dL_undoes_46 : decode cL_undoes 46 = .ok (.aload_n 1, 1) := by decide +kernel
theorem dL_undoes_47 : decode cL_undoes 47 = .ok (.bipush 62, 2) := by decide +kernel
theorem dL_undoes_49 : decode cL_undoes 49 = .ok (.dup2, 1) := by decide +kernel
theorem dL_undoes_50 : decode cL_undoes 50 = .ok (.iaload, 1) := by decide +kernel
theorem dL_undoes_51 : decode cL_undoes 51 = .ok (.iconst 1, 1) := by decide +kernel
theorem dL_undoes_52 : decode cL_undoes 52 = .ok (.isub, 1) := by decide +kernel
theorem dL_undoes_53 : decode cL_undoes 53 = .ok (.iastore, 1) := by decide +kernel
theorem dL_undoes_54 : decode cL_undoes 54 = .ok (.aload_n 1, 1) := by decide +kernel
theorem dL_undoes_55 : decode cL_undoes 55 = .ok (.bipush 32, 2) := by decide +kernel
theorem dL_undoes_57 : decode cL_undoes 57 = .ok (.aload_n 1, 1) := by decide +kernel
theorem dL_undoes_58 : decode cL_undoes 58 = .ok (.bipush 62, 2) := by decide +kernel
theorem dL_undoes_60 : decode cL_undoes 60 = .ok (.iaload, 1) := by decide +kernel
theorem dL_undoes_61 : decode cL_undoes 61 = .ok (.iadd, 1) := by decide +kernel
theorem dL_undoes_62 : decode cL_undoes 62 = .ok (.iaload, 1) := by decide +kernel
theorem dL_undoes_63 : decode cL_undoes 63 = .ok (.istore_n 3, 1) := by decide +kernel
theorem dL_undoes_64 : decode cL_undoes 64 = .ok (.aload_n 1, 1) := by decide +kernel
theorem dL_undoes_65 : decode cL_undoes 65 = .ok (.iload_n 3, 1) := by decide +kernel
theorem dL_undoes_66 : decode cL_undoes 66 = .ok (.aload_n 1, 1) := by decide +kernel
theorem dL_undoes_67 : decode cL_undoes 67 = .ok (.iload_n 3, 1) := by decide +kernel
theorem dL_undoes_68 : decode cL_undoes 68 = .ok (.iaload, 1) := by decide +kernel
theorem dL_undoes_69 : decode cL_undoes 69 = .ok (.invokestatic 56, 3) := by decide +kernel
theorem dL_undoes_72 : decode cL_undoes 72 = .ok (.invokestatic 56, 3) := by decide +kernel
theorem dL_undoes_75 : decode cL_undoes 75 = .ok (.invokestatic 56, 3) := by decide +kernel
theorem dL_undoes_78 : decode cL_undoes 78 = .ok (.iastore, 1) := by decide +kernel
theorem dL_undoes_79 : decode cL_undoes 79 = .ok (.aload_n 0, 1) := by decide +kernel
theorem dL_undoes_80 : decode cL_undoes 80 = .ok (.invokevirtual 86, 3) := by decide +kernel
theorem dL_undoes_83 : decode cL_undoes 83 = .ok (.aload_n 1, 1) := by decide +kernel
theorem dL_undoes_84 : decode cL_undoes 84 = .ok (.bipush 62, 2) := by decide +kernel
theorem dL_undoes_86 : decode cL_undoes 86 = .ok (.iaload, 1) := by decide +kernel
theorem dL_undoes_87 : decode cL_undoes 87 = .ok (.if_icmp .ne 18, 3) := by decide +kernel
theorem dL_undoes_90 : decode cL_undoes 90 = .ok (.aload_n 0, 1) := by decide +kernel
theorem dL_undoes_91 : decode cL_undoes 91 = .ok (.iload_n 3, 1) := by decide +kernel
theorem dL_undoes_92 : decode cL_undoes 92 = .ok (.invokevirtual 80, 3) := by decide +kernel
theorem dL_undoes_95 : decode cL_undoes 95 = .ok (.aload_n 1, 1) := by decide +kernel
theorem dL_undoes_96 : decode cL_undoes 96 = .ok (.iload_n 3, 1) := by decide +kernel
theorem dL_undoes_97 : decode cL_undoes 97 = .ok (.iaload, 1) := by decide +kernel
theorem dL_undoes_98 : decode cL_undoes 98 = .ok (.if_icmp .ne 7, 3) := by decide +kernel
theorem dL_undoes_101 : decode cL_undoes 101 = .ok (.iconst 1, 1) := by decide +kernel
theorem dL_undoes_102 : decode cL_undoes 102 = .ok (.goto 4, 3) := by decide +kernel
theorem dL_undoes_105 : decode cL_undoes 105 = .ok (.iconst 0, 1) := by decide +kernel
theorem dL_undoes_106 : decode cL_undoes 106 = .ok (.ireturn, 1) := by decide +kernel
theorem dL_undoes_107 : decode cL_undoes 107 = .ok (.aload_n 1, 1) := by decide +kernel
theorem dL_undoes_108 : decode cL_undoes 108 = .ok (.bipush 32, 2) := by decide +kernel
theorem dL_undoes_110 : decode cL_undoes 110 = .ok (.aload_n 1, 1) := by decide +kernel
theorem dL_undoes_111 : decode cL_undoes 111 = .ok (.bipush 62, 2) := by decide +kernel
theorem dL_undoes_113 : decode cL_undoes 113 = .ok (.iaload, 1) := by decide +kernel
theorem dL_undoes_114 : decode cL_undoes 114 = .ok (.iadd, 1) := by decide +kernel
theorem dL_undoes_115 : decode cL_undoes 115 = .ok (.iaload, 1) := by decide +kernel
theorem dL_undoes_116 : decode cL_undoes 116 = .ok (.istore_n 3, 1) := by decide +kernel
theorem dL_undoes_117 : decode cL_undoes 117 = .ok (.aload_n 1, 1) := by decide +kernel
theorem dL_undoes_118 : decode cL_undoes 118 = .ok (.bipush 62, 2) := by decide +kernel
theorem dL_undoes_120 : decode cL_undoes 120 = .ok (.dup2, 1) := by decide +kernel
theorem dL_undoes_121 : decode cL_undoes 121 = .ok (.iaload, 1) := by decide +kernel
theorem dL_undoes_122 : decode cL_undoes 122 = .ok (.iconst 1, 1) := by decide +kernel
theorem dL_undoes_123 : decode cL_undoes 123 = .ok (.iadd, 1) := by decide +kernel
theorem dL_undoes_124 : decode cL_undoes 124 = .ok (.iastore, 1) := by decide +kernel
theorem dL_undoes_125 : decode cL_undoes 125 = .ok (.aload_n 1, 1) := by decide +kernel
theorem dL_undoes_126 : decode cL_undoes 126 = .ok (.iload_n 3, 1) := by decide +kernel
theorem dL_undoes_127 : decode cL_undoes 127 = .ok (.aload_n 1, 1) := by decide +kernel
theorem dL_undoes_128 : decode cL_undoes 128 = .ok (.iload_n 3, 1) := by decide +kernel
theorem dL_undoes_129 : decode cL_undoes 129 = .ok (.iaload, 1) := by decide +kernel
theorem dL_undoes_130 : decode cL_undoes 130 = .ok (.invokestatic 56, 3) := by decide +kernel
theorem dL_undoes_133 : decode cL_undoes 133 = .ok (.iastore, 1) := by decide +kernel
theorem dL_undoes_134 : decode cL_undoes 134 = .ok (.aload_n 0, 1) := by decide +kernel
theorem dL_undoes_135 : decode cL_undoes 135 = .ok (.invokevirtual 89, 3) := by decide +kernel
theorem dL_undoes_138 : decode cL_undoes 138 = .ok (.aload_n 1, 1) := by decide +kernel
theorem dL_undoes_139 : decode cL_undoes 139 = .ok (.bipush 62, 2) := by decide +kernel
theorem dL_undoes_141 : decode cL_undoes 141 = .ok (.iaload, 1) := by decide +kernel
theorem dL_undoes_142 : decode cL_undoes 142 = .ok (.if_icmp .ne 18, 3) := by decide +kernel
theorem dL_undoes_145 : decode cL_undoes 145 = .ok (.aload_n 0, 1) := by decide +kernel
theorem dL_undoes_146 : decode cL_undoes 146 = .ok (.iload_n 3, 1) := by decide +kernel
theorem dL_undoes_147 : decode cL_undoes 147 = .ok (.invokevirtual 80, 3) := by decide +kernel
theorem dL_undoes_150 : decode cL_undoes 150 = .ok (.aload_n 1, 1) := by decide +kernel
theorem dL_undoes_151 : decode cL_undoes 151 = .ok (.iload_n 3, 1) := by decide +kernel
theorem dL_undoes_152 : decode cL_undoes 152 = .ok (.iaload, 1) := by decide +kernel
theorem dL_undoes_153 : decode cL_undoes 153 = .ok (.if_icmp .ne 7, 3) := by decide +kernel
theorem dL_undoes_156 : decode cL_undoes 156 = .ok (.iconst 1, 1) := by decide +kernel
theorem dL_undoes_157 : decode cL_undoes 157 = .ok (.goto 4, 3) := by decide +kernel
theorem dL_undoes_160 : decode cL_undoes 160 = .ok (.iconst 0, 1) := by decide +kernel
theorem dL_undoes_161 : decode cL_undoes 161 = .ok (.ireturn, 1) := by decide +kernel
set_option maxRecDepth 20000 in
theorem ggL_isBoard_X7_size : GoodIn wsL_isBoard wsX7_size := goodIn_r _ [5, 6, 7, 8, 9, 10, 11, 12, 119, 120, 121, 122, 123, 124, 125, 126, 127, 128, 129, 130, 131, 132] (by decide +kernel) (by decide +kernel)
set_option maxRecDepth 20000 in
theorem gL_isBoard_X7_size : GoodIn wsL_isBoard (wsV RL 10 RX7 yX7_size wsX7_size) := goodIn_app (goodIn_of _ (by decide +kernel)) ggL_isBoard_X7_size
set_option maxRecDepth 20000 in
theorem ggL_isBoard_X7_tile : GoodIn wsL_isBoard wsX7_tile := goodIn_ca (goodIn_r _ [16, 6, 17, 18, 19, 4, 20, 21, 22, 23, 24, 25, 10, 26, 12, 27, 28, 29, 30, 31, 32, 33, 119, 120, 121, 122, 123, 124, 125, 126, 127, 128, 129, 130, 131, 132] (by decide +kernel) (by decide +kernel)) (goodIn_sub (fun _ h => List.mem_cons_of_mem _ (List.mem_append_right _ h)) (by decide +kernel))
set_option maxRecDepth 20000 in
theorem gL_isBoard_X7_tile : GoodIn wsL_isBoard (wsV RL 80 RX7 yX7_tile wsX7_tile) := goodIn_app (goodIn_of _ (by decide +kernel)) ggL_isBoard_X7_tile
set_option maxRecDepth 20000 in
theorem ggL_isBoard_X7_neighbour : GoodIn wsL_isBoard wsX7_neighbour := goodIn_ca (goodIn_r _ [37, 6, 17, 18, 19, 4, 20, 21, 22, 23, 24, 25, 10, 26, 12, 38, 39, 40, 41, 42, 43, 44, 45, 46, 119, 120, 121, 122, 123, 124, 125, 126, 127, 128, 129, 130, 131, 132] (by decide +kernel) (by decide +kernel)) (goodIn_sub (fun _ h => List.mem_cons_of_mem _ (List.mem_append_right _ h)) (by decide +kernel))
set_option maxRecDepth 20000 in
theorem gL_isBoard_X7_neighbour : GoodIn wsL_isBoard (wsV RL 29 RX7 yX7_neighbour wsX7_neighbour) := goodIn_app (goodIn_of _ (by decide +kernel)) ggL_isBoard_X7_neighbour
set_option maxRecDepth 20000 in
theorem ggL_isBoard_X7_isJoined : GoodIn wsL_isBoard wsX7_isJoined := goodIn_ca (goodIn_r _ [50, 6, 17, 18, 19, 4, 20, 21, 22, 23, 24, 25, 10, 26, 12, 38, 39, 40, 41, 51, 52, 53, 54, 31, 55, 56, 57, 58, 59, 32, 33, 60, 61, 62, 63, 119, 120, 121, 122, 123, 124, 125, 126, 127, 128, 129, 130, 131, 132] (by decide +kernel) (by decide +kernel)) (goodIn_sub (fun _ h => List.mem_cons_of_mem _ (List.mem_append_right _ h)) (by decide +kernel))
set_option maxRecDepth 20000 in
theorem gL_isBoard_X7_isJoined : GoodIn wsL_isBoard (wsV RL 32 RX7 yX7_isJoined wsX7_isJoined) := goodIn_app (goodIn_of _ (by decide +kernel)) ggL_isBoard_X7_isJoined
set_option maxRecDepth 20000 in
theorem ggL_isBoard_X7_isWatered : GoodIn wsL_isBoard wsX7_isWatered := goodIn_ca (goodIn_r _ [67, 6, 17, 18, 19, 4, 20, 21, 22, 23, 24, 25, 10, 26, 12, 68, 69, 70, 71, 72, 73, 74, 75, 76, 77, 78, 79, 80, 81, 82, 52, 53, 54, 31, 55, 56, 57, 58, 59, 32, 33, 60, 61, 62, 63, 83, 84, 85, 119, 120, 121, 122, 123, 124, 125, 126, 127, 128, 129, 130, 131, 132] (by decide +kernel) (by decide +kernel)) (goodIn_sub (fun _ h => List.mem_cons_of_mem _ (List.mem_append_right _ h)) (by decide +kernel))
set_option maxRecDepth 20000 in
theorem gL_isBoard_X7_isWatered : GoodIn wsL_isBoard (wsV RL 48 RX7 yX7_isWatered wsX7_isWatered) := goodIn_app (goodIn_of _ (by decide +kernel)) ggL_isBoard_X7_isWatered
set_option maxRecDepth 20000 in
theorem ggL_isBoard_X7_loose : GoodIn wsL_isBoard wsX7_loose := goodIn_r _ [89, 6, 90, 91, 92, 10, 93, 12, 94, 28, 29, 30, 31, 32, 4, 33, 95, 96, 97, 98, 99, 100, 101, 102, 103, 104, 105, 78, 79, 80, 81, 82, 52, 53, 54, 55, 56, 57, 58, 59, 60, 61, 62, 63, 119, 120, 121, 122, 123, 124, 125, 126, 127, 128, 129, 130, 131, 132] (by decide +kernel) (by decide +kernel)
set_option maxRecDepth 20000 in
theorem gL_isBoard_X7_loose : GoodIn wsL_isBoard (wsV RL 66 RX7 yX7_loose wsX7_loose) := goodIn_app (goodIn_of _ (by decide +kernel)) ggL_isBoard_X7_loose
set_option maxRecDepth 20000 in
theorem ggL_isBoard_X7_watered : GoodIn wsL_isBoard wsX7_watered := goodIn_r _ [109, 6, 68, 69, 70, 10, 71, 72, 73, 74, 75, 76, 77, 78, 79, 80, 81, 82, 52, 53, 54, 31, 55, 56, 57, 58, 59, 32, 4, 33, 60, 61, 62, 63, 83, 84, 85, 110, 96, 97, 98, 99, 100, 101, 119, 120, 121, 122, 123, 124, 125, 126, 127, 128, 129, 130, 131, 132] (by decide +kernel) (by decide +kernel)
set_option maxRecDepth 20000 in
theorem gL_isBoard_X7_watered : GoodIn wsL_isBoard (wsV RL 69 RX7 yX7_watered wsX7_watered) := goodIn_app (goodIn_of _ (by decide +kernel)) ggL_isBoard_X7_watered
set_option maxRecDepth 20000 in
theorem ggL_isBoard_X7_isSolved : GoodIn wsL_isBoard wsX7_isSolved := goodIn_r _ [114, 6, 102, 103, 104, 10, 105, 12, 78, 79, 80, 81, 82, 52, 53, 54, 31, 55, 56, 57, 58, 59, 32, 4, 33, 60, 61, 62, 63, 95, 96, 97, 98, 99, 100, 101, 90, 91, 92, 93, 94, 28, 29, 30, 7, 8, 9, 11, 73, 74, 75, 76, 77, 83, 84, 85, 115, 116, 117, 118, 119, 120, 121, 122, 123, 124, 125, 126, 127, 128, 129, 130, 131, 132] (by decide +kernel) (by decide +kernel)
set_option maxRecDepth 20000 in
theorem gL_isBoard_X7_isSolved : GoodIn wsL_isBoard (wsV RL 92 RX7 yX7_isSolved wsX7_isSolved) := goodIn_app (goodIn_of _ (by decide +kernel)) ggL_isBoard_X7_isSolved
theorem dL_isBoard_0 : decode cL_isBoard 0 = .ok (.iconst 0, 1) := by decide +kernel
theorem dL_isBoard_1 : decode cL_isBoard 1 = .ok (.istore_n 3, 1) := by decide +kernel
theorem dL_isBoard_2 : decode cL_isBoard 2 = .ok (.iconst 0, 1) := by decide +kernel
theorem dL_isBoard_3 : decode cL_isBoard 3 = .ok (.istore 4, 2) := by decide +kernel
theorem dL_isBoard_5 : decode cL_isBoard 5 = .ok (.iconst 1, 1) := by decide +kernel
theorem dL_isBoard_6 : decode cL_isBoard 6 = .ok (.istore 5, 2) := by decide +kernel
theorem dL_isBoard_8 : decode cL_isBoard 8 = .ok (.iconst 0, 1) := by decide +kernel
theorem dL_isBoard_9 : decode cL_isBoard 9 = .ok (.istore 6, 2) := by decide +kernel
theorem dL_isBoard_11 : decode cL_isBoard 11 = .ok (.iload 6, 2) := by decide +kernel
theorem dL_isBoard_13 : decode cL_isBoard 13 = .ok (.aload_n 0, 1) := by decide +kernel
theorem dL_isBoard_14 : decode cL_isBoard 14 = .ok (.invokevirtual 10, 3) := by decide +kernel
theorem dL_isBoard_17 : decode cL_isBoard 17 = .ok (.if_icmp .ge 231, 3) := by decide +kernel
theorem dL_isBoard_20 : decode cL_isBoard 20 = .ok (.iload 5, 2) := by decide +kernel
theorem dL_isBoard_22 : decode cL_isBoard 22 = .ok (.ifCond .eq 226, 3) := by decide +kernel
theorem dL_isBoard_25 : decode cL_isBoard 25 = .ok (.aload_n 0, 1) := by decide +kernel
theorem dL_isBoard_26 : decode cL_isBoard 26 = .ok (.iload 6, 2) := by decide +kernel
theorem dL_isBoard_28 : decode cL_isBoard 28 = .ok (.invokevirtual 80, 3) := by decide +kernel
theorem dL_isBoard_31 : decode cL_isBoard 31 = .ok (.aload_n 1, 1) := by decide +kernel
theorem dL_isBoard_32 : decode cL_isBoard 32 = .ok (.iload 6, 2) := by decide +kernel
theorem dL_isBoard_34 : decode cL_isBoard 34 = .ok (.iaload, 1) := by decide +kernel
theorem dL_isBoard_35 : decode cL_isBoard 35 = .ok (.if_icmp .ne 7, 3) := by decide +kernel
theorem dL_isBoard_38 : decode cL_isBoard 38 = .ok (.iconst 1, 1) := by decide +kernel
theorem dL_isBoard_39 : decode cL_isBoard 39 = .ok (.goto 4, 3) := by decide +kernel
theorem dL_isBoard_42 : decode cL_isBoard 42 = .ok (.iconst 0, 1) := by decide +kernel
theorem dL_isBoard_43 : decode cL_isBoard 43 = .ok (.istore 5, 2) := by decide +kernel
theorem dL_isBoard_45 : decode cL_isBoard 45 = .ok (.iconst 0, 1) := by decide +kernel
theorem dL_isBoard_46 : decode cL_isBoard 46 = .ok (.istore 7, 2) := by decide +kernel
theorem dL_isBoard_48 : decode cL_isBoard 48 = .ok (.iload 7, 2) := by decide +kernel
theorem dL_isBoard_50 : decode cL_isBoard 50 = .ok (.iconst 4, 1) := by decide +kernel
theorem dL_isBoard_51 : decode cL_isBoard 51 = .ok (.if_icmp .ge 191, 3) := by decide +kernel
theorem dL_isBoard_54 : decode cL_isBoard 54 = .ok (.iload 5, 2) := by decide +kernel
theorem dL_isBoard_56 : decode cL_isBoard 56 = .ok (.ifCond .eq 186, 3) := by decide +kernel
theorem dL_isBoard_59 : decode cL_isBoard 59 = .ok (.aload_n 0, 1) := by decide +kernel
theorem dL_isBoard_60 : decode cL_isBoard 60 = .ok (.iload 6, 2) := by decide +kernel
theorem dL_isBoard_62 : decode cL_isBoard 62 = .ok (.iload 7, 2) := by decide +kernel
theorem dL_isBoard_64 : decode cL_isBoard 64 = .ok (.invokevirtual 29, 3) := by decide +kernel
theorem dL_isBoard_67 : decode cL_isBoard 67 = .ok (.istore 8, 2) := by decide +kernel
theorem dL_isBoard_69 : decode cL_isBoard 69 = .ok (.aload_n 0, 1) := by decide +kernel
theorem dL_isBoard_70 : decode cL_isBoard 70 = .ok (.iload 6, 2) := by decide +kernel
theorem dL_isBoard_72 : decode cL_isBoard 72 = .ok (.iload 7, 2) := by decide +kernel
theorem dL_isBoard_74 : decode cL_isBoard 74 = .ok (.invokevirtual 32, 3) := by decide +kernel
theorem dL_isBoard_77 : decode cL_isBoard 77 = .ok (.istore 9, 2) := by decide +kernel
theorem dL_isBoard_79 : decode cL_isBoard 79 = .ok (.aload_n 1, 1) := by decide +kernel
theorem dL_isBoard_80 : decode cL_isBoard 80 = .ok (.iload 6, 2) := by decide +kernel
theorem dL_isBoard_82 : decode cL_isBoard 82 = .ok (.iaload, 1) := by decide +kernel
theorem dL_isBoard_83 : decode cL_isBoard 83 = .ok (.iload 7, 2) := by decide +kernel
theorem dL_isBoard_85 : decode cL_isBoard 85 = .ok (.ishr, 1) := by decide +kernel
theorem dL_isBoard_86 : decode cL_isBoard 86 = .ok (.iconst 1, 1) := by decide +kernel
theorem dL_isBoard_87 : decode cL_isBoard 87 = .ok (.iand, 1) := by decide +kernel
theorem dL_isBoard_88 : decode cL_isBoard 88 = .ok (.iconst 1, 1) := by decide +kernel
theorem dL_isBoard_89 : decode cL_isBoard 89 = .ok (.if_icmp .ne 7, 3) := by decide +kernel
theorem dL_isBoard_92 : decode cL_isBoard 92 = .ok (.iconst 1, 1) := by decide +kernel
theorem dL_isBoard_93 : decode cL_isBoard 93 = .ok (.goto 4, 3) := by decide +kernel
theorem dL_isBoard_96 : decode cL_isBoard 96 = .ok (.iconst 0, 1) := by decide +kernel
theorem dL_isBoard_97 : decode cL_isBoard 97 = .ok (.istore 10, 2) := by decide +kernel
theorem dL_isBoard_99 : decode cL_isBoard 99 = .ok (.iload_n 3, 1) := by decide +kernel
theorem dL_isBoard_100 : decode cL_isBoard 100 = .ok (.iload 10, 2) := by decide +kernel
theorem dL_isBoard_102 : decode cL_isBoard 102 = .ok (.ifCond .eq 12, 3) := by decide +kernel
theorem dL_isBoard_105 : decode cL_isBoard 105 = .ok (.iload 9, 2) := by decide +kernel
theorem dL_isBoard_107 : decode cL_isBoard 107 = .ok (.ifCond .ne 7, 3) := by decide +kernel
theorem dL_isBoard_110 : decode cL_isBoard 110 = .ok (.iconst 1, 1) := by decide +kernel
theorem dL_isBoard_111 : decode cL_isBoard 111 = .ok (.goto 4, 3) := by decide +kernel
theorem dL_isBoard_114 : decode cL_isBoard 114 = .ok (.iconst 0, 1) := by decide +kernel
theorem dL_isBoard_115 : decode cL_isBoard 115 = .ok (.iadd, 1) := by decide +kernel
theorem dL_isBoard_116 : decode cL_isBoard 116 = .ok (.istore_n 3, 1) := by decide +kernel
theorem dL_isBoard_117 : decode cL_isBoard 117 = .ok (.iload 4, 2) := by decide +kernel
theorem dL_isBoard_119 : decode cL_isBoard 119 = .ok (.iload 9, 2) := by decide +kernel
theorem dL_isBoard_121 : decode cL_isBoard 121 = .ok (.ifCond .eq 7, 3) := by decide +kernel
theorem dL_isBoard_124 : decode cL_isBoard 124 = .ok (.iconst 1, 1) := by decide +kernel
theorem dL_isBoard_125 : decode cL_isBoard 125 = .ok (.goto 4, 3) := by decide +kernel
theorem dL_isBoard_128 : decode cL_isBoard 128 = .ok (.iconst 0, 1) := by decide +kernel
theorem dL_isBoard_129 : decode cL_isBoard 129 = .ok (.iadd, 1) := by decide +kernel
theorem dL_isBoard_130 : decode cL_isBoard 130 = .ok (.istore 4, 2) := by decide +kernel
theorem dL_isBoard_132 : decode cL_isBoard 132 = .ok (.iload 7, 2) := by decide +kernel
theorem dL_isBoard_134 : decode cL_isBoard 134 = .ok (.iconst 2, 1) := by decide +kernel
theorem dL_isBoard_135 : decode cL_isBoard 135 = .ok (.iadd, 1) := by decide +kernel
theorem dL_isBoard_136 : decode cL_isBoard 136 = .ok (.iconst 4, 1) := by decide +kernel
theorem dL_isBoard_137 : decode cL_isBoard 137 = .ok (.irem, 1) := by decide +kernel
theorem dL_isBoard_138 : decode cL_isBoard 138 = .ok (.istore 11, 2) := by decide +kernel
theorem dL_isBoard_140 : decode cL_isBoard 140 = .ok (.iload 8, 2) := by decide +kernel
theorem dL_isBoard_142 : decode cL_isBoard 142 = .ok (.iconst (-1), 1) := by decide +kernel
theorem dL_isBoard_143 : decode cL_isBoard 143 = .ok (.if_icmp .eq 37, 3) := by decide +kernel
theorem dL_isBoard_146 : decode cL_isBoard 146 = .ok (.aload_n 2, 1) := by decide +kernel
theorem dL_isBoard_147 : decode cL_isBoard 147 = .ok (.iload 6, 2) := by decide +kernel
theorem dL_isBoard_149 : decode cL_isBoard 149 = .ok (.iaload, 1) := by decide +kernel
theorem dL_isBoard_150 : decode cL_isBoard 150 = .ok (.iload 7, 2) := by decide +kernel
theorem dL_isBoard_152 : decode cL_isBoard 152 = .ok (.ishr, 1) := by decide +kernel
theorem dL_isBoard_153 : decode cL_isBoard 153 = .ok (.iconst 1, 1) := by decide +kernel
theorem dL_isBoard_154 : decode cL_isBoard 154 = .ok (.iand, 1) := by decide +kernel
theorem dL_isBoard_155 : decode cL_isBoard 155 = .ok (.ifCond .ne 25, 3) := by decide +kernel
theorem dL_isBoard_158 : decode cL_isBoard 158 = .ok (.iload 10, 2) := by decide +kernel
theorem dL_isBoard_160 : decode cL_isBoard 160 = .ok (.ifCond .eq 20, 3) := by decide +kernel
theorem dL_isBoard_163 : decode cL_isBoard 163 = .ok (.aload_n 1, 1) := by decide +kernel
theorem dL_isBoard_164 : decode cL_isBoard 164 = .ok (.iload 8, 2) := by decide +kernel
theorem dL_isBoard_166 : decode cL_isBoard 166 = .ok (.iaload, 1) := by decide +kernel
theorem dL_isBoard_167 : decode cL_isBoard 167 = .ok (.iload 11, 2) := by decide +kernel
theorem dL_isBoard_169 : decode cL_isBoard 169 = .ok (.ishr, 1) := by decide +kernel
theorem dL_isBoard_170 : decode cL_isBoard 170 = .ok (.iconst 1, 1) := by decide +kernel
theorem dL_isBoard_171 : decode cL_isBoard 171 = .ok (.iand, 1) := by decide +kernel
theorem dL_isBoard_172 : decode cL_isBoard 172 = .ok (.iconst 1, 1) := by decide +kernel
theorem dL_isBoard_173 : decode cL_isBoard 173 = .ok (.if_icmp .ne 7, 3) := by decide +kernel
theorem dL_isBoard_176 : decode cL_isBoard 176 = .ok (.iconst 1, 1) := by decide +kernel
theorem dL_isBoard_177 : decode cL_isBoard 177 = .ok (.goto 4, 3) := by decide +kernel
theorem dL_isBoard_180 : decode cL_isBoard 180 = .ok (.iconst 0, 1) := by decide +kernel
theorem dL_isBoard_181 : decode cL_isBoard 181 = .ok (.istore 12, 2) := by decide +kernel
theorem dL_isBoard_183 : decode cL_isBoard 183 = .ok (.iload 9, 2) := by decide +kernel
theorem dL_isBoard_185 : decode cL_isBoard 185 = .ok (.iload 12, 2) := by decide +kernel
theorem dL_isBoard_187 : decode cL_isBoard 187 = .ok (.if_icmp .ne 46, 3) := by decide +kernel
theorem dL_isBoard_190 : decode cL_isBoard 190 = .ok (.iload 8, 2) := by decide +kernel
theorem dL_isBoard_192 : decode cL_isBoard 192 = .ok (.iconst (-1), 1) := by decide +kernel
theorem dL_isBoard_193 : decode cL_isBoard 193 = .ok (.if_icmp .eq 16, 3) := by decide +kernel
theorem dL_isBoard_196 : decode cL_isBoard 196 = .ok (.aload_n 0, 1) := by decide +kernel
theorem dL_isBoard_197 : decode cL_isBoard 197 = .ok (.iload 8, 2) := by decide +kernel
theorem dL_isBoard_199 : decode cL_isBoard 199 = .ok (.iload 11, 2) := by decide +kernel
theorem dL_isBoard_201 : decode cL_isBoard 201 = .ok (.invokevirtual 29, 3) := by decide +kernel
theorem dL_isBoard_204 : decode cL_isBoard 204 = .ok (.iload 6, 2) := by decide +kernel
theorem dL_isBoard_206 : decode cL_isBoard 206 = .ok (.if_icmp .ne 27, 3) := by decide +kernel
theorem dL_isBoard_209 : decode cL_isBoard 209 = .ok (.iload 9, 2) := by decide +kernel
theorem dL_isBoard_211 : decode cL_isBoard 211 = .ok (.ifCond .eq 18, 3) := by decide +kernel
theorem dL_isBoard_214 : decode cL_isBoard 214 = .ok (.aload_n 0, 1) := by decide +kernel
theorem dL_isBoard_215 : decode cL_isBoard 215 = .ok (.iload 6, 2) := by decide +kernel
theorem dL_isBoard_217 : decode cL_isBoard 217 = .ok (.invokevirtual 48, 3) := by decide +kernel
theorem dL_isBoard_220 : decode cL_isBoard 220 = .ok (.aload_n 0, 1) := by decide +kernel
theorem dL_isBoard_221 : decode cL_isBoard 221 = .ok (.iload 8, 2) := by decide +kernel
theorem dL_isBoard_223 : decode cL_isBoard 223 = .ok (.invokevirtual 48, 3) := by decide +kernel
theorem dL_isBoard_226 : decode cL_isBoard 226 = .ok (.if_icmp .ne 7, 3) := by decide +kernel
theorem dL_isBoard_229 : decode cL_isBoard 229 = .ok (.iconst 1, 1) := by decide +kernel
theorem dL_isBoard_230 : decode cL_isBoard 230 = .ok (.goto 4, 3) := by decide +kernel
theorem dL_isBoard_233 : decode cL_isBoard 233 = .ok (.iconst 0, 1) := by decide +kernel
theorem dL_isBoard_234 : decode cL_isBoard 234 = .ok (.istore 5, 2) := by decide +kernel
theorem dL_isBoard_236 : decode cL_isBoard 236 = .ok (.iinc 7 1, 3) := by decide +kernel
theorem dL_isBoard_239 : decode cL_isBoard 239 = .ok (.goto (-191), 3) := by decide +kernel
theorem dL_isBoard_242 : decode cL_isBoard 242 = .ok (.iinc 6 1, 3) := by decide +kernel
theorem dL_isBoard_245 : decode cL_isBoard 245 = .ok (.goto (-234), 3) := by decide +kernel
theorem dL_isBoard_248 : decode cL_isBoard 248 = .ok (.iconst 0, 1) := by decide +kernel
theorem dL_isBoard_249 : decode cL_isBoard 249 = .ok (.istore 6, 2) := by decide +kernel
theorem dL_isBoard_251 : decode cL_isBoard 251 = .ok (.iconst 0, 1) := by decide +kernel
theorem dL_isBoard_252 : decode cL_isBoard 252 = .ok (.istore 7, 2) := by decide +kernel
theorem dL_isBoard_254 : decode cL_isBoard 254 = .ok (.iload 7, 2) := by decide +kernel
theorem dL_isBoard_256 : decode cL_isBoard 256 = .ok (.aload_n 0, 1) := by decide +kernel
theorem dL_isBoard_257 : decode cL_isBoard 257 = .ok (.invokevirtual 10, 3) := by decide +kernel
theorem dL_isBoard_260 : decode cL_isBoard 260 = .ok (.if_icmp .ge 28, 3) := by decide +kernel
theorem dL_isBoard_263 : decode cL_isBoard 263 = .ok (.iload 6, 2) := by decide +kernel
theorem dL_isBoard_265 : decode cL_isBoard 265 = .ok (.aload_n 0, 1) := by decide +kernel
theorem dL_isBoard_266 : decode cL_isBoard 266 = .ok (.iload 7, 2) := by decide +kernel
theorem dL_isBoard_268 : decode cL_isBoard 268 = .ok (.invokevirtual 48, 3) := by decide +kernel
theorem dL_isBoard_271 : decode cL_isBoard 271 = .ok (.ifCond .eq 7, 3) := by decide +kernel
theorem dL_isBoard_274 : decode cL_isBoard 274 = .ok (.iconst 1, 1) := by decide +kernel
theorem dL_isBoard_275 : decode cL_isBoard 275 = .ok (.goto 4, 3) := by decide +kernel
theorem dL_isBoard_278 : decode cL_isBoard 278 = .ok (.iconst 0, 1) := by decide +kernel
theorem dL_isBoard_279 : decode cL_isBoard 279 = .ok (.iadd, 1) := by decide +kernel
theorem dL_isBoard_280 : decode cL_isBoard 280 = .ok (.istore 6, 2) := by decide +kernel
theorem dL_isBoard_282 : decode cL_isBoard 282 = .ok (.iinc 7 1, 3) := by decide +kernel
theorem dL_isBoard_285 : decode cL_isBoard 285 = .ok (.goto (-31), 3) := by decide +kernel
theorem dL_isBoard_288 : decode cL_isBoard 288 = .ok (.iload 5, 2) := by decide +kernel
theorem dL_isBoard_290 : decode cL_isBoard 290 = .ok (.ifCond .eq 68, 3) := by decide +kernel
theorem dL_isBoard_293 : decode cL_isBoard 293 = .ok (.aload_n 0, 1) := by decide +kernel
theorem dL_isBoard_294 : decode cL_isBoard 294 = .ok (.invokevirtual 66, 3) := by decide +kernel
theorem dL_isBoard_297 : decode cL_isBoard 297 = .ok (.iload_n 3, 1) := by decide +kernel
theorem dL_isBoard_298 : decode cL_isBoard 298 = .ok (.if_icmp .ne 60, 3) := by decide +kernel
theorem dL_isBoard_301 : decode cL_isBoard 301 = .ok (.aload_n 0, 1) := by decide +kernel
theorem dL_isBoard_302 : decode cL_isBoard 302 = .ok (.invokevirtual 69, 3) := by decide +kernel
theorem dL_isBoard_305 : decode cL_isBoard 305 = .ok (.iload 6, 2) := by decide +kernel
theorem dL_isBoard_307 : decode cL_isBoard 307 = .ok (.if_icmp .ne 51, 3) := by decide +kernel
theorem dL_isBoard_310 : decode cL_isBoard 310 = .ok (.iload 6, 2) := by decide +kernel
theorem dL_isBoard_312 : decode cL_isBoard 312 = .ok (.iconst 1, 1) := by decide +kernel
theorem dL_isBoard_313 : decode cL_isBoard 313 = .ok (.if_icmp .lt 45, 3) := by decide +kernel
theorem dL_isBoard_316 : decode cL_isBoard 316 = .ok (.aload_n 0, 1) := by decide +kernel
theorem dL_isBoard_317 : decode cL_isBoard 317 = .ok (.invokevirtual 92, 3) := by decide +kernel
theorem dL_isBoard_320 : decode cL_isBoard 320 = .ok (.iload_n 3, 1) := by decide +kernel
theorem dL_isBoard_321 : decode cL_isBoard 321 = .ok (.ifCond .ne 29, 3) := by decide +kernel
theorem dL_isBoard_324 : decode cL_isBoard 324 = .ok (.iload 6, 2) := by decide +kernel
theorem dL_isBoard_326 : decode cL_isBoard 326 = .ok (.aload_n 0, 1) := by decide +kernel
theorem dL_isBoard_327 : decode cL_isBoard 327 = .ok (.invokevirtual 10, 3) := by decide +kernel
theorem dL_isBoard_330 : decode cL_isBoard 330 = .ok (.if_icmp .ne 20, 3) := by decide +kernel
theorem dL_isBoard_333 : decode cL_isBoard 333 = .ok (.iload 4, 2) := by decide +kernel
theorem dL_isBoard_335 : decode cL_isBoard 335 = .ok (.iconst 2, 1) := by decide +kernel
theorem dL_isBoard_336 : decode cL_isBoard 336 = .ok (.aload_n 0, 1) := by decide +kernel
theorem dL_isBoard_337 : decode cL_isBoard 337 = .ok (.invokevirtual 10, 3) := by decide +kernel
theorem dL_isBoard_340 : decode cL_isBoard 340 = .ok (.imul, 1) := by decide +kernel
theorem dL_isBoard_341 : decode cL_isBoard 341 = .ok (.iconst 2, 1) := by decide +kernel
theorem dL_isBoard_342 : decode cL_isBoard 342 = .ok (.isub, 1) := by decide +kernel
theorem dL_isBoard_343 : decode cL_isBoard 343 = .ok (.if_icmp .ne 7, 3) := by decide +kernel
theorem dL_isBoard_346 : decode cL_isBoard 346 = .ok (.iconst 1, 1) := by decide +kernel
theorem dL_isBoard_347 : decode cL_isBoard 347 = .ok (.goto 4, 3) := by decide +kernel
theorem dL_isBoard_350 : decode cL_isBoard 350 = .ok (.iconst 0, 1) := by decide +kernel
theorem dL_isBoard_351 : decode cL_isBoard 351 = .ok (.if_icmp .ne 7, 3) := by decide +kernel
theorem dL_isBoard_354 : decode cL_isBoard 354 = .ok (.iconst 1, 1) := by decide +kernel
theorem dL_isBoard_355 : decode cL_isBoard 355 = .ok (.goto 4, 3) := by decide +kernel
theorem dL_isBoard_358 : decode cL_isBoard 358 = .ok (.iconst 0, 1) := by decide +kernel
theorem dL_isBoard_359 : decode cL_isBoard 359 = .ok (.ireturn, 1) := by decide +kernel
set_option maxRecDepth 20000 in
theorem ggL_areSolutions_X7_solutions : GoodIn wsL_areSolutions wsX7_solutions := goodIn_r _ [5, 6, 7, 8, 9, 10, 11, 12, 13, 14, 15, 16, 17, 18, 19, 20, 21, 22, 23, 24, 25, 26, 27, 28, 29, 30, 4, 31, 32, 33, 34, 35, 36, 37, 38, 39, 40, 41, 42, 43, 44, 45, 46, 47, 48, 49, 50, 51, 52, 53, 54, 55, 56, 57, 58, 59, 60, 61, 62, 63, 64, 65, 66, 67, 68, 69, 70, 71, 72, 73, 74, 75, 76, 77, 78, 79, 80, 81, 82, 83, 84, 85, 86, 87, 88, 89, 90, 91, 92, 93, 94, 95, 96, 97, 98, 99, 100, 101, 102, 103, 104, 105, 106, 107, 108, 109, 110, 111, 112, 113, 114, 115, 116, 117, 118, 119, 120, 121, 122, 123, 124, 125, 126, 127, 128, 129, 130, 131, 132, 133, 134, 369, 370, 371, 372, 373, 374, 375, 376, 377, 378, 379, 380, 381, 382, 383, 384, 385, 386, 387, 388, 389, 390, 391, 392, 393, 394, 395] (by decide +kernel) (by decide +kernel)
set_option maxRecDepth 20000 in
theorem gL_areSolutions_X7_solutions : GoodIn wsL_areSolutions (wsV RL 72 RX7 yX7_solutions wsX7_solutions) := goodIn_app (goodIn_of _ (by decide +kernel)) ggL_areSolutions_X7_solutions
set_option maxRecDepth 20000 in
theorem ggL_areSolutions_X7_solutionsBySweep : GoodIn wsL_areSolutions wsX7_solutionsBySweep := goodIn_r _ [138, 139, 140, 141, 142, 143, 144, 145, 146, 147, 148, 149, 150, 151, 152, 153, 154, 155, 156, 157, 158, 159, 160, 161, 162, 163, 164, 165, 166, 167, 168, 169, 170, 171, 172, 173, 174, 175, 109, 110, 111, 176, 105, 106, 107, 177, 178, 179, 180, 181, 182, 183, 184, 185, 186, 187, 18, 188, 20, 189, 190, 191, 192, 193, 22, 23, 24, 25, 26, 27, 28, 29, 30, 4, 31, 32, 33, 34, 35, 36, 37, 38, 39, 40, 194, 195, 196, 197, 198, 199, 200, 201, 202, 203, 204, 205, 206, 207, 208, 209, 210, 211, 212, 66, 67, 68, 69, 213, 214, 215, 216, 217, 218, 219, 220, 221, 222, 223, 224, 225, 226, 227, 228, 229, 230, 231, 232, 233, 234, 235, 236, 237, 238, 239, 240, 241, 242, 243, 244, 245, 246, 247, 248, 249, 250, 369, 370, 371, 372, 373, 374, 396, 397, 398, 399, 400, 401, 402, 403, 380, 381, 382, 383, 384, 385, 386, 387] (by decide +kernel) (by decide +kernel)
set_option maxRecDepth 20000 in
theorem gL_areSolutions_X7_solutionsBySweep : GoodIn wsL_areSolutions (wsV RL 96 RX7 yX7_solutionsBySweep wsX7_solutionsBySweep) := goodIn_app (goodIn_of _ (by decide +kernel)) ggL_areSolutions_X7_solutionsBySweep
set_option maxRecDepth 20000 in
theorem ggL_areSolutions_X7_isSolved : GoodIn wsL_areSolutions wsX7_isSolved := goodIn_r _ [254, 255, 256, 257, 258, 18, 259, 20, 260, 261, 262, 263, 264, 265, 266, 267, 29, 268, 66, 67, 68, 69, 30, 4, 31, 37, 38, 70, 71, 269, 270, 271, 272, 273, 274, 275, 276, 277, 278, 279, 25, 26, 27, 28, 280, 186, 187, 188, 281, 282, 283, 284, 285, 80, 81, 82, 286, 113, 114, 115, 369, 370, 371, 372, 373, 374, 380, 381, 382, 383, 384, 385, 386, 387] (by decide +kernel) (by decide +kernel)
set_option maxRecDepth 20000 in
theorem gL_areSolutions_X7_isSolved : GoodIn wsL_areSolutions (wsV RL 92 RX7 yX7_isSolved wsX7_isSolved) := goodIn_app (goodIn_of _ (by decide +kernel)) ggL_areSolutions_X7_isSolved
set_option maxRecDepth 20000 in
theorem ggL_areSolutions_X7_fewestTurns : GoodIn wsL_areSolutions wsX7_fewestTurns := goodIn_ca (goodIn_r _ [290, 291, 292, 6, 7, 8, 9, 10, 11, 12, 13, 14, 15, 16, 17, 18, 19, 20, 21, 22, 23, 24, 25, 26, 27, 28, 29, 30, 4, 31, 32, 33, 34, 35, 36, 37, 38, 39, 40, 41, 42, 43, 44, 45, 46, 47, 48, 49, 50, 51, 52, 53, 54, 55, 56, 57, 58, 59, 60, 61, 62, 63, 64, 65, 66, 67, 68, 69, 70, 71, 72, 73, 74, 75, 76, 77, 78, 79, 80, 81, 82, 83, 84, 85, 86, 87, 88, 89, 90, 91, 92, 93, 94, 95, 96, 97, 98, 99, 100, 101, 102, 103, 104, 105, 106, 107, 108, 109, 110, 111, 112, 113, 114, 115, 116, 117, 118, 119, 120, 121, 122, 123, 124, 125, 126, 127, 128, 129, 130, 131, 132, 133, 134, 293, 294, 295, 296, 369, 370, 371, 372, 373, 374, 375, 376, 377, 378, 379, 380, 381, 382, 383, 384, 385, 386, 387, 388, 389, 390, 391, 392, 393, 394, 395] (by decide +kernel) (by decide +kernel)) (goodIn_sub (fun _ h => List.mem_cons_of_mem _ (List.mem_append_left _ (List.mem_append_right _ h))) (by decide +kernel))
set_option maxRecDepth 20000 in
theorem gL_areSolutions_X7_fewestTurns : GoodIn wsL_areSolutions (wsV RL 99 RX7 yX7_fewestTurns wsX7_fewestTurns) := goodIn_app (goodIn_of _ (by decide +kernel)) ggL_areSolutions_X7_fewestTurns
set_option maxRecDepth 20000 in
theorem ggL_areSolutions_X7_first : GoodIn wsL_areSolutions wsX7_first := goodIn_ca (goodIn_ca (goodIn_r _ [300, 291, 292, 6, 7, 301, 302, 303, 4, 304, 305, 306, 255, 307, 16, 17, 18, 19, 20, 8, 9, 10, 11, 12, 13, 14, 15, 21, 22, 23, 24, 25, 26, 27, 28, 29, 30, 31, 32, 33, 34, 35, 36, 37, 38, 39, 40, 41, 42, 43, 44, 45, 46, 47, 48, 49, 50, 51, 52, 53, 54, 55, 56, 57, 58, 59, 60, 61, 62, 63, 64, 65, 66, 67, 68, 69, 70, 71, 72, 73, 74, 75, 76, 77, 78, 79, 80, 81, 82, 83, 84, 85, 86, 87, 88, 89, 90, 91, 92, 93, 94, 95, 96, 97, 98, 99, 100, 101, 102, 103, 104, 105, 106, 107, 108, 109, 110, 111, 112, 113, 114, 115, 116, 117, 118, 119, 120, 121, 122, 123, 124, 125, 126, 127, 128, 129, 130, 131, 132, 133, 134, 308, 309, 310, 311, 369, 370, 371, 372, 373, 374, 380, 381, 382, 383, 384, 385, 386, 387, 375, 376, 377, 378, 379, 388, 389, 390, 391, 392, 393, 394, 395] (by decide +kernel) (by decide +kernel)) (goodIn_sub (fun _ h => List.mem_cons_of_mem _ (List.mem_append_left _ (List.mem_append_right _ h))) (by decide +kernel))) (goodIn_sub (fun _ h => List.mem_cons_of_mem _ (List.mem_append_right _ h)) (by decide +kernel))
set_option maxRecDepth 20000 in
theorem gL_areSolutions_X7_first : GoodIn wsL_areSolutions (wsV RL 102 RX7 yX7_first wsX7_first) := goodIn_app (goodIn_of _ (by decide +kernel)) ggL_areSolutions_X7_first
set_option maxRecDepth 20000 in
theorem ggL_areSolutions_X7_size : GoodIn wsL_areSolutions wsX7_size := goodIn_r _ [315, 255, 280, 186, 187, 18, 188, 20, 369, 370, 371, 372, 373, 374, 380, 381, 382, 383, 384, 385, 386, 387] (by decide +kernel) (by decide +kernel)
set_option maxRecDepth 20000 in
theorem gL_areSolutions_X7_size : GoodIn wsL_areSolutions (wsV RL 10 RX7 yX7_size wsX7_size) := goodIn_app (goodIn_of _ (by decide +kernel)) ggL_areSolutions_X7_size
set_option maxRecDepth 20000 in
theorem ggL_areSolutions_X7_lays : GoodIn wsL_areSolutions wsX7_lays := goodIn_ca (goodIn_r _ [319, 6, 301, 302, 303, 4, 304, 305, 306, 255, 307, 16, 17, 18, 19, 20, 8, 9, 10, 11, 12, 13, 14, 15, 21, 22, 23, 24, 25, 26, 27, 28, 29, 30, 31, 32, 33, 34, 35, 36, 37, 38, 39, 40, 41, 42, 43, 44, 45, 46, 47, 48, 49, 50, 51, 52, 53, 54, 55, 56, 57, 58, 59, 60, 61, 62, 63, 64, 65, 66, 67, 68, 69, 70, 71, 72, 73, 74, 75, 76, 77, 78, 79, 80, 81, 82, 320, 369, 370, 371, 372, 373, 374, 380, 381, 382, 383, 384, 385, 386, 387, 375, 376, 377, 378, 379] (by decide +kernel) (by decide +kernel)) (goodIn_sub (fun _ h => List.mem_cons_of_mem _ (List.mem_append_right _ h)) (by decide +kernel))
set_option maxRecDepth 20000 in
theorem gL_areSolutions_X7_lays : GoodIn wsL_areSolutions (wsV RL 105 RX7 yX7_lays wsX7_lays) := goodIn_app (goodIn_of _ (by decide +kernel)) ggL_areSolutions_X7_lays
set_option maxRecDepth 20000 in
theorem ggL_areSolutions_L_turns : GoodIn wsL_areSolutions wsL_turns := goodIn_ca (goodIn_ca (goodIn_r _ [324, 184, 325, 326, 327, 4, 328, 329, 330, 331, 332, 333, 334, 335, 312, 313, 314, 315, 255, 280, 186, 187, 18, 188, 20, 297, 298, 299, 300, 291, 292, 6, 7, 301, 302, 303, 304, 305, 306, 307, 16, 17, 19, 8, 9, 10, 11, 12, 13, 14, 15, 21, 22, 23, 24, 25, 26, 27, 28, 29, 30, 31, 32, 33, 34, 35, 36, 37, 38, 39, 40, 41, 42, 43, 44, 45, 46, 47, 48, 49, 50, 51, 52, 53, 54, 55, 56, 57, 58, 59, 60, 61, 62, 63, 64, 65, 66, 67, 68, 69, 70, 71, 72, 73, 74, 75, 76, 77, 78, 79, 80, 81, 82, 83, 84, 85, 86, 87, 88, 89, 90, 91, 92, 93, 94, 95, 96, 97, 98, 99, 100, 101, 102, 103, 104, 105, 106, 107, 108, 109, 110, 111, 112, 113, 114, 115, 116, 117, 118, 119, 120, 121, 122, 123, 124, 125, 126, 127, 128, 129, 130, 131, 132, 133, 134, 308, 309, 310, 311, 336, 337, 338, 339, 340, 341, 342, 343, 344, 345, 346, 347, 348, 349, 350, 351, 352, 353, 354, 355, 356, 357, 358, 359, 360, 251, 252, 253, 254, 256, 257, 258, 259, 260, 261, 262, 263, 264, 265, 266, 267, 268, 269, 270, 271, 272, 273, 274, 275, 276, 277, 278, 279, 281, 282, 283, 284, 285, 286, 361, 362, 363, 364, 365, 366, 367, 368, 369, 370, 371, 372, 373, 374, 404, 405, 406, 380, 381, 382, 383, 384, 385, 386, 387, 375, 376, 377, 378, 379, 388, 389, 390, 391, 392, 393, 394, 395] (by decide +kernel) (by decide +kernel)) (goodIn_sub (fun _ h => List.mem_cons_of_mem _ (List.mem_append_left _ (List.mem_append_right _ h))) (by decide +kernel))) (goodIn_sub (fun _ h => List.mem_cons_of_mem _ (List.mem_append_right _ h)) (by decide +kernel))
set_option maxRecDepth 20000 in
theorem gL_areSolutions_L_turns : GoodIn wsL_areSolutions (va_wsS RL 108 yL_turns wsL_turns) := goodIn_app (goodIn_of _ (by decide +kernel)) ggL_areSolutions_L_turns
theorem dL_areSolutions_0 : decode cL_areSolutions 0 = .ok (.aload_n 0, 1) := by decide +kernel
theorem dL_areSolutions_1 : decode cL_areSolutions 1 = .ok (.invokevirtual 72, 3) := by decide +kernel
theorem dL_areSolutions_4 : decode cL_areSolutions 4 = .ok (.istore_n 2, 1) := by decide +kernel
theorem dL_areSolutions_5 : decode cL_areSolutions 5 = .ok (.aload_n 0, 1) := by decide +kernel
theorem dL_areSolutions_6 : decode cL_areSolutions 6 = .ok (.invokevirtual 96, 3) := by decide +kernel
theorem dL_areSolutions_9 : decode cL_areSolutions 9 = .ok (.iload_n 2, 1) := by decide +kernel
theorem dL_areSolutions_10 : decode cL_areSolutions 10 = .ok (.if_icmp .ne 38, 3) := by decide +kernel
theorem dL_areSolutions_13 : decode cL_areSolutions 13 = .ok (.iload_n 2, 1) := by decide +kernel
theorem dL_areSolutions_14 : decode cL_areSolutions 14 = .ok (.ifCond .lt 34, 3) := by decide +kernel
theorem dL_areSolutions_17 : decode cL_areSolutions 17 = .ok (.aload_n 0, 1) := by decide +kernel
theorem dL_areSolutions_18 : decode cL_areSolutions 18 = .ok (.invokevirtual 92, 3) := by decide +kernel
theorem dL_areSolutions_21 : decode cL_areSolutions 21 = .ok (.ifCond .eq 23, 3) := by decide +kernel
theorem dL_areSolutions_24 : decode cL_areSolutions 24 = .ok (.iload_n 2, 1) := by decide +kernel
theorem dL_areSolutions_25 : decode cL_areSolutions 25 = .ok (.iconst 1, 1) := by decide +kernel
theorem dL_areSolutions_26 : decode cL_areSolutions 26 = .ok (.if_icmp .lt 22, 3) := by decide +kernel
theorem dL_areSolutions_29 : decode cL_areSolutions 29 = .ok (.aload_n 0, 1) := by decide +kernel
theorem dL_areSolutions_30 : decode cL_areSolutions 30 = .ok (.invokevirtual 99, 3) := by decide +kernel
theorem dL_areSolutions_33 : decode cL_areSolutions 33 = .ok (.ifCond .ne 15, 3) := by decide +kernel
theorem dL_areSolutions_36 : decode cL_areSolutions 36 = .ok (.aload_n 0, 1) := by decide +kernel
theorem dL_areSolutions_37 : decode cL_areSolutions 37 = .ok (.iconst 0, 1) := by decide +kernel
theorem dL_areSolutions_38 : decode cL_areSolutions 38 = .ok (.invokevirtual 102, 3) := by decide +kernel
theorem dL_areSolutions_41 : decode cL_areSolutions 41 = .ok (.ifCond .ne 7, 3) := by decide +kernel
theorem dL_areSolutions_44 : decode cL_areSolutions 44 = .ok (.iconst 1, 1) := by decide +kernel
theorem dL_areSolutions_45 : decode cL_areSolutions 45 = .ok (.goto 4, 3) := by decide +kernel
theorem dL_areSolutions_48 : decode cL_areSolutions 48 = .ok (.iconst 0, 1) := by decide +kernel
theorem dL_areSolutions_49 : decode cL_areSolutions 49 = .ok (.istore_n 3, 1) := by decide +kernel
theorem dL_areSolutions_50 : decode cL_areSolutions 50 = .ok (.iconst 0, 1) := by decide +kernel
theorem dL_areSolutions_51 : decode cL_areSolutions 51 = .ok (.istore 4, 2) := by decide +kernel
theorem dL_areSolutions_53 : decode cL_areSolutions 53 = .ok (.iconst 0, 1) := by decide +kernel
theorem dL_areSolutions_54 : decode cL_areSolutions 54 = .ok (.istore 5, 2) := by decide +kernel
theorem dL_areSolutions_56 : decode cL_areSolutions 56 = .ok (.iload 5, 2) := by decide +kernel
theorem dL_areSolutions_58 : decode cL_areSolutions 58 = .ok (.aload_n 0, 1) := by decide +kernel
theorem dL_areSolutions_59 : decode cL_areSolutions 59 = .ok (.invokevirtual 10, 3) := by decide +kernel
theorem dL_areSolutions_62 : decode cL_areSolutions 62 = .ok (.if_icmp .ge 139, 3) := by decide +kernel
theorem dL_areSolutions_65 : decode cL_areSolutions 65 = .ok (.iload_n 3, 1) := by decide +kernel
theorem dL_areSolutions_66 : decode cL_areSolutions 66 = .ok (.ifCond .eq 135, 3) := by decide +kernel
theorem dL_areSolutions_69 : decode cL_areSolutions 69 = .ok (.aload_n 0, 1) := by decide +kernel
theorem dL_areSolutions_70 : decode cL_areSolutions 70 = .ok (.iload 5, 2) := by decide +kernel
theorem dL_areSolutions_72 : decode cL_areSolutions 72 = .ok (.invokevirtual 105, 3) := by decide +kernel
theorem dL_areSolutions_75 : decode cL_areSolutions 75 = .ok (.istore 6, 2) := by decide +kernel
theorem dL_areSolutions_77 : decode cL_areSolutions 77 = .ok (.aload_n 1, 1) := by decide +kernel
theorem dL_areSolutions_78 : decode cL_areSolutions 78 = .ok (.bipush 16, 2) := by decide +kernel
theorem dL_areSolutions_80 : decode cL_areSolutions 80 = .ok (.iload 5, 2) := by decide +kernel
theorem dL_areSolutions_82 : decode cL_areSolutions 82 = .ok (.iadd, 1) := by decide +kernel
theorem dL_areSolutions_83 : decode cL_areSolutions 83 = .ok (.iaload, 1) := by decide +kernel
theorem dL_areSolutions_84 : decode cL_areSolutions 84 = .ok (.iconst 1, 1) := by decide +kernel
theorem dL_areSolutions_85 : decode cL_areSolutions 85 = .ok (.if_icmp .eq 19, 3) := by decide +kernel
theorem dL_areSolutions_88 : decode cL_areSolutions 88 = .ok (.aload_n 1, 1) := by decide +kernel
theorem dL_areSolutions_89 : decode cL_areSolutions 89 = .ok (.iload 5, 2) := by decide +kernel
theorem dL_areSolutions_91 : decode cL_areSolutions 91 = .ok (.iaload, 1) := by decide +kernel
theorem dL_areSolutions_92 : decode cL_areSolutions 92 = .ok (.ifCond .eq 12, 3) := by decide +kernel
theorem dL_areSolutions_95 : decode cL_areSolutions 95 = .ok (.aload_n 1, 1) := by decide +kernel
theorem dL_areSolutions_96 : decode cL_areSolutions 96 = .ok (.iload 5, 2) := by decide +kernel
theorem dL_areSolutions_98 : decode cL_areSolutions 98 = .ok (.iaload, 1) := by decide +kernel
theorem dL_areSolutions_99 : decode cL_areSolutions 99 = .ok (.bipush 15, 2) := by decide +kernel
theorem dL_areSolutions_101 : decode cL_areSolutions 101 = .ok (.if_icmp .ne 7, 3) := by decide +kernel
theorem dL_areSolutions_104 : decode cL_areSolutions 104 = .ok (.iconst 1, 1) := by decide +kernel
theorem dL_areSolutions_105 : decode cL_areSolutions 105 = .ok (.goto 25, 3) := by decide +kernel
theorem dL_areSolutions_108 : decode cL_areSolutions 108 = .ok (.aload_n 1, 1) := by decide +kernel
theorem dL_areSolutions_109 : decode cL_areSolutions 109 = .ok (.iload 5, 2) := by decide +kernel
theorem dL_areSolutions_111 : decode cL_areSolutions 111 = .ok (.iaload, 1) := by decide +kernel
theorem dL_areSolutions_112 : decode cL_areSolutions 112 = .ok (.iconst 5, 1) := by decide +kernel
theorem dL_areSolutions_113 : decode cL_areSolutions 113 = .ok (.if_icmp .eq 12, 3) := by decide +kernel
theorem dL_areSolutions_116 : decode cL_areSolutions 116 = .ok (.aload_n 1, 1) := by decide +kernel
theorem dL_areSolutions_117 : decode cL_areSolutions 117 = .ok (.iload 5, 2) := by decide +kernel
theorem dL_areSolutions_119 : decode cL_areSolutions 119 = .ok (.iaload, 1) := by decide +kernel
theorem dL_areSolutions_120 : decode cL_areSolutions 120 = .ok (.bipush 10, 2) := by decide +kernel
theorem dL_areSolutions_122 : decode cL_areSolutions 122 = .ok (.if_icmp .ne 7, 3) := by decide +kernel
theorem dL_areSolutions_125 : decode cL_areSolutions 125 = .ok (.iconst 2, 1) := by decide +kernel
theorem dL_areSolutions_126 : decode cL_areSolutions 126 = .ok (.goto 4, 3) := by decide +kernel
theorem dL_areSolutions_129 : decode cL_areSolutions 129 = .ok (.iconst 4, 1) := by decide +kernel
theorem dL_areSolutions_130 : decode cL_areSolutions 130 = .ok (.istore 7, 2) := by decide +kernel
theorem dL_areSolutions_132 : decode cL_areSolutions 132 = .ok (.iload 6, 2) := by decide +kernel
theorem dL_areSolutions_134 : decode cL_areSolutions 134 = .ok (.ifCond .lt 40, 3) := by decide +kernel
theorem dL_areSolutions_137 : decode cL_areSolutions 137 = .ok (.iload 6, 2) := by decide +kernel
theorem dL_areSolutions_139 : decode cL_areSolutions 139 = .ok (.iconst 1, 1) := by decide +kernel
theorem dL_areSolutions_140 : decode cL_areSolutions 140 = .ok (.iload 7, 2) := by decide +kernel
theorem dL_areSolutions_142 : decode cL_areSolutions 142 = .ok (.ishl, 1) := by decide +kernel
theorem dL_areSolutions_143 : decode cL_areSolutions 143 = .ok (.if_icmp .ge 31, 3) := by decide +kernel
theorem dL_areSolutions_146 : decode cL_areSolutions 146 = .ok (.iload_n 2, 1) := by decide +kernel
theorem dL_areSolutions_147 : decode cL_areSolutions 147 = .ok (.ifCond .eq 23, 3) := by decide +kernel
theorem dL_areSolutions_150 : decode cL_areSolutions 150 = .ok (.iload 6, 2) := by decide +kernel
theorem dL_areSolutions_152 : decode cL_areSolutions 152 = .ok (.ifCond .le 22, 3) := by decide +kernel
theorem dL_areSolutions_155 : decode cL_areSolutions 155 = .ok (.iload 6, 2) := by decide +kernel
theorem dL_areSolutions_157 : decode cL_areSolutions 157 = .ok (.aload_n 0, 1) := by decide +kernel
theorem dL_areSolutions_158 : decode cL_areSolutions 158 = .ok (.iload 5, 2) := by decide +kernel
theorem dL_areSolutions_160 : decode cL_areSolutions 160 = .ok (.invokevirtual 102, 3) := by decide +kernel
theorem dL_areSolutions_163 : decode cL_areSolutions 163 = .ok (.ishr, 1) := by decide +kernel
theorem dL_areSolutions_164 : decode cL_areSolutions 164 = .ok (.iconst 1, 1) := by decide +kernel
theorem dL_areSolutions_165 : decode cL_areSolutions 165 = .ok (.iand, 1) := by decide +kernel
theorem dL_areSolutions_166 : decode cL_areSolutions 166 = .ok (.iconst 1, 1) := by decide +kernel
theorem dL_areSolutions_167 : decode cL_areSolutions 167 = .ok (.if_icmp .ne 7, 3) := by decide +kernel
theorem dL_areSolutions_170 : decode cL_areSolutions 170 = .ok (.iconst 1, 1) := by decide +kernel
theorem dL_areSolutions_171 : decode cL_areSolutions 171 = .ok (.goto 4, 3) := by decide +kernel
theorem dL_areSolutions_174 : decode cL_areSolutions 174 = .ok (.iconst 0, 1) := by decide +kernel
theorem dL_areSolutions_175 : decode cL_areSolutions 175 = .ok (.istore_n 3, 1) := by decide +kernel
theorem dL_areSolutions_176 : decode cL_areSolutions 176 = .ok (.iload 4, 2) := by decide +kernel
theorem dL_areSolutions_178 : decode cL_areSolutions 178 = .ok (.iload_n 2, 1) := by decide +kernel
theorem dL_areSolutions_179 : decode cL_areSolutions 179 = .ok (.ifCond .ne 7, 3) := by decide +kernel
theorem dL_areSolutions_182 : decode cL_areSolutions 182 = .ok (.iconst 0, 1) := by decide +kernel
theorem dL_areSolutions_183 : decode cL_areSolutions 183 = .ok (.goto 9, 3) := by decide +kernel
theorem dL_areSolutions_186 : decode cL_areSolutions 186 = .ok (.aload_n 0, 1) := by decide +kernel
theorem dL_areSolutions_187 : decode cL_areSolutions 187 = .ok (.iload 5, 2) := by decide +kernel
theorem dL_areSolutions_189 : decode cL_areSolutions 189 = .ok (.invokevirtual 102, 3) := by decide +kernel
theorem dL_areSolutions_192 : decode cL_areSolutions 192 = .ok (.iadd, 1) := by decide +kernel
theorem dL_areSolutions_193 : decode cL_areSolutions 193 = .ok (.istore 4, 2) := by decide +kernel
theorem dL_areSolutions_195 : decode cL_areSolutions 195 = .ok (.iinc 5 1, 3) := by decide +kernel
theorem dL_areSolutions_198 : decode cL_areSolutions 198 = .ok (.goto (-142), 3) := by decide +kernel
theorem dL_areSolutions_201 : decode cL_areSolutions 201 = .ok (.iload_n 3, 1) := by decide +kernel
theorem dL_areSolutions_202 : decode cL_areSolutions 202 = .ok (.ifCond .eq 27, 3) := by decide +kernel
theorem dL_areSolutions_205 : decode cL_areSolutions 205 = .ok (.iload_n 2, 1) := by decide +kernel
theorem dL_areSolutions_206 : decode cL_areSolutions 206 = .ok (.ifCond .eq 19, 3) := by decide +kernel
theorem dL_areSolutions_209 : decode cL_areSolutions 209 = .ok (.aload_n 0, 1) := by decide +kernel
theorem dL_areSolutions_210 : decode cL_areSolutions 210 = .ok (.invokevirtual 99, 3) := by decide +kernel
theorem dL_areSolutions_213 : decode cL_areSolutions 213 = .ok (.iload 4, 2) := by decide +kernel
theorem dL_areSolutions_215 : decode cL_areSolutions 215 = .ok (.if_icmp .gt 14, 3) := by decide +kernel
theorem dL_areSolutions_218 : decode cL_areSolutions 218 = .ok (.aload_n 0, 1) := by decide +kernel
theorem dL_areSolutions_219 : decode cL_areSolutions 219 = .ok (.invokestatic 108, 3) := by decide +kernel
theorem dL_areSolutions_222 : decode cL_areSolutions 222 = .ok (.ifCond .eq 7, 3) := by decide +kernel
theorem dL_areSolutions_225 : decode cL_areSolutions 225 = .ok (.iconst 1, 1) := by decide +kernel
theorem dL_areSolutions_226 : decode cL_areSolutions 226 = .ok (.goto 4, 3) := by decide +kernel
theorem dL_areSolutions_229 : decode cL_areSolutions 229 = .ok (.iconst 0, 1) := by decide +kernel
theorem dL_areSolutions_230 : decode cL_areSolutions 230 = .ok (.ireturn, 1) := by decide +kernel
set_option maxRecDepth 20000 in
theorem ggL_turns_X7_moves : GoodIn wsL_turns wsX7_moves := goodIn_r _ [6, 7, 8, 9, 10, 11, 12, 13, 236, 237, 238, 239, 240, 241, 242, 243, 244] (by decide +kernel) (by decide +kernel)
set_option maxRecDepth 20000 in
theorem gL_turns_X7_moves : GoodIn wsL_turns (wsV RL 26 RX7 yX7_moves wsX7_moves) := goodIn_app (goodIn_of _ (by decide +kernel)) ggL_turns_X7_moves
set_option maxRecDepth 20000 in
theorem ggL_turns_X7_size : GoodIn wsL_turns wsX7_size := goodIn_r _ [17, 18, 19, 20, 21, 22, 23, 24, 236, 237, 238, 239, 240, 241, 245, 246, 247, 248, 249, 250, 251, 252] (by decide +kernel) (by decide +kernel)
set_option maxRecDepth 20000 in
theorem gL_turns_X7_size : GoodIn wsL_turns (wsV RL 10 RX7 yX7_size wsX7_size) := goodIn_app (goodIn_of _ (by decide +kernel)) ggL_turns_X7_size
set_option maxRecDepth 20000 in
theorem ggL_turns_X7_first : GoodIn wsL_turns wsX7_first := goodIn_ca (goodIn_ca (goodIn_r _ [28, 29, 30, 31, 32, 33, 34, 35, 5, 36, 37, 38, 18, 39, 40, 41, 22, 42, 24, 43, 44, 45, 46, 47, 48, 49, 50, 51, 52, 53, 54, 55, 56, 57, 58, 59, 60, 61, 62, 63, 64, 65, 66, 67, 68, 69, 70, 71, 72, 73, 74, 75, 76, 77, 78, 79, 80, 81, 82, 83, 84, 85, 86, 87, 88, 89, 90, 91, 92, 93, 94, 95, 96, 97, 98, 99, 100, 101, 102, 103, 104, 105, 106, 107, 108, 109, 110, 111, 112, 113, 114, 115, 116, 117, 118, 119, 120, 121, 122, 123, 124, 125, 126, 127, 128, 129, 130, 131, 132, 133, 134, 135, 136, 137, 138, 139, 140, 141, 142, 143, 144, 145, 146, 147, 148, 149, 150, 151, 152, 153, 154, 155, 156, 157, 158, 159, 160, 161, 162, 163, 164, 165, 166, 167, 168, 236, 237, 238, 239, 240, 241, 245, 246, 247, 248, 249, 250, 251, 252, 253, 254, 255, 256, 257, 258, 259, 260, 261, 262, 263, 264, 265] (by decide +kernel) (by decide +kernel)) (goodIn_sub (fun _ h => List.mem_cons_of_mem _ (List.mem_append_left _ (List.mem_append_right _ h))) (by decide +kernel))) (goodIn_sub (fun _ h => List.mem_cons_of_mem _ (List.mem_append_right _ h)) (by decide +kernel))
set_option maxRecDepth 20000 in
theorem gL_turns_X7_first : GoodIn wsL_turns (wsV RL 102 RX7 yX7_first wsX7_first) := goodIn_app (goodIn_of _ (by decide +kernel)) ggL_turns_X7_first
set_option maxRecDepth 20000 in
theorem ggL_turns_X7_turn : GoodIn wsL_turns wsX7_turn := goodIn_ca (goodIn_ca (goodIn_r _ [172, 29, 30, 18, 7, 33, 34, 35, 5, 36, 37, 38, 39, 40, 41, 22, 42, 24, 173, 63, 64, 65, 66, 67, 68, 174, 175, 176, 11, 177, 13, 178, 179, 180, 181, 55, 56, 57, 58, 59, 60, 61, 69, 70, 182, 183, 184, 185, 186, 187, 188, 189, 190, 191, 192, 193, 236, 237, 238, 239, 240, 241, 245, 246, 247, 248, 249, 250, 251, 252, 242, 243, 244] (by decide +kernel) (by decide +kernel)) (goodIn_sub (fun _ h => List.mem_cons_of_mem _ (List.mem_append_left _ (List.mem_append_right _ h))) (by decide +kernel))) (goodIn_sub (fun _ h => List.mem_cons_of_mem _ (List.mem_append_right _ h)) (by decide +kernel))
set_option maxRecDepth 20000 in
theorem gL_turns_X7_turn : GoodIn wsL_turns (wsV RL 59 RX7 yX7_turn wsX7_turn) := goodIn_app (goodIn_of _ (by decide +kernel)) ggL_turns_X7_turn
set_option maxRecDepth 20000 in
theorem ggL_turns_X7_isSolved : GoodIn wsL_turns wsX7_isSolved := goodIn_r _ [197, 18, 198, 199, 200, 22, 201, 24, 202, 203, 204, 205, 206, 207, 208, 209, 59, 210, 96, 97, 98, 99, 60, 5, 61, 67, 68, 100, 101, 211, 212, 213, 214, 215, 216, 217, 218, 219, 220, 221, 55, 56, 57, 58, 19, 20, 21, 23, 222, 223, 224, 225, 226, 110, 111, 112, 227, 143, 144, 145, 236, 237, 238, 239, 240, 241, 245, 246, 247, 248, 249, 250, 251, 252] (by decide +kernel) (by decide +kernel)
set_option maxRecDepth 20000 in
theorem gL_turns_X7_isSolved : GoodIn wsL_turns (wsV RL 92 RX7 yX7_isSolved wsX7_isSolved) := goodIn_app (goodIn_of _ (by decide +kernel)) ggL_turns_X7_isSolved
set_option maxRecDepth 20000 in
theorem ggL_turns_X7_undo : GoodIn wsL_turns wsX7_undo := goodIn_ca (goodIn_r _ [231, 29, 30, 7, 18, 232, 233, 234, 11, 235, 13, 191, 178, 179, 180, 22, 181, 55, 56, 57, 58, 59, 60, 5, 61, 69, 70, 182, 183, 184, 185, 186, 40, 41, 42, 24, 8, 9, 10, 12, 236, 237, 238, 239, 240, 241, 242, 243, 244, 245, 246, 247, 248, 249, 250, 251, 252] (by decide +kernel) (by decide +kernel)) (goodIn_sub (fun _ h => List.mem_cons_of_mem _ (List.mem_append_left _ (List.mem_append_right _ h))) (by decide +kernel))
set_option maxRecDepth 20000 in
theorem gL_turns_X7_undo : GoodIn wsL_turns (wsV RL 86 RX7 yX7_undo wsX7_undo) := goodIn_app (goodIn_of _ (by decide +kernel)) ggL_turns_X7_undo
theorem dL_turns_0 : decode cL_turns 0 = .ok (.aload_n 0, 1) := by decide +kernel
theorem dL_turns_1 : decode cL_turns 1 = .ok (.invokevirtual 26, 3) := by decide +kernel
theorem dL_turns_4 : decode cL_turns 4 = .ok (.istore_n 1, 1) := by decide +kernel
theorem dL_turns_5 : decode cL_turns 5 = .ok (.iconst 0, 1) := by decide +kernel
theorem dL_turns_6 : decode cL_turns 6 = .ok (.istore_n 2, 1) := by decide +kernel
theorem dL_turns_7 : decode cL_turns 7 = .ok (.bipush 16, 2) := by decide +kernel
theorem dL_turns_9 : decode cL_turns 9 = .ok (.newarray .int, 2) := by decide +kernel
theorem dL_turns_11 : decode cL_turns 11 = .ok (.astore_n 3, 1) := by decide +kernel
theorem dL_turns_12 : decode cL_turns 12 = .ok (.iconst 0, 1) := by decide +kernel
theorem dL_turns_13 : decode cL_turns 13 = .ok (.istore 4, 2) := by decide +kernel
theorem dL_turns_15 : decode cL_turns 15 = .ok (.iload 4, 2) := by decide +kernel
theorem dL_turns_17 : decode cL_turns 17 = .ok (.aload_n 0, 1) := by decide +kernel
theorem dL_turns_18 : decode cL_turns 18 = .ok (.invokevirtual 10, 3) := by decide +kernel
theorem dL_turns_21 : decode cL_turns 21 = .ok (.if_icmp .ge 19, 3) := by decide +kernel
theorem dL_turns_24 : decode cL_turns 24 = .ok (.aload_n 3, 1) := by decide +kernel
theorem dL_turns_25 : decode cL_turns 25 = .ok (.iload 4, 2) := by decide +kernel
theorem dL_turns_27 : decode cL_turns 27 = .ok (.aload_n 0, 1) := by decide +kernel
theorem dL_turns_28 : decode cL_turns 28 = .ok (.iload 4, 2) := by decide +kernel
theorem dL_turns_30 : decode cL_turns 30 = .ok (.invokevirtual 102, 3) := by decide +kernel
theorem dL_turns_33 : decode cL_turns 33 = .ok (.iastore, 1) := by decide +kernel
theorem dL_turns_34 : decode cL_turns 34 = .ok (.iinc 4 1, 3) := by decide +kernel
theorem dL_turns_37 : decode cL_turns 37 = .ok (.goto (-22), 3) := by decide +kernel
theorem dL_turns_40 : decode cL_turns 40 = .ok (.iconst 0, 1) := by decide +kernel
theorem dL_turns_41 : decode cL_turns 41 = .ok (.istore 4, 2) := by decide +kernel
theorem dL_turns_43 : decode cL_turns 43 = .ok (.iload 4, 2) := by decide +kernel
theorem dL_turns_45 : decode cL_turns 45 = .ok (.aload_n 0, 1) := by decide +kernel
theorem dL_turns_46 : decode cL_turns 46 = .ok (.invokevirtual 10, 3) := by decide +kernel
theorem dL_turns_49 : decode cL_turns 49 = .ok (.if_icmp .ge 44, 3) := by decide +kernel
theorem dL_turns_52 : decode cL_turns 52 = .ok (.iconst 0, 1) := by decide +kernel
theorem dL_turns_53 : decode cL_turns 53 = .ok (.istore 5, 2) := by decide +kernel
theorem dL_turns_55 : decode cL_turns 55 = .ok (.iload 5, 2) := by decide +kernel
theorem dL_turns_57 : decode cL_turns 57 = .ok (.aload_n 3, 1) := by decide +kernel
theorem dL_turns_58 : decode cL_turns 58 = .ok (.iload 4, 2) := by decide +kernel
theorem dL_turns_60 : decode cL_turns 60 = .ok (.iaload, 1) := by decide +kernel
theorem dL_turns_61 : decode cL_turns 61 = .ok (.if_icmp .ge 26, 3) := by decide +kernel
theorem dL_turns_64 : decode cL_turns 64 = .ok (.iload_n 2, 1) := by decide +kernel
theorem dL_turns_65 : decode cL_turns 65 = .ok (.aload_n 0, 1) := by decide +kernel
theorem dL_turns_66 : decode cL_turns 66 = .ok (.iload 4, 2) := by decide +kernel
theorem dL_turns_68 : decode cL_turns 68 = .ok (.invokevirtual 59, 3) := by decide +kernel
theorem dL_turns_71 : decode cL_turns 71 = .ok (.ifCond .lt 7, 3) := by decide +kernel
theorem dL_turns_74 : decode cL_turns 74 = .ok (.iconst 1, 1) := by decide +kernel
theorem dL_turns_75 : decode cL_turns 75 = .ok (.goto 4, 3) := by decide +kernel
theorem dL_turns_78 : decode cL_turns 78 = .ok (.iconst 0, 1) := by decide +kernel
theorem dL_turns_79 : decode cL_turns 79 = .ok (.iadd, 1) := by decide +kernel
theorem dL_turns_80 : decode cL_turns 80 = .ok (.istore_n 2, 1) := by decide +kernel
theorem dL_turns_81 : decode cL_turns 81 = .ok (.iinc 5 1, 3) := by decide +kernel
theorem dL_turns_84 : decode cL_turns 84 = .ok (.goto (-29), 3) := by decide +kernel
theorem dL_turns_87 : decode cL_turns 87 = .ok (.iinc 4 1, 3) := by decide +kernel
theorem dL_turns_90 : decode cL_turns 90 = .ok (.goto (-47), 3) := by decide +kernel
theorem dL_turns_93 : decode cL_turns 93 = .ok (.aload_n 0, 1) := by decide +kernel
theorem dL_turns_94 : decode cL_turns 94 = .ok (.invokevirtual 92, 3) := by decide +kernel
theorem dL_turns_97 : decode cL_turns 97 = .ok (.ifCond .eq 17, 3) := by decide +kernel
theorem dL_turns_100 : decode cL_turns 100 = .ok (.aload_n 0, 1) := by decide +kernel
theorem dL_turns_101 : decode cL_turns 101 = .ok (.invokevirtual 26, 3) := by decide +kernel
theorem dL_turns_104 : decode cL_turns 104 = .ok (.iload_n 1, 1) := by decide +kernel
theorem dL_turns_105 : decode cL_turns 105 = .ok (.iload_n 2, 1) := by decide +kernel
theorem dL_turns_106 : decode cL_turns 106 = .ok (.iadd, 1) := by decide +kernel
theorem dL_turns_107 : decode cL_turns 107 = .ok (.if_icmp .ne 7, 3) := by decide +kernel
theorem dL_turns_110 : decode cL_turns 110 = .ok (.iconst 1, 1) := by decide +kernel
theorem dL_turns_111 : decode cL_turns 111 = .ok (.goto 4, 3) := by decide +kernel
theorem dL_turns_114 : decode cL_turns 114 = .ok (.iconst 0, 1) := by decide +kernel
theorem dL_turns_115 : decode cL_turns 115 = .ok (.istore 4, 2) := by decide +kernel
theorem dL_turns_117 : decode cL_turns 117 = .ok (.iconst 0, 1) := by decide +kernel
theorem dL_turns_118 : decode cL_turns 118 = .ok (.istore 5, 2) := by decide +kernel
theorem dL_turns_120 : decode cL_turns 120 = .ok (.iload 5, 2) := by decide +kernel
theorem dL_turns_122 : decode cL_turns 122 = .ok (.iload_n 2, 1) := by decide +kernel
theorem dL_turns_123 : decode cL_turns 123 = .ok (.if_icmp .ge 36, 3) := by decide +kernel
theorem dL_turns_126 : decode cL_turns 126 = .ok (.aload_n 0, 1) := by decide +kernel
theorem dL_turns_127 : decode cL_turns 127 = .ok (.invokevirtual 86, 3) := by decide +kernel
theorem dL_turns_130 : decode cL_turns 130 = .ok (.iload_n 1, 1) := by decide +kernel
theorem dL_turns_131 : decode cL_turns 131 = .ok (.iload_n 2, 1) := by decide +kernel
theorem dL_turns_132 : decode cL_turns 132 = .ok (.iadd, 1) := by decide +kernel
theorem dL_turns_133 : decode cL_turns 133 = .ok (.iload 5, 2) := by decide +kernel
theorem dL_turns_135 : decode cL_turns 135 = .ok (.isub, 1) := by decide +kernel
theorem dL_turns_136 : decode cL_turns 136 = .ok (.iconst 1, 1) := by decide +kernel
theorem dL_turns_137 : decode cL_turns 137 = .ok (.isub, 1) := by decide +kernel
theorem dL_turns_138 : decode cL_turns 138 = .ok (.if_icmp .ne 12, 3) := by decide +kernel
theorem dL_turns_141 : decode cL_turns 141 = .ok (.iload 4, 2) := by decide +kernel
theorem dL_turns_143 : decode cL_turns 143 = .ok (.ifCond .eq 7, 3) := by decide +kernel
theorem dL_turns_146 : decode cL_turns 146 = .ok (.iconst 1, 1) := by decide +kernel
theorem dL_turns_147 : decode cL_turns 147 = .ok (.goto 4, 3) := by decide +kernel
theorem dL_turns_150 : decode cL_turns 150 = .ok (.iconst 0, 1) := by decide +kernel
theorem dL_turns_151 : decode cL_turns 151 = .ok (.istore 4, 2) := by decide +kernel
theorem dL_turns_153 : decode cL_turns 153 = .ok (.iinc 5 1, 3) := by decide +kernel
theorem dL_turns_156 : decode cL_turns 156 = .ok (.goto (-36), 3) := by decide +kernel
theorem dL_turns_159 : decode cL_turns 159 = .ok (.iload 4, 2) := by decide +kernel
theorem dL_turns_161 : decode cL_turns 161 = .ok (.ireturn, 1) := by decide +kernel
theorem dL_law_0 : decode cL_law 0 = .ok (.new 11, 3) := by decide +kernel
theorem dL_law_3 : decode cL_law 3 = .ok (.dup, 1) := by decide +kernel
theorem dL_law_4 : decode cL_law 4 = .ok (.invokespecial 112, 3) := by decide +kernel
theorem dL_law_7 : decode cL_law 7 = .ok (.astore_n 1, 1) := by decide +kernel
theorem dL_law_8 : decode cL_law 8 = .ok (.bipush 64, 2) := by decide +kernel
theorem dL_law_10 : decode cL_law 10 = .ok (.newarray .int, 2) := by decide +kernel
theorem dL_law_12 : decode cL_law 12 = .ok (.astore_n 2, 1) := by decide +kernel
theorem dL_law_13 : decode cL_law 13 = .ok (.bipush 16, 2) := by decide +kernel
theorem dL_law_15 : decode cL_law 15 = .ok (.newarray .int, 2) := by decide +kernel
theorem dL_law_17 : decode cL_law 17 = .ok (.astore_n 3, 1) := by decide +kernel
theorem dL_law_18 : decode cL_law 18 = .ok (.aload_n 1, 1) := by decide +kernel
theorem dL_law_19 : decode cL_law 19 = .ok (.invokevirtual 10, 3) := by decide +kernel
theorem dL_law_22 : decode cL_law 22 = .ok (.bipush 9, 2) := by decide +kernel
theorem dL_law_24 : decode cL_law 24 = .ok (.if_icmp .ne 46, 3) := by decide +kernel
theorem dL_law_27 : decode cL_law 27 = .ok (.aload_n 1, 1) := by decide +kernel
theorem dL_law_28 : decode cL_law 28 = .ok (.iconst 0, 1) := by decide +kernel
theorem dL_law_29 : decode cL_law 29 = .ok (.iconst 0, 1) := by decide +kernel
theorem dL_law_30 : decode cL_law 30 = .ok (.invokevirtual 29, 3) := by decide +kernel
theorem dL_law_33 : decode cL_law 33 = .ok (.iconst (-1), 1) := by decide +kernel
theorem dL_law_34 : decode cL_law 34 = .ok (.if_icmp .ne 36, 3) := by decide +kernel
theorem dL_law_37 : decode cL_law 37 = .ok (.aload_n 1, 1) := by decide +kernel
theorem dL_law_38 : decode cL_law 38 = .ok (.invokevirtual 69, 3) := by decide +kernel
theorem dL_law_41 : decode cL_law 41 = .ok (.iconst 1, 1) := by decide +kernel
theorem dL_law_42 : decode cL_law 42 = .ok (.if_icmp .ne 28, 3) := by decide +kernel
theorem dL_law_45 : decode cL_law 45 = .ok (.aload_n 1, 1) := by decide +kernel
theorem dL_law_46 : decode cL_law 46 = .ok (.invokevirtual 66, 3) := by decide +kernel
theorem dL_law_49 : decode cL_law 49 = .ok (.ifCond .ne 21, 3) := by decide +kernel
theorem dL_law_52 : decode cL_law 52 = .ok (.aload_n 1, 1) := by decide +kernel
theorem dL_law_53 : decode cL_law 53 = .ok (.invokevirtual 92, 3) := by decide +kernel
theorem dL_law_56 : decode cL_law 56 = .ok (.ifCond .ne 14, 3) := by decide +kernel
theorem dL_law_59 : decode cL_law 59 = .ok (.aload_n 1, 1) := by decide +kernel
theorem dL_law_60 : decode cL_law 60 = .ok (.invokevirtual 26, 3) := by decide +kernel
theorem dL_law_63 : decode cL_law 63 = .ok (.ifCond .ne 7, 3) := by decide +kernel
theorem dL_law_66 : decode cL_law 66 = .ok (.iconst 1, 1) := by decide +kernel
theorem dL_law_67 : decode cL_law 67 = .ok (.goto 4, 3) := by decide +kernel
theorem dL_law_70 : decode cL_law 70 = .ok (.iconst 0, 1) := by decide +kernel
theorem dL_law_71 : decode cL_law 71 = .ok (.istore 4, 2) := by decide +kernel
theorem dL_law_73 : decode cL_law 73 = .ok (.aload_n 0, 1) := by decide +kernel
theorem dL_law_74 : decode cL_law 74 = .ok (.arraylength, 1) := by decide +kernel
theorem dL_law_75 : decode cL_law 75 = .ok (.iconst 3, 1) := by decide +kernel
theorem dL_law_76 : decode cL_law 76 = .ok (.idiv, 1) := by decide +kernel
theorem dL_law_77 : decode cL_law 77 = .ok (.bipush 50, 2) := by decide +kernel
theorem dL_law_79 : decode cL_law 79 = .ok (.if_icmp .le 8, 3) := by decide +kernel
theorem dL_law_82 : decode cL_law 82 = .ok (.bipush 50, 2) := by decide +kernel
theorem dL_law_84 : decode cL_law 84 = .ok (.goto 7, 3) := by decide +kernel
theorem dL_law_87 : decode cL_law 87 = .ok (.aload_n 0, 1) := by decide +kernel
theorem dL_law_88 : decode cL_law 88 = .ok (.arraylength, 1) := by decide +kernel
theorem dL_law_89 : decode cL_law 89 = .ok (.iconst 3, 1) := by decide +kernel
theorem dL_law_90 : decode cL_law 90 = .ok (.idiv, 1) := by decide +kernel
theorem dL_law_91 : decode cL_law 91 = .ok (.istore 5, 2) := by decide +kernel
theorem dL_law_93 : decode cL_law 93 = .ok (.iconst 0, 1) := by decide +kernel
theorem dL_law_94 : decode cL_law 94 = .ok (.istore 6, 2) := by decide +kernel
theorem dL_law_96 : decode cL_law 96 = .ok (.iload 6, 2) := by decide +kernel
theorem dL_law_98 : decode cL_law 98 = .ok (.iload 5, 2) := by decide +kernel
theorem dL_law_100 : decode cL_law 100 = .ok (.if_icmp .ge 127, 3) := by decide +kernel
theorem dL_law_103 : decode cL_law 103 = .ok (.iload 4, 2) := by decide +kernel
theorem dL_law_105 : decode cL_law 105 = .ok (.ifCond .eq 122, 3) := by decide +kernel
theorem dL_law_108 : decode cL_law 108 = .ok (.aload_n 1, 1) := by decide +kernel
theorem dL_law_109 : decode cL_law 109 = .ok (.aload_n 2, 1) := by decide +kernel
theorem dL_law_110 : decode cL_law 110 = .ok (.aload_n 3, 1) := by decide +kernel
theorem dL_law_111 : decode cL_law 111 = .ok (.aload_n 0, 1) := by decide +kernel
theorem dL_law_112 : decode cL_law 112 = .ok (.iconst 3, 1) := by decide +kernel
theorem dL_law_113 : decode cL_law 113 = .ok (.iload 6, 2) := by decide +kernel
theorem dL_law_115 : decode cL_law 115 = .ok (.imul, 1) := by decide +kernel
theorem dL_law_116 : decode cL_law 116 = .ok (.invokestatic 113, 3) := by decide +kernel
theorem dL_law_119 : decode cL_law 119 = .ok (.aload_n 0, 1) := by decide +kernel
theorem dL_law_120 : decode cL_law 120 = .ok (.iconst 3, 1) := by decide +kernel
theorem dL_law_121 : decode cL_law 121 = .ok (.iload 6, 2) := by decide +kernel
theorem dL_law_123 : decode cL_law 123 = .ok (.imul, 1) := by decide +kernel
theorem dL_law_124 : decode cL_law 124 = .ok (.iconst 1, 1) := by decide +kernel
theorem dL_law_125 : decode cL_law 125 = .ok (.iadd, 1) := by decide +kernel
theorem dL_law_126 : decode cL_law 126 = .ok (.invokestatic 113, 3) := by decide +kernel
theorem dL_law_129 : decode cL_law 129 = .ok (.aload_n 0, 1) := by decide +kernel
theorem dL_law_130 : decode cL_law 130 = .ok (.iconst 3, 1) := by decide +kernel
theorem dL_law_131 : decode cL_law 131 = .ok (.iload 6, 2) := by decide +kernel
theorem dL_law_133 : decode cL_law 133 = .ok (.imul, 1) := by decide +kernel
theorem dL_law_134 : decode cL_law 134 = .ok (.iconst 2, 1) := by decide +kernel
theorem dL_law_135 : decode cL_law 135 = .ok (.iadd, 1) := by decide +kernel
theorem dL_law_136 : decode cL_law 136 = .ok (.invokestatic 113, 3) := by decide +kernel
theorem dL_law_139 : decode cL_law 139 = .ok (.invokestatic 117, 3) := by decide +kernel
theorem dL_law_142 : decode cL_law 142 = .ok (.ifCond .eq 16, 3) := by decide +kernel
theorem dL_law_145 : decode cL_law 145 = .ok (.aload_n 1, 1) := by decide +kernel
theorem dL_law_146 : decode cL_law 146 = .ok (.aload_n 2, 1) := by decide +kernel
theorem dL_law_147 : decode cL_law 147 = .ok (.aload_n 3, 1) := by decide +kernel
theorem dL_law_148 : decode cL_law 148 = .ok (.invokestatic 121, 3) := by decide +kernel
theorem dL_law_151 : decode cL_law 151 = .ok (.ifCond .eq 7, 3) := by decide +kernel
theorem dL_law_154 : decode cL_law 154 = .ok (.iconst 1, 1) := by decide +kernel
theorem dL_law_155 : decode cL_law 155 = .ok (.goto 4, 3) := by decide +kernel
theorem dL_law_158 : decode cL_law 158 = .ok (.iconst 0, 1) := by decide +kernel
theorem dL_law_159 : decode cL_law 159 = .ok (.istore 4, 2) := by decide +kernel
theorem dL_law_161 : decode cL_law 161 = .ok (.iload 4, 2) := by decide +kernel
theorem dL_law_163 : decode cL_law 163 = .ok (.ifCond .eq 58, 3) := by decide +kernel
theorem dL_law_166 : decode cL_law 166 = .ok (.iload 6, 2) := by decide +kernel
theorem dL_law_168 : decode cL_law 168 = .ok (.bipush 6, 2) := by decide +kernel
theorem dL_law_170 : decode cL_law 170 = .ok (.irem, 1) := by decide +kernel
theorem dL_law_171 : decode cL_law 171 = .ok (.iconst 5, 1) := by decide +kernel
theorem dL_law_172 : decode cL_law 172 = .ok (.if_icmp .ne 49, 3) := by decide +kernel
theorem dL_law_175 : decode cL_law 175 = .ok (.aload_n 1, 1) := by decide +kernel
theorem dL_law_176 : decode cL_law 176 = .ok (.aload_n 2, 1) := by decide +kernel
theorem dL_law_177 : decode cL_law 177 = .ok (.invokestatic 125, 3) := by decide +kernel
theorem dL_law_180 : decode cL_law 180 = .ok (.ifCond .eq 28, 3) := by decide +kernel
theorem dL_law_183 : decode cL_law 183 = .ok (.aload_n 1, 1) := by decide +kernel
theorem dL_law_184 : decode cL_law 184 = .ok (.iconst 0, 1) := by decide +kernel
theorem dL_law_185 : decode cL_law 185 = .ok (.aload_n 2, 1) := by decide +kernel
theorem dL_law_186 : decode cL_law 186 = .ok (.iconst 0, 1) := by decide +kernel
theorem dL_law_187 : decode cL_law 187 = .ok (.iaload, 1) := by decide +kernel
theorem dL_law_188 : decode cL_law 188 = .ok (.invokevirtual 22, 3) := by decide +kernel
theorem dL_law_191 : decode cL_law 191 = .ok (.aload_n 2, 1) := by decide +kernel
theorem dL_law_192 : decode cL_law 192 = .ok (.iconst 0, 1) := by decide +kernel
theorem dL_law_193 : decode cL_law 193 = .ok (.iaload, 1) := by decide +kernel
theorem dL_law_194 : decode cL_law 194 = .ok (.if_icmp .ne 14, 3) := by decide +kernel
theorem dL_law_197 : decode cL_law 197 = .ok (.aload_n 1, 1) := by decide +kernel
theorem dL_law_198 : decode cL_law 198 = .ok (.invokevirtual 26, 3) := by decide +kernel
theorem dL_law_201 : decode cL_law 201 = .ok (.ifCond .ne 7, 3) := by decide +kernel
theorem dL_law_204 : decode cL_law 204 = .ok (.iconst 1, 1) := by decide +kernel
theorem dL_law_205 : decode cL_law 205 = .ok (.goto 4, 3) := by decide +kernel
theorem dL_law_208 : decode cL_law 208 = .ok (.iconst 0, 1) := by decide +kernel
theorem dL_law_209 : decode cL_law 209 = .ok (.istore 4, 2) := by decide +kernel
theorem dL_law_211 : decode cL_law 211 = .ok (.aload_n 2, 1) := by decide +kernel
theorem dL_law_212 : decode cL_law 212 = .ok (.bipush 62, 2) := by decide +kernel
theorem dL_law_214 : decode cL_law 214 = .ok (.iconst 0, 1) := by decide +kernel
theorem dL_law_215 : decode cL_law 215 = .ok (.iastore, 1) := by decide +kernel
theorem dL_law_216 : decode cL_law 216 = .ok (.aload_n 2, 1) := by decide +kernel
theorem dL_law_217 : decode cL_law 217 = .ok (.bipush 63, 2) := by decide +kernel
theorem dL_law_219 : decode cL_law 219 = .ok (.iconst 0, 1) := by decide +kernel
theorem dL_law_220 : decode cL_law 220 = .ok (.iastore, 1) := by decide +kernel
theorem dL_law_221 : decode cL_law 221 = .ok (.iinc 6 1, 3) := by decide +kernel
theorem dL_law_224 : decode cL_law 224 = .ok (.goto (-128), 3) := by decide +kernel
theorem dL_law_227 : decode cL_law 227 = .ok (.iload 4, 2) := by decide +kernel
theorem dL_law_229 : decode cL_law 229 = .ok (.ireturn, 1) := by decide +kernel
