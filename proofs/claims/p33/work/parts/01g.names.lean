set_option maxRecDepth 20000 in
theorem ggL_errors_X4_size : GoodIn wsL_errors wsX4_size := goodIn_r _ [5, 6, 7, 8, 9, 10, 11, 12, 358, 359, 360, 361, 362, 363, 364, 365, 366] (by decide +kernel) (by decide +kernel)
set_option maxRecDepth 20000 in
theorem gL_errors_X4_size : GoodIn wsL_errors (wsV RL 9 RX4 yX4_size wsX4_size) := goodIn_app (goodIn_of _ (by decide +kernel)) ggL_errors_X4_size
set_option maxRecDepth 20000 in
theorem ggL_errors_X4_node : GoodIn wsL_errors wsX4_node := goodIn_r _ [16, 6, 17, 18, 19, 10, 20, 12, 21, 22, 23, 24, 25, 26, 27, 4, 28, 29, 30, 31, 32, 33, 34, 35, 36, 37, 38, 39, 40, 41, 42, 43, 44, 45, 46, 47, 48, 49, 50, 51, 52, 53, 54, 55, 56, 57, 58, 59, 60, 61, 62, 63, 64, 65, 66, 67, 68, 69, 70, 71, 72, 73, 74, 75, 76, 77, 78, 79, 80, 81, 82, 83, 84, 358, 359, 360, 361, 362, 363, 364, 365, 366] (by decide +kernel) (by decide +kernel)
set_option maxRecDepth 20000 in
theorem gL_errors_X4_node : GoodIn wsL_errors (wsV RL 15 RX4 yX4_node wsX4_node) := goodIn_app (goodIn_of _ (by decide +kernel)) ggL_errors_X4_node
set_option maxRecDepth 20000 in
theorem ggL_errors_X4_child : GoodIn wsL_errors wsX4_child := goodIn_r _ [88, 6, 17, 18, 19, 10, 20, 12, 38, 39, 40, 41, 42, 43, 44, 45, 33, 22, 23, 24, 25, 26, 27, 4, 28, 89, 90, 91, 92, 358, 359, 360, 361, 362, 363, 364, 365, 366] (by decide +kernel) (by decide +kernel)
set_option maxRecDepth 20000 in
theorem gL_errors_X4_child : GoodIn wsL_errors (wsV RL 19 RX4 yX4_child wsX4_child) := goodIn_app (goodIn_of _ (by decide +kernel)) ggL_errors_X4_child
set_option maxRecDepth 20000 in
theorem ggL_errors_X4_neighbour : GoodIn wsL_errors wsX4_neighbour := goodIn_r _ [96, 6, 17, 18, 19, 10, 20, 12, 97, 98, 99, 100, 42, 43, 44, 45, 33, 22, 23, 24, 25, 26, 27, 4, 28, 101, 102, 103, 104, 105, 55, 56, 57, 106, 107, 108, 109, 34, 35, 36, 37, 110, 111, 112, 113, 114, 115, 116, 117, 118, 62, 63, 64, 65, 119, 120, 121, 122, 75, 47, 48, 49, 358, 359, 360, 361, 362, 363, 364, 365, 366] (by decide +kernel) (by decide +kernel)
set_option maxRecDepth 20000 in
theorem gL_errors_X4_neighbour : GoodIn wsL_errors (wsV RL 22 RX4 yX4_neighbour wsX4_neighbour) := goodIn_app (goodIn_of _ (by decide +kernel)) ggL_errors_X4_neighbour
set_option maxRecDepth 20000 in
theorem ggL_errors_X4_ancestorAt : GoodIn wsL_errors wsX4_ancestorAt := goodIn_r _ [126, 6, 17, 18, 19, 10, 20, 12, 21, 22, 23, 24, 25, 26, 27, 4, 28, 127, 35, 36, 37, 33, 358, 359, 360, 361, 362, 363, 364, 365, 366] (by decide +kernel) (by decide +kernel)
set_option maxRecDepth 20000 in
theorem gL_errors_X4_ancestorAt : GoodIn wsL_errors (wsV RL 38 RX4 yX4_ancestorAt wsX4_ancestorAt) := goodIn_app (goodIn_of _ (by decide +kernel)) ggL_errors_X4_ancestorAt
set_option maxRecDepth 20000 in
theorem ggL_errors_X4_common : GoodIn wsL_errors wsX4_common := goodIn_r _ [131, 6, 17, 18, 19, 10, 20, 12, 132, 133, 134, 135, 136, 137, 138, 139, 140, 141, 142, 33, 22, 23, 24, 25, 26, 27, 4, 28, 34, 35, 36, 37, 358, 359, 360, 361, 362, 363, 364, 365, 366] (by decide +kernel) (by decide +kernel)
set_option maxRecDepth 20000 in
theorem gL_errors_X4_common : GoodIn wsL_errors (wsV RL 35 RX4 yX4_common wsX4_common) := goodIn_app (goodIn_of _ (by decide +kernel)) ggL_errors_X4_common
set_option maxRecDepth 20000 in
theorem ggL_errors_X4_way : GoodIn wsL_errors wsX4_way := goodIn_r _ [146, 6, 17, 18, 19, 10, 20, 12, 132, 133, 134, 135, 136, 137, 138, 139, 140, 141, 142, 33, 22, 23, 24, 25, 26, 27, 4, 28, 34, 35, 36, 37, 21, 127, 358, 359, 360, 361, 362, 363, 364, 365, 366] (by decide +kernel) (by decide +kernel)
set_option maxRecDepth 20000 in
theorem gL_errors_X4_way : GoodIn wsL_errors (wsV RL 41 RX4 yX4_way wsX4_way) := goodIn_app (goodIn_of _ (by decide +kernel)) ggL_errors_X4_way
set_option maxRecDepth 20000 in
theorem ggL_errors_X4_byPostorder : GoodIn wsL_errors wsX4_byPostorder := goodIn_r _ [150, 6, 7, 8, 9, 10, 11, 12, 151, 152, 153, 154, 155, 77, 78, 79, 42, 43, 44, 45, 33, 22, 23, 24, 25, 26, 18, 19, 20, 27, 4, 28, 358, 359, 360, 361, 362, 363, 364, 365, 366] (by decide +kernel) (by decide +kernel)
set_option maxRecDepth 20000 in
theorem gL_errors_X4_byPostorder : GoodIn wsL_errors (wsV RL 32 RX4 yX4_byPostorder wsX4_byPostorder) := goodIn_app (goodIn_of _ (by decide +kernel)) ggL_errors_X4_byPostorder
set_option maxRecDepth 20000 in
theorem ggL_errors_X4_deepest : GoodIn wsL_errors wsX4_deepest := goodIn_r _ [159, 6, 17, 18, 19, 10, 20, 12, 50, 51, 52, 53, 42, 43, 44, 45, 33, 22, 23, 24, 25, 26, 27, 4, 28, 358, 359, 360, 361, 362, 363, 364, 365, 366] (by decide +kernel) (by decide +kernel)
set_option maxRecDepth 20000 in
theorem gL_errors_X4_deepest : GoodIn wsL_errors (wsV RL 28 RX4 yX4_deepest wsX4_deepest) := goodIn_app (goodIn_of _ (by decide +kernel)) ggL_errors_X4_deepest
set_option maxRecDepth 20000 in
theorem ggL_errors_X4_bracket : GoodIn wsL_errors wsX4_bracket := goodIn_r _ [163, 6, 164, 165, 166, 10, 167, 12, 168, 169, 170, 171, 172, 173, 174, 175, 74, 67, 68, 69, 33, 22, 23, 24, 25, 26, 18, 19, 20, 27, 4, 28, 176, 177, 178, 179, 34, 35, 36, 37, 66, 180, 70, 71, 72, 73, 75, 47, 48, 49, 42, 43, 44, 45, 29, 30, 31, 32, 358, 359, 360, 361, 362, 363, 364, 365, 366] (by decide +kernel) (by decide +kernel)
set_option maxRecDepth 20000 in
theorem gL_errors_X4_bracket : GoodIn wsL_errors (wsV RL 25 RX4 yX4_bracket wsX4_bracket) := goodIn_app (goodIn_of _ (by decide +kernel)) ggL_errors_X4_bracket
set_option maxRecDepth 20000 in
theorem ggL_errors_X4_setWidth : GoodIn wsL_errors wsX4_setWidth := goodIn_r _ [184, 185, 186, 187, 188, 189, 190, 191, 358, 359, 360, 361, 367] (by decide +kernel) (by decide +kernel)
set_option maxRecDepth 20000 in
theorem gL_errors_X4_setWidth : GoodIn wsL_errors (wsV RL 120 RX4 yX4_setWidth wsX4_setWidth) := goodIn_app (goodIn_of _ (by decide +kernel)) ggL_errors_X4_setWidth
set_option maxRecDepth 20000 in
theorem ggL_errors_X4_block : GoodIn wsL_errors wsX4_block := goodIn_r _ [195, 185, 6, 196, 197, 198, 189, 199, 191, 200, 141, 138, 142, 201, 165, 166, 10, 167, 12, 202, 203, 204, 205, 180, 177, 178, 179, 172, 173, 174, 175, 74, 67, 68, 69, 33, 22, 23, 24, 25, 26, 18, 19, 20, 27, 4, 28, 206, 207, 208, 209, 210, 137, 139, 211, 212, 213, 214, 215, 216, 217, 218, 219, 220, 221, 222, 223, 224, 225, 226, 227, 228, 358, 359, 360, 361, 367, 362, 363, 364, 365, 366] (by decide +kernel) (by decide +kernel)
set_option maxRecDepth 20000 in
theorem gL_errors_X4_block : GoodIn wsL_errors (wsV RL 68 RX4 yX4_block wsX4_block) := goodIn_app (goodIn_of _ (by decide +kernel)) ggL_errors_X4_block
set_option maxRecDepth 20000 in
theorem ggL_errors_X4_setLabel : GoodIn wsL_errors wsX4_setLabel := goodIn_r _ [232, 6, 233, 17, 18, 19, 10, 20, 12, 234, 235, 4, 236, 80, 81, 82, 83, 84, 27, 28, 237, 238, 239, 240, 241, 242, 243, 244, 245, 246, 247, 137, 138, 139, 248, 8, 9, 11, 249, 250, 251, 22, 23, 24, 25, 26, 252, 21, 253, 254, 255, 256, 358, 359, 360, 361, 362, 363, 364, 365, 366, 368, 369, 370, 371, 372] (by decide +kernel) (by decide +kernel)
set_option maxRecDepth 20000 in
theorem gL_errors_X4_setLabel : GoodIn wsL_errors (wsV RL 117 RX4 yX4_setLabel wsX4_setLabel) := goodIn_app (goodIn_of _ (by decide +kernel)) ggL_errors_X4_setLabel
set_option maxRecDepth 20000 in
theorem ggL_errors_X4_labelled : GoodIn wsL_errors wsX4_labelled := goodIn_r _ [260, 6, 17, 18, 19, 10, 20, 12, 234, 235, 4, 236, 261, 262, 263, 264, 42, 43, 44, 45, 33, 22, 23, 24, 25, 26, 27, 28, 265, 81, 82, 83, 84, 358, 359, 360, 361, 362, 363, 364, 365, 366] (by decide +kernel) (by decide +kernel)
set_option maxRecDepth 20000 in
theorem gL_errors_X4_labelled : GoodIn wsL_errors (wsV RL 48 RX4 yX4_labelled wsX4_labelled) := goodIn_app (goodIn_of _ (by decide +kernel)) ggL_errors_X4_labelled
set_option maxRecDepth 20000 in
theorem ggL_errors_X4_select : GoodIn wsL_errors wsX4_select := goodIn_r _ [269, 6, 17, 18, 19, 10, 20, 12, 234, 235, 4, 236, 270, 271, 272, 273, 42, 43, 44, 45, 33, 22, 23, 24, 25, 26, 27, 28, 265, 81, 82, 83, 84, 358, 359, 360, 361, 362, 363, 364, 365, 366] (by decide +kernel) (by decide +kernel)
set_option maxRecDepth 20000 in
theorem gL_errors_X4_select : GoodIn wsL_errors (wsV RL 52 RX4 yX4_select wsX4_select) := goodIn_app (goodIn_of _ (by decide +kernel)) ggL_errors_X4_select
set_option maxRecDepth 20000 in
theorem ggL_errors_X4_ancestorWith : GoodIn wsL_errors wsX4_ancestorWith := goodIn_r _ [277, 6, 17, 18, 19, 10, 20, 12, 234, 235, 4, 236, 278, 279, 280, 281, 33, 22, 23, 24, 25, 26, 27, 28, 265, 81, 82, 83, 84, 358, 359, 360, 361, 362, 363, 364, 365, 366] (by decide +kernel) (by decide +kernel)
set_option maxRecDepth 20000 in
theorem gL_errors_X4_ancestorWith : GoodIn wsL_errors (wsV RL 62 RX4 yX4_ancestorWith wsX4_ancestorWith) := goodIn_app (goodIn_of _ (by decide +kernel)) ggL_errors_X4_ancestorWith
set_option maxRecDepth 20000 in
theorem ggL_errors_X4_areEqual : GoodIn wsL_errors wsX4_areEqual := goodIn_r _ [285, 6, 17, 18, 19, 10, 20, 12, 286, 287, 288, 289, 75, 47, 48, 49, 42, 43, 44, 45, 33, 22, 23, 24, 25, 26, 27, 4, 28, 265, 81, 82, 83, 84, 358, 359, 360, 361, 362, 363, 364, 365, 366] (by decide +kernel) (by decide +kernel)
set_option maxRecDepth 20000 in
theorem gL_errors_X4_areEqual : GoodIn wsL_errors (wsV RL 56 RX4 yX4_areEqual wsX4_areEqual) := goodIn_app (goodIn_of _ (by decide +kernel)) ggL_errors_X4_areEqual
set_option maxRecDepth 20000 in
theorem ggL_errors_X4_copies : GoodIn wsL_errors wsX4_copies := goodIn_r _ [293, 6, 17, 18, 19, 10, 20, 12, 294, 295, 296, 297, 298, 287, 288, 289, 75, 47, 48, 49, 42, 43, 44, 45, 33, 22, 23, 24, 25, 26, 27, 4, 28, 265, 81, 82, 83, 84, 358, 359, 360, 361, 362, 363, 364, 365, 366] (by decide +kernel) (by decide +kernel)
set_option maxRecDepth 20000 in
theorem gL_errors_X4_copies : GoodIn wsL_errors (wsV RL 59 RX4 yX4_copies wsX4_copies) := goodIn_app (goodIn_of _ (by decide +kernel)) ggL_errors_X4_copies
set_option maxRecDepth 20000 in
theorem ggL_errors_X4_insert : GoodIn wsL_errors wsX4_insert := goodIn_r _ [302, 303, 304, 305, 4, 306, 6, 233, 17, 18, 19, 10, 20, 12, 38, 39, 40, 41, 42, 43, 44, 45, 33, 22, 23, 24, 25, 26, 27, 28, 234, 235, 236, 7, 8, 9, 11, 237, 238, 239, 240, 241, 242, 243, 244, 245, 246, 247, 137, 138, 139, 248, 249, 250, 251, 252, 81, 82, 83, 84, 307, 308, 309, 310, 311, 90, 91, 92, 312, 313, 314, 315, 265, 316, 254, 255, 256, 317, 318, 319, 320, 136, 358, 359, 360, 361, 362, 363, 364, 365, 366, 368, 369, 370, 371, 372] (by decide +kernel) (by decide +kernel)
set_option maxRecDepth 20000 in
theorem gL_errors_X4_insert : GoodIn wsL_errors (wsV RL 100 RX4 yX4_insert wsX4_insert) := goodIn_app (goodIn_of _ (by decide +kernel)) ggL_errors_X4_insert
set_option maxRecDepth 20000 in
theorem ggL_errors_X4_wrap : GoodIn wsL_errors wsX4_wrap := goodIn_r _ [306, 6, 233, 17, 18, 19, 10, 20, 12, 38, 39, 40, 41, 42, 43, 44, 45, 33, 22, 23, 24, 25, 26, 27, 4, 28, 234, 235, 236, 7, 8, 9, 11, 237, 238, 239, 240, 241, 242, 243, 244, 245, 246, 247, 137, 138, 139, 248, 249, 250, 251, 252, 81, 82, 83, 84, 307, 308, 309, 310, 311, 90, 91, 92, 312, 313, 314, 315, 265, 316, 254, 255, 256, 317, 318, 319, 320, 136, 358, 359, 360, 361, 362, 363, 364, 365, 366, 368, 369, 370, 371, 372] (by decide +kernel) (by decide +kernel)
set_option maxRecDepth 20000 in
theorem gL_errors_X4_wrap : GoodIn wsL_errors (wsV RL 104 RX4 yX4_wrap wsX4_wrap) := goodIn_app (goodIn_of _ (by decide +kernel)) ggL_errors_X4_wrap
set_option maxRecDepth 20000 in
theorem ggL_errors_X4_remove : GoodIn wsL_errors wsX4_remove := goodIn_r _ [325, 6, 233, 17, 18, 19, 10, 20, 12, 237, 238, 239, 240, 241, 242, 243, 244, 245, 246, 247, 137, 138, 139, 248, 8, 9, 11, 249, 4, 250, 251, 22, 23, 24, 25, 26, 27, 28, 252, 81, 82, 83, 84, 326, 327, 328, 329, 42, 43, 44, 45, 33, 312, 313, 314, 315, 265, 316, 254, 255, 256, 330, 331, 332, 333, 140, 141, 142, 7, 358, 359, 360, 361, 362, 363, 364, 365, 366, 368, 369, 370, 371, 372] (by decide +kernel) (by decide +kernel)
set_option maxRecDepth 20000 in
theorem gL_errors_X4_remove : GoodIn wsL_errors (wsV RL 108 RX4 yX4_remove wsX4_remove) := goodIn_app (goodIn_of _ (by decide +kernel)) ggL_errors_X4_remove
set_option maxRecDepth 20000 in
theorem ggL_errors_X4_cut : GoodIn wsL_errors wsX4_cut := goodIn_r _ [337, 6, 233, 17, 18, 19, 10, 20, 12, 237, 238, 239, 240, 241, 242, 243, 244, 245, 246, 247, 137, 138, 139, 248, 8, 9, 11, 249, 4, 250, 251, 22, 23, 24, 25, 26, 27, 28, 252, 81, 82, 83, 84, 46, 47, 48, 49, 42, 43, 44, 45, 33, 338, 331, 332, 333, 140, 141, 142, 265, 316, 254, 255, 256, 7, 358, 359, 360, 361, 362, 363, 364, 365, 366, 368, 369, 370, 371, 372] (by decide +kernel) (by decide +kernel)
set_option maxRecDepth 20000 in
theorem gL_errors_X4_cut : GoodIn wsL_errors (wsV RL 111 RX4 yX4_cut wsX4_cut) := goodIn_app (goodIn_of _ (by decide +kernel)) ggL_errors_X4_cut
set_option maxRecDepth 20000 in
theorem ggL_errors_X4_move : GoodIn wsL_errors wsX4_move := goodIn_r _ [342, 6, 233, 17, 18, 19, 10, 20, 12, 343, 43, 44, 45, 33, 22, 23, 24, 25, 26, 27, 4, 28, 38, 39, 40, 41, 42, 29, 30, 31, 32, 34, 35, 36, 37, 237, 238, 239, 240, 241, 242, 243, 244, 245, 246, 247, 137, 138, 139, 248, 8, 9, 11, 249, 250, 251, 252, 81, 82, 83, 84, 344, 345, 346, 347, 75, 47, 48, 49, 348, 349, 350, 351, 352, 353, 265, 330, 331, 332, 333, 140, 141, 142, 316, 254, 255, 256, 311, 90, 91, 92, 317, 318, 319, 320, 136, 354, 355, 356, 357, 358, 359, 360, 361, 362, 363, 364, 365, 366, 368, 369, 370, 371, 372] (by decide +kernel) (by decide +kernel)
set_option maxRecDepth 20000 in
theorem gL_errors_X4_move : GoodIn wsL_errors (wsV RL 114 RX4 yX4_move wsX4_move) := goodIn_app (goodIn_of _ (by decide +kernel)) ggL_errors_X4_move
theorem dL_errors_0 : decode cL_errors 0 = .ok (.aload_n 0, 1) := by decide +kernel
theorem dL_errors_1 : decode cL_errors 1 = .ok (.invokevirtual 9, 3) := by decide +kernel
theorem dL_errors_4 : decode cL_errors 4 = .ok (.istore_n 1, 1) := by decide +kernel
theorem dL_errors_5 : decode cL_errors 5 = .ok (.iconst (-1), 1) := by decide +kernel
theorem dL_errors_6 : decode cL_errors 6 = .ok (.istore_n 2, 1) := by decide +kernel
theorem dL_errors_7 : decode cL_errors 7 = .ok (.bipush (-2), 2) := by decide +kernel
theorem dL_errors_9 : decode cL_errors 9 = .ok (.istore_n 3, 1) := by decide +kernel
theorem dL_errors_10 : decode cL_errors 10 = .ok (.aload_n 0, 1) := by decide +kernel
theorem dL_errors_11 : decode cL_errors 11 = .ok (.iload_n 1, 1) := by decide +kernel
theorem dL_errors_12 : decode cL_errors 12 = .ok (.bipush 99, 2) := by decide +kernel
theorem dL_errors_14 : decode cL_errors 14 = .ok (.invokevirtual 15, 3) := by decide +kernel
theorem dL_errors_17 : decode cL_errors 17 = .ok (.iload_n 2, 1) := by decide +kernel
theorem dL_errors_18 : decode cL_errors 18 = .ok (.if_icmp .ne 172, 3) := by decide +kernel
theorem dL_errors_21 : decode cL_errors 21 = .ok (.aload_n 0, 1) := by decide +kernel
theorem dL_errors_22 : decode cL_errors 22 = .ok (.iconst 0, 1) := by decide +kernel
theorem dL_errors_23 : decode cL_errors 23 = .ok (.bipush 11, 2) := by decide +kernel
theorem dL_errors_25 : decode cL_errors 25 = .ok (.invokevirtual 15, 3) := by decide +kernel
theorem dL_errors_28 : decode cL_errors 28 = .ok (.iload_n 3, 1) := by decide +kernel
theorem dL_errors_29 : decode cL_errors 29 = .ok (.if_icmp .ne 161, 3) := by decide +kernel
theorem dL_errors_32 : decode cL_errors 32 = .ok (.aload_n 0, 1) := by decide +kernel
theorem dL_errors_33 : decode cL_errors 33 = .ok (.iload_n 1, 1) := by decide +kernel
theorem dL_errors_34 : decode cL_errors 34 = .ok (.iconst (-1), 1) := by decide +kernel
theorem dL_errors_35 : decode cL_errors 35 = .ok (.invokevirtual 19, 3) := by decide +kernel
theorem dL_errors_38 : decode cL_errors 38 = .ok (.iload_n 2, 1) := by decide +kernel
theorem dL_errors_39 : decode cL_errors 39 = .ok (.if_icmp .ne 151, 3) := by decide +kernel
theorem dL_errors_42 : decode cL_errors 42 = .ok (.aload_n 0, 1) := by decide +kernel
theorem dL_errors_43 : decode cL_errors 43 = .ok (.iconst (-1), 1) := by decide +kernel
theorem dL_errors_44 : decode cL_errors 44 = .ok (.bipush 9, 2) := by decide +kernel
theorem dL_errors_46 : decode cL_errors 46 = .ok (.invokevirtual 22, 3) := by decide +kernel
theorem dL_errors_49 : decode cL_errors 49 = .ok (.iload_n 2, 1) := by decide +kernel
theorem dL_errors_50 : decode cL_errors 50 = .ok (.if_icmp .ne 140, 3) := by decide +kernel
theorem dL_errors_53 : decode cL_errors 53 = .ok (.aload_n 0, 1) := by decide +kernel
theorem dL_errors_54 : decode cL_errors 54 = .ok (.iconst 0, 1) := by decide +kernel
theorem dL_errors_55 : decode cL_errors 55 = .ok (.bipush 6, 2) := by decide +kernel
theorem dL_errors_57 : decode cL_errors 57 = .ok (.invokevirtual 22, 3) := by decide +kernel
theorem dL_errors_60 : decode cL_errors 60 = .ok (.iload_n 3, 1) := by decide +kernel
theorem dL_errors_61 : decode cL_errors 61 = .ok (.if_icmp .ne 129, 3) := by decide +kernel
theorem dL_errors_64 : decode cL_errors 64 = .ok (.aload_n 0, 1) := by decide +kernel
theorem dL_errors_65 : decode cL_errors 65 = .ok (.iload_n 1, 1) := by decide +kernel
theorem dL_errors_66 : decode cL_errors 66 = .ok (.iconst 0, 1) := by decide +kernel
theorem dL_errors_67 : decode cL_errors 67 = .ok (.invokevirtual 38, 3) := by decide +kernel
theorem dL_errors_70 : decode cL_errors 70 = .ok (.iload_n 2, 1) := by decide +kernel
theorem dL_errors_71 : decode cL_errors 71 = .ok (.if_icmp .ne 119, 3) := by decide +kernel
theorem dL_errors_74 : decode cL_errors 74 = .ok (.aload_n 0, 1) := by decide +kernel
theorem dL_errors_75 : decode cL_errors 75 = .ok (.iconst 0, 1) := by decide +kernel
theorem dL_errors_76 : decode cL_errors 76 = .ok (.iconst 1, 1) := by decide +kernel
theorem dL_errors_77 : decode cL_errors 77 = .ok (.invokevirtual 38, 3) := by decide +kernel
theorem dL_errors_80 : decode cL_errors 80 = .ok (.iload_n 3, 1) := by decide +kernel
theorem dL_errors_81 : decode cL_errors 81 = .ok (.if_icmp .ne 109, 3) := by decide +kernel
theorem dL_errors_84 : decode cL_errors 84 = .ok (.aload_n 0, 1) := by decide +kernel
theorem dL_errors_85 : decode cL_errors 85 = .ok (.iconst 0, 1) := by decide +kernel
theorem dL_errors_86 : decode cL_errors 86 = .ok (.iload_n 1, 1) := by decide +kernel
theorem dL_errors_87 : decode cL_errors 87 = .ok (.invokevirtual 35, 3) := by decide +kernel
theorem dL_errors_90 : decode cL_errors 90 = .ok (.iload_n 2, 1) := by decide +kernel
theorem dL_errors_91 : decode cL_errors 91 = .ok (.if_icmp .ne 99, 3) := by decide +kernel
theorem dL_errors_94 : decode cL_errors 94 = .ok (.aload_n 0, 1) := by decide +kernel
theorem dL_errors_95 : decode cL_errors 95 = .ok (.iload_n 1, 1) := by decide +kernel
theorem dL_errors_96 : decode cL_errors 96 = .ok (.iconst 0, 1) := by decide +kernel
theorem dL_errors_97 : decode cL_errors 97 = .ok (.bipush (-5), 2) := by decide +kernel
theorem dL_errors_99 : decode cL_errors 99 = .ok (.invokevirtual 41, 3) := by decide +kernel
theorem dL_errors_102 : decode cL_errors 102 = .ok (.iload_n 2, 1) := by decide +kernel
theorem dL_errors_103 : decode cL_errors 103 = .ok (.if_icmp .ne 87, 3) := by decide +kernel
theorem dL_errors_106 : decode cL_errors 106 = .ok (.aload_n 0, 1) := by decide +kernel
theorem dL_errors_107 : decode cL_errors 107 = .ok (.iload_n 1, 1) := by decide +kernel
theorem dL_errors_108 : decode cL_errors 108 = .ok (.invokevirtual 32, 3) := by decide +kernel
theorem dL_errors_111 : decode cL_errors 111 = .ok (.iload_n 3, 1) := by decide +kernel
theorem dL_errors_112 : decode cL_errors 112 = .ok (.if_icmp .ne 78, 3) := by decide +kernel
theorem dL_errors_115 : decode cL_errors 115 = .ok (.aload_n 0, 1) := by decide +kernel
theorem dL_errors_116 : decode cL_errors 116 = .ok (.iconst (-1), 1) := by decide +kernel
theorem dL_errors_117 : decode cL_errors 117 = .ok (.invokevirtual 32, 3) := by decide +kernel
theorem dL_errors_120 : decode cL_errors 120 = .ok (.iload_n 3, 1) := by decide +kernel
theorem dL_errors_121 : decode cL_errors 121 = .ok (.if_icmp .ne 69, 3) := by decide +kernel
theorem dL_errors_124 : decode cL_errors 124 = .ok (.aload_n 0, 1) := by decide +kernel
theorem dL_errors_125 : decode cL_errors 125 = .ok (.iload_n 1, 1) := by decide +kernel
theorem dL_errors_126 : decode cL_errors 126 = .ok (.invokevirtual 28, 3) := by decide +kernel
theorem dL_errors_129 : decode cL_errors 129 = .ok (.iload_n 2, 1) := by decide +kernel
theorem dL_errors_130 : decode cL_errors 130 = .ok (.if_icmp .ne 60, 3) := by decide +kernel
theorem dL_errors_133 : decode cL_errors 133 = .ok (.aload_n 0, 1) := by decide +kernel
theorem dL_errors_134 : decode cL_errors 134 = .ok (.iconst 2, 1) := by decide +kernel
theorem dL_errors_135 : decode cL_errors 135 = .ok (.iload_n 1, 1) := by decide +kernel
theorem dL_errors_136 : decode cL_errors 136 = .ok (.imul, 1) := by decide +kernel
theorem dL_errors_137 : decode cL_errors 137 = .ok (.bipush 9, 2) := by decide +kernel
theorem dL_errors_139 : decode cL_errors 139 = .ok (.invokevirtual 25, 3) := by decide +kernel
theorem dL_errors_142 : decode cL_errors 142 = .ok (.iload_n 2, 1) := by decide +kernel
theorem dL_errors_143 : decode cL_errors 143 = .ok (.if_icmp .ne 47, 3) := by decide +kernel
theorem dL_errors_146 : decode cL_errors 146 = .ok (.aload_n 0, 1) := by decide +kernel
theorem dL_errors_147 : decode cL_errors 147 = .ok (.iconst 0, 1) := by decide +kernel
theorem dL_errors_148 : decode cL_errors 148 = .ok (.iconst 5, 1) := by decide +kernel
theorem dL_errors_149 : decode cL_errors 149 = .ok (.invokevirtual 25, 3) := by decide +kernel
theorem dL_errors_152 : decode cL_errors 152 = .ok (.iload_n 3, 1) := by decide +kernel
theorem dL_errors_153 : decode cL_errors 153 = .ok (.if_icmp .ne 37, 3) := by decide +kernel
theorem dL_errors_156 : decode cL_errors 156 = .ok (.aload_n 0, 1) := by decide +kernel
theorem dL_errors_157 : decode cL_errors 157 = .ok (.iconst 3, 1) := by decide +kernel
theorem dL_errors_158 : decode cL_errors 158 = .ok (.invokevirtual 120, 3) := by decide +kernel
theorem dL_errors_161 : decode cL_errors 161 = .ok (.iload_n 3, 1) := by decide +kernel
theorem dL_errors_162 : decode cL_errors 162 = .ok (.if_icmp .ne 28, 3) := by decide +kernel
theorem dL_errors_165 : decode cL_errors 165 = .ok (.aload_n 0, 1) := by decide +kernel
theorem dL_errors_166 : decode cL_errors 166 = .ok (.bipush 33, 2) := by decide +kernel
theorem dL_errors_168 : decode cL_errors 168 = .ok (.invokevirtual 120, 3) := by decide +kernel
theorem dL_errors_171 : decode cL_errors 171 = .ok (.iload_n 3, 1) := by decide +kernel
theorem dL_errors_172 : decode cL_errors 172 = .ok (.if_icmp .ne 18, 3) := by decide +kernel
theorem dL_errors_175 : decode cL_errors 175 = .ok (.aload_n 0, 1) := by decide +kernel
theorem dL_errors_176 : decode cL_errors 176 = .ok (.iconst (-1), 1) := by decide +kernel
theorem dL_errors_177 : decode cL_errors 177 = .ok (.bipush 9, 2) := by decide +kernel
theorem dL_errors_179 : decode cL_errors 179 = .ok (.invokevirtual 68, 3) := by decide +kernel
theorem dL_errors_182 : decode cL_errors 182 = .ok (.iload_n 2, 1) := by decide +kernel
theorem dL_errors_183 : decode cL_errors 183 = .ok (.if_icmp .ne 7, 3) := by decide +kernel
theorem dL_errors_186 : decode cL_errors 186 = .ok (.iconst 1, 1) := by decide +kernel
theorem dL_errors_187 : decode cL_errors 187 = .ok (.goto 4, 3) := by decide +kernel
theorem dL_errors_190 : decode cL_errors 190 = .ok (.iconst 0, 1) := by decide +kernel
theorem dL_errors_191 : decode cL_errors 191 = .ok (.istore 4, 2) := by decide +kernel
theorem dL_errors_193 : decode cL_errors 193 = .ok (.iload 4, 2) := by decide +kernel
theorem dL_errors_195 : decode cL_errors 195 = .ok (.ifCond .eq 172, 3) := by decide +kernel
theorem dL_errors_198 : decode cL_errors 198 = .ok (.aload_n 0, 1) := by decide +kernel
theorem dL_errors_199 : decode cL_errors 199 = .ok (.iload_n 1, 1) := by decide +kernel
theorem dL_errors_200 : decode cL_errors 200 = .ok (.bipush 33, 2) := by decide +kernel
theorem dL_errors_202 : decode cL_errors 202 = .ok (.invokevirtual 117, 3) := by decide +kernel
theorem dL_errors_205 : decode cL_errors 205 = .ok (.iload_n 2, 1) := by decide +kernel
theorem dL_errors_206 : decode cL_errors 206 = .ok (.if_icmp .ne 161, 3) := by decide +kernel
theorem dL_errors_209 : decode cL_errors 209 = .ok (.aload_n 0, 1) := by decide +kernel
theorem dL_errors_210 : decode cL_errors 210 = .ok (.iload_n 1, 1) := by decide +kernel
theorem dL_errors_211 : decode cL_errors 211 = .ok (.bipush 33, 2) := by decide +kernel
theorem dL_errors_213 : decode cL_errors 213 = .ok (.invokevirtual 48, 3) := by decide +kernel
theorem dL_errors_216 : decode cL_errors 216 = .ok (.iload_n 2, 1) := by decide +kernel
theorem dL_errors_217 : decode cL_errors 217 = .ok (.if_icmp .ne 150, 3) := by decide +kernel
theorem dL_errors_220 : decode cL_errors 220 = .ok (.aload_n 0, 1) := by decide +kernel
theorem dL_errors_221 : decode cL_errors 221 = .ok (.iconst 0, 1) := by decide +kernel
theorem dL_errors_222 : decode cL_errors 222 = .ok (.bipush 33, 2) := by decide +kernel
theorem dL_errors_224 : decode cL_errors 224 = .ok (.invokevirtual 48, 3) := by decide +kernel
theorem dL_errors_227 : decode cL_errors 227 = .ok (.iload_n 3, 1) := by decide +kernel
theorem dL_errors_228 : decode cL_errors 228 = .ok (.if_icmp .ne 139, 3) := by decide +kernel
theorem dL_errors_231 : decode cL_errors 231 = .ok (.aload_n 0, 1) := by decide +kernel
theorem dL_errors_232 : decode cL_errors 232 = .ok (.iload_n 1, 1) := by decide +kernel
theorem dL_errors_233 : decode cL_errors 233 = .ok (.bipush 33, 2) := by decide +kernel
theorem dL_errors_235 : decode cL_errors 235 = .ok (.iconst (-1), 1) := by decide +kernel
theorem dL_errors_236 : decode cL_errors 236 = .ok (.invokevirtual 52, 3) := by decide +kernel
theorem dL_errors_239 : decode cL_errors 239 = .ok (.iload_n 2, 1) := by decide +kernel
theorem dL_errors_240 : decode cL_errors 240 = .ok (.if_icmp .ne 127, 3) := by decide +kernel
theorem dL_errors_243 : decode cL_errors 243 = .ok (.aload_n 0, 1) := by decide +kernel
theorem dL_errors_244 : decode cL_errors 244 = .ok (.iload_n 1, 1) := by decide +kernel
theorem dL_errors_245 : decode cL_errors 245 = .ok (.bipush 33, 2) := by decide +kernel
theorem dL_errors_247 : decode cL_errors 247 = .ok (.invokevirtual 62, 3) := by decide +kernel
theorem dL_errors_250 : decode cL_errors 250 = .ok (.iload_n 2, 1) := by decide +kernel
theorem dL_errors_251 : decode cL_errors 251 = .ok (.if_icmp .ne 116, 3) := by decide +kernel
theorem dL_errors_254 : decode cL_errors 254 = .ok (.aload_n 0, 1) := by decide +kernel
theorem dL_errors_255 : decode cL_errors 255 = .ok (.iconst 0, 1) := by decide +kernel
theorem dL_errors_256 : decode cL_errors 256 = .ok (.bipush 33, 2) := by decide +kernel
theorem dL_errors_258 : decode cL_errors 258 = .ok (.invokevirtual 62, 3) := by decide +kernel
theorem dL_errors_261 : decode cL_errors 261 = .ok (.iload_n 3, 1) := by decide +kernel
theorem dL_errors_262 : decode cL_errors 262 = .ok (.if_icmp .ne 105, 3) := by decide +kernel
theorem dL_errors_265 : decode cL_errors 265 = .ok (.aload_n 0, 1) := by decide +kernel
theorem dL_errors_266 : decode cL_errors 266 = .ok (.iload_n 1, 1) := by decide +kernel
theorem dL_errors_267 : decode cL_errors 267 = .ok (.iconst 0, 1) := by decide +kernel
theorem dL_errors_268 : decode cL_errors 268 = .ok (.invokevirtual 56, 3) := by decide +kernel
theorem dL_errors_271 : decode cL_errors 271 = .ok (.iload_n 2, 1) := by decide +kernel
theorem dL_errors_272 : decode cL_errors 272 = .ok (.if_icmp .ne 95, 3) := by decide +kernel
theorem dL_errors_275 : decode cL_errors 275 = .ok (.aload_n 0, 1) := by decide +kernel
theorem dL_errors_276 : decode cL_errors 276 = .ok (.iconst (-1), 1) := by decide +kernel
theorem dL_errors_277 : decode cL_errors 277 = .ok (.invokevirtual 59, 3) := by decide +kernel
theorem dL_errors_280 : decode cL_errors 280 = .ok (.iload_n 2, 1) := by decide +kernel
theorem dL_errors_281 : decode cL_errors 281 = .ok (.if_icmp .ne 86, 3) := by decide +kernel
theorem dL_errors_284 : decode cL_errors 284 = .ok (.aload_n 0, 1) := by decide +kernel
theorem dL_errors_285 : decode cL_errors 285 = .ok (.iload_n 1, 1) := by decide +kernel
theorem dL_errors_286 : decode cL_errors 286 = .ok (.iconst (-1), 1) := by decide +kernel
theorem dL_errors_287 : decode cL_errors 287 = .ok (.bipush 33, 2) := by decide +kernel
theorem dL_errors_289 : decode cL_errors 289 = .ok (.invokevirtual 100, 3) := by decide +kernel
theorem dL_errors_292 : decode cL_errors 292 = .ok (.iload_n 2, 1) := by decide +kernel
theorem dL_errors_293 : decode cL_errors 293 = .ok (.if_icmp .ne 74, 3) := by decide +kernel
theorem dL_errors_296 : decode cL_errors 296 = .ok (.aload_n 0, 1) := by decide +kernel
theorem dL_errors_297 : decode cL_errors 297 = .ok (.iload_n 1, 1) := by decide +kernel
theorem dL_errors_298 : decode cL_errors 298 = .ok (.iconst (-1), 1) := by decide +kernel
theorem dL_errors_299 : decode cL_errors 299 = .ok (.iconst 0, 1) := by decide +kernel
theorem dL_errors_300 : decode cL_errors 300 = .ok (.bipush 97, 2) := by decide +kernel
theorem dL_errors_302 : decode cL_errors 302 = .ok (.invokevirtual 104, 3) := by decide +kernel
theorem dL_errors_305 : decode cL_errors 305 = .ok (.iload_n 2, 1) := by decide +kernel
theorem dL_errors_306 : decode cL_errors 306 = .ok (.if_icmp .ne 61, 3) := by decide +kernel
theorem dL_errors_309 : decode cL_errors 309 = .ok (.aload_n 0, 1) := by decide +kernel
theorem dL_errors_310 : decode cL_errors 310 = .ok (.iconst 0, 1) := by decide +kernel
theorem dL_errors_311 : decode cL_errors 311 = .ok (.iconst (-1), 1) := by decide +kernel
theorem dL_errors_312 : decode cL_errors 312 = .ok (.iconst 0, 1) := by decide +kernel
theorem dL_errors_313 : decode cL_errors 313 = .ok (.bipush 97, 2) := by decide +kernel
theorem dL_errors_315 : decode cL_errors 315 = .ok (.invokevirtual 104, 3) := by decide +kernel
theorem dL_errors_318 : decode cL_errors 318 = .ok (.iload_n 3, 1) := by decide +kernel
theorem dL_errors_319 : decode cL_errors 319 = .ok (.if_icmp .ne 48, 3) := by decide +kernel
theorem dL_errors_322 : decode cL_errors 322 = .ok (.aload_n 0, 1) := by decide +kernel
theorem dL_errors_323 : decode cL_errors 323 = .ok (.iload_n 1, 1) := by decide +kernel
theorem dL_errors_324 : decode cL_errors 324 = .ok (.invokevirtual 108, 3) := by decide +kernel
theorem dL_errors_327 : decode cL_errors 327 = .ok (.iload_n 2, 1) := by decide +kernel
theorem dL_errors_328 : decode cL_errors 328 = .ok (.if_icmp .ne 39, 3) := by decide +kernel
theorem dL_errors_331 : decode cL_errors 331 = .ok (.aload_n 0, 1) := by decide +kernel
theorem dL_errors_332 : decode cL_errors 332 = .ok (.iconst (-1), 1) := by decide +kernel
theorem dL_errors_333 : decode cL_errors 333 = .ok (.invokevirtual 111, 3) := by decide +kernel
theorem dL_errors_336 : decode cL_errors 336 = .ok (.iload_n 2, 1) := by decide +kernel
theorem dL_errors_337 : decode cL_errors 337 = .ok (.if_icmp .ne 30, 3) := by decide +kernel
theorem dL_errors_340 : decode cL_errors 340 = .ok (.aload_n 0, 1) := by decide +kernel
theorem dL_errors_341 : decode cL_errors 341 = .ok (.iconst 0, 1) := by decide +kernel
theorem dL_errors_342 : decode cL_errors 342 = .ok (.iload_n 1, 1) := by decide +kernel
theorem dL_errors_343 : decode cL_errors 343 = .ok (.iconst 0, 1) := by decide +kernel
theorem dL_errors_344 : decode cL_errors 344 = .ok (.invokevirtual 114, 3) := by decide +kernel
theorem dL_errors_347 : decode cL_errors 347 = .ok (.iload_n 2, 1) := by decide +kernel
theorem dL_errors_348 : decode cL_errors 348 = .ok (.if_icmp .ne 19, 3) := by decide +kernel
theorem dL_errors_351 : decode cL_errors 351 = .ok (.aload_n 0, 1) := by decide +kernel
theorem dL_errors_352 : decode cL_errors 352 = .ok (.iconst 0, 1) := by decide +kernel
theorem dL_errors_353 : decode cL_errors 353 = .ok (.iconst 0, 1) := by decide +kernel
theorem dL_errors_354 : decode cL_errors 354 = .ok (.iconst (-1), 1) := by decide +kernel
theorem dL_errors_355 : decode cL_errors 355 = .ok (.invokevirtual 114, 3) := by decide +kernel
theorem dL_errors_358 : decode cL_errors 358 = .ok (.bipush (-3), 2) := by decide +kernel
theorem dL_errors_360 : decode cL_errors 360 = .ok (.if_icmp .ne 7, 3) := by decide +kernel
theorem dL_errors_363 : decode cL_errors 363 = .ok (.iconst 1, 1) := by decide +kernel
theorem dL_errors_364 : decode cL_errors 364 = .ok (.goto 4, 3) := by decide +kernel
theorem dL_errors_367 : decode cL_errors 367 = .ok (.iconst 0, 1) := by decide +kernel
theorem dL_errors_368 : decode cL_errors 368 = .ok (.ireturn, 1) := by decide +kernel
set_option maxRecDepth 20000 in
theorem ggL_law_X4_init : GoodIn wsL_law wsX4_init := goodIn_r _ [5, 6, 7, 8, 9, 10, 11, 12, 13, 14, 15, 16, 17, 18, 19, 20, 21, 22, 23, 24, 25, 26, 27, 28, 29, 30, 31, 32, 33, 34, 35, 2, 36, 37, 38, 39, 40, 41, 42, 43, 44, 45, 46, 47, 48, 49, 50, 524, 525, 526, 527, 528, 520, 521, 522, 523, 529, 530, 531, 532, 533, 534, 535, 536] (by decide +kernel) (by decide +kernel)
set_option maxRecDepth 20000 in
theorem gL_law_X4_init : GoodIn wsL_law (wsX4_init) := ggL_law_X4_init
set_option maxRecDepth 20000 in
theorem ggL_law_X4_size : GoodIn wsL_law wsX4_size := goodIn_r _ [54, 12, 55, 56, 57, 11, 58, 34, 520, 521, 522, 523, 524, 525, 526, 527, 528] (by decide +kernel) (by decide +kernel)
set_option maxRecDepth 20000 in
theorem gL_law_X4_size : GoodIn wsL_law (wsV RL 9 RX4 yX4_size wsX4_size) := goodIn_app (goodIn_of _ (by decide +kernel)) ggL_law_X4_size
set_option maxRecDepth 20000 in
theorem ggL_law_X4_node : GoodIn wsL_law wsX4_node := goodIn_r _ [62, 12, 63, 64, 65, 11, 66, 34, 67, 68, 69, 70, 30, 71, 72, 2, 73, 74, 75, 76, 77, 78, 79, 80, 81, 82, 83, 84, 85, 86, 87, 88, 89, 90, 91, 92, 93, 94, 95, 96, 97, 98, 99, 100, 101, 102, 103, 104, 105, 106, 107, 108, 109, 110, 111, 112, 113, 114, 115, 116, 117, 118, 119, 120, 121, 122, 123, 124, 125, 126, 127, 128, 31, 520, 521, 522, 523, 524, 525, 526, 527, 528] (by decide +kernel) (by decide +kernel)
set_option maxRecDepth 20000 in
theorem gL_law_X4_node : GoodIn wsL_law (wsV RL 15 RX4 yX4_node wsX4_node) := goodIn_app (goodIn_of _ (by decide +kernel)) ggL_law_X4_node
set_option maxRecDepth 20000 in
theorem ggL_law_X4_undo : GoodIn wsL_law wsX4_undo := goodIn_r _ [132, 20, 12, 133, 134, 135, 19, 136, 137, 138, 139, 140, 141, 142, 143, 144, 145, 146, 44, 45, 46, 72, 2, 73, 147, 148, 149, 11, 150, 34, 151, 152, 153, 154, 155, 156, 157, 158, 30, 31, 35, 36, 520, 521, 522, 523, 530, 531, 532, 533, 534, 524, 525, 526, 527, 528] (by decide +kernel) (by decide +kernel)
set_option maxRecDepth 20000 in
theorem gL_law_X4_undo : GoodIn wsL_law (wsV RL 94 RX4 yX4_undo wsX4_undo) := goodIn_app (goodIn_of _ (by decide +kernel)) ggL_law_X4_undo
set_option maxRecDepth 20000 in
theorem ggL_law_X4_written : GoodIn wsL_law wsX4_written := goodIn_r _ [162, 12, 163, 164, 165, 11, 166, 34, 167, 168, 169, 170, 107, 108, 109, 110, 78, 68, 69, 70, 30, 71, 64, 65, 66, 72, 2, 73, 171, 172, 173, 174, 175, 126, 127, 128, 31, 520, 521, 522, 523, 524, 525, 526, 527, 528] (by decide +kernel) (by decide +kernel)
set_option maxRecDepth 20000 in
theorem gL_law_X4_written : GoodIn wsL_law (wsV RL 75 RX4 yX4_written wsX4_written) := goodIn_app (goodIn_of _ (by decide +kernel)) ggL_law_X4_written
set_option maxRecDepth 20000 in
theorem ggL_law_X4_remove : GoodIn wsL_law wsX4_remove := goodIn_r _ [179, 12, 20, 63, 64, 65, 11, 66, 34, 180, 181, 182, 19, 183, 142, 44, 45, 46, 137, 184, 185, 145, 186, 187, 56, 57, 58, 35, 2, 36, 188, 68, 69, 70, 30, 71, 72, 73, 189, 126, 127, 128, 31, 190, 191, 192, 193, 87, 88, 89, 90, 78, 194, 195, 196, 197, 175, 155, 156, 157, 158, 198, 199, 200, 201, 202, 144, 146, 55, 520, 521, 522, 523, 524, 525, 526, 527, 528, 530, 531, 532, 533, 534] (by decide +kernel) (by decide +kernel)
set_option maxRecDepth 20000 in
theorem gL_law_X4_remove : GoodIn wsL_law (wsV RL 108 RX4 yX4_remove wsX4_remove) := goodIn_app (goodIn_of _ (by decide +kernel)) ggL_law_X4_remove
set_option maxRecDepth 20000 in
theorem ggL_law_L_cell : GoodIn wsL_law wsL_cell := goodIn_r _ [206, 207] rfl (by decide +kernel)
set_option maxRecDepth 20000 in
theorem gL_law_L_cell : GoodIn wsL_law (va_wsS RL 124 yL_cell wsL_cell) := goodIn_app (goodIn_of _ (by decide +kernel)) ggL_law_L_cell
set_option maxRecDepth 20000 in
theorem ggL_law_L_low : GoodIn wsL_law wsL_low := goodIn_r _ [210, 211] rfl (by decide +kernel)
set_option maxRecDepth 20000 in
theorem gL_law_L_low : GoodIn wsL_law (va_wsS RL 97 yL_low wsL_low) := goodIn_app (goodIn_of _ (by decide +kernel)) ggL_law_L_low
set_option maxRecDepth 20000 in
theorem ggL_law_L_edits : GoodIn wsL_law wsL_edits := goodIn_r _ [214, 51, 52, 53, 2, 54, 12, 55, 56, 57, 11, 58, 34, 208, 209, 205, 210, 211, 59, 60, 61, 62, 63, 64, 65, 66, 67, 68, 69, 70, 30, 71, 72, 73, 74, 75, 76, 77, 78, 79, 80, 81, 82, 83, 84, 85, 86, 87, 88, 89, 90, 91, 92, 93, 94, 95, 96, 97, 98, 99, 100, 101, 102, 103, 104, 105, 106, 107, 108, 109, 110, 111, 112, 113, 114, 115, 116, 117, 118, 119, 120, 121, 122, 123, 124, 125, 126, 127, 128, 31, 215, 216, 217, 218, 219, 220, 221, 222, 223, 224, 225, 226, 227, 20, 228, 229, 230, 180, 181, 182, 19, 183, 142, 44, 45, 46, 137, 184, 185, 145, 186, 187, 35, 36, 188, 189, 231, 232, 233, 234, 235, 236, 237, 238, 194, 195, 196, 197, 175, 155, 156, 157, 158, 239, 240, 241, 242, 243, 244, 176, 177, 178, 179, 190, 191, 192, 193, 198, 199, 200, 201, 202, 144, 146, 245, 246, 247, 248, 249, 250, 251, 252, 253, 254, 255, 256, 257, 258, 259, 260, 261, 262, 32, 33, 263, 264, 265, 266, 267, 268, 269, 270, 271, 129, 130, 131, 132, 133, 134, 135, 136, 138, 139, 140, 141, 143, 147, 148, 149, 150, 151, 152, 153, 154, 520, 521, 522, 523, 524, 525, 526, 527, 528, 530, 531, 532, 533, 534] rfl (by decide +kernel)
set_option maxRecDepth 20000 in
theorem gL_law_L_edits : GoodIn wsL_law (va_wsS RL 128 yL_edits wsL_edits) := goodIn_app (goodIn_of _ (by decide +kernel)) ggL_law_L_edits
set_option maxRecDepth 20000 in
theorem ggL_law_L_node : GoodIn wsL_law wsL_node := goodIn_r _ [274, 51, 52, 53, 2, 54, 12, 55, 56, 57, 11, 58, 34, 59, 60, 61, 62, 63, 64, 65, 66, 67, 68, 69, 70, 30, 71, 72, 73, 74, 75, 76, 77, 78, 79, 80, 81, 82, 83, 84, 85, 86, 87, 88, 89, 90, 91, 92, 93, 94, 95, 96, 97, 98, 99, 100, 101, 102, 103, 104, 105, 106, 107, 108, 109, 110, 111, 112, 113, 114, 115, 116, 117, 118, 119, 120, 121, 122, 123, 124, 125, 126, 127, 128, 31, 275, 276, 277, 278, 279, 236, 237, 238, 280, 281, 282, 283, 284, 285, 286, 287, 288, 289, 290, 291, 292, 293, 294, 295, 296, 297, 298, 299, 300, 301, 302, 303, 304, 305, 306, 307, 308, 309, 310, 311, 312, 313, 314, 315, 316, 317, 318, 319, 320, 321, 322, 323, 324, 325, 326, 327, 328, 329, 330, 331, 332, 333, 334, 335, 336, 337, 338, 339, 340, 341, 342, 343, 520, 521, 522, 523, 524, 525, 526, 527, 528] rfl (by decide +kernel)
set_option maxRecDepth 20000 in
theorem gL_law_L_node : GoodIn wsL_law (va_wsS RL 132 yL_node wsL_node) := goodIn_app (goodIn_of _ (by decide +kernel)) ggL_law_L_node
set_option maxRecDepth 20000 in
theorem ggL_law_L_two : GoodIn wsL_law wsL_two := goodIn_r _ [346, 51, 52, 53, 2, 54, 12, 55, 56, 57, 11, 58, 34, 347, 348, 349, 350, 63, 64, 65, 66, 351, 352, 353, 354, 243, 185, 145, 186, 202, 144, 146, 78, 68, 69, 70, 30, 71, 72, 73, 79, 80, 81, 82, 59, 60, 61, 62, 67, 74, 75, 76, 77, 83, 84, 85, 86, 87, 88, 89, 90, 91, 92, 93, 94, 95, 96, 97, 98, 99, 100, 101, 102, 103, 104, 105, 106, 107, 108, 109, 110, 111, 112, 113, 114, 115, 116, 117, 118, 119, 120, 121, 122, 123, 124, 125, 126, 127, 128, 31, 355, 356, 357, 358, 359, 360, 361, 362, 363, 364, 365, 366, 367, 368, 369, 370, 371, 372, 373, 374, 375, 280, 281, 282, 283, 284, 285, 286, 287, 288, 289, 290, 291, 292, 293, 294, 295, 296, 297, 298, 299, 300, 301, 302, 303, 304, 305, 306, 307, 308, 309, 520, 521, 522, 523, 524, 525, 526, 527, 528] rfl (by decide +kernel)
set_option maxRecDepth 20000 in
theorem gL_law_L_two : GoodIn wsL_law (va_wsS RL 135 yL_two wsL_two) := goodIn_app (goodIn_of _ (by decide +kernel)) ggL_law_L_two
set_option maxRecDepth 20000 in
theorem ggL_law_L_labels : GoodIn wsL_law wsL_labels := goodIn_r _ [378, 59, 60, 61, 2, 62, 12, 63, 64, 65, 11, 66, 34, 67, 68, 69, 70, 30, 71, 72, 73, 74, 75, 76, 77, 78, 79, 80, 81, 82, 83, 84, 85, 86, 87, 88, 89, 90, 91, 92, 93, 94, 95, 96, 97, 98, 99, 100, 101, 102, 103, 104, 105, 106, 107, 108, 109, 110, 111, 112, 113, 114, 115, 116, 117, 118, 119, 120, 121, 122, 123, 124, 125, 126, 127, 128, 31, 379, 380, 381, 382, 228, 229, 230, 383, 384, 385, 386, 175, 387, 388, 389, 390, 391, 392, 393, 394, 51, 52, 53, 54, 55, 56, 57, 58, 395, 396, 397, 398, 399, 400, 401, 402, 275, 276, 277, 278, 279, 236, 237, 238, 403, 404, 405, 406, 407, 408, 409, 410, 411, 412, 413, 414, 415, 416, 417, 418, 419, 520, 521, 522, 523, 524, 525, 526, 527, 528] rfl (by decide +kernel)
set_option maxRecDepth 20000 in
theorem gL_law_L_labels : GoodIn wsL_law (va_wsS RL 139 yL_labels wsL_labels) := goodIn_app (goodIn_of _ (by decide +kernel)) ggL_law_L_labels
set_option maxRecDepth 20000 in
theorem ggL_law_X4_setWidth : GoodIn wsL_law wsX4_setWidth := goodIn_r _ [423, 16, 424, 425, 426, 15, 427, 40, 520, 521, 522, 523, 529] (by decide +kernel) (by decide +kernel)
set_option maxRecDepth 20000 in
theorem gL_law_X4_setWidth : GoodIn wsL_law (wsV RL 120 RX4 yX4_setWidth wsX4_setWidth) := goodIn_app (goodIn_of _ (by decide +kernel)) ggL_law_X4_setWidth
set_option maxRecDepth 20000 in
theorem ggL_law_L_blocks : GoodIn wsL_law wsL_blocks := goodIn_r _ [430, 51, 52, 53, 2, 54, 12, 55, 56, 57, 11, 58, 34, 431, 432, 433, 434, 16, 435, 436, 437, 438, 439, 440, 15, 441, 40, 442, 144, 145, 146, 443, 315, 316, 317, 444, 445, 446, 447, 448, 449, 450, 451, 330, 327, 328, 329, 322, 323, 324, 325, 119, 112, 113, 114, 78, 68, 69, 70, 30, 71, 64, 65, 66, 72, 73, 452, 453, 454, 455, 456, 185, 186, 457, 458, 459, 460, 461, 462, 463, 464, 465, 466, 467, 468, 469, 470, 471, 472, 473, 474, 310, 311, 312, 313, 314, 318, 319, 320, 321, 326, 79, 80, 81, 82, 111, 115, 116, 117, 118, 120, 92, 93, 94, 87, 88, 89, 90, 74, 75, 76, 77, 520, 521, 522, 523, 524, 525, 526, 527, 528, 529] rfl (by decide +kernel)
set_option maxRecDepth 20000 in
theorem gL_law_L_blocks : GoodIn wsL_law (va_wsS RL 142 yL_blocks wsL_blocks) := goodIn_app (goodIn_of _ (by decide +kernel)) ggL_law_L_blocks
set_option maxRecDepth 20000 in
theorem ggL_law_L_texts : GoodIn wsL_law wsL_texts := goodIn_r _ [477, 159, 160, 161, 2, 162, 12, 163, 164, 165, 11, 166, 34, 167, 168, 169, 170, 107, 108, 109, 110, 78, 68, 69, 70, 30, 71, 64, 65, 66, 72, 73, 171, 172, 173, 174, 175, 126, 127, 128, 31, 215, 216, 205, 217, 218, 219, 51, 52, 53, 54, 55, 56, 57, 58, 59, 60, 61, 62, 63, 67, 74, 75, 76, 77, 79, 80, 81, 82, 83, 84, 85, 86, 87, 88, 89, 90, 91, 92, 93, 94, 95, 96, 97, 98, 99, 100, 101, 102, 103, 104, 105, 106, 111, 112, 113, 114, 115, 116, 117, 118, 119, 120, 121, 122, 123, 124, 125, 478, 479, 480, 481, 24, 482, 483, 484, 23, 485, 486, 487, 488, 489, 490, 491, 492, 493, 494, 50, 35, 36, 495, 496, 497, 498, 20, 499, 500, 501, 502, 503, 504, 505, 506, 229, 230, 507, 508, 509, 510, 180, 181, 182, 19, 183, 142, 44, 45, 46, 137, 184, 185, 145, 186, 187, 188, 189, 511, 512, 513, 514, 515, 148, 149, 150, 516, 152, 153, 154, 155, 156, 157, 158, 129, 130, 131, 132, 133, 134, 135, 136, 138, 139, 140, 141, 143, 144, 146, 147, 151, 520, 521, 522, 523, 524, 525, 526, 527, 528, 535, 536, 530, 531, 532, 533, 534] rfl (by decide +kernel)
set_option maxRecDepth 20000 in
theorem gL_law_L_texts : GoodIn wsL_law (va_wsS RL 145 yL_texts wsL_texts) := goodIn_app (goodIn_of _ (by decide +kernel)) ggL_law_L_texts
set_option maxRecDepth 20000 in
theorem ggL_law_L_errors : GoodIn wsL_law wsL_errors := goodIn_r _ [519, 51, 52, 53, 2, 54, 12, 55, 56, 57, 11, 58, 34, 59, 60, 61, 62, 63, 64, 65, 66, 67, 68, 69, 70, 30, 71, 72, 73, 74, 75, 76, 77, 78, 79, 80, 81, 82, 83, 84, 85, 86, 87, 88, 89, 90, 91, 92, 93, 94, 95, 96, 97, 98, 99, 100, 101, 102, 103, 104, 105, 106, 107, 108, 109, 110, 111, 112, 113, 114, 115, 116, 117, 118, 119, 120, 121, 122, 123, 124, 125, 126, 127, 128, 31, 275, 276, 277, 278, 279, 236, 237, 238, 280, 281, 282, 283, 284, 285, 286, 287, 288, 289, 290, 291, 292, 293, 294, 295, 296, 297, 298, 299, 300, 301, 302, 303, 304, 305, 306, 307, 308, 309, 355, 356, 357, 358, 359, 347, 348, 349, 350, 351, 352, 353, 354, 243, 185, 145, 186, 202, 144, 146, 360, 361, 362, 363, 335, 336, 337, 338, 339, 340, 341, 342, 343, 331, 332, 333, 334, 310, 311, 312, 313, 314, 315, 316, 317, 318, 319, 320, 321, 322, 323, 324, 325, 326, 327, 328, 329, 330, 420, 421, 422, 423, 16, 424, 425, 426, 15, 427, 40, 444, 445, 446, 447, 438, 439, 440, 441, 442, 443, 448, 449, 450, 451, 452, 453, 454, 455, 456, 457, 458, 459, 460, 461, 462, 463, 464, 465, 466, 467, 468, 469, 470, 471, 472, 473, 474, 267, 268, 269, 270, 20, 228, 229, 230, 180, 181, 182, 19, 183, 142, 44, 45, 46, 137, 184, 187, 35, 36, 188, 189, 271, 156, 157, 158, 379, 380, 381, 382, 383, 384, 385, 386, 175, 387, 388, 389, 390, 391, 392, 393, 394, 412, 413, 414, 415, 416, 417, 418, 419, 395, 396, 397, 398, 399, 400, 401, 402, 403, 404, 405, 406, 407, 408, 409, 410, 411, 220, 221, 222, 223, 224, 225, 226, 227, 231, 232, 233, 234, 235, 194, 195, 196, 197, 155, 239, 240, 241, 242, 244, 176, 177, 178, 179, 190, 191, 192, 193, 198, 199, 200, 201, 245, 246, 247, 248, 249, 250, 251, 252, 253, 254, 255, 256, 257, 258, 259, 260, 261, 262, 32, 33, 263, 264, 265, 266, 520, 521, 522, 523, 524, 525, 526, 527, 528, 529, 530, 531, 532, 533, 534] rfl (by decide +kernel)
set_option maxRecDepth 20000 in
theorem gL_law_L_errors : GoodIn wsL_law (va_wsS RL 148 yL_errors wsL_errors) := goodIn_app (goodIn_of _ (by decide +kernel)) ggL_law_L_errors
theorem dL_law_0 : decode cL_law 0 = .ok (.new 10, 3) := by decide +kernel
theorem dL_law_3 : decode cL_law 3 = .ok (.dup, 1) := by decide +kernel
theorem dL_law_4 : decode cL_law 4 = .ok (.invokespecial 123, 3) := by decide +kernel
theorem dL_law_7 : decode cL_law 7 = .ok (.astore_n 1, 1) := by decide +kernel
theorem dL_law_8 : decode cL_law 8 = .ok (.bipush 8, 2) := by decide +kernel
theorem dL_law_10 : decode cL_law 10 = .ok (.istore_n 2, 1) := by decide +kernel
theorem dL_law_11 : decode cL_law 11 = .ok (.iconst 0, 1) := by decide +kernel
theorem dL_law_12 : decode cL_law 12 = .ok (.istore_n 3, 1) := by decide +kernel
theorem dL_law_13 : decode cL_law 13 = .ok (.aload_n 1, 1) := by decide +kernel
theorem dL_law_14 : decode cL_law 14 = .ok (.invokevirtual 9, 3) := by decide +kernel
theorem dL_law_17 : decode cL_law 17 = .ok (.iconst 1, 1) := by decide +kernel
theorem dL_law_18 : decode cL_law 18 = .ok (.if_icmp .ne 43, 3) := by decide +kernel
theorem dL_law_21 : decode cL_law 21 = .ok (.aload_n 1, 1) := by decide +kernel
theorem dL_law_22 : decode cL_law 22 = .ok (.iconst 0, 1) := by decide +kernel
theorem dL_law_23 : decode cL_law 23 = .ok (.bipush 10, 2) := by decide +kernel
theorem dL_law_25 : decode cL_law 25 = .ok (.invokevirtual 15, 3) := by decide +kernel
theorem dL_law_28 : decode cL_law 28 = .ok (.bipush 97, 2) := by decide +kernel
theorem dL_law_30 : decode cL_law 30 = .ok (.if_icmp .ne 31, 3) := by decide +kernel
theorem dL_law_33 : decode cL_law 33 = .ok (.aload_n 1, 1) := by decide +kernel
theorem dL_law_34 : decode cL_law 34 = .ok (.invokevirtual 94, 3) := by decide +kernel
theorem dL_law_37 : decode cL_law 37 = .ok (.bipush (-5), 2) := by decide +kernel
theorem dL_law_39 : decode cL_law 39 = .ok (.if_icmp .ne 22, 3) := by decide +kernel
theorem dL_law_42 : decode cL_law 42 = .ok (.aload_n 1, 1) := by decide +kernel
theorem dL_law_43 : decode cL_law 43 = .ok (.iconst (-1), 1) := by decide +kernel
theorem dL_law_44 : decode cL_law 44 = .ok (.invokevirtual 75, 3) := by decide +kernel
theorem dL_law_47 : decode cL_law 47 = .ok (.iconst 1, 1) := by decide +kernel
theorem dL_law_48 : decode cL_law 48 = .ok (.if_icmp .ne 13, 3) := by decide +kernel
theorem dL_law_51 : decode cL_law 51 = .ok (.aload_n 1, 1) := by decide +kernel
theorem dL_law_52 : decode cL_law 52 = .ok (.iconst 0, 1) := by decide +kernel
theorem dL_law_53 : decode cL_law 53 = .ok (.invokevirtual 108, 3) := by decide +kernel
theorem dL_law_56 : decode cL_law 56 = .ok (.bipush (-3), 2) := by decide +kernel
theorem dL_law_58 : decode cL_law 58 = .ok (.if_icmp .eq 5, 3) := by decide +kernel
theorem dL_law_61 : decode cL_law 61 = .ok (.iconst 0, 1) := by decide +kernel
theorem dL_law_62 : decode cL_law 62 = .ok (.ireturn, 1) := by decide +kernel
theorem dL_law_63 : decode cL_law 63 = .ok (.iconst 0, 1) := by decide +kernel
theorem dL_law_64 : decode cL_law 64 = .ok (.istore 4, 2) := by decide +kernel
theorem dL_law_66 : decode cL_law 66 = .ok (.iload 4, 2) := by decide +kernel
theorem dL_law_68 : decode cL_law 68 = .ok (.bipush 40, 2) := by decide +kernel
theorem dL_law_70 : decode cL_law 70 = .ok (.if_icmp .ge 216, 3) := by decide +kernel
theorem dL_law_73 : decode cL_law 73 = .ok (.aload_n 0, 1) := by decide +kernel
theorem dL_law_74 : decode cL_law 74 = .ok (.iconst 2, 1) := by decide +kernel
theorem dL_law_75 : decode cL_law 75 = .ok (.iload 4, 2) := by decide +kernel
theorem dL_law_77 : decode cL_law 77 = .ok (.imul, 1) := by decide +kernel
theorem dL_law_78 : decode cL_law 78 = .ok (.invokestatic 124, 3) := by decide +kernel
theorem dL_law_81 : decode cL_law 81 = .ok (.istore 5, 2) := by decide +kernel
theorem dL_law_83 : decode cL_law 83 = .ok (.aload_n 0, 1) := by decide +kernel
theorem dL_law_84 : decode cL_law 84 = .ok (.iconst 2, 1) := by decide +kernel
theorem dL_law_85 : decode cL_law 85 = .ok (.iload 4, 2) := by decide +kernel
theorem dL_law_87 : decode cL_law 87 = .ok (.imul, 1) := by decide +kernel
theorem dL_law_88 : decode cL_law 88 = .ok (.iconst 1, 1) := by decide +kernel
theorem dL_law_89 : decode cL_law 89 = .ok (.iadd, 1) := by decide +kernel
theorem dL_law_90 : decode cL_law 90 = .ok (.invokestatic 124, 3) := by decide +kernel
theorem dL_law_93 : decode cL_law 93 = .ok (.istore 6, 2) := by decide +kernel
theorem dL_law_95 : decode cL_law 95 = .ok (.aload_n 1, 1) := by decide +kernel
theorem dL_law_96 : decode cL_law 96 = .ok (.iload 4, 2) := by decide +kernel
theorem dL_law_98 : decode cL_law 98 = .ok (.bipush 14, 2) := by decide +kernel
theorem dL_law_100 : decode cL_law 100 = .ok (.if_icmp .ge 12, 3) := by decide +kernel
theorem dL_law_103 : decode cL_law 103 = .ok (.iload 5, 2) := by decide +kernel
theorem dL_law_105 : decode cL_law 105 = .ok (.iconst 3, 1) := by decide +kernel
theorem dL_law_106 : decode cL_law 106 = .ok (.invokestatic 97, 3) := by decide +kernel
theorem dL_law_109 : decode cL_law 109 = .ok (.goto 10, 3) := by decide +kernel
theorem dL_law_112 : decode cL_law 112 = .ok (.iload 5, 2) := by decide +kernel
theorem dL_law_114 : decode cL_law 114 = .ok (.bipush 7, 2) := by decide +kernel
theorem dL_law_116 : decode cL_law 116 = .ok (.invokestatic 97, 3) := by decide +kernel
theorem dL_law_119 : decode cL_law 119 = .ok (.iload 5, 2) := by decide +kernel
theorem dL_law_121 : decode cL_law 121 = .ok (.iload 6, 2) := by decide +kernel
theorem dL_law_123 : decode cL_law 123 = .ok (.iload_n 3, 1) := by decide +kernel
theorem dL_law_124 : decode cL_law 124 = .ok (.invokestatic 128, 3) := by decide +kernel
theorem dL_law_127 : decode cL_law 127 = .ok (.istore_n 3, 1) := by decide +kernel
theorem dL_law_128 : decode cL_law 128 = .ok (.iload_n 3, 1) := by decide +kernel
theorem dL_law_129 : decode cL_law 129 = .ok (.ifCond .ge 5, 3) := by decide +kernel
theorem dL_law_132 : decode cL_law 132 = .ok (.iconst 0, 1) := by decide +kernel
theorem dL_law_133 : decode cL_law 133 = .ok (.ireturn, 1) := by decide +kernel
theorem dL_law_134 : decode cL_law 134 = .ok (.aload_n 1, 1) := by decide +kernel
theorem dL_law_135 : decode cL_law 135 = .ok (.invokevirtual 9, 3) := by decide +kernel
theorem dL_law_138 : decode cL_law 138 = .ok (.istore 7, 2) := by decide +kernel
theorem dL_law_140 : decode cL_law 140 = .ok (.iload 6, 2) := by decide +kernel
theorem dL_law_142 : decode cL_law 142 = .ok (.bipush 6, 2) := by decide +kernel
theorem dL_law_144 : decode cL_law 144 = .ok (.ishr, 1) := by decide +kernel
theorem dL_law_145 : decode cL_law 145 = .ok (.iload 7, 2) := by decide +kernel
theorem dL_law_147 : decode cL_law 147 = .ok (.invokestatic 97, 3) := by decide +kernel
theorem dL_law_150 : decode cL_law 150 = .ok (.istore 8, 2) := by decide +kernel
theorem dL_law_152 : decode cL_law 152 = .ok (.iload 6, 2) := by decide +kernel
theorem dL_law_154 : decode cL_law 154 = .ok (.bipush 13, 2) := by decide +kernel
theorem dL_law_156 : decode cL_law 156 = .ok (.ishr, 1) := by decide +kernel
theorem dL_law_157 : decode cL_law 157 = .ok (.iload 7, 2) := by decide +kernel
theorem dL_law_159 : decode cL_law 159 = .ok (.invokestatic 97, 3) := by decide +kernel
theorem dL_law_162 : decode cL_law 162 = .ok (.istore 9, 2) := by decide +kernel
theorem dL_law_164 : decode cL_law 164 = .ok (.aload_n 1, 1) := by decide +kernel
theorem dL_law_165 : decode cL_law 165 = .ok (.iload 8, 2) := by decide +kernel
theorem dL_law_167 : decode cL_law 167 = .ok (.invokestatic 132, 3) := by decide +kernel
theorem dL_law_170 : decode cL_law 170 = .ok (.ifCond .eq 34, 3) := by decide +kernel
theorem dL_law_173 : decode cL_law 173 = .ok (.aload_n 1, 1) := by decide +kernel
theorem dL_law_174 : decode cL_law 174 = .ok (.iload 9, 2) := by decide +kernel
theorem dL_law_176 : decode cL_law 176 = .ok (.invokestatic 132, 3) := by decide +kernel
theorem dL_law_179 : decode cL_law 179 = .ok (.ifCond .eq 25, 3) := by decide +kernel
theorem dL_law_182 : decode cL_law 182 = .ok (.aload_n 1, 1) := by decide +kernel
theorem dL_law_183 : decode cL_law 183 = .ok (.iload 8, 2) := by decide +kernel
theorem dL_law_185 : decode cL_law 185 = .ok (.iload 9, 2) := by decide +kernel
theorem dL_law_187 : decode cL_law 187 = .ok (.invokestatic 135, 3) := by decide +kernel
theorem dL_law_190 : decode cL_law 190 = .ok (.ifCond .eq 14, 3) := by decide +kernel
theorem dL_law_193 : decode cL_law 193 = .ok (.aload_n 1, 1) := by decide +kernel
theorem dL_law_194 : decode cL_law 194 = .ok (.iload 8, 2) := by decide +kernel
theorem dL_law_196 : decode cL_law 196 = .ok (.iload 9, 2) := by decide +kernel
theorem dL_law_198 : decode cL_law 198 = .ok (.invokestatic 139, 3) := by decide +kernel
theorem dL_law_201 : decode cL_law 201 = .ok (.ifCond .ne 5, 3) := by decide +kernel
theorem dL_law_204 : decode cL_law 204 = .ok (.iconst 0, 1) := by decide +kernel
theorem dL_law_205 : decode cL_law 205 = .ok (.ireturn, 1) := by decide +kernel
theorem dL_law_206 : decode cL_law 206 = .ok (.iload 4, 2) := by decide +kernel
theorem dL_law_208 : decode cL_law 208 = .ok (.iconst 4, 1) := by decide +kernel
theorem dL_law_209 : decode cL_law 209 = .ok (.irem, 1) := by decide +kernel
theorem dL_law_210 : decode cL_law 210 = .ok (.iconst 3, 1) := by decide +kernel
theorem dL_law_211 : decode cL_law 211 = .ok (.if_icmp .ne 69, 3) := by decide +kernel
theorem dL_law_214 : decode cL_law 214 = .ok (.aload_n 1, 1) := by decide +kernel
theorem dL_law_215 : decode cL_law 215 = .ok (.iconst 4, 1) := by decide +kernel
theorem dL_law_216 : decode cL_law 216 = .ok (.iload 5, 2) := by decide +kernel
theorem dL_law_218 : decode cL_law 218 = .ok (.bipush 9, 2) := by decide +kernel
theorem dL_law_220 : decode cL_law 220 = .ok (.ishr, 1) := by decide +kernel
theorem dL_law_221 : decode cL_law 221 = .ok (.bipush 29, 2) := by decide +kernel
theorem dL_law_223 : decode cL_law 223 = .ok (.invokestatic 97, 3) := by decide +kernel
theorem dL_law_226 : decode cL_law 226 = .ok (.iadd, 1) := by decide +kernel
theorem dL_law_227 : decode cL_law 227 = .ok (.invokevirtual 120, 3) := by decide +kernel
theorem dL_law_230 : decode cL_law 230 = .ok (.iload_n 2, 1) := by decide +kernel
theorem dL_law_231 : decode cL_law 231 = .ok (.if_icmp .eq 5, 3) := by decide +kernel
theorem dL_law_234 : decode cL_law 234 = .ok (.iconst 0, 1) := by decide +kernel
theorem dL_law_235 : decode cL_law 235 = .ok (.ireturn, 1) := by decide +kernel
theorem dL_law_236 : decode cL_law 236 = .ok (.iconst 4, 1) := by decide +kernel
theorem dL_law_237 : decode cL_law 237 = .ok (.iload 5, 2) := by decide +kernel
theorem dL_law_239 : decode cL_law 239 = .ok (.bipush 9, 2) := by decide +kernel
theorem dL_law_241 : decode cL_law 241 = .ok (.ishr, 1) := by decide +kernel
theorem dL_law_242 : decode cL_law 242 = .ok (.bipush 29, 2) := by decide +kernel
theorem dL_law_244 : decode cL_law 244 = .ok (.invokestatic 97, 3) := by decide +kernel
theorem dL_law_247 : decode cL_law 247 = .ok (.iadd, 1) := by decide +kernel
theorem dL_law_248 : decode cL_law 248 = .ok (.istore_n 2, 1) := by decide +kernel
theorem dL_law_249 : decode cL_law 249 = .ok (.aload_n 1, 1) := by decide +kernel
theorem dL_law_250 : decode cL_law 250 = .ok (.iload_n 2, 1) := by decide +kernel
theorem dL_law_251 : decode cL_law 251 = .ok (.invokestatic 142, 3) := by decide +kernel
theorem dL_law_254 : decode cL_law 254 = .ok (.ifCond .eq 11, 3) := by decide +kernel
theorem dL_law_257 : decode cL_law 257 = .ok (.aload_n 1, 1) := by decide +kernel
theorem dL_law_258 : decode cL_law 258 = .ok (.iload_n 3, 1) := by decide +kernel
theorem dL_law_259 : decode cL_law 259 = .ok (.invokestatic 145, 3) := by decide +kernel
theorem dL_law_262 : decode cL_law 262 = .ok (.ifCond .ne 5, 3) := by decide +kernel
theorem dL_law_265 : decode cL_law 265 = .ok (.iconst 0, 1) := by decide +kernel
theorem dL_law_266 : decode cL_law 266 = .ok (.ireturn, 1) := by decide +kernel
theorem dL_law_267 : decode cL_law 267 = .ok (.iload_n 3, 1) := by decide +kernel
theorem dL_law_268 : decode cL_law 268 = .ok (.bipush 15, 2) := by decide +kernel
theorem dL_law_270 : decode cL_law 270 = .ok (.if_icmp .ge 7, 3) := by decide +kernel
theorem dL_law_273 : decode cL_law 273 = .ok (.iload_n 3, 1) := by decide +kernel
theorem dL_law_274 : decode cL_law 274 = .ok (.goto 5, 3) := by decide +kernel
theorem dL_law_277 : decode cL_law 277 = .ok (.bipush 14, 2) := by decide +kernel
theorem dL_law_279 : decode cL_law 279 = .ok (.istore_n 3, 1) := by decide +kernel
theorem dL_law_280 : decode cL_law 280 = .ok (.iinc 4 1, 3) := by decide +kernel
theorem dL_law_283 : decode cL_law 283 = .ok (.goto (-217), 3) := by decide +kernel
theorem dL_law_286 : decode cL_law 286 = .ok (.iload_n 3, 1) := by decide +kernel
theorem dL_law_287 : decode cL_law 287 = .ok (.ifCond .le 16, 3) := by decide +kernel
theorem dL_law_290 : decode cL_law 290 = .ok (.iinc 3 (-1), 3) := by decide +kernel
theorem dL_law_293 : decode cL_law 293 = .ok (.aload_n 1, 1) := by decide +kernel
theorem dL_law_294 : decode cL_law 294 = .ok (.invokevirtual 94, 3) := by decide +kernel
theorem dL_law_297 : decode cL_law 297 = .ok (.iload_n 3, 1) := by decide +kernel
theorem dL_law_298 : decode cL_law 298 = .ok (.if_icmp .eq (-12), 3) := by decide +kernel
theorem dL_law_301 : decode cL_law 301 = .ok (.iconst 0, 1) := by decide +kernel
theorem dL_law_302 : decode cL_law 302 = .ok (.ireturn, 1) := by decide +kernel
theorem dL_law_303 : decode cL_law 303 = .ok (.aload_n 1, 1) := by decide +kernel
theorem dL_law_304 : decode cL_law 304 = .ok (.invokevirtual 94, 3) := by decide +kernel
theorem dL_law_307 : decode cL_law 307 = .ok (.bipush (-5), 2) := by decide +kernel
theorem dL_law_309 : decode cL_law 309 = .ok (.if_icmp .ne 14, 3) := by decide +kernel
theorem dL_law_312 : decode cL_law 312 = .ok (.aload_n 1, 1) := by decide +kernel
theorem dL_law_313 : decode cL_law 313 = .ok (.invokestatic 148, 3) := by decide +kernel
theorem dL_law_316 : decode cL_law 316 = .ok (.ifCond .eq 7, 3) := by decide +kernel
theorem dL_law_319 : decode cL_law 319 = .ok (.iconst 1, 1) := by decide +kernel
theorem dL_law_320 : decode cL_law 320 = .ok (.goto 4, 3) := by decide +kernel
theorem dL_law_323 : decode cL_law 323 = .ok (.iconst 0, 1) := by decide +kernel
theorem dL_law_324 : decode cL_law 324 = .ok (.ireturn, 1) := by decide +kernel
abbrev vwCl : List vw_C := [(RX0, TX0, 1), (RX1, TX1, 5), (RX2, TX2, 2), (RX3, TX3, 5), (RX4, TX4, 4)]
